/-! THE LAW'S LOOP over the methods as functions -/
def Op2 {α : Type} (R : (Nat → Nat → Int32) → (Nat → Nat → Int64) → Prop) (f g : (Nat → Nat → Int32) → (Nat → Nat → Int64) → Option (α × (Nat → Nat → Int32) × (Nat → Nat → Int64))) : Prop :=
  ∀ I L, R I L → ∃ r I1 L1 I2 L2, f I L = some (r, I1, L1) ∧ g I1 L1 = some (r, I2, L2) ∧ R I2 L2
def FO_X_is (_ : Nat) (p0 : Int32) (I : Nat → Nat → Int32) (L : Nat → Nat → Int64) : Option (Int32 × (Nat → Nat → Int32) × (Nat → Nat → Int64)) := some (F_X_is I p0, I, L)
theorem eo_X_is {d fu : Nat} {p0 : Int32} {I : Nat → Nat → Int32} {L : Nat → Nat → Int64} {X : Nat × (Nat → Int32)} {Q : PQ} {res : Int32 × (Nat → Nat → Int32) × (Nat → Nat → Int64)} (g : Q (some (.int res.1)) (HS res.2.1 res.2.2 X)) (q : FO_X_is fu p0 I L = some res) : Ev (d + 1) m_X_is [.ref 0, .int p0] (HS I L X) Q := by
  unfold FO_X_is at q
  cases q
  exact e_X_is g
def FO_M_is (_ : Nat) (p0 : Int32) (I : Nat → Nat → Int32) (L : Nat → Nat → Int64) : Option (Int32 × (Nat → Nat → Int32) × (Nat → Nat → Int64)) := some (F_M_is I p0, I, L)
theorem eo_M_is {d fu : Nat} {p0 : Int32} {I : Nat → Nat → Int32} {L : Nat → Nat → Int64} {X : Nat × (Nat → Int32)} {Q : PQ} {res : Int32 × (Nat → Nat → Int32) × (Nat → Nat → Int64)} (g : Q (some (.int res.1)) (HS res.2.1 res.2.2 X)) (q : FO_M_is fu p0 I L = some res) : Ev (d + 2) m_M_is [.ref 331, .int p0] (HS I L X) Q := by
  unfold FO_M_is at q
  cases q
  exact e_M_is g
def FO_X_about (_ : Nat) (p0 : Int32) (I : Nat → Nat → Int32) (L : Nat → Nat → Int64) : Option (Int32 × (Nat → Nat → Int32) × (Nat → Nat → Int64)) := some (F_X_about I p0, I, L)
theorem eo_X_about {d fu : Nat} {p0 : Int32} {I : Nat → Nat → Int32} {L : Nat → Nat → Int64} {X : Nat × (Nat → Int32)} {Q : PQ} {res : Int32 × (Nat → Nat → Int32) × (Nat → Nat → Int64)} (g : Q (some (.int res.1)) (HS res.2.1 res.2.2 X)) (q : FO_X_about fu p0 I L = some res) : Ev (d + 1) m_X_about [.ref 0, .int p0] (HS I L X) Q := by
  unfold FO_X_about at q
  cases q
  exact e_X_about g
theorem lg_self (x : Int64) : lg_cmp x x = 0 := by
  unfold lg_cmp
  simp
theorem nI_c6 {i n : Nat} (hi : i ≤ 3072) (hn : n ≤ 3072) (c : ¬ (Int32.ofNat n - 6 < nI i)) : i + 6 ≤ n := by
  apply Decidable.byContradiction
  intro h
  apply c
  rw [Int32.lt_iff_toInt_lt, Int32.toInt_sub, nI_toInt (by omega), show (Int32.ofNat n).toInt = (n : Int) from nI_toInt (by omega), show (6 : Int32).toInt = 6 from rfl, Int.bmod_eq_of_le (by omega) (by omega)]
  omega
abbrev scr (X : Nat × (Nat → Int32)) (x3 j : Int32) : Int32 := X.2 (x3 + j).toNatClampNeg
set_option maxHeartbeats 20000000 in
set_option maxRecDepth 20000 in
theorem lw_0 {fu : Nat} {I I1 I2 : Nat → Nat → Int32} {L L1 L2 : Nat → Nat → Int64} {X : Nat × (Nat → Int32)} {x3 : Int32} {r : Int32} {al : Nat × Nat} {n0 s0 : Nat} {Q : PQ} (v1 : vp_in (x3 + 1) X.1) (v2 : vp_in (x3 + 2) X.1) (v3 : vp_in (x3 + 3) X.1) (v4 : vp_in (x3 + 4) X.1) (v5 : vp_in (x3 + 5) X.1) (eX : FO_X_lodger fu (scr X x3 1) (scr X x3 2) I L = some (r, I1, L1)) (eM : FO_M_lodger fu (scr X x3 1) (scr X x3 2) I1 L1 = some (r, I2, L2)) (k : Wp (Ev 200) cd_L_law al (some .boolean) n0 s0 Q 1955 [(0, .float 0), (1, .ref 0), (2, .ref 331), (3, .int x3)] [] (HS I2 L2 X)) : Wp (Ev 200) cd_L_law al (some .boolean) n0 s0 Q 284 [(0, .float 0), (1, .ref 0), (2, .ref 331), (3, .int x3)] [] (HS I L X) := by
  refine w_aload_n (Ev.cm _) rfl rfl ?_
  refine w_aload_nS (Ev.cm _) rfl rfl ?_
  refine w_iload_n (Ev.cm _) rfl rfl ?_
  refine w_iconst (Ev.cm _) rfl ?_
  refine w_iadd (Ev.cm _) rfl ?_
  refine w_sald (Ev.cm _) rfl v1 ?_
  refine w_aload_nS (Ev.cm _) rfl rfl ?_
  refine w_iload_n (Ev.cm _) rfl rfl ?_
  refine w_iconst (Ev.cm _) rfl ?_
  refine w_iadd (Ev.cm _) rfl ?_
  refine w_sald (Ev.cm _) rfl v2 ?_
  refine w_cvirt (o := 0) (as := [.int (scr X x3 1), .int (scr X x3 2)]) (st := []) (Ev.cm _) rfl rfl rfl (Nat.le_of_ble_eq_true rfl) (Nat.le_of_ble_eq_true rfl) rfl (Nat.le_of_ble_eq_true rfl) (eo_X_lodger (g := ?_) eX)
  show Wp _ _ _ _ _ _ _ 298 [(0, .float 0), (1, .ref 0), (2, .ref 331), (3, .int x3)] [.int r] (HS I1 L1 X)
  refine w_aload_n (Ev.cm _) rfl rfl ?_
  refine w_aload_nS (Ev.cm _) rfl rfl ?_
  refine w_iload_n (Ev.cm _) rfl rfl ?_
  refine w_iconst (Ev.cm _) rfl ?_
  refine w_iadd (Ev.cm _) rfl ?_
  refine w_sald (Ev.cm _) rfl v1 ?_
  refine w_aload_nS (Ev.cm _) rfl rfl ?_
  refine w_iload_n (Ev.cm _) rfl rfl ?_
  refine w_iconst (Ev.cm _) rfl ?_
  refine w_iadd (Ev.cm _) rfl ?_
  refine w_sald (Ev.cm _) rfl v2 ?_
  refine w_cvirt (o := 331) (as := [.int (scr X x3 1), .int (scr X x3 2)]) (st := [.int r]) (Ev.cm _) rfl rfl rfl (Nat.le_of_ble_eq_true rfl) (Nat.le_of_ble_eq_true rfl) rfl (Nat.le_of_ble_eq_true rfl) (eo_M_lodger (g := ?_) eM)
  show Wp _ _ _ _ _ _ _ 312 [(0, .float 0), (1, .ref 0), (2, .ref 331), (3, .int x3)] [.int r, .int r] (HS I2 L2 X)
  exact w_icmp_eq (Ev.cm _) rfl (fun _ => k) (fun c => absurd rfl c)
set_option maxHeartbeats 20000000 in
set_option maxRecDepth 20000 in
theorem lw_1 {fu : Nat} {I I1 I2 : Nat → Nat → Int32} {L L1 L2 : Nat → Nat → Int64} {X : Nat × (Nat → Int32)} {x3 : Int32} {r : Int32} {al : Nat × Nat} {n0 s0 : Nat} {Q : PQ} (v1 : vp_in (x3 + 1) X.1) (v2 : vp_in (x3 + 2) X.1) (v3 : vp_in (x3 + 3) X.1) (v4 : vp_in (x3 + 4) X.1) (v5 : vp_in (x3 + 5) X.1) (eX : FO_X_feed fu (scr X x3 1) (scr X x3 2) (scr X x3 3) (scr X x3 4) (scr X x3 5) I L = some (r, I1, L1)) (eM : FO_M_feed fu (scr X x3 1) (scr X x3 2) (scr X x3 3) (scr X x3 4) (scr X x3 5) I1 L1 = some (r, I2, L2)) (k : Wp (Ev 200) cd_L_law al (some .boolean) n0 s0 Q 1955 [(0, .float 0), (1, .ref 0), (2, .ref 331), (3, .int x3)] [] (HS I2 L2 X)) : Wp (Ev 200) cd_L_law al (some .boolean) n0 s0 Q 317 [(0, .float 0), (1, .ref 0), (2, .ref 331), (3, .int x3)] [] (HS I L X) := by
  refine w_aload_n (Ev.cm _) rfl rfl ?_
  refine w_aload_nS (Ev.cm _) rfl rfl ?_
  refine w_iload_n (Ev.cm _) rfl rfl ?_
  refine w_iconst (Ev.cm _) rfl ?_
  refine w_iadd (Ev.cm _) rfl ?_
  refine w_sald (Ev.cm _) rfl v1 ?_
  refine w_aload_nS (Ev.cm _) rfl rfl ?_
  refine w_iload_n (Ev.cm _) rfl rfl ?_
  refine w_iconst (Ev.cm _) rfl ?_
  refine w_iadd (Ev.cm _) rfl ?_
  refine w_sald (Ev.cm _) rfl v2 ?_
  refine w_aload_nS (Ev.cm _) rfl rfl ?_
  refine w_iload_n (Ev.cm _) rfl rfl ?_
  refine w_iconst (Ev.cm _) rfl ?_
  refine w_iadd (Ev.cm _) rfl ?_
  refine w_sald (Ev.cm _) rfl v3 ?_
  refine w_aload_nS (Ev.cm _) rfl rfl ?_
  refine w_iload_n (Ev.cm _) rfl rfl ?_
  refine w_iconst (Ev.cm _) rfl ?_
  refine w_iadd (Ev.cm _) rfl ?_
  refine w_sald (Ev.cm _) rfl v4 ?_
  refine w_aload_nS (Ev.cm _) rfl rfl ?_
  refine w_iload_n (Ev.cm _) rfl rfl ?_
  refine w_iconst (Ev.cm _) rfl ?_
  refine w_iadd (Ev.cm _) rfl ?_
  refine w_sald (Ev.cm _) rfl v5 ?_
  refine w_cvirt (o := 0) (as := [.int (scr X x3 1), .int (scr X x3 2), .int (scr X x3 3), .int (scr X x3 4), .int (scr X x3 5)]) (st := []) (Ev.cm _) rfl rfl rfl (Nat.le_of_ble_eq_true rfl) (Nat.le_of_ble_eq_true rfl) rfl (Nat.le_of_ble_eq_true rfl) (eo_X_feed (g := ?_) eX)
  show Wp _ _ _ _ _ _ _ 346 [(0, .float 0), (1, .ref 0), (2, .ref 331), (3, .int x3)] [.int r] (HS I1 L1 X)
  refine w_aload_n (Ev.cm _) rfl rfl ?_
  refine w_aload_nS (Ev.cm _) rfl rfl ?_
  refine w_iload_n (Ev.cm _) rfl rfl ?_
  refine w_iconst (Ev.cm _) rfl ?_
  refine w_iadd (Ev.cm _) rfl ?_
  refine w_sald (Ev.cm _) rfl v1 ?_
  refine w_aload_nS (Ev.cm _) rfl rfl ?_
  refine w_iload_n (Ev.cm _) rfl rfl ?_
  refine w_iconst (Ev.cm _) rfl ?_
  refine w_iadd (Ev.cm _) rfl ?_
  refine w_sald (Ev.cm _) rfl v2 ?_
  refine w_aload_nS (Ev.cm _) rfl rfl ?_
  refine w_iload_n (Ev.cm _) rfl rfl ?_
  refine w_iconst (Ev.cm _) rfl ?_
  refine w_iadd (Ev.cm _) rfl ?_
  refine w_sald (Ev.cm _) rfl v3 ?_
  refine w_aload_nS (Ev.cm _) rfl rfl ?_
  refine w_iload_n (Ev.cm _) rfl rfl ?_
  refine w_iconst (Ev.cm _) rfl ?_
  refine w_iadd (Ev.cm _) rfl ?_
  refine w_sald (Ev.cm _) rfl v4 ?_
  refine w_aload_nS (Ev.cm _) rfl rfl ?_
  refine w_iload_n (Ev.cm _) rfl rfl ?_
  refine w_iconst (Ev.cm _) rfl ?_
  refine w_iadd (Ev.cm _) rfl ?_
  refine w_sald (Ev.cm _) rfl v5 ?_
  refine w_cvirt (o := 331) (as := [.int (scr X x3 1), .int (scr X x3 2), .int (scr X x3 3), .int (scr X x3 4), .int (scr X x3 5)]) (st := [.int r]) (Ev.cm _) rfl rfl rfl (Nat.le_of_ble_eq_true rfl) (Nat.le_of_ble_eq_true rfl) rfl (Nat.le_of_ble_eq_true rfl) (eo_M_feed (g := ?_) eM)
  show Wp _ _ _ _ _ _ _ 375 [(0, .float 0), (1, .ref 0), (2, .ref 331), (3, .int x3)] [.int r, .int r] (HS I2 L2 X)
  exact w_icmp_eq (Ev.cm _) rfl (fun _ => k) (fun c => absurd rfl c)
set_option maxHeartbeats 20000000 in
set_option maxRecDepth 20000 in
theorem lw_2 {fu : Nat} {I I1 I2 : Nat → Nat → Int32} {L L1 L2 : Nat → Nat → Int64} {X : Nat × (Nat → Int32)} {x3 : Int32} {r : Int32} {al : Nat × Nat} {n0 s0 : Nat} {Q : PQ} (v1 : vp_in (x3 + 1) X.1) (v2 : vp_in (x3 + 2) X.1) (v3 : vp_in (x3 + 3) X.1) (v4 : vp_in (x3 + 4) X.1) (v5 : vp_in (x3 + 5) X.1) (eX : FO_X_end fu (scr X x3 1) I L = some (r, I1, L1)) (eM : FO_M_end fu (scr X x3 1) I1 L1 = some (r, I2, L2)) (k : Wp (Ev 200) cd_L_law al (some .boolean) n0 s0 Q 1955 [(0, .float 0), (1, .ref 0), (2, .ref 331), (3, .int x3)] [] (HS I2 L2 X)) : Wp (Ev 200) cd_L_law al (some .boolean) n0 s0 Q 380 [(0, .float 0), (1, .ref 0), (2, .ref 331), (3, .int x3)] [] (HS I L X) := by
  refine w_aload_n (Ev.cm _) rfl rfl ?_
  refine w_aload_nS (Ev.cm _) rfl rfl ?_
  refine w_iload_n (Ev.cm _) rfl rfl ?_
  refine w_iconst (Ev.cm _) rfl ?_
  refine w_iadd (Ev.cm _) rfl ?_
  refine w_sald (Ev.cm _) rfl v1 ?_
  refine w_cvirt (o := 0) (as := [.int (scr X x3 1)]) (st := []) (Ev.cm _) rfl rfl rfl (Nat.le_of_ble_eq_true rfl) (Nat.le_of_ble_eq_true rfl) rfl (Nat.le_of_ble_eq_true rfl) (eo_X_end (g := ?_) eX)
  show Wp _ _ _ _ _ _ _ 389 [(0, .float 0), (1, .ref 0), (2, .ref 331), (3, .int x3)] [.int r] (HS I1 L1 X)
  refine w_aload_n (Ev.cm _) rfl rfl ?_
  refine w_aload_nS (Ev.cm _) rfl rfl ?_
  refine w_iload_n (Ev.cm _) rfl rfl ?_
  refine w_iconst (Ev.cm _) rfl ?_
  refine w_iadd (Ev.cm _) rfl ?_
  refine w_sald (Ev.cm _) rfl v1 ?_
  refine w_cvirt (o := 331) (as := [.int (scr X x3 1)]) (st := [.int r]) (Ev.cm _) rfl rfl rfl (Nat.le_of_ble_eq_true rfl) (Nat.le_of_ble_eq_true rfl) rfl (Nat.le_of_ble_eq_true rfl) (eo_M_end (g := ?_) eM)
  show Wp _ _ _ _ _ _ _ 398 [(0, .float 0), (1, .ref 0), (2, .ref 331), (3, .int x3)] [.int r, .int r] (HS I2 L2 X)
  exact w_icmp_eq (Ev.cm _) rfl (fun _ => k) (fun c => absurd rfl c)
set_option maxHeartbeats 20000000 in
set_option maxRecDepth 20000 in
theorem lw_3 {fu : Nat} {I I1 I2 : Nat → Nat → Int32} {L L1 L2 : Nat → Nat → Int64} {X : Nat × (Nat → Int32)} {x3 : Int32} {r : Int32} {al : Nat × Nat} {n0 s0 : Nat} {Q : PQ} (v1 : vp_in (x3 + 1) X.1) (v2 : vp_in (x3 + 2) X.1) (v3 : vp_in (x3 + 3) X.1) (v4 : vp_in (x3 + 4) X.1) (v5 : vp_in (x3 + 5) X.1) (eX : FO_X_text fu  I L = some (r, I1, L1)) (eM : FO_M_text fu  I1 L1 = some (r, I2, L2)) (k : Wp (Ev 200) cd_L_law al (some .boolean) n0 s0 Q 1955 [(0, .float 0), (1, .ref 0), (2, .ref 331), (3, .int x3)] [] (HS I2 L2 X)) : Wp (Ev 200) cd_L_law al (some .boolean) n0 s0 Q 403 [(0, .float 0), (1, .ref 0), (2, .ref 331), (3, .int x3)] [] (HS I L X) := by
  refine w_aload_n (Ev.cm _) rfl rfl ?_
  refine w_cvirt (o := 0) (as := []) (st := []) (Ev.cm _) rfl rfl rfl (Nat.le_of_ble_eq_true rfl) (Nat.le_of_ble_eq_true rfl) rfl (Nat.le_of_ble_eq_true rfl) (eo_X_text (g := ?_) eX)
  show Wp _ _ _ _ _ _ _ 407 [(0, .float 0), (1, .ref 0), (2, .ref 331), (3, .int x3)] [.int r] (HS I1 L1 X)
  refine w_aload_n (Ev.cm _) rfl rfl ?_
  refine w_cvirt (o := 331) (as := []) (st := [.int r]) (Ev.cm _) rfl rfl rfl (Nat.le_of_ble_eq_true rfl) (Nat.le_of_ble_eq_true rfl) rfl (Nat.le_of_ble_eq_true rfl) (eo_M_text (g := ?_) eM)
  show Wp _ _ _ _ _ _ _ 411 [(0, .float 0), (1, .ref 0), (2, .ref 331), (3, .int x3)] [.int r, .int r] (HS I2 L2 X)
  exact w_icmp_eq (Ev.cm _) rfl (fun _ => k) (fun c => absurd rfl c)
set_option maxHeartbeats 20000000 in
set_option maxRecDepth 20000 in
theorem lw_4 {fu : Nat} {I I1 I2 : Nat → Nat → Int32} {L L1 L2 : Nat → Nat → Int64} {X : Nat × (Nat → Int32)} {x3 : Int32} {r : Int32} {al : Nat × Nat} {n0 s0 : Nat} {Q : PQ} (v1 : vp_in (x3 + 1) X.1) (v2 : vp_in (x3 + 2) X.1) (v3 : vp_in (x3 + 3) X.1) (v4 : vp_in (x3 + 4) X.1) (v5 : vp_in (x3 + 5) X.1) (eX : FO_X_fault fu (scr X x3 1) I L = some (r, I1, L1)) (eM : FO_M_fault fu (scr X x3 1) I1 L1 = some (r, I2, L2)) (k : Wp (Ev 200) cd_L_law al (some .boolean) n0 s0 Q 1955 [(0, .float 0), (1, .ref 0), (2, .ref 331), (3, .int x3)] [] (HS I2 L2 X)) : Wp (Ev 200) cd_L_law al (some .boolean) n0 s0 Q 416 [(0, .float 0), (1, .ref 0), (2, .ref 331), (3, .int x3)] [] (HS I L X) := by
  refine w_aload_n (Ev.cm _) rfl rfl ?_
  refine w_aload_nS (Ev.cm _) rfl rfl ?_
  refine w_iload_n (Ev.cm _) rfl rfl ?_
  refine w_iconst (Ev.cm _) rfl ?_
  refine w_iadd (Ev.cm _) rfl ?_
  refine w_sald (Ev.cm _) rfl v1 ?_
  refine w_cvirt (o := 0) (as := [.int (scr X x3 1)]) (st := []) (Ev.cm _) rfl rfl rfl (Nat.le_of_ble_eq_true rfl) (Nat.le_of_ble_eq_true rfl) rfl (Nat.le_of_ble_eq_true rfl) (eo_X_fault (g := ?_) eX)
  show Wp _ _ _ _ _ _ _ 425 [(0, .float 0), (1, .ref 0), (2, .ref 331), (3, .int x3)] [.int r] (HS I1 L1 X)
  refine w_aload_n (Ev.cm _) rfl rfl ?_
  refine w_aload_nS (Ev.cm _) rfl rfl ?_
  refine w_iload_n (Ev.cm _) rfl rfl ?_
  refine w_iconst (Ev.cm _) rfl ?_
  refine w_iadd (Ev.cm _) rfl ?_
  refine w_sald (Ev.cm _) rfl v1 ?_
  refine w_cvirt (o := 331) (as := [.int (scr X x3 1)]) (st := [.int r]) (Ev.cm _) rfl rfl rfl (Nat.le_of_ble_eq_true rfl) (Nat.le_of_ble_eq_true rfl) rfl (Nat.le_of_ble_eq_true rfl) (eo_M_fault (g := ?_) eM)
  show Wp _ _ _ _ _ _ _ 434 [(0, .float 0), (1, .ref 0), (2, .ref 331), (3, .int x3)] [.int r, .int r] (HS I2 L2 X)
  exact w_icmp_eq (Ev.cm _) rfl (fun _ => k) (fun c => absurd rfl c)
set_option maxHeartbeats 20000000 in
set_option maxRecDepth 20000 in
theorem lw_5 {fu : Nat} {I I1 I2 : Nat → Nat → Int32} {L L1 L2 : Nat → Nat → Int64} {X : Nat × (Nat → Int32)} {x3 : Int32} {r : Int32} {al : Nat × Nat} {n0 s0 : Nat} {Q : PQ} (v1 : vp_in (x3 + 1) X.1) (v2 : vp_in (x3 + 2) X.1) (v3 : vp_in (x3 + 3) X.1) (v4 : vp_in (x3 + 4) X.1) (v5 : vp_in (x3 + 5) X.1) (eX : FO_X_by fu (scr X x3 1) I L = some (r, I1, L1)) (eM : FO_M_by fu (scr X x3 1) I1 L1 = some (r, I2, L2)) (k : Wp (Ev 200) cd_L_law al (some .boolean) n0 s0 Q 1955 [(0, .float 0), (1, .ref 0), (2, .ref 331), (3, .int x3)] [] (HS I2 L2 X)) : Wp (Ev 200) cd_L_law al (some .boolean) n0 s0 Q 439 [(0, .float 0), (1, .ref 0), (2, .ref 331), (3, .int x3)] [] (HS I L X) := by
  refine w_aload_n (Ev.cm _) rfl rfl ?_
  refine w_aload_nS (Ev.cm _) rfl rfl ?_
  refine w_iload_n (Ev.cm _) rfl rfl ?_
  refine w_iconst (Ev.cm _) rfl ?_
  refine w_iadd (Ev.cm _) rfl ?_
  refine w_sald (Ev.cm _) rfl v1 ?_
  refine w_cvirt (o := 0) (as := [.int (scr X x3 1)]) (st := []) (Ev.cm _) rfl rfl rfl (Nat.le_of_ble_eq_true rfl) (Nat.le_of_ble_eq_true rfl) rfl (Nat.le_of_ble_eq_true rfl) (eo_X_by (g := ?_) eX)
  show Wp _ _ _ _ _ _ _ 448 [(0, .float 0), (1, .ref 0), (2, .ref 331), (3, .int x3)] [.int r] (HS I1 L1 X)
  refine w_aload_n (Ev.cm _) rfl rfl ?_
  refine w_aload_nS (Ev.cm _) rfl rfl ?_
  refine w_iload_n (Ev.cm _) rfl rfl ?_
  refine w_iconst (Ev.cm _) rfl ?_
  refine w_iadd (Ev.cm _) rfl ?_
  refine w_sald (Ev.cm _) rfl v1 ?_
  refine w_cvirt (o := 331) (as := [.int (scr X x3 1)]) (st := [.int r]) (Ev.cm _) rfl rfl rfl (Nat.le_of_ble_eq_true rfl) (Nat.le_of_ble_eq_true rfl) rfl (Nat.le_of_ble_eq_true rfl) (eo_M_by (g := ?_) eM)
  show Wp _ _ _ _ _ _ _ 457 [(0, .float 0), (1, .ref 0), (2, .ref 331), (3, .int x3)] [.int r, .int r] (HS I2 L2 X)
  exact w_icmp_eq (Ev.cm _) rfl (fun _ => k) (fun c => absurd rfl c)
set_option maxHeartbeats 20000000 in
set_option maxRecDepth 20000 in
theorem lw_6 {fu : Nat} {I I1 I2 : Nat → Nat → Int32} {L L1 L2 : Nat → Nat → Int64} {X : Nat × (Nat → Int32)} {x3 bv : Int32} {r : Int32} {al : Nat × Nat} {n0 s0 : Nat} {Q : PQ} (v1 : vp_in (x3 + 1) X.1) (v2 : vp_in (x3 + 2) X.1) (v3 : vp_in (x3 + 3) X.1) (v4 : vp_in (x3 + 4) X.1) (v5 : vp_in (x3 + 5) X.1) (hb : ((scr X x3 2) = 0 ∧ bv = 0) ∨ (¬ (scr X x3 2) = 0 ∧ bv = 1)) (eX : FO_X_tread fu (scr X x3 1) bv (scr X x3 3) I L = some (r, I1, L1)) (eM : FO_M_tread fu (scr X x3 1) bv (scr X x3 3) I1 L1 = some (r, I2, L2)) (k : Wp (Ev 200) cd_L_law al (some .boolean) n0 s0 Q 1955 [(0, .float 0), (1, .ref 0), (2, .ref 331), (3, .int x3)] [] (HS I2 L2 X)) : Wp (Ev 200) cd_L_law al (some .boolean) n0 s0 Q 462 [(0, .float 0), (1, .ref 0), (2, .ref 331), (3, .int x3)] [] (HS I L X) := by
  rcases hb with ⟨hb, hv⟩ | ⟨hb, hv⟩ <;> subst hv
  · refine w_aload_n (Ev.cm _) rfl rfl ?_
    refine w_aload_nS (Ev.cm _) rfl rfl ?_
    refine w_iload_n (Ev.cm _) rfl rfl ?_
    refine w_iconst (Ev.cm _) rfl ?_
    refine w_iadd (Ev.cm _) rfl ?_
    refine w_sald (Ev.cm _) rfl v1 ?_
    refine w_aload_nS (Ev.cm _) rfl rfl ?_
    refine w_iload_n (Ev.cm _) rfl rfl ?_
    refine w_iconst (Ev.cm _) rfl ?_
    refine w_iadd (Ev.cm _) rfl ?_
    refine w_sald (Ev.cm _) rfl v2 ?_
    refine w_if_eq (Ev.cm _) rfl (fun _ => ?_) (fun c => absurd hb c)
    refine w_iconst (Ev.cm _) rfl ?_
    refine w_aload_nS (Ev.cm _) rfl rfl ?_
    refine w_iload_n (Ev.cm _) rfl rfl ?_
    refine w_iconst (Ev.cm _) rfl ?_
    refine w_iadd (Ev.cm _) rfl ?_
    refine w_sald (Ev.cm _) rfl v3 ?_
    refine w_cvirt (o := 0) (as := [.int (scr X x3 1), .int 0, .int (scr X x3 3)]) (st := []) (Ev.cm _) rfl rfl rfl (Nat.le_of_ble_eq_true rfl) (Nat.le_of_ble_eq_true rfl) rfl (Nat.le_of_ble_eq_true rfl) (eo_X_tread (g := ?_) eX)
    show Wp _ _ _ _ _ _ _ 489 [(0, .float 0), (1, .ref 0), (2, .ref 331), (3, .int x3)] [.int r] (HS I1 L1 X)
    refine w_aload_n (Ev.cm _) rfl rfl ?_
    refine w_aload_nS (Ev.cm _) rfl rfl ?_
    refine w_iload_n (Ev.cm _) rfl rfl ?_
    refine w_iconst (Ev.cm _) rfl ?_
    refine w_iadd (Ev.cm _) rfl ?_
    refine w_sald (Ev.cm _) rfl v1 ?_
    refine w_aload_nS (Ev.cm _) rfl rfl ?_
    refine w_iload_n (Ev.cm _) rfl rfl ?_
    refine w_iconst (Ev.cm _) rfl ?_
    refine w_iadd (Ev.cm _) rfl ?_
    refine w_sald (Ev.cm _) rfl v2 ?_
    refine w_if_eq (Ev.cm _) rfl (fun _ => ?_) (fun c => absurd hb c)
    refine w_iconst (Ev.cm _) rfl ?_
    refine w_aload_nS (Ev.cm _) rfl rfl ?_
    refine w_iload_n (Ev.cm _) rfl rfl ?_
    refine w_iconst (Ev.cm _) rfl ?_
    refine w_iadd (Ev.cm _) rfl ?_
    refine w_sald (Ev.cm _) rfl v3 ?_
    refine w_cvirt (o := 331) (as := [.int (scr X x3 1), .int 0, .int (scr X x3 3)]) (st := [.int r]) (Ev.cm _) rfl rfl rfl (Nat.le_of_ble_eq_true rfl) (Nat.le_of_ble_eq_true rfl) rfl (Nat.le_of_ble_eq_true rfl) (eo_M_tread (g := ?_) eM)
    show Wp _ _ _ _ _ _ _ 516 [(0, .float 0), (1, .ref 0), (2, .ref 331), (3, .int x3)] [.int r, .int r] (HS I2 L2 X)
    exact w_icmp_eq (Ev.cm _) rfl (fun _ => k) (fun c => absurd rfl c)
  · refine w_aload_n (Ev.cm _) rfl rfl ?_
    refine w_aload_nS (Ev.cm _) rfl rfl ?_
    refine w_iload_n (Ev.cm _) rfl rfl ?_
    refine w_iconst (Ev.cm _) rfl ?_
    refine w_iadd (Ev.cm _) rfl ?_
    refine w_sald (Ev.cm _) rfl v1 ?_
    refine w_aload_nS (Ev.cm _) rfl rfl ?_
    refine w_iload_n (Ev.cm _) rfl rfl ?_
    refine w_iconst (Ev.cm _) rfl ?_
    refine w_iadd (Ev.cm _) rfl ?_
    refine w_sald (Ev.cm _) rfl v2 ?_
    refine w_if_eq (Ev.cm _) rfl (fun c => absurd c hb) (fun _ => ?_)
    refine w_iconst (Ev.cm _) rfl ?_
    refine w_goto (Ev.cm _) rfl ?_
    refine w_aload_nS (Ev.cm _) rfl rfl ?_
    refine w_iload_n (Ev.cm _) rfl rfl ?_
    refine w_iconst (Ev.cm _) rfl ?_
    refine w_iadd (Ev.cm _) rfl ?_
    refine w_sald (Ev.cm _) rfl v3 ?_
    refine w_cvirt (o := 0) (as := [.int (scr X x3 1), .int 1, .int (scr X x3 3)]) (st := []) (Ev.cm _) rfl rfl rfl (Nat.le_of_ble_eq_true rfl) (Nat.le_of_ble_eq_true rfl) rfl (Nat.le_of_ble_eq_true rfl) (eo_X_tread (g := ?_) eX)
    show Wp _ _ _ _ _ _ _ 489 [(0, .float 0), (1, .ref 0), (2, .ref 331), (3, .int x3)] [.int r] (HS I1 L1 X)
    refine w_aload_n (Ev.cm _) rfl rfl ?_
    refine w_aload_nS (Ev.cm _) rfl rfl ?_
    refine w_iload_n (Ev.cm _) rfl rfl ?_
    refine w_iconst (Ev.cm _) rfl ?_
    refine w_iadd (Ev.cm _) rfl ?_
    refine w_sald (Ev.cm _) rfl v1 ?_
    refine w_aload_nS (Ev.cm _) rfl rfl ?_
    refine w_iload_n (Ev.cm _) rfl rfl ?_
    refine w_iconst (Ev.cm _) rfl ?_
    refine w_iadd (Ev.cm _) rfl ?_
    refine w_sald (Ev.cm _) rfl v2 ?_
    refine w_if_eq (Ev.cm _) rfl (fun c => absurd c hb) (fun _ => ?_)
    refine w_iconst (Ev.cm _) rfl ?_
    refine w_goto (Ev.cm _) rfl ?_
    refine w_aload_nS (Ev.cm _) rfl rfl ?_
    refine w_iload_n (Ev.cm _) rfl rfl ?_
    refine w_iconst (Ev.cm _) rfl ?_
    refine w_iadd (Ev.cm _) rfl ?_
    refine w_sald (Ev.cm _) rfl v3 ?_
    refine w_cvirt (o := 331) (as := [.int (scr X x3 1), .int 1, .int (scr X x3 3)]) (st := [.int r]) (Ev.cm _) rfl rfl rfl (Nat.le_of_ble_eq_true rfl) (Nat.le_of_ble_eq_true rfl) rfl (Nat.le_of_ble_eq_true rfl) (eo_M_tread (g := ?_) eM)
    show Wp _ _ _ _ _ _ _ 516 [(0, .float 0), (1, .ref 0), (2, .ref 331), (3, .int x3)] [.int r, .int r] (HS I2 L2 X)
    exact w_icmp_eq (Ev.cm _) rfl (fun _ => k) (fun c => absurd rfl c)
set_option maxHeartbeats 20000000 in
set_option maxRecDepth 20000 in
theorem lw_7 {fu : Nat} {I I1 I2 : Nat → Nat → Int32} {L L1 L2 : Nat → Nat → Int64} {X : Nat × (Nat → Int32)} {x3 bv : Int32} {r : Int32} {al : Nat × Nat} {n0 s0 : Nat} {Q : PQ} (v1 : vp_in (x3 + 1) X.1) (v2 : vp_in (x3 + 2) X.1) (v3 : vp_in (x3 + 3) X.1) (v4 : vp_in (x3 + 4) X.1) (v5 : vp_in (x3 + 5) X.1) (hb : ((scr X x3 2) = 0 ∧ bv = 0) ∨ (¬ (scr X x3 2) = 0 ∧ bv = 1)) (eX : FO_X_hang fu (scr X x3 1) bv I L = some (r, I1, L1)) (eM : FO_M_hang fu (scr X x3 1) bv I1 L1 = some (r, I2, L2)) (k : Wp (Ev 200) cd_L_law al (some .boolean) n0 s0 Q 1955 [(0, .float 0), (1, .ref 0), (2, .ref 331), (3, .int x3)] [] (HS I2 L2 X)) : Wp (Ev 200) cd_L_law al (some .boolean) n0 s0 Q 521 [(0, .float 0), (1, .ref 0), (2, .ref 331), (3, .int x3)] [] (HS I L X) := by
  rcases hb with ⟨hb, hv⟩ | ⟨hb, hv⟩ <;> subst hv
  · refine w_aload_n (Ev.cm _) rfl rfl ?_
    refine w_aload_nS (Ev.cm _) rfl rfl ?_
    refine w_iload_n (Ev.cm _) rfl rfl ?_
    refine w_iconst (Ev.cm _) rfl ?_
    refine w_iadd (Ev.cm _) rfl ?_
    refine w_sald (Ev.cm _) rfl v1 ?_
    refine w_aload_nS (Ev.cm _) rfl rfl ?_
    refine w_iload_n (Ev.cm _) rfl rfl ?_
    refine w_iconst (Ev.cm _) rfl ?_
    refine w_iadd (Ev.cm _) rfl ?_
    refine w_sald (Ev.cm _) rfl v2 ?_
    refine w_if_eq (Ev.cm _) rfl (fun _ => ?_) (fun c => absurd hb c)
    refine w_iconst (Ev.cm _) rfl ?_
    refine w_cvirt (o := 0) (as := [.int (scr X x3 1), .int 0]) (st := []) (Ev.cm _) rfl rfl rfl (Nat.le_of_ble_eq_true rfl) (Nat.le_of_ble_eq_true rfl) rfl (Nat.le_of_ble_eq_true rfl) (eo_X_hang (g := ?_) eX)
    show Wp _ _ _ _ _ _ _ 543 [(0, .float 0), (1, .ref 0), (2, .ref 331), (3, .int x3)] [.int r] (HS I1 L1 X)
    refine w_aload_n (Ev.cm _) rfl rfl ?_
    refine w_aload_nS (Ev.cm _) rfl rfl ?_
    refine w_iload_n (Ev.cm _) rfl rfl ?_
    refine w_iconst (Ev.cm _) rfl ?_
    refine w_iadd (Ev.cm _) rfl ?_
    refine w_sald (Ev.cm _) rfl v1 ?_
    refine w_aload_nS (Ev.cm _) rfl rfl ?_
    refine w_iload_n (Ev.cm _) rfl rfl ?_
    refine w_iconst (Ev.cm _) rfl ?_
    refine w_iadd (Ev.cm _) rfl ?_
    refine w_sald (Ev.cm _) rfl v2 ?_
    refine w_if_eq (Ev.cm _) rfl (fun _ => ?_) (fun c => absurd hb c)
    refine w_iconst (Ev.cm _) rfl ?_
    refine w_cvirt (o := 331) (as := [.int (scr X x3 1), .int 0]) (st := [.int r]) (Ev.cm _) rfl rfl rfl (Nat.le_of_ble_eq_true rfl) (Nat.le_of_ble_eq_true rfl) rfl (Nat.le_of_ble_eq_true rfl) (eo_M_hang (g := ?_) eM)
    show Wp _ _ _ _ _ _ _ 565 [(0, .float 0), (1, .ref 0), (2, .ref 331), (3, .int x3)] [.int r, .int r] (HS I2 L2 X)
    exact w_icmp_eq (Ev.cm _) rfl (fun _ => k) (fun c => absurd rfl c)
  · refine w_aload_n (Ev.cm _) rfl rfl ?_
    refine w_aload_nS (Ev.cm _) rfl rfl ?_
    refine w_iload_n (Ev.cm _) rfl rfl ?_
    refine w_iconst (Ev.cm _) rfl ?_
    refine w_iadd (Ev.cm _) rfl ?_
    refine w_sald (Ev.cm _) rfl v1 ?_
    refine w_aload_nS (Ev.cm _) rfl rfl ?_
    refine w_iload_n (Ev.cm _) rfl rfl ?_
    refine w_iconst (Ev.cm _) rfl ?_
    refine w_iadd (Ev.cm _) rfl ?_
    refine w_sald (Ev.cm _) rfl v2 ?_
    refine w_if_eq (Ev.cm _) rfl (fun c => absurd c hb) (fun _ => ?_)
    refine w_iconst (Ev.cm _) rfl ?_
    refine w_goto (Ev.cm _) rfl ?_
    refine w_cvirt (o := 0) (as := [.int (scr X x3 1), .int 1]) (st := []) (Ev.cm _) rfl rfl rfl (Nat.le_of_ble_eq_true rfl) (Nat.le_of_ble_eq_true rfl) rfl (Nat.le_of_ble_eq_true rfl) (eo_X_hang (g := ?_) eX)
    show Wp _ _ _ _ _ _ _ 543 [(0, .float 0), (1, .ref 0), (2, .ref 331), (3, .int x3)] [.int r] (HS I1 L1 X)
    refine w_aload_n (Ev.cm _) rfl rfl ?_
    refine w_aload_nS (Ev.cm _) rfl rfl ?_
    refine w_iload_n (Ev.cm _) rfl rfl ?_
    refine w_iconst (Ev.cm _) rfl ?_
    refine w_iadd (Ev.cm _) rfl ?_
    refine w_sald (Ev.cm _) rfl v1 ?_
    refine w_aload_nS (Ev.cm _) rfl rfl ?_
    refine w_iload_n (Ev.cm _) rfl rfl ?_
    refine w_iconst (Ev.cm _) rfl ?_
    refine w_iadd (Ev.cm _) rfl ?_
    refine w_sald (Ev.cm _) rfl v2 ?_
    refine w_if_eq (Ev.cm _) rfl (fun c => absurd c hb) (fun _ => ?_)
    refine w_iconst (Ev.cm _) rfl ?_
    refine w_goto (Ev.cm _) rfl ?_
    refine w_cvirt (o := 331) (as := [.int (scr X x3 1), .int 1]) (st := [.int r]) (Ev.cm _) rfl rfl rfl (Nat.le_of_ble_eq_true rfl) (Nat.le_of_ble_eq_true rfl) rfl (Nat.le_of_ble_eq_true rfl) (eo_M_hang (g := ?_) eM)
    show Wp _ _ _ _ _ _ _ 565 [(0, .float 0), (1, .ref 0), (2, .ref 331), (3, .int x3)] [.int r, .int r] (HS I2 L2 X)
    exact w_icmp_eq (Ev.cm _) rfl (fun _ => k) (fun c => absurd rfl c)
set_option maxHeartbeats 20000000 in
set_option maxRecDepth 20000 in
theorem lw_8 {fu : Nat} {I I1 I2 : Nat → Nat → Int32} {L L1 L2 : Nat → Nat → Int64} {X : Nat × (Nat → Int32)} {x3 : Int32} {r : Int32} {al : Nat × Nat} {n0 s0 : Nat} {Q : PQ} (v1 : vp_in (x3 + 1) X.1) (v2 : vp_in (x3 + 2) X.1) (v3 : vp_in (x3 + 3) X.1) (v4 : vp_in (x3 + 4) X.1) (v5 : vp_in (x3 + 5) X.1) (eX : FO_X_hour fu (scr X x3 1) I L = some (r, I1, L1)) (eM : FO_M_hour fu (scr X x3 1) I1 L1 = some (r, I2, L2)) (k : Wp (Ev 200) cd_L_law al (some .boolean) n0 s0 Q 1955 [(0, .float 0), (1, .ref 0), (2, .ref 331), (3, .int x3)] [] (HS I2 L2 X)) : Wp (Ev 200) cd_L_law al (some .boolean) n0 s0 Q 570 [(0, .float 0), (1, .ref 0), (2, .ref 331), (3, .int x3)] [] (HS I L X) := by
  refine w_aload_n (Ev.cm _) rfl rfl ?_
  refine w_aload_nS (Ev.cm _) rfl rfl ?_
  refine w_iload_n (Ev.cm _) rfl rfl ?_
  refine w_iconst (Ev.cm _) rfl ?_
  refine w_iadd (Ev.cm _) rfl ?_
  refine w_sald (Ev.cm _) rfl v1 ?_
  refine w_cvirt (o := 0) (as := [.int (scr X x3 1)]) (st := []) (Ev.cm _) rfl rfl rfl (Nat.le_of_ble_eq_true rfl) (Nat.le_of_ble_eq_true rfl) rfl (Nat.le_of_ble_eq_true rfl) (eo_X_hour (g := ?_) eX)
  show Wp _ _ _ _ _ _ _ 579 [(0, .float 0), (1, .ref 0), (2, .ref 331), (3, .int x3)] [.int r] (HS I1 L1 X)
  refine w_aload_n (Ev.cm _) rfl rfl ?_
  refine w_aload_nS (Ev.cm _) rfl rfl ?_
  refine w_iload_n (Ev.cm _) rfl rfl ?_
  refine w_iconst (Ev.cm _) rfl ?_
  refine w_iadd (Ev.cm _) rfl ?_
  refine w_sald (Ev.cm _) rfl v1 ?_
  refine w_cvirt (o := 331) (as := [.int (scr X x3 1)]) (st := [.int r]) (Ev.cm _) rfl rfl rfl (Nat.le_of_ble_eq_true rfl) (Nat.le_of_ble_eq_true rfl) rfl (Nat.le_of_ble_eq_true rfl) (eo_M_hour (g := ?_) eM)
  show Wp _ _ _ _ _ _ _ 588 [(0, .float 0), (1, .ref 0), (2, .ref 331), (3, .int x3)] [.int r, .int r] (HS I2 L2 X)
  exact w_icmp_eq (Ev.cm _) rfl (fun _ => k) (fun c => absurd rfl c)
set_option maxHeartbeats 20000000 in
set_option maxRecDepth 20000 in
theorem lw_9 {fu : Nat} {I I1 I2 : Nat → Nat → Int32} {L L1 L2 : Nat → Nat → Int64} {X : Nat × (Nat → Int32)} {x3 : Int32} {r : Int32} {al : Nat × Nat} {n0 s0 : Nat} {Q : PQ} (v1 : vp_in (x3 + 1) X.1) (v2 : vp_in (x3 + 2) X.1) (v3 : vp_in (x3 + 3) X.1) (v4 : vp_in (x3 + 4) X.1) (v5 : vp_in (x3 + 5) X.1) (eX : FO_X_played fu (scr X x3 1) I L = some (r, I1, L1)) (eM : FO_M_played fu (scr X x3 1) I1 L1 = some (r, I2, L2)) (k : Wp (Ev 200) cd_L_law al (some .boolean) n0 s0 Q 1955 [(0, .float 0), (1, .ref 0), (2, .ref 331), (3, .int x3)] [] (HS I2 L2 X)) : Wp (Ev 200) cd_L_law al (some .boolean) n0 s0 Q 593 [(0, .float 0), (1, .ref 0), (2, .ref 331), (3, .int x3)] [] (HS I L X) := by
  refine w_aload_n (Ev.cm _) rfl rfl ?_
  refine w_aload_nS (Ev.cm _) rfl rfl ?_
  refine w_iload_n (Ev.cm _) rfl rfl ?_
  refine w_iconst (Ev.cm _) rfl ?_
  refine w_iadd (Ev.cm _) rfl ?_
  refine w_sald (Ev.cm _) rfl v1 ?_
  refine w_cvirt (o := 0) (as := [.int (scr X x3 1)]) (st := []) (Ev.cm _) rfl rfl rfl (Nat.le_of_ble_eq_true rfl) (Nat.le_of_ble_eq_true rfl) rfl (Nat.le_of_ble_eq_true rfl) (eo_X_played (g := ?_) eX)
  show Wp _ _ _ _ _ _ _ 602 [(0, .float 0), (1, .ref 0), (2, .ref 331), (3, .int x3)] [.int r] (HS I1 L1 X)
  refine w_aload_n (Ev.cm _) rfl rfl ?_
  refine w_aload_nS (Ev.cm _) rfl rfl ?_
  refine w_iload_n (Ev.cm _) rfl rfl ?_
  refine w_iconst (Ev.cm _) rfl ?_
  refine w_iadd (Ev.cm _) rfl ?_
  refine w_sald (Ev.cm _) rfl v1 ?_
  refine w_cvirt (o := 331) (as := [.int (scr X x3 1)]) (st := [.int r]) (Ev.cm _) rfl rfl rfl (Nat.le_of_ble_eq_true rfl) (Nat.le_of_ble_eq_true rfl) rfl (Nat.le_of_ble_eq_true rfl) (eo_M_played (g := ?_) eM)
  show Wp _ _ _ _ _ _ _ 611 [(0, .float 0), (1, .ref 0), (2, .ref 331), (3, .int x3)] [.int r, .int r] (HS I2 L2 X)
  exact w_icmp_eq (Ev.cm _) rfl (fun _ => k) (fun c => absurd rfl c)
set_option maxHeartbeats 20000000 in
set_option maxRecDepth 20000 in
theorem lw_10 {fu : Nat} {I I1 I2 : Nat → Nat → Int32} {L L1 L2 : Nat → Nat → Int64} {X : Nat × (Nat → Int32)} {x3 : Int32} {r : Int32} {al : Nat × Nat} {n0 s0 : Nat} {Q : PQ} (v1 : vp_in (x3 + 1) X.1) (v2 : vp_in (x3 + 2) X.1) (v3 : vp_in (x3 + 3) X.1) (v4 : vp_in (x3 + 4) X.1) (v5 : vp_in (x3 + 5) X.1) (eX : FO_X_nights fu (scr X x3 1) (scr X x3 2) I L = some (r, I1, L1)) (eM : FO_M_nights fu (scr X x3 1) (scr X x3 2) I1 L1 = some (r, I2, L2)) (k : Wp (Ev 200) cd_L_law al (some .boolean) n0 s0 Q 1955 [(0, .float 0), (1, .ref 0), (2, .ref 331), (3, .int x3)] [] (HS I2 L2 X)) : Wp (Ev 200) cd_L_law al (some .boolean) n0 s0 Q 616 [(0, .float 0), (1, .ref 0), (2, .ref 331), (3, .int x3)] [] (HS I L X) := by
  refine w_aload_n (Ev.cm _) rfl rfl ?_
  refine w_aload_nS (Ev.cm _) rfl rfl ?_
  refine w_iload_n (Ev.cm _) rfl rfl ?_
  refine w_iconst (Ev.cm _) rfl ?_
  refine w_iadd (Ev.cm _) rfl ?_
  refine w_sald (Ev.cm _) rfl v1 ?_
  refine w_aload_nS (Ev.cm _) rfl rfl ?_
  refine w_iload_n (Ev.cm _) rfl rfl ?_
  refine w_iconst (Ev.cm _) rfl ?_
  refine w_iadd (Ev.cm _) rfl ?_
  refine w_sald (Ev.cm _) rfl v2 ?_
  refine w_cvirt (o := 0) (as := [.int (scr X x3 1), .int (scr X x3 2)]) (st := []) (Ev.cm _) rfl rfl rfl (Nat.le_of_ble_eq_true rfl) (Nat.le_of_ble_eq_true rfl) rfl (Nat.le_of_ble_eq_true rfl) (eo_X_nights (g := ?_) eX)
  show Wp _ _ _ _ _ _ _ 630 [(0, .float 0), (1, .ref 0), (2, .ref 331), (3, .int x3)] [.int r] (HS I1 L1 X)
  refine w_aload_n (Ev.cm _) rfl rfl ?_
  refine w_aload_nS (Ev.cm _) rfl rfl ?_
  refine w_iload_n (Ev.cm _) rfl rfl ?_
  refine w_iconst (Ev.cm _) rfl ?_
  refine w_iadd (Ev.cm _) rfl ?_
  refine w_sald (Ev.cm _) rfl v1 ?_
  refine w_aload_nS (Ev.cm _) rfl rfl ?_
  refine w_iload_n (Ev.cm _) rfl rfl ?_
  refine w_iconst (Ev.cm _) rfl ?_
  refine w_iadd (Ev.cm _) rfl ?_
  refine w_sald (Ev.cm _) rfl v2 ?_
  refine w_cvirt (o := 331) (as := [.int (scr X x3 1), .int (scr X x3 2)]) (st := [.int r]) (Ev.cm _) rfl rfl rfl (Nat.le_of_ble_eq_true rfl) (Nat.le_of_ble_eq_true rfl) rfl (Nat.le_of_ble_eq_true rfl) (eo_M_nights (g := ?_) eM)
  show Wp _ _ _ _ _ _ _ 644 [(0, .float 0), (1, .ref 0), (2, .ref 331), (3, .int x3)] [.int r, .int r] (HS I2 L2 X)
  exact w_icmp_eq (Ev.cm _) rfl (fun _ => k) (fun c => absurd rfl c)
set_option maxHeartbeats 20000000 in
set_option maxRecDepth 20000 in
theorem lw_11 {fu : Nat} {I I1 I2 : Nat → Nat → Int32} {L L1 L2 : Nat → Nat → Int64} {X : Nat × (Nat → Int32)} {x3 : Int32} {r : Int32} {al : Nat × Nat} {n0 s0 : Nat} {Q : PQ} (v1 : vp_in (x3 + 1) X.1) (v2 : vp_in (x3 + 2) X.1) (v3 : vp_in (x3 + 3) X.1) (v4 : vp_in (x3 + 4) X.1) (v5 : vp_in (x3 + 5) X.1) (eX : FO_X_undo fu  I L = some (r, I1, L1)) (eM : FO_M_undo fu  I1 L1 = some (r, I2, L2)) (k : Wp (Ev 200) cd_L_law al (some .boolean) n0 s0 Q 1955 [(0, .float 0), (1, .ref 0), (2, .ref 331), (3, .int x3)] [] (HS I2 L2 X)) : Wp (Ev 200) cd_L_law al (some .boolean) n0 s0 Q 649 [(0, .float 0), (1, .ref 0), (2, .ref 331), (3, .int x3)] [] (HS I L X) := by
  refine w_aload_n (Ev.cm _) rfl rfl ?_
  refine w_cvirt (o := 0) (as := []) (st := []) (Ev.cm _) rfl rfl rfl (Nat.le_of_ble_eq_true rfl) (Nat.le_of_ble_eq_true rfl) rfl (Nat.le_of_ble_eq_true rfl) (eo_X_undo (g := ?_) eX)
  show Wp _ _ _ _ _ _ _ 653 [(0, .float 0), (1, .ref 0), (2, .ref 331), (3, .int x3)] [.int r] (HS I1 L1 X)
  refine w_aload_n (Ev.cm _) rfl rfl ?_
  refine w_cvirt (o := 331) (as := []) (st := [.int r]) (Ev.cm _) rfl rfl rfl (Nat.le_of_ble_eq_true rfl) (Nat.le_of_ble_eq_true rfl) rfl (Nat.le_of_ble_eq_true rfl) (eo_M_undo (g := ?_) eM)
  show Wp _ _ _ _ _ _ _ 657 [(0, .float 0), (1, .ref 0), (2, .ref 331), (3, .int x3)] [.int r, .int r] (HS I2 L2 X)
  exact w_icmp_eq (Ev.cm _) rfl (fun _ => k) (fun c => absurd rfl c)
set_option maxHeartbeats 20000000 in
set_option maxRecDepth 20000 in
theorem lw_12 {fu : Nat} {I I1 I2 : Nat → Nat → Int32} {L L1 L2 : Nat → Nat → Int64} {X : Nat × (Nat → Int32)} {x3 : Int32} {r : Int32} {al : Nat × Nat} {n0 s0 : Nat} {Q : PQ} (v1 : vp_in (x3 + 1) X.1) (v2 : vp_in (x3 + 2) X.1) (v3 : vp_in (x3 + 3) X.1) (v4 : vp_in (x3 + 4) X.1) (v5 : vp_in (x3 + 5) X.1) (eX : FO_X_of fu (scr X x3 1) (scr X x3 2) I L = some (r, I1, L1)) (eM : FO_M_of fu (scr X x3 1) (scr X x3 2) I1 L1 = some (r, I2, L2)) (k : Wp (Ev 200) cd_L_law al (some .boolean) n0 s0 Q 1955 [(0, .float 0), (1, .ref 0), (2, .ref 331), (3, .int x3)] [] (HS I2 L2 X)) : Wp (Ev 200) cd_L_law al (some .boolean) n0 s0 Q 662 [(0, .float 0), (1, .ref 0), (2, .ref 331), (3, .int x3)] [] (HS I L X) := by
  refine w_aload_n (Ev.cm _) rfl rfl ?_
  refine w_aload_nS (Ev.cm _) rfl rfl ?_
  refine w_iload_n (Ev.cm _) rfl rfl ?_
  refine w_iconst (Ev.cm _) rfl ?_
  refine w_iadd (Ev.cm _) rfl ?_
  refine w_sald (Ev.cm _) rfl v1 ?_
  refine w_aload_nS (Ev.cm _) rfl rfl ?_
  refine w_iload_n (Ev.cm _) rfl rfl ?_
  refine w_iconst (Ev.cm _) rfl ?_
  refine w_iadd (Ev.cm _) rfl ?_
  refine w_sald (Ev.cm _) rfl v2 ?_
  refine w_cvirt (o := 0) (as := [.int (scr X x3 1), .int (scr X x3 2)]) (st := []) (Ev.cm _) rfl rfl rfl (Nat.le_of_ble_eq_true rfl) (Nat.le_of_ble_eq_true rfl) rfl (Nat.le_of_ble_eq_true rfl) (eo_X_of (g := ?_) eX)
  show Wp _ _ _ _ _ _ _ 676 [(0, .float 0), (1, .ref 0), (2, .ref 331), (3, .int x3)] [.int r] (HS I1 L1 X)
  refine w_aload_n (Ev.cm _) rfl rfl ?_
  refine w_aload_nS (Ev.cm _) rfl rfl ?_
  refine w_iload_n (Ev.cm _) rfl rfl ?_
  refine w_iconst (Ev.cm _) rfl ?_
  refine w_iadd (Ev.cm _) rfl ?_
  refine w_sald (Ev.cm _) rfl v1 ?_
  refine w_aload_nS (Ev.cm _) rfl rfl ?_
  refine w_iload_n (Ev.cm _) rfl rfl ?_
  refine w_iconst (Ev.cm _) rfl ?_
  refine w_iadd (Ev.cm _) rfl ?_
  refine w_sald (Ev.cm _) rfl v2 ?_
  refine w_cvirt (o := 331) (as := [.int (scr X x3 1), .int (scr X x3 2)]) (st := [.int r]) (Ev.cm _) rfl rfl rfl (Nat.le_of_ble_eq_true rfl) (Nat.le_of_ble_eq_true rfl) rfl (Nat.le_of_ble_eq_true rfl) (eo_M_of (g := ?_) eM)
  show Wp _ _ _ _ _ _ _ 690 [(0, .float 0), (1, .ref 0), (2, .ref 331), (3, .int x3)] [.int r, .int r] (HS I2 L2 X)
  exact w_icmp_eq (Ev.cm _) rfl (fun _ => k) (fun c => absurd rfl c)
set_option maxHeartbeats 20000000 in
set_option maxRecDepth 20000 in
theorem lw_13 {fu : Nat} {I I1 I2 : Nat → Nat → Int32} {L L1 L2 : Nat → Nat → Int64} {X : Nat × (Nat → Int32)} {x3 bv : Int32} {r : Int32} {al : Nat × Nat} {n0 s0 : Nat} {Q : PQ} (v1 : vp_in (x3 + 1) X.1) (v2 : vp_in (x3 + 2) X.1) (v3 : vp_in (x3 + 3) X.1) (v4 : vp_in (x3 + 4) X.1) (v5 : vp_in (x3 + 5) X.1) (hb : ((scr X x3 3) = 0 ∧ bv = 0) ∨ (¬ (scr X x3 3) = 0 ∧ bv = 1)) (eX : FO_X_ticks fu (scr X x3 1) (scr X x3 2) bv I L = some (r, I1, L1)) (eM : FO_M_ticks fu (scr X x3 1) (scr X x3 2) bv I1 L1 = some (r, I2, L2)) (k : Wp (Ev 200) cd_L_law al (some .boolean) n0 s0 Q 1955 [(0, .float 0), (1, .ref 0), (2, .ref 331), (3, .int x3)] [] (HS I2 L2 X)) : Wp (Ev 200) cd_L_law al (some .boolean) n0 s0 Q 695 [(0, .float 0), (1, .ref 0), (2, .ref 331), (3, .int x3)] [] (HS I L X) := by
  rcases hb with ⟨hb, hv⟩ | ⟨hb, hv⟩ <;> subst hv
  · refine w_aload_n (Ev.cm _) rfl rfl ?_
    refine w_aload_nS (Ev.cm _) rfl rfl ?_
    refine w_iload_n (Ev.cm _) rfl rfl ?_
    refine w_iconst (Ev.cm _) rfl ?_
    refine w_iadd (Ev.cm _) rfl ?_
    refine w_sald (Ev.cm _) rfl v1 ?_
    refine w_aload_nS (Ev.cm _) rfl rfl ?_
    refine w_iload_n (Ev.cm _) rfl rfl ?_
    refine w_iconst (Ev.cm _) rfl ?_
    refine w_iadd (Ev.cm _) rfl ?_
    refine w_sald (Ev.cm _) rfl v2 ?_
    refine w_aload_nS (Ev.cm _) rfl rfl ?_
    refine w_iload_n (Ev.cm _) rfl rfl ?_
    refine w_iconst (Ev.cm _) rfl ?_
    refine w_iadd (Ev.cm _) rfl ?_
    refine w_sald (Ev.cm _) rfl v3 ?_
    refine w_if_eq (Ev.cm _) rfl (fun _ => ?_) (fun c => absurd hb c)
    refine w_iconst (Ev.cm _) rfl ?_
    refine w_cvirt (o := 0) (as := [.int (scr X x3 1), .int (scr X x3 2), .int 0]) (st := []) (Ev.cm _) rfl rfl rfl (Nat.le_of_ble_eq_true rfl) (Nat.le_of_ble_eq_true rfl) rfl (Nat.le_of_ble_eq_true rfl) (eo_X_ticks (g := ?_) eX)
    show Wp _ _ _ _ _ _ _ 722 [(0, .float 0), (1, .ref 0), (2, .ref 331), (3, .int x3)] [.int r] (HS I1 L1 X)
    refine w_aload_n (Ev.cm _) rfl rfl ?_
    refine w_aload_nS (Ev.cm _) rfl rfl ?_
    refine w_iload_n (Ev.cm _) rfl rfl ?_
    refine w_iconst (Ev.cm _) rfl ?_
    refine w_iadd (Ev.cm _) rfl ?_
    refine w_sald (Ev.cm _) rfl v1 ?_
    refine w_aload_nS (Ev.cm _) rfl rfl ?_
    refine w_iload_n (Ev.cm _) rfl rfl ?_
    refine w_iconst (Ev.cm _) rfl ?_
    refine w_iadd (Ev.cm _) rfl ?_
    refine w_sald (Ev.cm _) rfl v2 ?_
    refine w_aload_nS (Ev.cm _) rfl rfl ?_
    refine w_iload_n (Ev.cm _) rfl rfl ?_
    refine w_iconst (Ev.cm _) rfl ?_
    refine w_iadd (Ev.cm _) rfl ?_
    refine w_sald (Ev.cm _) rfl v3 ?_
    refine w_if_eq (Ev.cm _) rfl (fun _ => ?_) (fun c => absurd hb c)
    refine w_iconst (Ev.cm _) rfl ?_
    refine w_cvirt (o := 331) (as := [.int (scr X x3 1), .int (scr X x3 2), .int 0]) (st := [.int r]) (Ev.cm _) rfl rfl rfl (Nat.le_of_ble_eq_true rfl) (Nat.le_of_ble_eq_true rfl) rfl (Nat.le_of_ble_eq_true rfl) (eo_M_ticks (g := ?_) eM)
    show Wp _ _ _ _ _ _ _ 749 [(0, .float 0), (1, .ref 0), (2, .ref 331), (3, .int x3)] [.int r, .int r] (HS I2 L2 X)
    exact w_icmp_eq (Ev.cm _) rfl (fun _ => k) (fun c => absurd rfl c)
  · refine w_aload_n (Ev.cm _) rfl rfl ?_
    refine w_aload_nS (Ev.cm _) rfl rfl ?_
    refine w_iload_n (Ev.cm _) rfl rfl ?_
    refine w_iconst (Ev.cm _) rfl ?_
    refine w_iadd (Ev.cm _) rfl ?_
    refine w_sald (Ev.cm _) rfl v1 ?_
    refine w_aload_nS (Ev.cm _) rfl rfl ?_
    refine w_iload_n (Ev.cm _) rfl rfl ?_
    refine w_iconst (Ev.cm _) rfl ?_
    refine w_iadd (Ev.cm _) rfl ?_
    refine w_sald (Ev.cm _) rfl v2 ?_
    refine w_aload_nS (Ev.cm _) rfl rfl ?_
    refine w_iload_n (Ev.cm _) rfl rfl ?_
    refine w_iconst (Ev.cm _) rfl ?_
    refine w_iadd (Ev.cm _) rfl ?_
    refine w_sald (Ev.cm _) rfl v3 ?_
    refine w_if_eq (Ev.cm _) rfl (fun c => absurd c hb) (fun _ => ?_)
    refine w_iconst (Ev.cm _) rfl ?_
    refine w_goto (Ev.cm _) rfl ?_
    refine w_cvirt (o := 0) (as := [.int (scr X x3 1), .int (scr X x3 2), .int 1]) (st := []) (Ev.cm _) rfl rfl rfl (Nat.le_of_ble_eq_true rfl) (Nat.le_of_ble_eq_true rfl) rfl (Nat.le_of_ble_eq_true rfl) (eo_X_ticks (g := ?_) eX)
    show Wp _ _ _ _ _ _ _ 722 [(0, .float 0), (1, .ref 0), (2, .ref 331), (3, .int x3)] [.int r] (HS I1 L1 X)
    refine w_aload_n (Ev.cm _) rfl rfl ?_
    refine w_aload_nS (Ev.cm _) rfl rfl ?_
    refine w_iload_n (Ev.cm _) rfl rfl ?_
    refine w_iconst (Ev.cm _) rfl ?_
    refine w_iadd (Ev.cm _) rfl ?_
    refine w_sald (Ev.cm _) rfl v1 ?_
    refine w_aload_nS (Ev.cm _) rfl rfl ?_
    refine w_iload_n (Ev.cm _) rfl rfl ?_
    refine w_iconst (Ev.cm _) rfl ?_
    refine w_iadd (Ev.cm _) rfl ?_
    refine w_sald (Ev.cm _) rfl v2 ?_
    refine w_aload_nS (Ev.cm _) rfl rfl ?_
    refine w_iload_n (Ev.cm _) rfl rfl ?_
    refine w_iconst (Ev.cm _) rfl ?_
    refine w_iadd (Ev.cm _) rfl ?_
    refine w_sald (Ev.cm _) rfl v3 ?_
    refine w_if_eq (Ev.cm _) rfl (fun c => absurd c hb) (fun _ => ?_)
    refine w_iconst (Ev.cm _) rfl ?_
    refine w_goto (Ev.cm _) rfl ?_
    refine w_cvirt (o := 331) (as := [.int (scr X x3 1), .int (scr X x3 2), .int 1]) (st := [.int r]) (Ev.cm _) rfl rfl rfl (Nat.le_of_ble_eq_true rfl) (Nat.le_of_ble_eq_true rfl) rfl (Nat.le_of_ble_eq_true rfl) (eo_M_ticks (g := ?_) eM)
    show Wp _ _ _ _ _ _ _ 749 [(0, .float 0), (1, .ref 0), (2, .ref 331), (3, .int x3)] [.int r, .int r] (HS I2 L2 X)
    exact w_icmp_eq (Ev.cm _) rfl (fun _ => k) (fun c => absurd rfl c)
set_option maxHeartbeats 20000000 in
set_option maxRecDepth 20000 in
theorem lw_14 {fu : Nat} {I I1 I2 : Nat → Nat → Int32} {L L1 L2 : Nat → Nat → Int64} {X : Nat × (Nat → Int32)} {x3 : Int32} {r : Int32} {al : Nat × Nat} {n0 s0 : Nat} {Q : PQ} (v1 : vp_in (x3 + 1) X.1) (v2 : vp_in (x3 + 2) X.1) (v3 : vp_in (x3 + 3) X.1) (v4 : vp_in (x3 + 4) X.1) (v5 : vp_in (x3 + 5) X.1) (eX : FO_X_hears fu (scr X x3 1) I L = some (r, I1, L1)) (eM : FO_M_hears fu (scr X x3 1) I1 L1 = some (r, I2, L2)) (k : Wp (Ev 200) cd_L_law al (some .boolean) n0 s0 Q 1955 [(0, .float 0), (1, .ref 0), (2, .ref 331), (3, .int x3)] [] (HS I2 L2 X)) : Wp (Ev 200) cd_L_law al (some .boolean) n0 s0 Q 754 [(0, .float 0), (1, .ref 0), (2, .ref 331), (3, .int x3)] [] (HS I L X) := by
  refine w_aload_n (Ev.cm _) rfl rfl ?_
  refine w_aload_nS (Ev.cm _) rfl rfl ?_
  refine w_iload_n (Ev.cm _) rfl rfl ?_
  refine w_iconst (Ev.cm _) rfl ?_
  refine w_iadd (Ev.cm _) rfl ?_
  refine w_sald (Ev.cm _) rfl v1 ?_
  refine w_cvirt (o := 0) (as := [.int (scr X x3 1)]) (st := []) (Ev.cm _) rfl rfl rfl (Nat.le_of_ble_eq_true rfl) (Nat.le_of_ble_eq_true rfl) rfl (Nat.le_of_ble_eq_true rfl) (eo_X_hears (g := ?_) eX)
  show Wp _ _ _ _ _ _ _ 763 [(0, .float 0), (1, .ref 0), (2, .ref 331), (3, .int x3)] [.int r] (HS I1 L1 X)
  refine w_aload_n (Ev.cm _) rfl rfl ?_
  refine w_aload_nS (Ev.cm _) rfl rfl ?_
  refine w_iload_n (Ev.cm _) rfl rfl ?_
  refine w_iconst (Ev.cm _) rfl ?_
  refine w_iadd (Ev.cm _) rfl ?_
  refine w_sald (Ev.cm _) rfl v1 ?_
  refine w_cvirt (o := 331) (as := [.int (scr X x3 1)]) (st := [.int r]) (Ev.cm _) rfl rfl rfl (Nat.le_of_ble_eq_true rfl) (Nat.le_of_ble_eq_true rfl) rfl (Nat.le_of_ble_eq_true rfl) (eo_M_hears (g := ?_) eM)
  show Wp _ _ _ _ _ _ _ 772 [(0, .float 0), (1, .ref 0), (2, .ref 331), (3, .int x3)] [.int r, .int r] (HS I2 L2 X)
  exact w_icmp_eq (Ev.cm _) rfl (fun _ => k) (fun c => absurd rfl c)
set_option maxHeartbeats 20000000 in
set_option maxRecDepth 20000 in
theorem lw_15 {fu : Nat} {I I1 I2 : Nat → Nat → Int32} {L L1 L2 : Nat → Nat → Int64} {X : Nat × (Nat → Int32)} {x3 : Int32} {r : Int32} {al : Nat × Nat} {n0 s0 : Nat} {Q : PQ} (v1 : vp_in (x3 + 1) X.1) (v2 : vp_in (x3 + 2) X.1) (v3 : vp_in (x3 + 3) X.1) (v4 : vp_in (x3 + 4) X.1) (v5 : vp_in (x3 + 5) X.1) (eX : FO_X_is fu (scr X x3 1) I L = some (r, I1, L1)) (eM : FO_M_is fu (scr X x3 1) I1 L1 = some (r, I2, L2)) (k : Wp (Ev 200) cd_L_law al (some .boolean) n0 s0 Q 1955 [(0, .float 0), (1, .ref 0), (2, .ref 331), (3, .int x3)] [] (HS I2 L2 X)) : Wp (Ev 200) cd_L_law al (some .boolean) n0 s0 Q 777 [(0, .float 0), (1, .ref 0), (2, .ref 331), (3, .int x3)] [] (HS I L X) := by
  refine w_aload_n (Ev.cm _) rfl rfl ?_
  refine w_aload_nS (Ev.cm _) rfl rfl ?_
  refine w_iload_n (Ev.cm _) rfl rfl ?_
  refine w_iconst (Ev.cm _) rfl ?_
  refine w_iadd (Ev.cm _) rfl ?_
  refine w_sald (Ev.cm _) rfl v1 ?_
  refine w_cvirt (o := 0) (as := [.int (scr X x3 1)]) (st := []) (Ev.cm _) rfl rfl rfl (Nat.le_of_ble_eq_true rfl) (Nat.le_of_ble_eq_true rfl) rfl (Nat.le_of_ble_eq_true rfl) (eo_X_is (g := ?_) eX)
  show Wp _ _ _ _ _ _ _ 786 [(0, .float 0), (1, .ref 0), (2, .ref 331), (3, .int x3)] [.int r] (HS I1 L1 X)
  refine w_aload_n (Ev.cm _) rfl rfl ?_
  refine w_aload_nS (Ev.cm _) rfl rfl ?_
  refine w_iload_n (Ev.cm _) rfl rfl ?_
  refine w_iconst (Ev.cm _) rfl ?_
  refine w_iadd (Ev.cm _) rfl ?_
  refine w_sald (Ev.cm _) rfl v1 ?_
  refine w_cvirt (o := 331) (as := [.int (scr X x3 1)]) (st := [.int r]) (Ev.cm _) rfl rfl rfl (Nat.le_of_ble_eq_true rfl) (Nat.le_of_ble_eq_true rfl) rfl (Nat.le_of_ble_eq_true rfl) (eo_M_is (g := ?_) eM)
  show Wp _ _ _ _ _ _ _ 795 [(0, .float 0), (1, .ref 0), (2, .ref 331), (3, .int x3)] [.int r, .int r] (HS I2 L2 X)
  exact w_icmp_eq (Ev.cm _) rfl (fun _ => k) (fun c => absurd rfl c)
set_option maxHeartbeats 20000000 in
set_option maxRecDepth 20000 in
theorem lw_16 {fu : Nat} {I I1 I2 : Nat → Nat → Int32} {L L1 L2 : Nat → Nat → Int64} {X : Nat × (Nat → Int32)} {x3 : Int32} {r : Int32} {al : Nat × Nat} {n0 s0 : Nat} {Q : PQ} (v1 : vp_in (x3 + 1) X.1) (v2 : vp_in (x3 + 2) X.1) (v3 : vp_in (x3 + 3) X.1) (v4 : vp_in (x3 + 4) X.1) (v5 : vp_in (x3 + 5) X.1) (eX : FO_X_book fu (scr X x3 1) (scr X x3 2) I L = some (r, I1, L1)) (eM : FO_M_book fu (scr X x3 1) (scr X x3 2) I1 L1 = some (r, I2, L2)) (k : Wp (Ev 200) cd_L_law al (some .boolean) n0 s0 Q 1955 [(0, .float 0), (1, .ref 0), (2, .ref 331), (3, .int x3)] [] (HS I2 L2 X)) : Wp (Ev 200) cd_L_law al (some .boolean) n0 s0 Q 800 [(0, .float 0), (1, .ref 0), (2, .ref 331), (3, .int x3)] [] (HS I L X) := by
  refine w_aload_n (Ev.cm _) rfl rfl ?_
  refine w_aload_nS (Ev.cm _) rfl rfl ?_
  refine w_iload_n (Ev.cm _) rfl rfl ?_
  refine w_iconst (Ev.cm _) rfl ?_
  refine w_iadd (Ev.cm _) rfl ?_
  refine w_sald (Ev.cm _) rfl v1 ?_
  refine w_aload_nS (Ev.cm _) rfl rfl ?_
  refine w_iload_n (Ev.cm _) rfl rfl ?_
  refine w_iconst (Ev.cm _) rfl ?_
  refine w_iadd (Ev.cm _) rfl ?_
  refine w_sald (Ev.cm _) rfl v2 ?_
  refine w_cvirt (o := 0) (as := [.int (scr X x3 1), .int (scr X x3 2)]) (st := []) (Ev.cm _) rfl rfl rfl (Nat.le_of_ble_eq_true rfl) (Nat.le_of_ble_eq_true rfl) rfl (Nat.le_of_ble_eq_true rfl) (eo_X_book (g := ?_) eX)
  show Wp _ _ _ _ _ _ _ 814 [(0, .float 0), (1, .ref 0), (2, .ref 331), (3, .int x3)] [.int r] (HS I1 L1 X)
  refine w_aload_n (Ev.cm _) rfl rfl ?_
  refine w_aload_nS (Ev.cm _) rfl rfl ?_
  refine w_iload_n (Ev.cm _) rfl rfl ?_
  refine w_iconst (Ev.cm _) rfl ?_
  refine w_iadd (Ev.cm _) rfl ?_
  refine w_sald (Ev.cm _) rfl v1 ?_
  refine w_aload_nS (Ev.cm _) rfl rfl ?_
  refine w_iload_n (Ev.cm _) rfl rfl ?_
  refine w_iconst (Ev.cm _) rfl ?_
  refine w_iadd (Ev.cm _) rfl ?_
  refine w_sald (Ev.cm _) rfl v2 ?_
  refine w_cvirt (o := 331) (as := [.int (scr X x3 1), .int (scr X x3 2)]) (st := [.int r]) (Ev.cm _) rfl rfl rfl (Nat.le_of_ble_eq_true rfl) (Nat.le_of_ble_eq_true rfl) rfl (Nat.le_of_ble_eq_true rfl) (eo_M_book (g := ?_) eM)
  show Wp _ _ _ _ _ _ _ 828 [(0, .float 0), (1, .ref 0), (2, .ref 331), (3, .int x3)] [.int r, .int r] (HS I2 L2 X)
  exact w_icmp_eq (Ev.cm _) rfl (fun _ => k) (fun c => absurd rfl c)
set_option maxHeartbeats 20000000 in
set_option maxRecDepth 20000 in
theorem lw_17 {fu : Nat} {I I1 I2 : Nat → Nat → Int32} {L L1 L2 : Nat → Nat → Int64} {X : Nat × (Nat → Int32)} {x3 : Int32} {r : Int32} {al : Nat × Nat} {n0 s0 : Nat} {Q : PQ} (v1 : vp_in (x3 + 1) X.1) (v2 : vp_in (x3 + 2) X.1) (v3 : vp_in (x3 + 3) X.1) (v4 : vp_in (x3 + 4) X.1) (v5 : vp_in (x3 + 5) X.1) (eX : FO_X_foretold fu (scr X x3 1) (scr X x3 2) (scr X x3 3) I L = some (r, I1, L1)) (eM : FO_M_foretold fu (scr X x3 1) (scr X x3 2) (scr X x3 3) I1 L1 = some (r, I2, L2)) (k : Wp (Ev 200) cd_L_law al (some .boolean) n0 s0 Q 1955 [(0, .float 0), (1, .ref 0), (2, .ref 331), (3, .int x3)] [] (HS I2 L2 X)) : Wp (Ev 200) cd_L_law al (some .boolean) n0 s0 Q 833 [(0, .float 0), (1, .ref 0), (2, .ref 331), (3, .int x3)] [] (HS I L X) := by
  refine w_aload_n (Ev.cm _) rfl rfl ?_
  refine w_aload_nS (Ev.cm _) rfl rfl ?_
  refine w_iload_n (Ev.cm _) rfl rfl ?_
  refine w_iconst (Ev.cm _) rfl ?_
  refine w_iadd (Ev.cm _) rfl ?_
  refine w_sald (Ev.cm _) rfl v1 ?_
  refine w_aload_nS (Ev.cm _) rfl rfl ?_
  refine w_iload_n (Ev.cm _) rfl rfl ?_
  refine w_iconst (Ev.cm _) rfl ?_
  refine w_iadd (Ev.cm _) rfl ?_
  refine w_sald (Ev.cm _) rfl v2 ?_
  refine w_aload_nS (Ev.cm _) rfl rfl ?_
  refine w_iload_n (Ev.cm _) rfl rfl ?_
  refine w_iconst (Ev.cm _) rfl ?_
  refine w_iadd (Ev.cm _) rfl ?_
  refine w_sald (Ev.cm _) rfl v3 ?_
  refine w_cvirt (o := 0) (as := [.int (scr X x3 1), .int (scr X x3 2), .int (scr X x3 3)]) (st := []) (Ev.cm _) rfl rfl rfl (Nat.le_of_ble_eq_true rfl) (Nat.le_of_ble_eq_true rfl) rfl (Nat.le_of_ble_eq_true rfl) (eo_X_foretold (g := ?_) eX)
  show Wp _ _ _ _ _ _ _ 852 [(0, .float 0), (1, .ref 0), (2, .ref 331), (3, .int x3)] [.int r] (HS I1 L1 X)
  refine w_aload_n (Ev.cm _) rfl rfl ?_
  refine w_aload_nS (Ev.cm _) rfl rfl ?_
  refine w_iload_n (Ev.cm _) rfl rfl ?_
  refine w_iconst (Ev.cm _) rfl ?_
  refine w_iadd (Ev.cm _) rfl ?_
  refine w_sald (Ev.cm _) rfl v1 ?_
  refine w_aload_nS (Ev.cm _) rfl rfl ?_
  refine w_iload_n (Ev.cm _) rfl rfl ?_
  refine w_iconst (Ev.cm _) rfl ?_
  refine w_iadd (Ev.cm _) rfl ?_
  refine w_sald (Ev.cm _) rfl v2 ?_
  refine w_aload_nS (Ev.cm _) rfl rfl ?_
  refine w_iload_n (Ev.cm _) rfl rfl ?_
  refine w_iconst (Ev.cm _) rfl ?_
  refine w_iadd (Ev.cm _) rfl ?_
  refine w_sald (Ev.cm _) rfl v3 ?_
  refine w_cvirt (o := 331) (as := [.int (scr X x3 1), .int (scr X x3 2), .int (scr X x3 3)]) (st := [.int r]) (Ev.cm _) rfl rfl rfl (Nat.le_of_ble_eq_true rfl) (Nat.le_of_ble_eq_true rfl) rfl (Nat.le_of_ble_eq_true rfl) (eo_M_foretold (g := ?_) eM)
  show Wp _ _ _ _ _ _ _ 871 [(0, .float 0), (1, .ref 0), (2, .ref 331), (3, .int x3)] [.int r, .int r] (HS I2 L2 X)
  exact w_icmp_eq (Ev.cm _) rfl (fun _ => k) (fun c => absurd rfl c)
set_option maxHeartbeats 20000000 in
set_option maxRecDepth 20000 in
theorem lw_18 {fu : Nat} {I I1 I2 : Nat → Nat → Int32} {L L1 L2 : Nat → Nat → Int64} {X : Nat × (Nat → Int32)} {x3 : Int32} {r : Int32} {al : Nat × Nat} {n0 s0 : Nat} {Q : PQ} (v1 : vp_in (x3 + 1) X.1) (v2 : vp_in (x3 + 2) X.1) (v3 : vp_in (x3 + 3) X.1) (v4 : vp_in (x3 + 4) X.1) (v5 : vp_in (x3 + 5) X.1) (eX : FO_X_quiet fu (scr X x3 1) (scr X x3 2) (scr X x3 3) (scr X x3 4) I L = some (r, I1, L1)) (eM : FO_M_quiet fu (scr X x3 1) (scr X x3 2) (scr X x3 3) (scr X x3 4) I1 L1 = some (r, I2, L2)) (k : Wp (Ev 200) cd_L_law al (some .boolean) n0 s0 Q 1955 [(0, .float 0), (1, .ref 0), (2, .ref 331), (3, .int x3)] [] (HS I2 L2 X)) : Wp (Ev 200) cd_L_law al (some .boolean) n0 s0 Q 876 [(0, .float 0), (1, .ref 0), (2, .ref 331), (3, .int x3)] [] (HS I L X) := by
  refine w_aload_n (Ev.cm _) rfl rfl ?_
  refine w_aload_nS (Ev.cm _) rfl rfl ?_
  refine w_iload_n (Ev.cm _) rfl rfl ?_
  refine w_iconst (Ev.cm _) rfl ?_
  refine w_iadd (Ev.cm _) rfl ?_
  refine w_sald (Ev.cm _) rfl v1 ?_
  refine w_aload_nS (Ev.cm _) rfl rfl ?_
  refine w_iload_n (Ev.cm _) rfl rfl ?_
  refine w_iconst (Ev.cm _) rfl ?_
  refine w_iadd (Ev.cm _) rfl ?_
  refine w_sald (Ev.cm _) rfl v2 ?_
  refine w_aload_nS (Ev.cm _) rfl rfl ?_
  refine w_iload_n (Ev.cm _) rfl rfl ?_
  refine w_iconst (Ev.cm _) rfl ?_
  refine w_iadd (Ev.cm _) rfl ?_
  refine w_sald (Ev.cm _) rfl v3 ?_
  refine w_aload_nS (Ev.cm _) rfl rfl ?_
  refine w_iload_n (Ev.cm _) rfl rfl ?_
  refine w_iconst (Ev.cm _) rfl ?_
  refine w_iadd (Ev.cm _) rfl ?_
  refine w_sald (Ev.cm _) rfl v4 ?_
  refine w_cvirt (o := 0) (as := [.int (scr X x3 1), .int (scr X x3 2), .int (scr X x3 3), .int (scr X x3 4)]) (st := []) (Ev.cm _) rfl rfl rfl (Nat.le_of_ble_eq_true rfl) (Nat.le_of_ble_eq_true rfl) rfl (Nat.le_of_ble_eq_true rfl) (eo_X_quiet (g := ?_) eX)
  show Wp _ _ _ _ _ _ _ 900 [(0, .float 0), (1, .ref 0), (2, .ref 331), (3, .int x3)] [.int r] (HS I1 L1 X)
  refine w_aload_n (Ev.cm _) rfl rfl ?_
  refine w_aload_nS (Ev.cm _) rfl rfl ?_
  refine w_iload_n (Ev.cm _) rfl rfl ?_
  refine w_iconst (Ev.cm _) rfl ?_
  refine w_iadd (Ev.cm _) rfl ?_
  refine w_sald (Ev.cm _) rfl v1 ?_
  refine w_aload_nS (Ev.cm _) rfl rfl ?_
  refine w_iload_n (Ev.cm _) rfl rfl ?_
  refine w_iconst (Ev.cm _) rfl ?_
  refine w_iadd (Ev.cm _) rfl ?_
  refine w_sald (Ev.cm _) rfl v2 ?_
  refine w_aload_nS (Ev.cm _) rfl rfl ?_
  refine w_iload_n (Ev.cm _) rfl rfl ?_
  refine w_iconst (Ev.cm _) rfl ?_
  refine w_iadd (Ev.cm _) rfl ?_
  refine w_sald (Ev.cm _) rfl v3 ?_
  refine w_aload_nS (Ev.cm _) rfl rfl ?_
  refine w_iload_n (Ev.cm _) rfl rfl ?_
  refine w_iconst (Ev.cm _) rfl ?_
  refine w_iadd (Ev.cm _) rfl ?_
  refine w_sald (Ev.cm _) rfl v4 ?_
  refine w_cvirt (o := 331) (as := [.int (scr X x3 1), .int (scr X x3 2), .int (scr X x3 3), .int (scr X x3 4)]) (st := [.int r]) (Ev.cm _) rfl rfl rfl (Nat.le_of_ble_eq_true rfl) (Nat.le_of_ble_eq_true rfl) rfl (Nat.le_of_ble_eq_true rfl) (eo_M_quiet (g := ?_) eM)
  show Wp _ _ _ _ _ _ _ 924 [(0, .float 0), (1, .ref 0), (2, .ref 331), (3, .int x3)] [.int r, .int r] (HS I2 L2 X)
  exact w_icmp_eq (Ev.cm _) rfl (fun _ => k) (fun c => absurd rfl c)
set_option maxHeartbeats 20000000 in
set_option maxRecDepth 20000 in
theorem lw_19 {fu : Nat} {I I1 I2 : Nat → Nat → Int32} {L L1 L2 : Nat → Nat → Int64} {X : Nat × (Nat → Int32)} {x3 : Int32} {r : Int64} {al : Nat × Nat} {n0 s0 : Nat} {Q : PQ} (v1 : vp_in (x3 + 1) X.1) (v2 : vp_in (x3 + 2) X.1) (v3 : vp_in (x3 + 3) X.1) (v4 : vp_in (x3 + 4) X.1) (v5 : vp_in (x3 + 5) X.1) (eX : FO_X_ways fu (scr X x3 1) (scr X x3 2) I L = some (r, I1, L1)) (eM : FO_M_ways fu (scr X x3 1) (scr X x3 2) I1 L1 = some (r, I2, L2)) (k : Wp (Ev 200) cd_L_law al (some .boolean) n0 s0 Q 1955 [(0, .float 0), (1, .ref 0), (2, .ref 331), (3, .int x3)] [] (HS I2 L2 X)) : Wp (Ev 200) cd_L_law al (some .boolean) n0 s0 Q 929 [(0, .float 0), (1, .ref 0), (2, .ref 331), (3, .int x3)] [] (HS I L X) := by
  refine w_aload_n (Ev.cm _) rfl rfl ?_
  refine w_aload_nS (Ev.cm _) rfl rfl ?_
  refine w_iload_n (Ev.cm _) rfl rfl ?_
  refine w_iconst (Ev.cm _) rfl ?_
  refine w_iadd (Ev.cm _) rfl ?_
  refine w_sald (Ev.cm _) rfl v1 ?_
  refine w_aload_nS (Ev.cm _) rfl rfl ?_
  refine w_iload_n (Ev.cm _) rfl rfl ?_
  refine w_iconst (Ev.cm _) rfl ?_
  refine w_iadd (Ev.cm _) rfl ?_
  refine w_sald (Ev.cm _) rfl v2 ?_
  refine w_cvirt (o := 0) (as := [.int (scr X x3 1), .int (scr X x3 2)]) (st := []) (Ev.cm _) rfl rfl rfl (Nat.le_of_ble_eq_true rfl) (Nat.le_of_ble_eq_true rfl) rfl (Nat.le_of_ble_eq_true rfl) (eo_X_ways (g := ?_) eX)
  show Wp _ _ _ _ _ _ _ 943 [(0, .float 0), (1, .ref 0), (2, .ref 331), (3, .int x3)] [.long r] (HS I1 L1 X)
  refine w_aload_n (Ev.cm _) rfl rfl ?_
  refine w_aload_nS (Ev.cm _) rfl rfl ?_
  refine w_iload_n (Ev.cm _) rfl rfl ?_
  refine w_iconst (Ev.cm _) rfl ?_
  refine w_iadd (Ev.cm _) rfl ?_
  refine w_sald (Ev.cm _) rfl v1 ?_
  refine w_aload_nS (Ev.cm _) rfl rfl ?_
  refine w_iload_n (Ev.cm _) rfl rfl ?_
  refine w_iconst (Ev.cm _) rfl ?_
  refine w_iadd (Ev.cm _) rfl ?_
  refine w_sald (Ev.cm _) rfl v2 ?_
  refine w_cvirt (o := 331) (as := [.int (scr X x3 1), .int (scr X x3 2)]) (st := [.long r]) (Ev.cm _) rfl rfl rfl (Nat.le_of_ble_eq_true rfl) (Nat.le_of_ble_eq_true rfl) rfl (Nat.le_of_ble_eq_true rfl) (eo_M_ways (g := ?_) eM)
  show Wp _ _ _ _ _ _ _ 957 [(0, .float 0), (1, .ref 0), (2, .ref 331), (3, .int x3)] [.long r, .long r] (HS I2 L2 X)
  refine w_lcmp (Ev.cm _) rfl ?_
  rw [lg_self]
  exact w_if_eq (Ev.cm _) rfl (fun _ => k) (fun c => absurd rfl c)
set_option maxHeartbeats 20000000 in
set_option maxRecDepth 20000 in
theorem lw_20 {fu : Nat} {I I1 I2 : Nat → Nat → Int32} {L L1 L2 : Nat → Nat → Int64} {X : Nat × (Nat → Int32)} {x3 : Int32} {r : Int64} {al : Nat × Nat} {n0 s0 : Nat} {Q : PQ} (v1 : vp_in (x3 + 1) X.1) (v2 : vp_in (x3 + 2) X.1) (v3 : vp_in (x3 + 3) X.1) (v4 : vp_in (x3 + 4) X.1) (v5 : vp_in (x3 + 5) X.1) (eX : FO_X_unheard fu (scr X x3 1) (scr X x3 2) (scr X x3 3) I L = some (r, I1, L1)) (eM : FO_M_unheard fu (scr X x3 1) (scr X x3 2) (scr X x3 3) I1 L1 = some (r, I2, L2)) (k : Wp (Ev 200) cd_L_law al (some .boolean) n0 s0 Q 1955 [(0, .float 0), (1, .ref 0), (2, .ref 331), (3, .int x3)] [] (HS I2 L2 X)) : Wp (Ev 200) cd_L_law al (some .boolean) n0 s0 Q 963 [(0, .float 0), (1, .ref 0), (2, .ref 331), (3, .int x3)] [] (HS I L X) := by
  refine w_aload_n (Ev.cm _) rfl rfl ?_
  refine w_aload_nS (Ev.cm _) rfl rfl ?_
  refine w_iload_n (Ev.cm _) rfl rfl ?_
  refine w_iconst (Ev.cm _) rfl ?_
  refine w_iadd (Ev.cm _) rfl ?_
  refine w_sald (Ev.cm _) rfl v1 ?_
  refine w_aload_nS (Ev.cm _) rfl rfl ?_
  refine w_iload_n (Ev.cm _) rfl rfl ?_
  refine w_iconst (Ev.cm _) rfl ?_
  refine w_iadd (Ev.cm _) rfl ?_
  refine w_sald (Ev.cm _) rfl v2 ?_
  refine w_aload_nS (Ev.cm _) rfl rfl ?_
  refine w_iload_n (Ev.cm _) rfl rfl ?_
  refine w_iconst (Ev.cm _) rfl ?_
  refine w_iadd (Ev.cm _) rfl ?_
  refine w_sald (Ev.cm _) rfl v3 ?_
  refine w_cvirt (o := 0) (as := [.int (scr X x3 1), .int (scr X x3 2), .int (scr X x3 3)]) (st := []) (Ev.cm _) rfl rfl rfl (Nat.le_of_ble_eq_true rfl) (Nat.le_of_ble_eq_true rfl) rfl (Nat.le_of_ble_eq_true rfl) (eo_X_unheard (g := ?_) eX)
  show Wp _ _ _ _ _ _ _ 982 [(0, .float 0), (1, .ref 0), (2, .ref 331), (3, .int x3)] [.long r] (HS I1 L1 X)
  refine w_aload_n (Ev.cm _) rfl rfl ?_
  refine w_aload_nS (Ev.cm _) rfl rfl ?_
  refine w_iload_n (Ev.cm _) rfl rfl ?_
  refine w_iconst (Ev.cm _) rfl ?_
  refine w_iadd (Ev.cm _) rfl ?_
  refine w_sald (Ev.cm _) rfl v1 ?_
  refine w_aload_nS (Ev.cm _) rfl rfl ?_
  refine w_iload_n (Ev.cm _) rfl rfl ?_
  refine w_iconst (Ev.cm _) rfl ?_
  refine w_iadd (Ev.cm _) rfl ?_
  refine w_sald (Ev.cm _) rfl v2 ?_
  refine w_aload_nS (Ev.cm _) rfl rfl ?_
  refine w_iload_n (Ev.cm _) rfl rfl ?_
  refine w_iconst (Ev.cm _) rfl ?_
  refine w_iadd (Ev.cm _) rfl ?_
  refine w_sald (Ev.cm _) rfl v3 ?_
  refine w_cvirt (o := 331) (as := [.int (scr X x3 1), .int (scr X x3 2), .int (scr X x3 3)]) (st := [.long r]) (Ev.cm _) rfl rfl rfl (Nat.le_of_ble_eq_true rfl) (Nat.le_of_ble_eq_true rfl) rfl (Nat.le_of_ble_eq_true rfl) (eo_M_unheard (g := ?_) eM)
  show Wp _ _ _ _ _ _ _ 1001 [(0, .float 0), (1, .ref 0), (2, .ref 331), (3, .int x3)] [.long r, .long r] (HS I2 L2 X)
  refine w_lcmp (Ev.cm _) rfl ?_
  rw [lg_self]
  exact w_if_eq (Ev.cm _) rfl (fun _ => k) (fun c => absurd rfl c)
set_option maxHeartbeats 20000000 in
set_option maxRecDepth 20000 in
theorem lw_21 {fu : Nat} {I I1 I2 : Nat → Nat → Int32} {L L1 L2 : Nat → Nat → Int64} {X : Nat × (Nat → Int32)} {x3 : Int32} {r : Int64} {al : Nat × Nat} {n0 s0 : Nat} {Q : PQ} (v1 : vp_in (x3 + 1) X.1) (v2 : vp_in (x3 + 2) X.1) (v3 : vp_in (x3 + 3) X.1) (v4 : vp_in (x3 + 4) X.1) (v5 : vp_in (x3 + 5) X.1) (eX : FO_X_waysBy fu (scr X x3 1) (scr X x3 2) (scr X x3 3) I L = some (r, I1, L1)) (eM : FO_M_waysBy fu (scr X x3 1) (scr X x3 2) (scr X x3 3) I1 L1 = some (r, I2, L2)) (k : Wp (Ev 200) cd_L_law al (some .boolean) n0 s0 Q 1955 [(0, .float 0), (1, .ref 0), (2, .ref 331), (3, .int x3)] [] (HS I2 L2 X)) : Wp (Ev 200) cd_L_law al (some .boolean) n0 s0 Q 1007 [(0, .float 0), (1, .ref 0), (2, .ref 331), (3, .int x3)] [] (HS I L X) := by
  refine w_aload_n (Ev.cm _) rfl rfl ?_
  refine w_aload_nS (Ev.cm _) rfl rfl ?_
  refine w_iload_n (Ev.cm _) rfl rfl ?_
  refine w_iconst (Ev.cm _) rfl ?_
  refine w_iadd (Ev.cm _) rfl ?_
  refine w_sald (Ev.cm _) rfl v1 ?_
  refine w_aload_nS (Ev.cm _) rfl rfl ?_
  refine w_iload_n (Ev.cm _) rfl rfl ?_
  refine w_iconst (Ev.cm _) rfl ?_
  refine w_iadd (Ev.cm _) rfl ?_
  refine w_sald (Ev.cm _) rfl v2 ?_
  refine w_aload_nS (Ev.cm _) rfl rfl ?_
  refine w_iload_n (Ev.cm _) rfl rfl ?_
  refine w_iconst (Ev.cm _) rfl ?_
  refine w_iadd (Ev.cm _) rfl ?_
  refine w_sald (Ev.cm _) rfl v3 ?_
  refine w_cvirt (o := 0) (as := [.int (scr X x3 1), .int (scr X x3 2), .int (scr X x3 3)]) (st := []) (Ev.cm _) rfl rfl rfl (Nat.le_of_ble_eq_true rfl) (Nat.le_of_ble_eq_true rfl) rfl (Nat.le_of_ble_eq_true rfl) (eo_X_waysBy (g := ?_) eX)
  show Wp _ _ _ _ _ _ _ 1026 [(0, .float 0), (1, .ref 0), (2, .ref 331), (3, .int x3)] [.long r] (HS I1 L1 X)
  refine w_aload_n (Ev.cm _) rfl rfl ?_
  refine w_aload_nS (Ev.cm _) rfl rfl ?_
  refine w_iload_n (Ev.cm _) rfl rfl ?_
  refine w_iconst (Ev.cm _) rfl ?_
  refine w_iadd (Ev.cm _) rfl ?_
  refine w_sald (Ev.cm _) rfl v1 ?_
  refine w_aload_nS (Ev.cm _) rfl rfl ?_
  refine w_iload_n (Ev.cm _) rfl rfl ?_
  refine w_iconst (Ev.cm _) rfl ?_
  refine w_iadd (Ev.cm _) rfl ?_
  refine w_sald (Ev.cm _) rfl v2 ?_
  refine w_aload_nS (Ev.cm _) rfl rfl ?_
  refine w_iload_n (Ev.cm _) rfl rfl ?_
  refine w_iconst (Ev.cm _) rfl ?_
  refine w_iadd (Ev.cm _) rfl ?_
  refine w_sald (Ev.cm _) rfl v3 ?_
  refine w_cvirt (o := 331) (as := [.int (scr X x3 1), .int (scr X x3 2), .int (scr X x3 3)]) (st := [.long r]) (Ev.cm _) rfl rfl rfl (Nat.le_of_ble_eq_true rfl) (Nat.le_of_ble_eq_true rfl) rfl (Nat.le_of_ble_eq_true rfl) (eo_M_waysBy (g := ?_) eM)
  show Wp _ _ _ _ _ _ _ 1045 [(0, .float 0), (1, .ref 0), (2, .ref 331), (3, .int x3)] [.long r, .long r] (HS I2 L2 X)
  refine w_lcmp (Ev.cm _) rfl ?_
  rw [lg_self]
  exact w_if_eq (Ev.cm _) rfl (fun _ => k) (fun c => absurd rfl c)
set_option maxHeartbeats 20000000 in
set_option maxRecDepth 20000 in
theorem lw_22 {fu : Nat} {I I1 I2 : Nat → Nat → Int32} {L L1 L2 : Nat → Nat → Int64} {X : Nat × (Nat → Int32)} {x3 : Int32} {r : Int32} {al : Nat × Nat} {n0 s0 : Nat} {Q : PQ} (v1 : vp_in (x3 + 1) X.1) (v2 : vp_in (x3 + 2) X.1) (v3 : vp_in (x3 + 3) X.1) (v4 : vp_in (x3 + 4) X.1) (v5 : vp_in (x3 + 5) X.1) (eX : FO_X_loudest fu (scr X x3 1) I L = some (r, I1, L1)) (eM : FO_M_loudest fu (scr X x3 1) I1 L1 = some (r, I2, L2)) (k : Wp (Ev 200) cd_L_law al (some .boolean) n0 s0 Q 1955 [(0, .float 0), (1, .ref 0), (2, .ref 331), (3, .int x3)] [] (HS I2 L2 X)) : Wp (Ev 200) cd_L_law al (some .boolean) n0 s0 Q 1051 [(0, .float 0), (1, .ref 0), (2, .ref 331), (3, .int x3)] [] (HS I L X) := by
  refine w_aload_n (Ev.cm _) rfl rfl ?_
  refine w_aload_nS (Ev.cm _) rfl rfl ?_
  refine w_iload_n (Ev.cm _) rfl rfl ?_
  refine w_iconst (Ev.cm _) rfl ?_
  refine w_iadd (Ev.cm _) rfl ?_
  refine w_sald (Ev.cm _) rfl v1 ?_
  refine w_cvirt (o := 0) (as := [.int (scr X x3 1)]) (st := []) (Ev.cm _) rfl rfl rfl (Nat.le_of_ble_eq_true rfl) (Nat.le_of_ble_eq_true rfl) rfl (Nat.le_of_ble_eq_true rfl) (eo_X_loudest (g := ?_) eX)
  show Wp _ _ _ _ _ _ _ 1060 [(0, .float 0), (1, .ref 0), (2, .ref 331), (3, .int x3)] [.int r] (HS I1 L1 X)
  refine w_aload_n (Ev.cm _) rfl rfl ?_
  refine w_aload_nS (Ev.cm _) rfl rfl ?_
  refine w_iload_n (Ev.cm _) rfl rfl ?_
  refine w_iconst (Ev.cm _) rfl ?_
  refine w_iadd (Ev.cm _) rfl ?_
  refine w_sald (Ev.cm _) rfl v1 ?_
  refine w_cvirt (o := 331) (as := [.int (scr X x3 1)]) (st := [.int r]) (Ev.cm _) rfl rfl rfl (Nat.le_of_ble_eq_true rfl) (Nat.le_of_ble_eq_true rfl) rfl (Nat.le_of_ble_eq_true rfl) (eo_M_loudest (g := ?_) eM)
  show Wp _ _ _ _ _ _ _ 1069 [(0, .float 0), (1, .ref 0), (2, .ref 331), (3, .int x3)] [.int r, .int r] (HS I2 L2 X)
  exact w_icmp_eq (Ev.cm _) rfl (fun _ => k) (fun c => absurd rfl c)
set_option maxHeartbeats 20000000 in
set_option maxRecDepth 20000 in
theorem lw_23 {fu : Nat} {I I1 I2 : Nat → Nat → Int32} {L L1 L2 : Nat → Nat → Int64} {X : Nat × (Nat → Int32)} {x3 bv : Int32} {r : Int32} {al : Nat × Nat} {n0 s0 : Nat} {Q : PQ} (v1 : vp_in (x3 + 1) X.1) (v2 : vp_in (x3 + 2) X.1) (v3 : vp_in (x3 + 3) X.1) (v4 : vp_in (x3 + 4) X.1) (v5 : vp_in (x3 + 5) X.1) (hb : ((scr X x3 2) = 0 ∧ bv = 0) ∨ (¬ (scr X x3 2) = 0 ∧ bv = 1)) (eX : FO_X_heardOn fu (scr X x3 1) bv I L = some (r, I1, L1)) (eM : FO_M_heardOn fu (scr X x3 1) bv I1 L1 = some (r, I2, L2)) (k : Wp (Ev 200) cd_L_law al (some .boolean) n0 s0 Q 1955 [(0, .float 0), (1, .ref 0), (2, .ref 331), (3, .int x3)] [] (HS I2 L2 X)) : Wp (Ev 200) cd_L_law al (some .boolean) n0 s0 Q 1074 [(0, .float 0), (1, .ref 0), (2, .ref 331), (3, .int x3)] [] (HS I L X) := by
  rcases hb with ⟨hb, hv⟩ | ⟨hb, hv⟩ <;> subst hv
  · refine w_aload_n (Ev.cm _) rfl rfl ?_
    refine w_aload_nS (Ev.cm _) rfl rfl ?_
    refine w_iload_n (Ev.cm _) rfl rfl ?_
    refine w_iconst (Ev.cm _) rfl ?_
    refine w_iadd (Ev.cm _) rfl ?_
    refine w_sald (Ev.cm _) rfl v1 ?_
    refine w_aload_nS (Ev.cm _) rfl rfl ?_
    refine w_iload_n (Ev.cm _) rfl rfl ?_
    refine w_iconst (Ev.cm _) rfl ?_
    refine w_iadd (Ev.cm _) rfl ?_
    refine w_sald (Ev.cm _) rfl v2 ?_
    refine w_if_eq (Ev.cm _) rfl (fun _ => ?_) (fun c => absurd hb c)
    refine w_iconst (Ev.cm _) rfl ?_
    refine w_cvirt (o := 0) (as := [.int (scr X x3 1), .int 0]) (st := []) (Ev.cm _) rfl rfl rfl (Nat.le_of_ble_eq_true rfl) (Nat.le_of_ble_eq_true rfl) rfl (Nat.le_of_ble_eq_true rfl) (eo_X_heardOn (g := ?_) eX)
    show Wp _ _ _ _ _ _ _ 1096 [(0, .float 0), (1, .ref 0), (2, .ref 331), (3, .int x3)] [.int r] (HS I1 L1 X)
    refine w_aload_n (Ev.cm _) rfl rfl ?_
    refine w_aload_nS (Ev.cm _) rfl rfl ?_
    refine w_iload_n (Ev.cm _) rfl rfl ?_
    refine w_iconst (Ev.cm _) rfl ?_
    refine w_iadd (Ev.cm _) rfl ?_
    refine w_sald (Ev.cm _) rfl v1 ?_
    refine w_aload_nS (Ev.cm _) rfl rfl ?_
    refine w_iload_n (Ev.cm _) rfl rfl ?_
    refine w_iconst (Ev.cm _) rfl ?_
    refine w_iadd (Ev.cm _) rfl ?_
    refine w_sald (Ev.cm _) rfl v2 ?_
    refine w_if_eq (Ev.cm _) rfl (fun _ => ?_) (fun c => absurd hb c)
    refine w_iconst (Ev.cm _) rfl ?_
    refine w_cvirt (o := 331) (as := [.int (scr X x3 1), .int 0]) (st := [.int r]) (Ev.cm _) rfl rfl rfl (Nat.le_of_ble_eq_true rfl) (Nat.le_of_ble_eq_true rfl) rfl (Nat.le_of_ble_eq_true rfl) (eo_M_heardOn (g := ?_) eM)
    show Wp _ _ _ _ _ _ _ 1118 [(0, .float 0), (1, .ref 0), (2, .ref 331), (3, .int x3)] [.int r, .int r] (HS I2 L2 X)
    exact w_icmp_eq (Ev.cm _) rfl (fun _ => k) (fun c => absurd rfl c)
  · refine w_aload_n (Ev.cm _) rfl rfl ?_
    refine w_aload_nS (Ev.cm _) rfl rfl ?_
    refine w_iload_n (Ev.cm _) rfl rfl ?_
    refine w_iconst (Ev.cm _) rfl ?_
    refine w_iadd (Ev.cm _) rfl ?_
    refine w_sald (Ev.cm _) rfl v1 ?_
    refine w_aload_nS (Ev.cm _) rfl rfl ?_
    refine w_iload_n (Ev.cm _) rfl rfl ?_
    refine w_iconst (Ev.cm _) rfl ?_
    refine w_iadd (Ev.cm _) rfl ?_
    refine w_sald (Ev.cm _) rfl v2 ?_
    refine w_if_eq (Ev.cm _) rfl (fun c => absurd c hb) (fun _ => ?_)
    refine w_iconst (Ev.cm _) rfl ?_
    refine w_goto (Ev.cm _) rfl ?_
    refine w_cvirt (o := 0) (as := [.int (scr X x3 1), .int 1]) (st := []) (Ev.cm _) rfl rfl rfl (Nat.le_of_ble_eq_true rfl) (Nat.le_of_ble_eq_true rfl) rfl (Nat.le_of_ble_eq_true rfl) (eo_X_heardOn (g := ?_) eX)
    show Wp _ _ _ _ _ _ _ 1096 [(0, .float 0), (1, .ref 0), (2, .ref 331), (3, .int x3)] [.int r] (HS I1 L1 X)
    refine w_aload_n (Ev.cm _) rfl rfl ?_
    refine w_aload_nS (Ev.cm _) rfl rfl ?_
    refine w_iload_n (Ev.cm _) rfl rfl ?_
    refine w_iconst (Ev.cm _) rfl ?_
    refine w_iadd (Ev.cm _) rfl ?_
    refine w_sald (Ev.cm _) rfl v1 ?_
    refine w_aload_nS (Ev.cm _) rfl rfl ?_
    refine w_iload_n (Ev.cm _) rfl rfl ?_
    refine w_iconst (Ev.cm _) rfl ?_
    refine w_iadd (Ev.cm _) rfl ?_
    refine w_sald (Ev.cm _) rfl v2 ?_
    refine w_if_eq (Ev.cm _) rfl (fun c => absurd c hb) (fun _ => ?_)
    refine w_iconst (Ev.cm _) rfl ?_
    refine w_goto (Ev.cm _) rfl ?_
    refine w_cvirt (o := 331) (as := [.int (scr X x3 1), .int 1]) (st := [.int r]) (Ev.cm _) rfl rfl rfl (Nat.le_of_ble_eq_true rfl) (Nat.le_of_ble_eq_true rfl) rfl (Nat.le_of_ble_eq_true rfl) (eo_M_heardOn (g := ?_) eM)
    show Wp _ _ _ _ _ _ _ 1118 [(0, .float 0), (1, .ref 0), (2, .ref 331), (3, .int x3)] [.int r, .int r] (HS I2 L2 X)
    exact w_icmp_eq (Ev.cm _) rfl (fun _ => k) (fun c => absurd rfl c)
set_option maxHeartbeats 20000000 in
set_option maxRecDepth 20000 in
theorem lw_24 {fu : Nat} {I I1 I2 : Nat → Nat → Int32} {L L1 L2 : Nat → Nat → Int64} {X : Nat × (Nat → Int32)} {x3 : Int32} {r : Int32} {al : Nat × Nat} {n0 s0 : Nat} {Q : PQ} (v1 : vp_in (x3 + 1) X.1) (v2 : vp_in (x3 + 2) X.1) (v3 : vp_in (x3 + 3) X.1) (v4 : vp_in (x3 + 4) X.1) (v5 : vp_in (x3 + 5) X.1) (eX : FO_X_cupRow fu  I L = some (r, I1, L1)) (eM : FO_M_cupRow fu  I1 L1 = some (r, I2, L2)) (k : Wp (Ev 200) cd_L_law al (some .boolean) n0 s0 Q 1955 [(0, .float 0), (1, .ref 0), (2, .ref 331), (3, .int x3)] [] (HS I2 L2 X)) : Wp (Ev 200) cd_L_law al (some .boolean) n0 s0 Q 1123 [(0, .float 0), (1, .ref 0), (2, .ref 331), (3, .int x3)] [] (HS I L X) := by
  refine w_aload_n (Ev.cm _) rfl rfl ?_
  refine w_cvirt (o := 0) (as := []) (st := []) (Ev.cm _) rfl rfl rfl (Nat.le_of_ble_eq_true rfl) (Nat.le_of_ble_eq_true rfl) rfl (Nat.le_of_ble_eq_true rfl) (eo_X_cupRow (g := ?_) eX)
  show Wp _ _ _ _ _ _ _ 1127 [(0, .float 0), (1, .ref 0), (2, .ref 331), (3, .int x3)] [.int r] (HS I1 L1 X)
  refine w_aload_n (Ev.cm _) rfl rfl ?_
  refine w_cvirt (o := 331) (as := []) (st := [.int r]) (Ev.cm _) rfl rfl rfl (Nat.le_of_ble_eq_true rfl) (Nat.le_of_ble_eq_true rfl) rfl (Nat.le_of_ble_eq_true rfl) (eo_M_cupRow (g := ?_) eM)
  show Wp _ _ _ _ _ _ _ 1131 [(0, .float 0), (1, .ref 0), (2, .ref 331), (3, .int x3)] [.int r, .int r] (HS I2 L2 X)
  exact w_icmp_eq (Ev.cm _) rfl (fun _ => k) (fun c => absurd rfl c)
set_option maxHeartbeats 20000000 in
set_option maxRecDepth 20000 in
theorem lw_25 {fu : Nat} {I I1 I2 : Nat → Nat → Int32} {L L1 L2 : Nat → Nat → Int64} {X : Nat × (Nat → Int32)} {x3 : Int32} {r : Int32} {al : Nat × Nat} {n0 s0 : Nat} {Q : PQ} (v1 : vp_in (x3 + 1) X.1) (v2 : vp_in (x3 + 2) X.1) (v3 : vp_in (x3 + 3) X.1) (v4 : vp_in (x3 + 4) X.1) (v5 : vp_in (x3 + 5) X.1) (eX : FO_X_change fu (scr X x3 1) (scr X x3 2) (scr X x3 3) I L = some (r, I1, L1)) (eM : FO_M_change fu (scr X x3 1) (scr X x3 2) (scr X x3 3) I1 L1 = some (r, I2, L2)) (k : Wp (Ev 200) cd_L_law al (some .boolean) n0 s0 Q 1955 [(0, .float 0), (1, .ref 0), (2, .ref 331), (3, .int x3)] [] (HS I2 L2 X)) : Wp (Ev 200) cd_L_law al (some .boolean) n0 s0 Q 1136 [(0, .float 0), (1, .ref 0), (2, .ref 331), (3, .int x3)] [] (HS I L X) := by
  refine w_aload_n (Ev.cm _) rfl rfl ?_
  refine w_aload_nS (Ev.cm _) rfl rfl ?_
  refine w_iload_n (Ev.cm _) rfl rfl ?_
  refine w_iconst (Ev.cm _) rfl ?_
  refine w_iadd (Ev.cm _) rfl ?_
  refine w_sald (Ev.cm _) rfl v1 ?_
  refine w_aload_nS (Ev.cm _) rfl rfl ?_
  refine w_iload_n (Ev.cm _) rfl rfl ?_
  refine w_iconst (Ev.cm _) rfl ?_
  refine w_iadd (Ev.cm _) rfl ?_
  refine w_sald (Ev.cm _) rfl v2 ?_
  refine w_aload_nS (Ev.cm _) rfl rfl ?_
  refine w_iload_n (Ev.cm _) rfl rfl ?_
  refine w_iconst (Ev.cm _) rfl ?_
  refine w_iadd (Ev.cm _) rfl ?_
  refine w_sald (Ev.cm _) rfl v3 ?_
  refine w_cvirt (o := 0) (as := [.int (scr X x3 1), .int (scr X x3 2), .int (scr X x3 3)]) (st := []) (Ev.cm _) rfl rfl rfl (Nat.le_of_ble_eq_true rfl) (Nat.le_of_ble_eq_true rfl) rfl (Nat.le_of_ble_eq_true rfl) (eo_X_change (g := ?_) eX)
  show Wp _ _ _ _ _ _ _ 1155 [(0, .float 0), (1, .ref 0), (2, .ref 331), (3, .int x3)] [.int r] (HS I1 L1 X)
  refine w_aload_n (Ev.cm _) rfl rfl ?_
  refine w_aload_nS (Ev.cm _) rfl rfl ?_
  refine w_iload_n (Ev.cm _) rfl rfl ?_
  refine w_iconst (Ev.cm _) rfl ?_
  refine w_iadd (Ev.cm _) rfl ?_
  refine w_sald (Ev.cm _) rfl v1 ?_
  refine w_aload_nS (Ev.cm _) rfl rfl ?_
  refine w_iload_n (Ev.cm _) rfl rfl ?_
  refine w_iconst (Ev.cm _) rfl ?_
  refine w_iadd (Ev.cm _) rfl ?_
  refine w_sald (Ev.cm _) rfl v2 ?_
  refine w_aload_nS (Ev.cm _) rfl rfl ?_
  refine w_iload_n (Ev.cm _) rfl rfl ?_
  refine w_iconst (Ev.cm _) rfl ?_
  refine w_iadd (Ev.cm _) rfl ?_
  refine w_sald (Ev.cm _) rfl v3 ?_
  refine w_cvirt (o := 331) (as := [.int (scr X x3 1), .int (scr X x3 2), .int (scr X x3 3)]) (st := [.int r]) (Ev.cm _) rfl rfl rfl (Nat.le_of_ble_eq_true rfl) (Nat.le_of_ble_eq_true rfl) rfl (Nat.le_of_ble_eq_true rfl) (eo_M_change (g := ?_) eM)
  show Wp _ _ _ _ _ _ _ 1174 [(0, .float 0), (1, .ref 0), (2, .ref 331), (3, .int x3)] [.int r, .int r] (HS I2 L2 X)
  exact w_icmp_eq (Ev.cm _) rfl (fun _ => k) (fun c => absurd rfl c)
set_option maxHeartbeats 20000000 in
set_option maxRecDepth 20000 in
theorem lw_26 {fu : Nat} {I I1 I2 : Nat → Nat → Int32} {L L1 L2 : Nat → Nat → Int64} {X : Nat × (Nat → Int32)} {x3 : Int32} {r : Int32} {al : Nat × Nat} {n0 s0 : Nat} {Q : PQ} (v1 : vp_in (x3 + 1) X.1) (v2 : vp_in (x3 + 2) X.1) (v3 : vp_in (x3 + 3) X.1) (v4 : vp_in (x3 + 4) X.1) (v5 : vp_in (x3 + 5) X.1) (eX : FO_X_sound fu (scr X x3 1) (scr X x3 2) (scr X x3 3) I L = some (r, I1, L1)) (eM : FO_M_sound fu (scr X x3 1) (scr X x3 2) (scr X x3 3) I1 L1 = some (r, I2, L2)) (k : Wp (Ev 200) cd_L_law al (some .boolean) n0 s0 Q 1955 [(0, .float 0), (1, .ref 0), (2, .ref 331), (3, .int x3)] [] (HS I2 L2 X)) : Wp (Ev 200) cd_L_law al (some .boolean) n0 s0 Q 1179 [(0, .float 0), (1, .ref 0), (2, .ref 331), (3, .int x3)] [] (HS I L X) := by
  refine w_aload_n (Ev.cm _) rfl rfl ?_
  refine w_aload_nS (Ev.cm _) rfl rfl ?_
  refine w_iload_n (Ev.cm _) rfl rfl ?_
  refine w_iconst (Ev.cm _) rfl ?_
  refine w_iadd (Ev.cm _) rfl ?_
  refine w_sald (Ev.cm _) rfl v1 ?_
  refine w_aload_nS (Ev.cm _) rfl rfl ?_
  refine w_iload_n (Ev.cm _) rfl rfl ?_
  refine w_iconst (Ev.cm _) rfl ?_
  refine w_iadd (Ev.cm _) rfl ?_
  refine w_sald (Ev.cm _) rfl v2 ?_
  refine w_aload_nS (Ev.cm _) rfl rfl ?_
  refine w_iload_n (Ev.cm _) rfl rfl ?_
  refine w_iconst (Ev.cm _) rfl ?_
  refine w_iadd (Ev.cm _) rfl ?_
  refine w_sald (Ev.cm _) rfl v3 ?_
  refine w_cvirt (o := 0) (as := [.int (scr X x3 1), .int (scr X x3 2), .int (scr X x3 3)]) (st := []) (Ev.cm _) rfl rfl rfl (Nat.le_of_ble_eq_true rfl) (Nat.le_of_ble_eq_true rfl) rfl (Nat.le_of_ble_eq_true rfl) (eo_X_sound (g := ?_) eX)
  show Wp _ _ _ _ _ _ _ 1198 [(0, .float 0), (1, .ref 0), (2, .ref 331), (3, .int x3)] [.int r] (HS I1 L1 X)
  refine w_aload_n (Ev.cm _) rfl rfl ?_
  refine w_aload_nS (Ev.cm _) rfl rfl ?_
  refine w_iload_n (Ev.cm _) rfl rfl ?_
  refine w_iconst (Ev.cm _) rfl ?_
  refine w_iadd (Ev.cm _) rfl ?_
  refine w_sald (Ev.cm _) rfl v1 ?_
  refine w_aload_nS (Ev.cm _) rfl rfl ?_
  refine w_iload_n (Ev.cm _) rfl rfl ?_
  refine w_iconst (Ev.cm _) rfl ?_
  refine w_iadd (Ev.cm _) rfl ?_
  refine w_sald (Ev.cm _) rfl v2 ?_
  refine w_aload_nS (Ev.cm _) rfl rfl ?_
  refine w_iload_n (Ev.cm _) rfl rfl ?_
  refine w_iconst (Ev.cm _) rfl ?_
  refine w_iadd (Ev.cm _) rfl ?_
  refine w_sald (Ev.cm _) rfl v3 ?_
  refine w_cvirt (o := 331) (as := [.int (scr X x3 1), .int (scr X x3 2), .int (scr X x3 3)]) (st := [.int r]) (Ev.cm _) rfl rfl rfl (Nat.le_of_ble_eq_true rfl) (Nat.le_of_ble_eq_true rfl) rfl (Nat.le_of_ble_eq_true rfl) (eo_M_sound (g := ?_) eM)
  show Wp _ _ _ _ _ _ _ 1217 [(0, .float 0), (1, .ref 0), (2, .ref 331), (3, .int x3)] [.int r, .int r] (HS I2 L2 X)
  exact w_icmp_eq (Ev.cm _) rfl (fun _ => k) (fun c => absurd rfl c)
set_option maxHeartbeats 20000000 in
set_option maxRecDepth 20000 in
theorem lw_27 {fu : Nat} {I I1 I2 : Nat → Nat → Int32} {L L1 L2 : Nat → Nat → Int64} {X : Nat × (Nat → Int32)} {x3 : Int32} {r : Int32} {al : Nat × Nat} {n0 s0 : Nat} {Q : PQ} (v1 : vp_in (x3 + 1) X.1) (v2 : vp_in (x3 + 2) X.1) (v3 : vp_in (x3 + 3) X.1) (v4 : vp_in (x3 + 4) X.1) (v5 : vp_in (x3 + 5) X.1) (eX : FO_X_listen fu (scr X x3 1) I L = some (r, I1, L1)) (eM : FO_M_listen fu (scr X x3 1) I1 L1 = some (r, I2, L2)) (k : Wp (Ev 200) cd_L_law al (some .boolean) n0 s0 Q 1955 [(0, .float 0), (1, .ref 0), (2, .ref 331), (3, .int x3)] [] (HS I2 L2 X)) : Wp (Ev 200) cd_L_law al (some .boolean) n0 s0 Q 1222 [(0, .float 0), (1, .ref 0), (2, .ref 331), (3, .int x3)] [] (HS I L X) := by
  refine w_aload_n (Ev.cm _) rfl rfl ?_
  refine w_aload_nS (Ev.cm _) rfl rfl ?_
  refine w_iload_n (Ev.cm _) rfl rfl ?_
  refine w_iconst (Ev.cm _) rfl ?_
  refine w_iadd (Ev.cm _) rfl ?_
  refine w_sald (Ev.cm _) rfl v1 ?_
  refine w_cvirt (o := 0) (as := [.int (scr X x3 1)]) (st := []) (Ev.cm _) rfl rfl rfl (Nat.le_of_ble_eq_true rfl) (Nat.le_of_ble_eq_true rfl) rfl (Nat.le_of_ble_eq_true rfl) (eo_X_listen (g := ?_) eX)
  show Wp _ _ _ _ _ _ _ 1231 [(0, .float 0), (1, .ref 0), (2, .ref 331), (3, .int x3)] [.int r] (HS I1 L1 X)
  refine w_aload_n (Ev.cm _) rfl rfl ?_
  refine w_aload_nS (Ev.cm _) rfl rfl ?_
  refine w_iload_n (Ev.cm _) rfl rfl ?_
  refine w_iconst (Ev.cm _) rfl ?_
  refine w_iadd (Ev.cm _) rfl ?_
  refine w_sald (Ev.cm _) rfl v1 ?_
  refine w_cvirt (o := 331) (as := [.int (scr X x3 1)]) (st := [.int r]) (Ev.cm _) rfl rfl rfl (Nat.le_of_ble_eq_true rfl) (Nat.le_of_ble_eq_true rfl) rfl (Nat.le_of_ble_eq_true rfl) (eo_M_listen (g := ?_) eM)
  show Wp _ _ _ _ _ _ _ 1240 [(0, .float 0), (1, .ref 0), (2, .ref 331), (3, .int x3)] [.int r, .int r] (HS I2 L2 X)
  exact w_icmp_eq (Ev.cm _) rfl (fun _ => k) (fun c => absurd rfl c)
set_option maxHeartbeats 20000000 in
set_option maxRecDepth 20000 in
theorem lw_28 {fu : Nat} {I I1 I2 : Nat → Nat → Int32} {L L1 L2 : Nat → Nat → Int64} {X : Nat × (Nat → Int32)} {x3 : Int32} {r : Int64} {al : Nat × Nat} {n0 s0 : Nat} {Q : PQ} (v1 : vp_in (x3 + 1) X.1) (v2 : vp_in (x3 + 2) X.1) (v3 : vp_in (x3 + 3) X.1) (v4 : vp_in (x3 + 4) X.1) (v5 : vp_in (x3 + 5) X.1) (eX : FO_X_weighed fu  I L = some (r, I1, L1)) (eM : FO_M_weighed fu  I1 L1 = some (r, I2, L2)) (k : Wp (Ev 200) cd_L_law al (some .boolean) n0 s0 Q 1955 [(0, .float 0), (1, .ref 0), (2, .ref 331), (3, .int x3)] [] (HS I2 L2 X)) : Wp (Ev 200) cd_L_law al (some .boolean) n0 s0 Q 1245 [(0, .float 0), (1, .ref 0), (2, .ref 331), (3, .int x3)] [] (HS I L X) := by
  refine w_aload_n (Ev.cm _) rfl rfl ?_
  refine w_cvirt (o := 0) (as := []) (st := []) (Ev.cm _) rfl rfl rfl (Nat.le_of_ble_eq_true rfl) (Nat.le_of_ble_eq_true rfl) rfl (Nat.le_of_ble_eq_true rfl) (eo_X_weighed (g := ?_) eX)
  show Wp _ _ _ _ _ _ _ 1249 [(0, .float 0), (1, .ref 0), (2, .ref 331), (3, .int x3)] [.long r] (HS I1 L1 X)
  refine w_aload_n (Ev.cm _) rfl rfl ?_
  refine w_cvirt (o := 331) (as := []) (st := [.long r]) (Ev.cm _) rfl rfl rfl (Nat.le_of_ble_eq_true rfl) (Nat.le_of_ble_eq_true rfl) rfl (Nat.le_of_ble_eq_true rfl) (eo_M_weighed (g := ?_) eM)
  show Wp _ _ _ _ _ _ _ 1253 [(0, .float 0), (1, .ref 0), (2, .ref 331), (3, .int x3)] [.long r, .long r] (HS I2 L2 X)
  refine w_lcmp (Ev.cm _) rfl ?_
  rw [lg_self]
  exact w_if_eq (Ev.cm _) rfl (fun _ => k) (fun c => absurd rfl c)
set_option maxHeartbeats 20000000 in
set_option maxRecDepth 20000 in
theorem lw_29 {fu : Nat} {I I1 I2 : Nat → Nat → Int32} {L L1 L2 : Nat → Nat → Int64} {X : Nat × (Nat → Int32)} {x3 bv : Int32} {r : Int64} {al : Nat × Nat} {n0 s0 : Nat} {Q : PQ} (v1 : vp_in (x3 + 1) X.1) (v2 : vp_in (x3 + 2) X.1) (v3 : vp_in (x3 + 3) X.1) (v4 : vp_in (x3 + 4) X.1) (v5 : vp_in (x3 + 5) X.1) (hb : ((scr X x3 3) = 0 ∧ bv = 0) ∨ (¬ (scr X x3 3) = 0 ∧ bv = 1)) (eX : FO_X_mood fu (scr X x3 1) (scr X x3 2) bv I L = some (r, I1, L1)) (eM : FO_M_mood fu (scr X x3 1) (scr X x3 2) bv I1 L1 = some (r, I2, L2)) (k : Wp (Ev 200) cd_L_law al (some .boolean) n0 s0 Q 1955 [(0, .float 0), (1, .ref 0), (2, .ref 331), (3, .int x3)] [] (HS I2 L2 X)) : Wp (Ev 200) cd_L_law al (some .boolean) n0 s0 Q 1259 [(0, .float 0), (1, .ref 0), (2, .ref 331), (3, .int x3)] [] (HS I L X) := by
  rcases hb with ⟨hb, hv⟩ | ⟨hb, hv⟩ <;> subst hv
  · refine w_aload_n (Ev.cm _) rfl rfl ?_
    refine w_aload_nS (Ev.cm _) rfl rfl ?_
    refine w_iload_n (Ev.cm _) rfl rfl ?_
    refine w_iconst (Ev.cm _) rfl ?_
    refine w_iadd (Ev.cm _) rfl ?_
    refine w_sald (Ev.cm _) rfl v1 ?_
    refine w_aload_nS (Ev.cm _) rfl rfl ?_
    refine w_iload_n (Ev.cm _) rfl rfl ?_
    refine w_iconst (Ev.cm _) rfl ?_
    refine w_iadd (Ev.cm _) rfl ?_
    refine w_sald (Ev.cm _) rfl v2 ?_
    refine w_aload_nS (Ev.cm _) rfl rfl ?_
    refine w_iload_n (Ev.cm _) rfl rfl ?_
    refine w_iconst (Ev.cm _) rfl ?_
    refine w_iadd (Ev.cm _) rfl ?_
    refine w_sald (Ev.cm _) rfl v3 ?_
    refine w_if_eq (Ev.cm _) rfl (fun _ => ?_) (fun c => absurd hb c)
    refine w_iconst (Ev.cm _) rfl ?_
    refine w_cvirt (o := 0) (as := [.int (scr X x3 1), .int (scr X x3 2), .int 0]) (st := []) (Ev.cm _) rfl rfl rfl (Nat.le_of_ble_eq_true rfl) (Nat.le_of_ble_eq_true rfl) rfl (Nat.le_of_ble_eq_true rfl) (eo_X_mood (g := ?_) eX)
    show Wp _ _ _ _ _ _ _ 1286 [(0, .float 0), (1, .ref 0), (2, .ref 331), (3, .int x3)] [.long r] (HS I1 L1 X)
    refine w_aload_n (Ev.cm _) rfl rfl ?_
    refine w_aload_nS (Ev.cm _) rfl rfl ?_
    refine w_iload_n (Ev.cm _) rfl rfl ?_
    refine w_iconst (Ev.cm _) rfl ?_
    refine w_iadd (Ev.cm _) rfl ?_
    refine w_sald (Ev.cm _) rfl v1 ?_
    refine w_aload_nS (Ev.cm _) rfl rfl ?_
    refine w_iload_n (Ev.cm _) rfl rfl ?_
    refine w_iconst (Ev.cm _) rfl ?_
    refine w_iadd (Ev.cm _) rfl ?_
    refine w_sald (Ev.cm _) rfl v2 ?_
    refine w_aload_nS (Ev.cm _) rfl rfl ?_
    refine w_iload_n (Ev.cm _) rfl rfl ?_
    refine w_iconst (Ev.cm _) rfl ?_
    refine w_iadd (Ev.cm _) rfl ?_
    refine w_sald (Ev.cm _) rfl v3 ?_
    refine w_if_eq (Ev.cm _) rfl (fun _ => ?_) (fun c => absurd hb c)
    refine w_iconst (Ev.cm _) rfl ?_
    refine w_cvirt (o := 331) (as := [.int (scr X x3 1), .int (scr X x3 2), .int 0]) (st := [.long r]) (Ev.cm _) rfl rfl rfl (Nat.le_of_ble_eq_true rfl) (Nat.le_of_ble_eq_true rfl) rfl (Nat.le_of_ble_eq_true rfl) (eo_M_mood (g := ?_) eM)
    show Wp _ _ _ _ _ _ _ 1313 [(0, .float 0), (1, .ref 0), (2, .ref 331), (3, .int x3)] [.long r, .long r] (HS I2 L2 X)
    refine w_lcmp (Ev.cm _) rfl ?_
    rw [lg_self]
    exact w_if_eq (Ev.cm _) rfl (fun _ => k) (fun c => absurd rfl c)
  · refine w_aload_n (Ev.cm _) rfl rfl ?_
    refine w_aload_nS (Ev.cm _) rfl rfl ?_
    refine w_iload_n (Ev.cm _) rfl rfl ?_
    refine w_iconst (Ev.cm _) rfl ?_
    refine w_iadd (Ev.cm _) rfl ?_
    refine w_sald (Ev.cm _) rfl v1 ?_
    refine w_aload_nS (Ev.cm _) rfl rfl ?_
    refine w_iload_n (Ev.cm _) rfl rfl ?_
    refine w_iconst (Ev.cm _) rfl ?_
    refine w_iadd (Ev.cm _) rfl ?_
    refine w_sald (Ev.cm _) rfl v2 ?_
    refine w_aload_nS (Ev.cm _) rfl rfl ?_
    refine w_iload_n (Ev.cm _) rfl rfl ?_
    refine w_iconst (Ev.cm _) rfl ?_
    refine w_iadd (Ev.cm _) rfl ?_
    refine w_sald (Ev.cm _) rfl v3 ?_
    refine w_if_eq (Ev.cm _) rfl (fun c => absurd c hb) (fun _ => ?_)
    refine w_iconst (Ev.cm _) rfl ?_
    refine w_goto (Ev.cm _) rfl ?_
    refine w_cvirt (o := 0) (as := [.int (scr X x3 1), .int (scr X x3 2), .int 1]) (st := []) (Ev.cm _) rfl rfl rfl (Nat.le_of_ble_eq_true rfl) (Nat.le_of_ble_eq_true rfl) rfl (Nat.le_of_ble_eq_true rfl) (eo_X_mood (g := ?_) eX)
    show Wp _ _ _ _ _ _ _ 1286 [(0, .float 0), (1, .ref 0), (2, .ref 331), (3, .int x3)] [.long r] (HS I1 L1 X)
    refine w_aload_n (Ev.cm _) rfl rfl ?_
    refine w_aload_nS (Ev.cm _) rfl rfl ?_
    refine w_iload_n (Ev.cm _) rfl rfl ?_
    refine w_iconst (Ev.cm _) rfl ?_
    refine w_iadd (Ev.cm _) rfl ?_
    refine w_sald (Ev.cm _) rfl v1 ?_
    refine w_aload_nS (Ev.cm _) rfl rfl ?_
    refine w_iload_n (Ev.cm _) rfl rfl ?_
    refine w_iconst (Ev.cm _) rfl ?_
    refine w_iadd (Ev.cm _) rfl ?_
    refine w_sald (Ev.cm _) rfl v2 ?_
    refine w_aload_nS (Ev.cm _) rfl rfl ?_
    refine w_iload_n (Ev.cm _) rfl rfl ?_
    refine w_iconst (Ev.cm _) rfl ?_
    refine w_iadd (Ev.cm _) rfl ?_
    refine w_sald (Ev.cm _) rfl v3 ?_
    refine w_if_eq (Ev.cm _) rfl (fun c => absurd c hb) (fun _ => ?_)
    refine w_iconst (Ev.cm _) rfl ?_
    refine w_goto (Ev.cm _) rfl ?_
    refine w_cvirt (o := 331) (as := [.int (scr X x3 1), .int (scr X x3 2), .int 1]) (st := [.long r]) (Ev.cm _) rfl rfl rfl (Nat.le_of_ble_eq_true rfl) (Nat.le_of_ble_eq_true rfl) rfl (Nat.le_of_ble_eq_true rfl) (eo_M_mood (g := ?_) eM)
    show Wp _ _ _ _ _ _ _ 1313 [(0, .float 0), (1, .ref 0), (2, .ref 331), (3, .int x3)] [.long r, .long r] (HS I2 L2 X)
    refine w_lcmp (Ev.cm _) rfl ?_
    rw [lg_self]
    exact w_if_eq (Ev.cm _) rfl (fun _ => k) (fun c => absurd rfl c)
set_option maxHeartbeats 20000000 in
set_option maxRecDepth 20000 in
theorem lw_30 {fu : Nat} {I I1 I2 : Nat → Nat → Int32} {L L1 L2 : Nat → Nat → Int64} {X : Nat × (Nat → Int32)} {x3 : Int32} {r : Int32} {al : Nat × Nat} {n0 s0 : Nat} {Q : PQ} (v1 : vp_in (x3 + 1) X.1) (v2 : vp_in (x3 + 2) X.1) (v3 : vp_in (x3 + 3) X.1) (v4 : vp_in (x3 + 4) X.1) (v5 : vp_in (x3 + 5) X.1) (eX : FO_X_moods fu (scr X x3 1) I L = some (r, I1, L1)) (eM : FO_M_moods fu (scr X x3 1) I1 L1 = some (r, I2, L2)) (k : Wp (Ev 200) cd_L_law al (some .boolean) n0 s0 Q 1955 [(0, .float 0), (1, .ref 0), (2, .ref 331), (3, .int x3)] [] (HS I2 L2 X)) : Wp (Ev 200) cd_L_law al (some .boolean) n0 s0 Q 1319 [(0, .float 0), (1, .ref 0), (2, .ref 331), (3, .int x3)] [] (HS I L X) := by
  refine w_aload_n (Ev.cm _) rfl rfl ?_
  refine w_aload_nS (Ev.cm _) rfl rfl ?_
  refine w_iload_n (Ev.cm _) rfl rfl ?_
  refine w_iconst (Ev.cm _) rfl ?_
  refine w_iadd (Ev.cm _) rfl ?_
  refine w_sald (Ev.cm _) rfl v1 ?_
  refine w_cvirt (o := 0) (as := [.int (scr X x3 1)]) (st := []) (Ev.cm _) rfl rfl rfl (Nat.le_of_ble_eq_true rfl) (Nat.le_of_ble_eq_true rfl) rfl (Nat.le_of_ble_eq_true rfl) (eo_X_moods (g := ?_) eX)
  show Wp _ _ _ _ _ _ _ 1328 [(0, .float 0), (1, .ref 0), (2, .ref 331), (3, .int x3)] [.int r] (HS I1 L1 X)
  refine w_aload_n (Ev.cm _) rfl rfl ?_
  refine w_aload_nS (Ev.cm _) rfl rfl ?_
  refine w_iload_n (Ev.cm _) rfl rfl ?_
  refine w_iconst (Ev.cm _) rfl ?_
  refine w_iadd (Ev.cm _) rfl ?_
  refine w_sald (Ev.cm _) rfl v1 ?_
  refine w_cvirt (o := 331) (as := [.int (scr X x3 1)]) (st := [.int r]) (Ev.cm _) rfl rfl rfl (Nat.le_of_ble_eq_true rfl) (Nat.le_of_ble_eq_true rfl) rfl (Nat.le_of_ble_eq_true rfl) (eo_M_moods (g := ?_) eM)
  show Wp _ _ _ _ _ _ _ 1337 [(0, .float 0), (1, .ref 0), (2, .ref 331), (3, .int x3)] [.int r, .int r] (HS I2 L2 X)
  exact w_icmp_eq (Ev.cm _) rfl (fun _ => k) (fun c => absurd rfl c)
set_option maxHeartbeats 20000000 in
set_option maxRecDepth 20000 in
theorem lw_31 {fu : Nat} {I I1 I2 : Nat → Nat → Int32} {L L1 L2 : Nat → Nat → Int64} {X : Nat × (Nat → Int32)} {x3 : Int32} {r : Int32} {al : Nat × Nat} {n0 s0 : Nat} {Q : PQ} (v1 : vp_in (x3 + 1) X.1) (v2 : vp_in (x3 + 2) X.1) (v3 : vp_in (x3 + 3) X.1) (v4 : vp_in (x3 + 4) X.1) (v5 : vp_in (x3 + 5) X.1) (eX : FO_X_likeliest fu (scr X x3 1) I L = some (r, I1, L1)) (eM : FO_M_likeliest fu (scr X x3 1) I1 L1 = some (r, I2, L2)) (k : Wp (Ev 200) cd_L_law al (some .boolean) n0 s0 Q 1955 [(0, .float 0), (1, .ref 0), (2, .ref 331), (3, .int x3)] [] (HS I2 L2 X)) : Wp (Ev 200) cd_L_law al (some .boolean) n0 s0 Q 1342 [(0, .float 0), (1, .ref 0), (2, .ref 331), (3, .int x3)] [] (HS I L X) := by
  refine w_aload_n (Ev.cm _) rfl rfl ?_
  refine w_aload_nS (Ev.cm _) rfl rfl ?_
  refine w_iload_n (Ev.cm _) rfl rfl ?_
  refine w_iconst (Ev.cm _) rfl ?_
  refine w_iadd (Ev.cm _) rfl ?_
  refine w_sald (Ev.cm _) rfl v1 ?_
  refine w_cvirt (o := 0) (as := [.int (scr X x3 1)]) (st := []) (Ev.cm _) rfl rfl rfl (Nat.le_of_ble_eq_true rfl) (Nat.le_of_ble_eq_true rfl) rfl (Nat.le_of_ble_eq_true rfl) (eo_X_likeliest (g := ?_) eX)
  show Wp _ _ _ _ _ _ _ 1351 [(0, .float 0), (1, .ref 0), (2, .ref 331), (3, .int x3)] [.int r] (HS I1 L1 X)
  refine w_aload_n (Ev.cm _) rfl rfl ?_
  refine w_aload_nS (Ev.cm _) rfl rfl ?_
  refine w_iload_n (Ev.cm _) rfl rfl ?_
  refine w_iconst (Ev.cm _) rfl ?_
  refine w_iadd (Ev.cm _) rfl ?_
  refine w_sald (Ev.cm _) rfl v1 ?_
  refine w_cvirt (o := 331) (as := [.int (scr X x3 1)]) (st := [.int r]) (Ev.cm _) rfl rfl rfl (Nat.le_of_ble_eq_true rfl) (Nat.le_of_ble_eq_true rfl) rfl (Nat.le_of_ble_eq_true rfl) (eo_M_likeliest (g := ?_) eM)
  show Wp _ _ _ _ _ _ _ 1360 [(0, .float 0), (1, .ref 0), (2, .ref 331), (3, .int x3)] [.int r, .int r] (HS I2 L2 X)
  exact w_icmp_eq (Ev.cm _) rfl (fun _ => k) (fun c => absurd rfl c)
set_option maxHeartbeats 20000000 in
set_option maxRecDepth 20000 in
theorem lw_32 {fu : Nat} {I I1 I2 : Nat → Nat → Int32} {L L1 L2 : Nat → Nat → Int64} {X : Nat × (Nat → Int32)} {x3 bv : Int32} {r : Int64} {al : Nat × Nat} {n0 s0 : Nat} {Q : PQ} (v1 : vp_in (x3 + 1) X.1) (v2 : vp_in (x3 + 2) X.1) (v3 : vp_in (x3 + 3) X.1) (v4 : vp_in (x3 + 4) X.1) (v5 : vp_in (x3 + 5) X.1) (hb : ((scr X x3 2) = 0 ∧ bv = 0) ∨ (¬ (scr X x3 2) = 0 ∧ bv = 1)) (eX : FO_X_next fu (scr X x3 1) bv I L = some (r, I1, L1)) (eM : FO_M_next fu (scr X x3 1) bv I1 L1 = some (r, I2, L2)) (k : Wp (Ev 200) cd_L_law al (some .boolean) n0 s0 Q 1955 [(0, .float 0), (1, .ref 0), (2, .ref 331), (3, .int x3)] [] (HS I2 L2 X)) : Wp (Ev 200) cd_L_law al (some .boolean) n0 s0 Q 1365 [(0, .float 0), (1, .ref 0), (2, .ref 331), (3, .int x3)] [] (HS I L X) := by
  rcases hb with ⟨hb, hv⟩ | ⟨hb, hv⟩ <;> subst hv
  · refine w_aload_n (Ev.cm _) rfl rfl ?_
    refine w_aload_nS (Ev.cm _) rfl rfl ?_
    refine w_iload_n (Ev.cm _) rfl rfl ?_
    refine w_iconst (Ev.cm _) rfl ?_
    refine w_iadd (Ev.cm _) rfl ?_
    refine w_sald (Ev.cm _) rfl v1 ?_
    refine w_aload_nS (Ev.cm _) rfl rfl ?_
    refine w_iload_n (Ev.cm _) rfl rfl ?_
    refine w_iconst (Ev.cm _) rfl ?_
    refine w_iadd (Ev.cm _) rfl ?_
    refine w_sald (Ev.cm _) rfl v2 ?_
    refine w_if_eq (Ev.cm _) rfl (fun _ => ?_) (fun c => absurd hb c)
    refine w_iconst (Ev.cm _) rfl ?_
    refine w_cvirt (o := 0) (as := [.int (scr X x3 1), .int 0]) (st := []) (Ev.cm _) rfl rfl rfl (Nat.le_of_ble_eq_true rfl) (Nat.le_of_ble_eq_true rfl) rfl (Nat.le_of_ble_eq_true rfl) (eo_X_next (g := ?_) eX)
    show Wp _ _ _ _ _ _ _ 1387 [(0, .float 0), (1, .ref 0), (2, .ref 331), (3, .int x3)] [.long r] (HS I1 L1 X)
    refine w_aload_n (Ev.cm _) rfl rfl ?_
    refine w_aload_nS (Ev.cm _) rfl rfl ?_
    refine w_iload_n (Ev.cm _) rfl rfl ?_
    refine w_iconst (Ev.cm _) rfl ?_
    refine w_iadd (Ev.cm _) rfl ?_
    refine w_sald (Ev.cm _) rfl v1 ?_
    refine w_aload_nS (Ev.cm _) rfl rfl ?_
    refine w_iload_n (Ev.cm _) rfl rfl ?_
    refine w_iconst (Ev.cm _) rfl ?_
    refine w_iadd (Ev.cm _) rfl ?_
    refine w_sald (Ev.cm _) rfl v2 ?_
    refine w_if_eq (Ev.cm _) rfl (fun _ => ?_) (fun c => absurd hb c)
    refine w_iconst (Ev.cm _) rfl ?_
    refine w_cvirt (o := 331) (as := [.int (scr X x3 1), .int 0]) (st := [.long r]) (Ev.cm _) rfl rfl rfl (Nat.le_of_ble_eq_true rfl) (Nat.le_of_ble_eq_true rfl) rfl (Nat.le_of_ble_eq_true rfl) (eo_M_next (g := ?_) eM)
    show Wp _ _ _ _ _ _ _ 1409 [(0, .float 0), (1, .ref 0), (2, .ref 331), (3, .int x3)] [.long r, .long r] (HS I2 L2 X)
    refine w_lcmp (Ev.cm _) rfl ?_
    rw [lg_self]
    exact w_if_eq (Ev.cm _) rfl (fun _ => k) (fun c => absurd rfl c)
  · refine w_aload_n (Ev.cm _) rfl rfl ?_
    refine w_aload_nS (Ev.cm _) rfl rfl ?_
    refine w_iload_n (Ev.cm _) rfl rfl ?_
    refine w_iconst (Ev.cm _) rfl ?_
    refine w_iadd (Ev.cm _) rfl ?_
    refine w_sald (Ev.cm _) rfl v1 ?_
    refine w_aload_nS (Ev.cm _) rfl rfl ?_
    refine w_iload_n (Ev.cm _) rfl rfl ?_
    refine w_iconst (Ev.cm _) rfl ?_
    refine w_iadd (Ev.cm _) rfl ?_
    refine w_sald (Ev.cm _) rfl v2 ?_
    refine w_if_eq (Ev.cm _) rfl (fun c => absurd c hb) (fun _ => ?_)
    refine w_iconst (Ev.cm _) rfl ?_
    refine w_goto (Ev.cm _) rfl ?_
    refine w_cvirt (o := 0) (as := [.int (scr X x3 1), .int 1]) (st := []) (Ev.cm _) rfl rfl rfl (Nat.le_of_ble_eq_true rfl) (Nat.le_of_ble_eq_true rfl) rfl (Nat.le_of_ble_eq_true rfl) (eo_X_next (g := ?_) eX)
    show Wp _ _ _ _ _ _ _ 1387 [(0, .float 0), (1, .ref 0), (2, .ref 331), (3, .int x3)] [.long r] (HS I1 L1 X)
    refine w_aload_n (Ev.cm _) rfl rfl ?_
    refine w_aload_nS (Ev.cm _) rfl rfl ?_
    refine w_iload_n (Ev.cm _) rfl rfl ?_
    refine w_iconst (Ev.cm _) rfl ?_
    refine w_iadd (Ev.cm _) rfl ?_
    refine w_sald (Ev.cm _) rfl v1 ?_
    refine w_aload_nS (Ev.cm _) rfl rfl ?_
    refine w_iload_n (Ev.cm _) rfl rfl ?_
    refine w_iconst (Ev.cm _) rfl ?_
    refine w_iadd (Ev.cm _) rfl ?_
    refine w_sald (Ev.cm _) rfl v2 ?_
    refine w_if_eq (Ev.cm _) rfl (fun c => absurd c hb) (fun _ => ?_)
    refine w_iconst (Ev.cm _) rfl ?_
    refine w_goto (Ev.cm _) rfl ?_
    refine w_cvirt (o := 331) (as := [.int (scr X x3 1), .int 1]) (st := [.long r]) (Ev.cm _) rfl rfl rfl (Nat.le_of_ble_eq_true rfl) (Nat.le_of_ble_eq_true rfl) rfl (Nat.le_of_ble_eq_true rfl) (eo_M_next (g := ?_) eM)
    show Wp _ _ _ _ _ _ _ 1409 [(0, .float 0), (1, .ref 0), (2, .ref 331), (3, .int x3)] [.long r, .long r] (HS I2 L2 X)
    refine w_lcmp (Ev.cm _) rfl ?_
    rw [lg_self]
    exact w_if_eq (Ev.cm _) rfl (fun _ => k) (fun c => absurd rfl c)
set_option maxHeartbeats 20000000 in
set_option maxRecDepth 20000 in
theorem lw_33 {fu : Nat} {I I1 I2 : Nat → Nat → Int32} {L L1 L2 : Nat → Nat → Int64} {X : Nat × (Nat → Int32)} {x3 : Int32} {r : Int32} {al : Nat × Nat} {n0 s0 : Nat} {Q : PQ} (v1 : vp_in (x3 + 1) X.1) (v2 : vp_in (x3 + 2) X.1) (v3 : vp_in (x3 + 3) X.1) (v4 : vp_in (x3 + 4) X.1) (v5 : vp_in (x3 + 5) X.1) (eX : FO_X_code fu (scr X x3 1) I L = some (r, I1, L1)) (eM : FO_M_code fu (scr X x3 1) I1 L1 = some (r, I2, L2)) (k : Wp (Ev 200) cd_L_law al (some .boolean) n0 s0 Q 1955 [(0, .float 0), (1, .ref 0), (2, .ref 331), (3, .int x3)] [] (HS I2 L2 X)) : Wp (Ev 200) cd_L_law al (some .boolean) n0 s0 Q 1415 [(0, .float 0), (1, .ref 0), (2, .ref 331), (3, .int x3)] [] (HS I L X) := by
  refine w_aload_n (Ev.cm _) rfl rfl ?_
  refine w_aload_nS (Ev.cm _) rfl rfl ?_
  refine w_iload_n (Ev.cm _) rfl rfl ?_
  refine w_iconst (Ev.cm _) rfl ?_
  refine w_iadd (Ev.cm _) rfl ?_
  refine w_sald (Ev.cm _) rfl v1 ?_
  refine w_cvirt (o := 0) (as := [.int (scr X x3 1)]) (st := []) (Ev.cm _) rfl rfl rfl (Nat.le_of_ble_eq_true rfl) (Nat.le_of_ble_eq_true rfl) rfl (Nat.le_of_ble_eq_true rfl) (eo_X_code (g := ?_) eX)
  show Wp _ _ _ _ _ _ _ 1424 [(0, .float 0), (1, .ref 0), (2, .ref 331), (3, .int x3)] [.int r] (HS I1 L1 X)
  refine w_aload_n (Ev.cm _) rfl rfl ?_
  refine w_aload_nS (Ev.cm _) rfl rfl ?_
  refine w_iload_n (Ev.cm _) rfl rfl ?_
  refine w_iconst (Ev.cm _) rfl ?_
  refine w_iadd (Ev.cm _) rfl ?_
  refine w_sald (Ev.cm _) rfl v1 ?_
  refine w_cvirt (o := 331) (as := [.int (scr X x3 1)]) (st := [.int r]) (Ev.cm _) rfl rfl rfl (Nat.le_of_ble_eq_true rfl) (Nat.le_of_ble_eq_true rfl) rfl (Nat.le_of_ble_eq_true rfl) (eo_M_code (g := ?_) eM)
  show Wp _ _ _ _ _ _ _ 1433 [(0, .float 0), (1, .ref 0), (2, .ref 331), (3, .int x3)] [.int r, .int r] (HS I2 L2 X)
  exact w_icmp_eq (Ev.cm _) rfl (fun _ => k) (fun c => absurd rfl c)
set_option maxHeartbeats 20000000 in
set_option maxRecDepth 20000 in
theorem lw_34 {fu : Nat} {I I1 I2 : Nat → Nat → Int32} {L L1 L2 : Nat → Nat → Int64} {X : Nat × (Nat → Int32)} {x3 : Int32} {r : Int32} {al : Nat × Nat} {n0 s0 : Nat} {Q : PQ} (v1 : vp_in (x3 + 1) X.1) (v2 : vp_in (x3 + 2) X.1) (v3 : vp_in (x3 + 3) X.1) (v4 : vp_in (x3 + 4) X.1) (v5 : vp_in (x3 + 5) X.1) (eX : FO_X_clear fu  I L = some (r, I1, L1)) (eM : FO_M_clear fu  I1 L1 = some (r, I2, L2)) (k : Wp (Ev 200) cd_L_law al (some .boolean) n0 s0 Q 1955 [(0, .float 0), (1, .ref 0), (2, .ref 331), (3, .int x3)] [] (HS I2 L2 X)) : Wp (Ev 200) cd_L_law al (some .boolean) n0 s0 Q 1438 [(0, .float 0), (1, .ref 0), (2, .ref 331), (3, .int x3)] [] (HS I L X) := by
  refine w_aload_n (Ev.cm _) rfl rfl ?_
  refine w_cvirt (o := 0) (as := []) (st := []) (Ev.cm _) rfl rfl rfl (Nat.le_of_ble_eq_true rfl) (Nat.le_of_ble_eq_true rfl) rfl (Nat.le_of_ble_eq_true rfl) (eo_X_clear (g := ?_) eX)
  show Wp _ _ _ _ _ _ _ 1442 [(0, .float 0), (1, .ref 0), (2, .ref 331), (3, .int x3)] [.int r] (HS I1 L1 X)
  refine w_aload_n (Ev.cm _) rfl rfl ?_
  refine w_cvirt (o := 331) (as := []) (st := [.int r]) (Ev.cm _) rfl rfl rfl (Nat.le_of_ble_eq_true rfl) (Nat.le_of_ble_eq_true rfl) rfl (Nat.le_of_ble_eq_true rfl) (eo_M_clear (g := ?_) eM)
  show Wp _ _ _ _ _ _ _ 1446 [(0, .float 0), (1, .ref 0), (2, .ref 331), (3, .int x3)] [.int r, .int r] (HS I2 L2 X)
  exact w_icmp_eq (Ev.cm _) rfl (fun _ => k) (fun c => absurd rfl c)
set_option maxHeartbeats 20000000 in
set_option maxRecDepth 20000 in
theorem lw_35 {fu : Nat} {I I1 I2 : Nat → Nat → Int32} {L L1 L2 : Nat → Nat → Int64} {X : Nat × (Nat → Int32)} {x3 : Int32} {r : Int32} {al : Nat × Nat} {n0 s0 : Nat} {Q : PQ} (v1 : vp_in (x3 + 1) X.1) (v2 : vp_in (x3 + 2) X.1) (v3 : vp_in (x3 + 3) X.1) (v4 : vp_in (x3 + 4) X.1) (v5 : vp_in (x3 + 5) X.1) (eX : FO_X_doubt fu  I L = some (r, I1, L1)) (eM : FO_M_doubt fu  I1 L1 = some (r, I2, L2)) (k : Wp (Ev 200) cd_L_law al (some .boolean) n0 s0 Q 1955 [(0, .float 0), (1, .ref 0), (2, .ref 331), (3, .int x3)] [] (HS I2 L2 X)) : Wp (Ev 200) cd_L_law al (some .boolean) n0 s0 Q 1451 [(0, .float 0), (1, .ref 0), (2, .ref 331), (3, .int x3)] [] (HS I L X) := by
  refine w_aload_n (Ev.cm _) rfl rfl ?_
  refine w_cvirt (o := 0) (as := []) (st := []) (Ev.cm _) rfl rfl rfl (Nat.le_of_ble_eq_true rfl) (Nat.le_of_ble_eq_true rfl) rfl (Nat.le_of_ble_eq_true rfl) (eo_X_doubt (g := ?_) eX)
  show Wp _ _ _ _ _ _ _ 1455 [(0, .float 0), (1, .ref 0), (2, .ref 331), (3, .int x3)] [.int r] (HS I1 L1 X)
  refine w_aload_n (Ev.cm _) rfl rfl ?_
  refine w_cvirt (o := 331) (as := []) (st := [.int r]) (Ev.cm _) rfl rfl rfl (Nat.le_of_ble_eq_true rfl) (Nat.le_of_ble_eq_true rfl) rfl (Nat.le_of_ble_eq_true rfl) (eo_M_doubt (g := ?_) eM)
  show Wp _ _ _ _ _ _ _ 1459 [(0, .float 0), (1, .ref 0), (2, .ref 331), (3, .int x3)] [.int r, .int r] (HS I2 L2 X)
  exact w_icmp_eq (Ev.cm _) rfl (fun _ => k) (fun c => absurd rfl c)
set_option maxHeartbeats 20000000 in
set_option maxRecDepth 20000 in
theorem lw_36 {fu : Nat} {I I1 I2 : Nat → Nat → Int32} {L L1 L2 : Nat → Nat → Int64} {X : Nat × (Nat → Int32)} {x3 : Int32} {r : Int32} {al : Nat × Nat} {n0 s0 : Nat} {Q : PQ} (v1 : vp_in (x3 + 1) X.1) (v2 : vp_in (x3 + 2) X.1) (v3 : vp_in (x3 + 3) X.1) (v4 : vp_in (x3 + 4) X.1) (v5 : vp_in (x3 + 5) X.1) (eX : FO_X_free fu  I L = some (r, I1, L1)) (eM : FO_M_free fu  I1 L1 = some (r, I2, L2)) (k : Wp (Ev 200) cd_L_law al (some .boolean) n0 s0 Q 1955 [(0, .float 0), (1, .ref 0), (2, .ref 331), (3, .int x3)] [] (HS I2 L2 X)) : Wp (Ev 200) cd_L_law al (some .boolean) n0 s0 Q 1464 [(0, .float 0), (1, .ref 0), (2, .ref 331), (3, .int x3)] [] (HS I L X) := by
  refine w_aload_n (Ev.cm _) rfl rfl ?_
  refine w_cvirt (o := 0) (as := []) (st := []) (Ev.cm _) rfl rfl rfl (Nat.le_of_ble_eq_true rfl) (Nat.le_of_ble_eq_true rfl) rfl (Nat.le_of_ble_eq_true rfl) (eo_X_free (g := ?_) eX)
  show Wp _ _ _ _ _ _ _ 1468 [(0, .float 0), (1, .ref 0), (2, .ref 331), (3, .int x3)] [.int r] (HS I1 L1 X)
  refine w_aload_n (Ev.cm _) rfl rfl ?_
  refine w_cvirt (o := 331) (as := []) (st := [.int r]) (Ev.cm _) rfl rfl rfl (Nat.le_of_ble_eq_true rfl) (Nat.le_of_ble_eq_true rfl) rfl (Nat.le_of_ble_eq_true rfl) (eo_M_free (g := ?_) eM)
  show Wp _ _ _ _ _ _ _ 1472 [(0, .float 0), (1, .ref 0), (2, .ref 331), (3, .int x3)] [.int r, .int r] (HS I2 L2 X)
  exact w_icmp_eq (Ev.cm _) rfl (fun _ => k) (fun c => absurd rfl c)
set_option maxHeartbeats 20000000 in
set_option maxRecDepth 20000 in
theorem lw_37 {fu : Nat} {I I1 I2 : Nat → Nat → Int32} {L L1 L2 : Nat → Nat → Int64} {X : Nat × (Nat → Int32)} {x3 : Int32} {r : Int32} {al : Nat × Nat} {n0 s0 : Nat} {Q : PQ} (v1 : vp_in (x3 + 1) X.1) (v2 : vp_in (x3 + 2) X.1) (v3 : vp_in (x3 + 3) X.1) (v4 : vp_in (x3 + 4) X.1) (v5 : vp_in (x3 + 5) X.1) (eX : FO_X_reads fu (scr X x3 1) I L = some (r, I1, L1)) (eM : FO_M_reads fu (scr X x3 1) I1 L1 = some (r, I2, L2)) (k : Wp (Ev 200) cd_L_law al (some .boolean) n0 s0 Q 1955 [(0, .float 0), (1, .ref 0), (2, .ref 331), (3, .int x3)] [] (HS I2 L2 X)) : Wp (Ev 200) cd_L_law al (some .boolean) n0 s0 Q 1477 [(0, .float 0), (1, .ref 0), (2, .ref 331), (3, .int x3)] [] (HS I L X) := by
  refine w_aload_n (Ev.cm _) rfl rfl ?_
  refine w_aload_nS (Ev.cm _) rfl rfl ?_
  refine w_iload_n (Ev.cm _) rfl rfl ?_
  refine w_iconst (Ev.cm _) rfl ?_
  refine w_iadd (Ev.cm _) rfl ?_
  refine w_sald (Ev.cm _) rfl v1 ?_
  refine w_cvirt (o := 0) (as := [.int (scr X x3 1)]) (st := []) (Ev.cm _) rfl rfl rfl (Nat.le_of_ble_eq_true rfl) (Nat.le_of_ble_eq_true rfl) rfl (Nat.le_of_ble_eq_true rfl) (eo_X_reads (g := ?_) eX)
  show Wp _ _ _ _ _ _ _ 1486 [(0, .float 0), (1, .ref 0), (2, .ref 331), (3, .int x3)] [.int r] (HS I1 L1 X)
  refine w_aload_n (Ev.cm _) rfl rfl ?_
  refine w_aload_nS (Ev.cm _) rfl rfl ?_
  refine w_iload_n (Ev.cm _) rfl rfl ?_
  refine w_iconst (Ev.cm _) rfl ?_
  refine w_iadd (Ev.cm _) rfl ?_
  refine w_sald (Ev.cm _) rfl v1 ?_
  refine w_cvirt (o := 331) (as := [.int (scr X x3 1)]) (st := [.int r]) (Ev.cm _) rfl rfl rfl (Nat.le_of_ble_eq_true rfl) (Nat.le_of_ble_eq_true rfl) rfl (Nat.le_of_ble_eq_true rfl) (eo_M_reads (g := ?_) eM)
  show Wp _ _ _ _ _ _ _ 1495 [(0, .float 0), (1, .ref 0), (2, .ref 331), (3, .int x3)] [.int r, .int r] (HS I2 L2 X)
  exact w_icmp_eq (Ev.cm _) rfl (fun _ => k) (fun c => absurd rfl c)
set_option maxHeartbeats 20000000 in
set_option maxRecDepth 20000 in
theorem lw_38 {fu : Nat} {I I1 I2 : Nat → Nat → Int32} {L L1 L2 : Nat → Nat → Int64} {X : Nat × (Nat → Int32)} {x3 : Int32} {r : Int32} {al : Nat × Nat} {n0 s0 : Nat} {Q : PQ} (v1 : vp_in (x3 + 1) X.1) (v2 : vp_in (x3 + 2) X.1) (v3 : vp_in (x3 + 3) X.1) (v4 : vp_in (x3 + 4) X.1) (v5 : vp_in (x3 + 5) X.1) (eX : FO_X_unread fu  I L = some (r, I1, L1)) (eM : FO_M_unread fu  I1 L1 = some (r, I2, L2)) (k : Wp (Ev 200) cd_L_law al (some .boolean) n0 s0 Q 1955 [(0, .float 0), (1, .ref 0), (2, .ref 331), (3, .int x3)] [] (HS I2 L2 X)) : Wp (Ev 200) cd_L_law al (some .boolean) n0 s0 Q 1500 [(0, .float 0), (1, .ref 0), (2, .ref 331), (3, .int x3)] [] (HS I L X) := by
  refine w_aload_n (Ev.cm _) rfl rfl ?_
  refine w_cvirt (o := 0) (as := []) (st := []) (Ev.cm _) rfl rfl rfl (Nat.le_of_ble_eq_true rfl) (Nat.le_of_ble_eq_true rfl) rfl (Nat.le_of_ble_eq_true rfl) (eo_X_unread (g := ?_) eX)
  show Wp _ _ _ _ _ _ _ 1504 [(0, .float 0), (1, .ref 0), (2, .ref 331), (3, .int x3)] [.int r] (HS I1 L1 X)
  refine w_aload_n (Ev.cm _) rfl rfl ?_
  refine w_cvirt (o := 331) (as := []) (st := [.int r]) (Ev.cm _) rfl rfl rfl (Nat.le_of_ble_eq_true rfl) (Nat.le_of_ble_eq_true rfl) rfl (Nat.le_of_ble_eq_true rfl) (eo_M_unread (g := ?_) eM)
  show Wp _ _ _ _ _ _ _ 1508 [(0, .float 0), (1, .ref 0), (2, .ref 331), (3, .int x3)] [.int r, .int r] (HS I2 L2 X)
  exact w_icmp_eq (Ev.cm _) rfl (fun _ => k) (fun c => absurd rfl c)
set_option maxHeartbeats 20000000 in
set_option maxRecDepth 20000 in
theorem lw_39 {fu : Nat} {I I1 I2 : Nat → Nat → Int32} {L L1 L2 : Nat → Nat → Int64} {X : Nat × (Nat → Int32)} {x3 bv : Int32} {r : Int32} {al : Nat × Nat} {n0 s0 : Nat} {Q : PQ} (v1 : vp_in (x3 + 1) X.1) (v2 : vp_in (x3 + 2) X.1) (v3 : vp_in (x3 + 3) X.1) (v4 : vp_in (x3 + 4) X.1) (v5 : vp_in (x3 + 5) X.1) (hb : ((scr X x3 1) = 0 ∧ bv = 0) ∨ (¬ (scr X x3 1) = 0 ∧ bv = 1)) (eX : FO_X_room fu bv I L = some (r, I1, L1)) (eM : FO_M_room fu bv I1 L1 = some (r, I2, L2)) (k : Wp (Ev 200) cd_L_law al (some .boolean) n0 s0 Q 1955 [(0, .float 0), (1, .ref 0), (2, .ref 331), (3, .int x3)] [] (HS I2 L2 X)) : Wp (Ev 200) cd_L_law al (some .boolean) n0 s0 Q 1513 [(0, .float 0), (1, .ref 0), (2, .ref 331), (3, .int x3)] [] (HS I L X) := by
  rcases hb with ⟨hb, hv⟩ | ⟨hb, hv⟩ <;> subst hv
  · refine w_aload_n (Ev.cm _) rfl rfl ?_
    refine w_aload_nS (Ev.cm _) rfl rfl ?_
    refine w_iload_n (Ev.cm _) rfl rfl ?_
    refine w_iconst (Ev.cm _) rfl ?_
    refine w_iadd (Ev.cm _) rfl ?_
    refine w_sald (Ev.cm _) rfl v1 ?_
    refine w_if_eq (Ev.cm _) rfl (fun _ => ?_) (fun c => absurd hb c)
    refine w_iconst (Ev.cm _) rfl ?_
    refine w_cvirt (o := 0) (as := [.int 0]) (st := []) (Ev.cm _) rfl rfl rfl (Nat.le_of_ble_eq_true rfl) (Nat.le_of_ble_eq_true rfl) rfl (Nat.le_of_ble_eq_true rfl) (eo_X_room (g := ?_) eX)
    show Wp _ _ _ _ _ _ _ 1530 [(0, .float 0), (1, .ref 0), (2, .ref 331), (3, .int x3)] [.int r] (HS I1 L1 X)
    refine w_aload_n (Ev.cm _) rfl rfl ?_
    refine w_aload_nS (Ev.cm _) rfl rfl ?_
    refine w_iload_n (Ev.cm _) rfl rfl ?_
    refine w_iconst (Ev.cm _) rfl ?_
    refine w_iadd (Ev.cm _) rfl ?_
    refine w_sald (Ev.cm _) rfl v1 ?_
    refine w_if_eq (Ev.cm _) rfl (fun _ => ?_) (fun c => absurd hb c)
    refine w_iconst (Ev.cm _) rfl ?_
    refine w_cvirt (o := 331) (as := [.int 0]) (st := [.int r]) (Ev.cm _) rfl rfl rfl (Nat.le_of_ble_eq_true rfl) (Nat.le_of_ble_eq_true rfl) rfl (Nat.le_of_ble_eq_true rfl) (eo_M_room (g := ?_) eM)
    show Wp _ _ _ _ _ _ _ 1547 [(0, .float 0), (1, .ref 0), (2, .ref 331), (3, .int x3)] [.int r, .int r] (HS I2 L2 X)
    exact w_icmp_eq (Ev.cm _) rfl (fun _ => k) (fun c => absurd rfl c)
  · refine w_aload_n (Ev.cm _) rfl rfl ?_
    refine w_aload_nS (Ev.cm _) rfl rfl ?_
    refine w_iload_n (Ev.cm _) rfl rfl ?_
    refine w_iconst (Ev.cm _) rfl ?_
    refine w_iadd (Ev.cm _) rfl ?_
    refine w_sald (Ev.cm _) rfl v1 ?_
    refine w_if_eq (Ev.cm _) rfl (fun c => absurd c hb) (fun _ => ?_)
    refine w_iconst (Ev.cm _) rfl ?_
    refine w_goto (Ev.cm _) rfl ?_
    refine w_cvirt (o := 0) (as := [.int 1]) (st := []) (Ev.cm _) rfl rfl rfl (Nat.le_of_ble_eq_true rfl) (Nat.le_of_ble_eq_true rfl) rfl (Nat.le_of_ble_eq_true rfl) (eo_X_room (g := ?_) eX)
    show Wp _ _ _ _ _ _ _ 1530 [(0, .float 0), (1, .ref 0), (2, .ref 331), (3, .int x3)] [.int r] (HS I1 L1 X)
    refine w_aload_n (Ev.cm _) rfl rfl ?_
    refine w_aload_nS (Ev.cm _) rfl rfl ?_
    refine w_iload_n (Ev.cm _) rfl rfl ?_
    refine w_iconst (Ev.cm _) rfl ?_
    refine w_iadd (Ev.cm _) rfl ?_
    refine w_sald (Ev.cm _) rfl v1 ?_
    refine w_if_eq (Ev.cm _) rfl (fun c => absurd c hb) (fun _ => ?_)
    refine w_iconst (Ev.cm _) rfl ?_
    refine w_goto (Ev.cm _) rfl ?_
    refine w_cvirt (o := 331) (as := [.int 1]) (st := [.int r]) (Ev.cm _) rfl rfl rfl (Nat.le_of_ble_eq_true rfl) (Nat.le_of_ble_eq_true rfl) rfl (Nat.le_of_ble_eq_true rfl) (eo_M_room (g := ?_) eM)
    show Wp _ _ _ _ _ _ _ 1547 [(0, .float 0), (1, .ref 0), (2, .ref 331), (3, .int x3)] [.int r, .int r] (HS I2 L2 X)
    exact w_icmp_eq (Ev.cm _) rfl (fun _ => k) (fun c => absurd rfl c)
set_option maxHeartbeats 20000000 in
set_option maxRecDepth 20000 in
theorem lw_40 {fu : Nat} {I I1 I2 : Nat → Nat → Int32} {L L1 L2 : Nat → Nat → Int64} {X : Nat × (Nat → Int32)} {x3 : Int32} {r : Int32} {al : Nat × Nat} {n0 s0 : Nat} {Q : PQ} (v1 : vp_in (x3 + 1) X.1) (v2 : vp_in (x3 + 2) X.1) (v3 : vp_in (x3 + 3) X.1) (v4 : vp_in (x3 + 4) X.1) (v5 : vp_in (x3 + 5) X.1) (eX : FO_X_print fu (scr X x3 1) (scr X x3 2) I L = some (r, I1, L1)) (eM : FO_M_print fu (scr X x3 1) (scr X x3 2) I1 L1 = some (r, I2, L2)) (k : Wp (Ev 200) cd_L_law al (some .boolean) n0 s0 Q 1955 [(0, .float 0), (1, .ref 0), (2, .ref 331), (3, .int x3)] [] (HS I2 L2 X)) : Wp (Ev 200) cd_L_law al (some .boolean) n0 s0 Q 1552 [(0, .float 0), (1, .ref 0), (2, .ref 331), (3, .int x3)] [] (HS I L X) := by
  refine w_aload_n (Ev.cm _) rfl rfl ?_
  refine w_aload_nS (Ev.cm _) rfl rfl ?_
  refine w_iload_n (Ev.cm _) rfl rfl ?_
  refine w_iconst (Ev.cm _) rfl ?_
  refine w_iadd (Ev.cm _) rfl ?_
  refine w_sald (Ev.cm _) rfl v1 ?_
  refine w_aload_nS (Ev.cm _) rfl rfl ?_
  refine w_iload_n (Ev.cm _) rfl rfl ?_
  refine w_iconst (Ev.cm _) rfl ?_
  refine w_iadd (Ev.cm _) rfl ?_
  refine w_sald (Ev.cm _) rfl v2 ?_
  refine w_cvirt (o := 0) (as := [.int (scr X x3 1), .int (scr X x3 2)]) (st := []) (Ev.cm _) rfl rfl rfl (Nat.le_of_ble_eq_true rfl) (Nat.le_of_ble_eq_true rfl) rfl (Nat.le_of_ble_eq_true rfl) (eo_X_print (g := ?_) eX)
  show Wp _ _ _ _ _ _ _ 1566 [(0, .float 0), (1, .ref 0), (2, .ref 331), (3, .int x3)] [.int r] (HS I1 L1 X)
  refine w_aload_n (Ev.cm _) rfl rfl ?_
  refine w_aload_nS (Ev.cm _) rfl rfl ?_
  refine w_iload_n (Ev.cm _) rfl rfl ?_
  refine w_iconst (Ev.cm _) rfl ?_
  refine w_iadd (Ev.cm _) rfl ?_
  refine w_sald (Ev.cm _) rfl v1 ?_
  refine w_aload_nS (Ev.cm _) rfl rfl ?_
  refine w_iload_n (Ev.cm _) rfl rfl ?_
  refine w_iconst (Ev.cm _) rfl ?_
  refine w_iadd (Ev.cm _) rfl ?_
  refine w_sald (Ev.cm _) rfl v2 ?_
  refine w_cvirt (o := 331) (as := [.int (scr X x3 1), .int (scr X x3 2)]) (st := [.int r]) (Ev.cm _) rfl rfl rfl (Nat.le_of_ble_eq_true rfl) (Nat.le_of_ble_eq_true rfl) rfl (Nat.le_of_ble_eq_true rfl) (eo_M_print (g := ?_) eM)
  show Wp _ _ _ _ _ _ _ 1580 [(0, .float 0), (1, .ref 0), (2, .ref 331), (3, .int x3)] [.int r, .int r] (HS I2 L2 X)
  exact w_icmp_eq (Ev.cm _) rfl (fun _ => k) (fun c => absurd rfl c)
set_option maxHeartbeats 20000000 in
set_option maxRecDepth 20000 in
theorem lw_41 {fu : Nat} {I I1 I2 : Nat → Nat → Int32} {L L1 L2 : Nat → Nat → Int64} {X : Nat × (Nat → Int32)} {x3 bv : Int32} {r : Int32} {al : Nat × Nat} {n0 s0 : Nat} {Q : PQ} (v1 : vp_in (x3 + 1) X.1) (v2 : vp_in (x3 + 2) X.1) (v3 : vp_in (x3 + 3) X.1) (v4 : vp_in (x3 + 4) X.1) (v5 : vp_in (x3 + 5) X.1) (hb : ((scr X x3 1) = 0 ∧ bv = 0) ∨ (¬ (scr X x3 1) = 0 ∧ bv = 1)) (eX : FO_X_enough fu bv I L = some (r, I1, L1)) (eM : FO_M_enough fu bv I1 L1 = some (r, I2, L2)) (k : Wp (Ev 200) cd_L_law al (some .boolean) n0 s0 Q 1955 [(0, .float 0), (1, .ref 0), (2, .ref 331), (3, .int x3)] [] (HS I2 L2 X)) : Wp (Ev 200) cd_L_law al (some .boolean) n0 s0 Q 1585 [(0, .float 0), (1, .ref 0), (2, .ref 331), (3, .int x3)] [] (HS I L X) := by
  rcases hb with ⟨hb, hv⟩ | ⟨hb, hv⟩ <;> subst hv
  · refine w_aload_n (Ev.cm _) rfl rfl ?_
    refine w_aload_nS (Ev.cm _) rfl rfl ?_
    refine w_iload_n (Ev.cm _) rfl rfl ?_
    refine w_iconst (Ev.cm _) rfl ?_
    refine w_iadd (Ev.cm _) rfl ?_
    refine w_sald (Ev.cm _) rfl v1 ?_
    refine w_if_eq (Ev.cm _) rfl (fun _ => ?_) (fun c => absurd hb c)
    refine w_iconst (Ev.cm _) rfl ?_
    refine w_cvirt (o := 0) (as := [.int 0]) (st := []) (Ev.cm _) rfl rfl rfl (Nat.le_of_ble_eq_true rfl) (Nat.le_of_ble_eq_true rfl) rfl (Nat.le_of_ble_eq_true rfl) (eo_X_enough (g := ?_) eX)
    show Wp _ _ _ _ _ _ _ 1602 [(0, .float 0), (1, .ref 0), (2, .ref 331), (3, .int x3)] [.int r] (HS I1 L1 X)
    refine w_aload_n (Ev.cm _) rfl rfl ?_
    refine w_aload_nS (Ev.cm _) rfl rfl ?_
    refine w_iload_n (Ev.cm _) rfl rfl ?_
    refine w_iconst (Ev.cm _) rfl ?_
    refine w_iadd (Ev.cm _) rfl ?_
    refine w_sald (Ev.cm _) rfl v1 ?_
    refine w_if_eq (Ev.cm _) rfl (fun _ => ?_) (fun c => absurd hb c)
    refine w_iconst (Ev.cm _) rfl ?_
    refine w_cvirt (o := 331) (as := [.int 0]) (st := [.int r]) (Ev.cm _) rfl rfl rfl (Nat.le_of_ble_eq_true rfl) (Nat.le_of_ble_eq_true rfl) rfl (Nat.le_of_ble_eq_true rfl) (eo_M_enough (g := ?_) eM)
    show Wp _ _ _ _ _ _ _ 1619 [(0, .float 0), (1, .ref 0), (2, .ref 331), (3, .int x3)] [.int r, .int r] (HS I2 L2 X)
    exact w_icmp_eq (Ev.cm _) rfl (fun _ => k) (fun c => absurd rfl c)
  · refine w_aload_n (Ev.cm _) rfl rfl ?_
    refine w_aload_nS (Ev.cm _) rfl rfl ?_
    refine w_iload_n (Ev.cm _) rfl rfl ?_
    refine w_iconst (Ev.cm _) rfl ?_
    refine w_iadd (Ev.cm _) rfl ?_
    refine w_sald (Ev.cm _) rfl v1 ?_
    refine w_if_eq (Ev.cm _) rfl (fun c => absurd c hb) (fun _ => ?_)
    refine w_iconst (Ev.cm _) rfl ?_
    refine w_goto (Ev.cm _) rfl ?_
    refine w_cvirt (o := 0) (as := [.int 1]) (st := []) (Ev.cm _) rfl rfl rfl (Nat.le_of_ble_eq_true rfl) (Nat.le_of_ble_eq_true rfl) rfl (Nat.le_of_ble_eq_true rfl) (eo_X_enough (g := ?_) eX)
    show Wp _ _ _ _ _ _ _ 1602 [(0, .float 0), (1, .ref 0), (2, .ref 331), (3, .int x3)] [.int r] (HS I1 L1 X)
    refine w_aload_n (Ev.cm _) rfl rfl ?_
    refine w_aload_nS (Ev.cm _) rfl rfl ?_
    refine w_iload_n (Ev.cm _) rfl rfl ?_
    refine w_iconst (Ev.cm _) rfl ?_
    refine w_iadd (Ev.cm _) rfl ?_
    refine w_sald (Ev.cm _) rfl v1 ?_
    refine w_if_eq (Ev.cm _) rfl (fun c => absurd c hb) (fun _ => ?_)
    refine w_iconst (Ev.cm _) rfl ?_
    refine w_goto (Ev.cm _) rfl ?_
    refine w_cvirt (o := 331) (as := [.int 1]) (st := [.int r]) (Ev.cm _) rfl rfl rfl (Nat.le_of_ble_eq_true rfl) (Nat.le_of_ble_eq_true rfl) rfl (Nat.le_of_ble_eq_true rfl) (eo_M_enough (g := ?_) eM)
    show Wp _ _ _ _ _ _ _ 1619 [(0, .float 0), (1, .ref 0), (2, .ref 331), (3, .int x3)] [.int r, .int r] (HS I2 L2 X)
    exact w_icmp_eq (Ev.cm _) rfl (fun _ => k) (fun c => absurd rfl c)
set_option maxHeartbeats 20000000 in
set_option maxRecDepth 20000 in
theorem lw_42 {fu : Nat} {I I1 I2 : Nat → Nat → Int32} {L L1 L2 : Nat → Nat → Int64} {X : Nat × (Nat → Int32)} {x3 : Int32} {r : Int32} {al : Nat × Nat} {n0 s0 : Nat} {Q : PQ} (v1 : vp_in (x3 + 1) X.1) (v2 : vp_in (x3 + 2) X.1) (v3 : vp_in (x3 + 3) X.1) (v4 : vp_in (x3 + 4) X.1) (v5 : vp_in (x3 + 5) X.1) (eX : FO_X_fits fu (scr X x3 1) (scr X x3 2) I L = some (r, I1, L1)) (eM : FO_M_fits fu (scr X x3 1) (scr X x3 2) I1 L1 = some (r, I2, L2)) (k : Wp (Ev 200) cd_L_law al (some .boolean) n0 s0 Q 1955 [(0, .float 0), (1, .ref 0), (2, .ref 331), (3, .int x3)] [] (HS I2 L2 X)) : Wp (Ev 200) cd_L_law al (some .boolean) n0 s0 Q 1624 [(0, .float 0), (1, .ref 0), (2, .ref 331), (3, .int x3)] [] (HS I L X) := by
  refine w_aload_n (Ev.cm _) rfl rfl ?_
  refine w_aload_nS (Ev.cm _) rfl rfl ?_
  refine w_iload_n (Ev.cm _) rfl rfl ?_
  refine w_iconst (Ev.cm _) rfl ?_
  refine w_iadd (Ev.cm _) rfl ?_
  refine w_sald (Ev.cm _) rfl v1 ?_
  refine w_aload_nS (Ev.cm _) rfl rfl ?_
  refine w_iload_n (Ev.cm _) rfl rfl ?_
  refine w_iconst (Ev.cm _) rfl ?_
  refine w_iadd (Ev.cm _) rfl ?_
  refine w_sald (Ev.cm _) rfl v2 ?_
  refine w_cvirt (o := 0) (as := [.int (scr X x3 1), .int (scr X x3 2)]) (st := []) (Ev.cm _) rfl rfl rfl (Nat.le_of_ble_eq_true rfl) (Nat.le_of_ble_eq_true rfl) rfl (Nat.le_of_ble_eq_true rfl) (eo_X_fits (g := ?_) eX)
  show Wp _ _ _ _ _ _ _ 1638 [(0, .float 0), (1, .ref 0), (2, .ref 331), (3, .int x3)] [.int r] (HS I1 L1 X)
  refine w_aload_n (Ev.cm _) rfl rfl ?_
  refine w_aload_nS (Ev.cm _) rfl rfl ?_
  refine w_iload_n (Ev.cm _) rfl rfl ?_
  refine w_iconst (Ev.cm _) rfl ?_
  refine w_iadd (Ev.cm _) rfl ?_
  refine w_sald (Ev.cm _) rfl v1 ?_
  refine w_aload_nS (Ev.cm _) rfl rfl ?_
  refine w_iload_n (Ev.cm _) rfl rfl ?_
  refine w_iconst (Ev.cm _) rfl ?_
  refine w_iadd (Ev.cm _) rfl ?_
  refine w_sald (Ev.cm _) rfl v2 ?_
  refine w_cvirt (o := 331) (as := [.int (scr X x3 1), .int (scr X x3 2)]) (st := [.int r]) (Ev.cm _) rfl rfl rfl (Nat.le_of_ble_eq_true rfl) (Nat.le_of_ble_eq_true rfl) rfl (Nat.le_of_ble_eq_true rfl) (eo_M_fits (g := ?_) eM)
  show Wp _ _ _ _ _ _ _ 1652 [(0, .float 0), (1, .ref 0), (2, .ref 331), (3, .int x3)] [.int r, .int r] (HS I2 L2 X)
  exact w_icmp_eq (Ev.cm _) rfl (fun _ => k) (fun c => absurd rfl c)
set_option maxHeartbeats 20000000 in
set_option maxRecDepth 20000 in
theorem lw_43 {fu : Nat} {I I1 I2 : Nat → Nat → Int32} {L L1 L2 : Nat → Nat → Int64} {X : Nat × (Nat → Int32)} {x3 : Int32} {r : Int32} {al : Nat × Nat} {n0 s0 : Nat} {Q : PQ} (v1 : vp_in (x3 + 1) X.1) (v2 : vp_in (x3 + 2) X.1) (v3 : vp_in (x3 + 3) X.1) (v4 : vp_in (x3 + 4) X.1) (v5 : vp_in (x3 + 5) X.1) (eX : FO_X_alone fu (scr X x3 1) I L = some (r, I1, L1)) (eM : FO_M_alone fu (scr X x3 1) I1 L1 = some (r, I2, L2)) (k : Wp (Ev 200) cd_L_law al (some .boolean) n0 s0 Q 1955 [(0, .float 0), (1, .ref 0), (2, .ref 331), (3, .int x3)] [] (HS I2 L2 X)) : Wp (Ev 200) cd_L_law al (some .boolean) n0 s0 Q 1657 [(0, .float 0), (1, .ref 0), (2, .ref 331), (3, .int x3)] [] (HS I L X) := by
  refine w_aload_n (Ev.cm _) rfl rfl ?_
  refine w_aload_nS (Ev.cm _) rfl rfl ?_
  refine w_iload_n (Ev.cm _) rfl rfl ?_
  refine w_iconst (Ev.cm _) rfl ?_
  refine w_iadd (Ev.cm _) rfl ?_
  refine w_sald (Ev.cm _) rfl v1 ?_
  refine w_cvirt (o := 0) (as := [.int (scr X x3 1)]) (st := []) (Ev.cm _) rfl rfl rfl (Nat.le_of_ble_eq_true rfl) (Nat.le_of_ble_eq_true rfl) rfl (Nat.le_of_ble_eq_true rfl) (eo_X_alone (g := ?_) eX)
  show Wp _ _ _ _ _ _ _ 1666 [(0, .float 0), (1, .ref 0), (2, .ref 331), (3, .int x3)] [.int r] (HS I1 L1 X)
  refine w_aload_n (Ev.cm _) rfl rfl ?_
  refine w_aload_nS (Ev.cm _) rfl rfl ?_
  refine w_iload_n (Ev.cm _) rfl rfl ?_
  refine w_iconst (Ev.cm _) rfl ?_
  refine w_iadd (Ev.cm _) rfl ?_
  refine w_sald (Ev.cm _) rfl v1 ?_
  refine w_cvirt (o := 331) (as := [.int (scr X x3 1)]) (st := [.int r]) (Ev.cm _) rfl rfl rfl (Nat.le_of_ble_eq_true rfl) (Nat.le_of_ble_eq_true rfl) rfl (Nat.le_of_ble_eq_true rfl) (eo_M_alone (g := ?_) eM)
  show Wp _ _ _ _ _ _ _ 1675 [(0, .float 0), (1, .ref 0), (2, .ref 331), (3, .int x3)] [.int r, .int r] (HS I2 L2 X)
  exact w_icmp_eq (Ev.cm _) rfl (fun _ => k) (fun c => absurd rfl c)
set_option maxHeartbeats 20000000 in
set_option maxRecDepth 20000 in
theorem lw_44 {fu : Nat} {I I1 I2 : Nat → Nat → Int32} {L L1 L2 : Nat → Nat → Int64} {X : Nat × (Nat → Int32)} {x3 : Int32} {r : Int32} {al : Nat × Nat} {n0 s0 : Nat} {Q : PQ} (v1 : vp_in (x3 + 1) X.1) (v2 : vp_in (x3 + 2) X.1) (v3 : vp_in (x3 + 3) X.1) (v4 : vp_in (x3 + 4) X.1) (v5 : vp_in (x3 + 5) X.1) (eX : FO_X_shared fu  I L = some (r, I1, L1)) (eM : FO_M_shared fu  I1 L1 = some (r, I2, L2)) (k : Wp (Ev 200) cd_L_law al (some .boolean) n0 s0 Q 1955 [(0, .float 0), (1, .ref 0), (2, .ref 331), (3, .int x3)] [] (HS I2 L2 X)) : Wp (Ev 200) cd_L_law al (some .boolean) n0 s0 Q 1680 [(0, .float 0), (1, .ref 0), (2, .ref 331), (3, .int x3)] [] (HS I L X) := by
  refine w_aload_n (Ev.cm _) rfl rfl ?_
  refine w_cvirt (o := 0) (as := []) (st := []) (Ev.cm _) rfl rfl rfl (Nat.le_of_ble_eq_true rfl) (Nat.le_of_ble_eq_true rfl) rfl (Nat.le_of_ble_eq_true rfl) (eo_X_shared (g := ?_) eX)
  show Wp _ _ _ _ _ _ _ 1684 [(0, .float 0), (1, .ref 0), (2, .ref 331), (3, .int x3)] [.int r] (HS I1 L1 X)
  refine w_aload_n (Ev.cm _) rfl rfl ?_
  refine w_cvirt (o := 331) (as := []) (st := [.int r]) (Ev.cm _) rfl rfl rfl (Nat.le_of_ble_eq_true rfl) (Nat.le_of_ble_eq_true rfl) rfl (Nat.le_of_ble_eq_true rfl) (eo_M_shared (g := ?_) eM)
  show Wp _ _ _ _ _ _ _ 1688 [(0, .float 0), (1, .ref 0), (2, .ref 331), (3, .int x3)] [.int r, .int r] (HS I2 L2 X)
  exact w_icmp_eq (Ev.cm _) rfl (fun _ => k) (fun c => absurd rfl c)
set_option maxHeartbeats 20000000 in
set_option maxRecDepth 20000 in
theorem lw_45 {fu : Nat} {I I1 I2 : Nat → Nat → Int32} {L L1 L2 : Nat → Nat → Int64} {X : Nat × (Nat → Int32)} {x3 : Int32} {r : Int32} {al : Nat × Nat} {n0 s0 : Nat} {Q : PQ} (v1 : vp_in (x3 + 1) X.1) (v2 : vp_in (x3 + 2) X.1) (v3 : vp_in (x3 + 3) X.1) (v4 : vp_in (x3 + 4) X.1) (v5 : vp_in (x3 + 5) X.1) (eX : FO_X_which fu  I L = some (r, I1, L1)) (eM : FO_M_which fu  I1 L1 = some (r, I2, L2)) (k : Wp (Ev 200) cd_L_law al (some .boolean) n0 s0 Q 1955 [(0, .float 0), (1, .ref 0), (2, .ref 331), (3, .int x3)] [] (HS I2 L2 X)) : Wp (Ev 200) cd_L_law al (some .boolean) n0 s0 Q 1693 [(0, .float 0), (1, .ref 0), (2, .ref 331), (3, .int x3)] [] (HS I L X) := by
  refine w_aload_n (Ev.cm _) rfl rfl ?_
  refine w_cvirt (o := 0) (as := []) (st := []) (Ev.cm _) rfl rfl rfl (Nat.le_of_ble_eq_true rfl) (Nat.le_of_ble_eq_true rfl) rfl (Nat.le_of_ble_eq_true rfl) (eo_X_which (g := ?_) eX)
  show Wp _ _ _ _ _ _ _ 1697 [(0, .float 0), (1, .ref 0), (2, .ref 331), (3, .int x3)] [.int r] (HS I1 L1 X)
  refine w_aload_n (Ev.cm _) rfl rfl ?_
  refine w_cvirt (o := 331) (as := []) (st := [.int r]) (Ev.cm _) rfl rfl rfl (Nat.le_of_ble_eq_true rfl) (Nat.le_of_ble_eq_true rfl) rfl (Nat.le_of_ble_eq_true rfl) (eo_M_which (g := ?_) eM)
  show Wp _ _ _ _ _ _ _ 1701 [(0, .float 0), (1, .ref 0), (2, .ref 331), (3, .int x3)] [.int r, .int r] (HS I2 L2 X)
  exact w_icmp_eq (Ev.cm _) rfl (fun _ => k) (fun c => absurd rfl c)
set_option maxHeartbeats 20000000 in
set_option maxRecDepth 20000 in
theorem lw_46 {fu : Nat} {I I1 I2 : Nat → Nat → Int32} {L L1 L2 : Nat → Nat → Int64} {X : Nat × (Nat → Int32)} {x3 : Int32} {r : Int32} {al : Nat × Nat} {n0 s0 : Nat} {Q : PQ} (v1 : vp_in (x3 + 1) X.1) (v2 : vp_in (x3 + 2) X.1) (v3 : vp_in (x3 + 3) X.1) (v4 : vp_in (x3 + 4) X.1) (v5 : vp_in (x3 + 5) X.1) (eX : FO_X_heavy fu (scr X x3 1) (scr X x3 2) I L = some (r, I1, L1)) (eM : FO_M_heavy fu (scr X x3 1) (scr X x3 2) I1 L1 = some (r, I2, L2)) (k : Wp (Ev 200) cd_L_law al (some .boolean) n0 s0 Q 1955 [(0, .float 0), (1, .ref 0), (2, .ref 331), (3, .int x3)] [] (HS I2 L2 X)) : Wp (Ev 200) cd_L_law al (some .boolean) n0 s0 Q 1706 [(0, .float 0), (1, .ref 0), (2, .ref 331), (3, .int x3)] [] (HS I L X) := by
  refine w_aload_n (Ev.cm _) rfl rfl ?_
  refine w_aload_nS (Ev.cm _) rfl rfl ?_
  refine w_iload_n (Ev.cm _) rfl rfl ?_
  refine w_iconst (Ev.cm _) rfl ?_
  refine w_iadd (Ev.cm _) rfl ?_
  refine w_sald (Ev.cm _) rfl v1 ?_
  refine w_aload_nS (Ev.cm _) rfl rfl ?_
  refine w_iload_n (Ev.cm _) rfl rfl ?_
  refine w_iconst (Ev.cm _) rfl ?_
  refine w_iadd (Ev.cm _) rfl ?_
  refine w_sald (Ev.cm _) rfl v2 ?_
  refine w_cvirt (o := 0) (as := [.int (scr X x3 1), .int (scr X x3 2)]) (st := []) (Ev.cm _) rfl rfl rfl (Nat.le_of_ble_eq_true rfl) (Nat.le_of_ble_eq_true rfl) rfl (Nat.le_of_ble_eq_true rfl) (eo_X_heavy (g := ?_) eX)
  show Wp _ _ _ _ _ _ _ 1720 [(0, .float 0), (1, .ref 0), (2, .ref 331), (3, .int x3)] [.int r] (HS I1 L1 X)
  refine w_aload_n (Ev.cm _) rfl rfl ?_
  refine w_aload_nS (Ev.cm _) rfl rfl ?_
  refine w_iload_n (Ev.cm _) rfl rfl ?_
  refine w_iconst (Ev.cm _) rfl ?_
  refine w_iadd (Ev.cm _) rfl ?_
  refine w_sald (Ev.cm _) rfl v1 ?_
  refine w_aload_nS (Ev.cm _) rfl rfl ?_
  refine w_iload_n (Ev.cm _) rfl rfl ?_
  refine w_iconst (Ev.cm _) rfl ?_
  refine w_iadd (Ev.cm _) rfl ?_
  refine w_sald (Ev.cm _) rfl v2 ?_
  refine w_cvirt (o := 331) (as := [.int (scr X x3 1), .int (scr X x3 2)]) (st := [.int r]) (Ev.cm _) rfl rfl rfl (Nat.le_of_ble_eq_true rfl) (Nat.le_of_ble_eq_true rfl) rfl (Nat.le_of_ble_eq_true rfl) (eo_M_heavy (g := ?_) eM)
  show Wp _ _ _ _ _ _ _ 1734 [(0, .float 0), (1, .ref 0), (2, .ref 331), (3, .int x3)] [.int r, .int r] (HS I2 L2 X)
  exact w_icmp_eq (Ev.cm _) rfl (fun _ => k) (fun c => absurd rfl c)
set_option maxHeartbeats 20000000 in
set_option maxRecDepth 20000 in
theorem lw_47 {fu : Nat} {I I1 I2 : Nat → Nat → Int32} {L L1 L2 : Nat → Nat → Int64} {X : Nat × (Nat → Int32)} {x3 : Int32} {r : Int32} {al : Nat × Nat} {n0 s0 : Nat} {Q : PQ} (v1 : vp_in (x3 + 1) X.1) (v2 : vp_in (x3 + 2) X.1) (v3 : vp_in (x3 + 3) X.1) (v4 : vp_in (x3 + 4) X.1) (v5 : vp_in (x3 + 5) X.1) (eX : FO_X_cheapest fu (scr X x3 1) I L = some (r, I1, L1)) (eM : FO_M_cheapest fu (scr X x3 1) I1 L1 = some (r, I2, L2)) (k : Wp (Ev 200) cd_L_law al (some .boolean) n0 s0 Q 1955 [(0, .float 0), (1, .ref 0), (2, .ref 331), (3, .int x3)] [] (HS I2 L2 X)) : Wp (Ev 200) cd_L_law al (some .boolean) n0 s0 Q 1739 [(0, .float 0), (1, .ref 0), (2, .ref 331), (3, .int x3)] [] (HS I L X) := by
  refine w_aload_n (Ev.cm _) rfl rfl ?_
  refine w_aload_nS (Ev.cm _) rfl rfl ?_
  refine w_iload_n (Ev.cm _) rfl rfl ?_
  refine w_iconst (Ev.cm _) rfl ?_
  refine w_iadd (Ev.cm _) rfl ?_
  refine w_sald (Ev.cm _) rfl v1 ?_
  refine w_cvirt (o := 0) (as := [.int (scr X x3 1)]) (st := []) (Ev.cm _) rfl rfl rfl (Nat.le_of_ble_eq_true rfl) (Nat.le_of_ble_eq_true rfl) rfl (Nat.le_of_ble_eq_true rfl) (eo_X_cheapest (g := ?_) eX)
  show Wp _ _ _ _ _ _ _ 1748 [(0, .float 0), (1, .ref 0), (2, .ref 331), (3, .int x3)] [.int r] (HS I1 L1 X)
  refine w_aload_n (Ev.cm _) rfl rfl ?_
  refine w_aload_nS (Ev.cm _) rfl rfl ?_
  refine w_iload_n (Ev.cm _) rfl rfl ?_
  refine w_iconst (Ev.cm _) rfl ?_
  refine w_iadd (Ev.cm _) rfl ?_
  refine w_sald (Ev.cm _) rfl v1 ?_
  refine w_cvirt (o := 331) (as := [.int (scr X x3 1)]) (st := [.int r]) (Ev.cm _) rfl rfl rfl (Nat.le_of_ble_eq_true rfl) (Nat.le_of_ble_eq_true rfl) rfl (Nat.le_of_ble_eq_true rfl) (eo_M_cheapest (g := ?_) eM)
  show Wp _ _ _ _ _ _ _ 1757 [(0, .float 0), (1, .ref 0), (2, .ref 331), (3, .int x3)] [.int r, .int r] (HS I2 L2 X)
  exact w_icmp_eq (Ev.cm _) rfl (fun _ => k) (fun c => absurd rfl c)
set_option maxHeartbeats 20000000 in
set_option maxRecDepth 20000 in
theorem lw_48 {fu : Nat} {I I1 I2 : Nat → Nat → Int32} {L L1 L2 : Nat → Nat → Int64} {X : Nat × (Nat → Int32)} {x3 : Int32} {r : Int32} {al : Nat × Nat} {n0 s0 : Nat} {Q : PQ} (v1 : vp_in (x3 + 1) X.1) (v2 : vp_in (x3 + 2) X.1) (v3 : vp_in (x3 + 3) X.1) (v4 : vp_in (x3 + 4) X.1) (v5 : vp_in (x3 + 5) X.1) (eX : FO_X_said fu (scr X x3 1) (scr X x3 2) (scr X x3 3) I L = some (r, I1, L1)) (eM : FO_M_said fu (scr X x3 1) (scr X x3 2) (scr X x3 3) I1 L1 = some (r, I2, L2)) (k : Wp (Ev 200) cd_L_law al (some .boolean) n0 s0 Q 1955 [(0, .float 0), (1, .ref 0), (2, .ref 331), (3, .int x3)] [] (HS I2 L2 X)) : Wp (Ev 200) cd_L_law al (some .boolean) n0 s0 Q 1762 [(0, .float 0), (1, .ref 0), (2, .ref 331), (3, .int x3)] [] (HS I L X) := by
  refine w_aload_n (Ev.cm _) rfl rfl ?_
  refine w_aload_nS (Ev.cm _) rfl rfl ?_
  refine w_iload_n (Ev.cm _) rfl rfl ?_
  refine w_iconst (Ev.cm _) rfl ?_
  refine w_iadd (Ev.cm _) rfl ?_
  refine w_sald (Ev.cm _) rfl v1 ?_
  refine w_aload_nS (Ev.cm _) rfl rfl ?_
  refine w_iload_n (Ev.cm _) rfl rfl ?_
  refine w_iconst (Ev.cm _) rfl ?_
  refine w_iadd (Ev.cm _) rfl ?_
  refine w_sald (Ev.cm _) rfl v2 ?_
  refine w_aload_nS (Ev.cm _) rfl rfl ?_
  refine w_iload_n (Ev.cm _) rfl rfl ?_
  refine w_iconst (Ev.cm _) rfl ?_
  refine w_iadd (Ev.cm _) rfl ?_
  refine w_sald (Ev.cm _) rfl v3 ?_
  refine w_cvirt (o := 0) (as := [.int (scr X x3 1), .int (scr X x3 2), .int (scr X x3 3)]) (st := []) (Ev.cm _) rfl rfl rfl (Nat.le_of_ble_eq_true rfl) (Nat.le_of_ble_eq_true rfl) rfl (Nat.le_of_ble_eq_true rfl) (eo_X_said (g := ?_) eX)
  show Wp _ _ _ _ _ _ _ 1781 [(0, .float 0), (1, .ref 0), (2, .ref 331), (3, .int x3)] [.int r] (HS I1 L1 X)
  refine w_aload_n (Ev.cm _) rfl rfl ?_
  refine w_aload_nS (Ev.cm _) rfl rfl ?_
  refine w_iload_n (Ev.cm _) rfl rfl ?_
  refine w_iconst (Ev.cm _) rfl ?_
  refine w_iadd (Ev.cm _) rfl ?_
  refine w_sald (Ev.cm _) rfl v1 ?_
  refine w_aload_nS (Ev.cm _) rfl rfl ?_
  refine w_iload_n (Ev.cm _) rfl rfl ?_
  refine w_iconst (Ev.cm _) rfl ?_
  refine w_iadd (Ev.cm _) rfl ?_
  refine w_sald (Ev.cm _) rfl v2 ?_
  refine w_aload_nS (Ev.cm _) rfl rfl ?_
  refine w_iload_n (Ev.cm _) rfl rfl ?_
  refine w_iconst (Ev.cm _) rfl ?_
  refine w_iadd (Ev.cm _) rfl ?_
  refine w_sald (Ev.cm _) rfl v3 ?_
  refine w_cvirt (o := 331) (as := [.int (scr X x3 1), .int (scr X x3 2), .int (scr X x3 3)]) (st := [.int r]) (Ev.cm _) rfl rfl rfl (Nat.le_of_ble_eq_true rfl) (Nat.le_of_ble_eq_true rfl) rfl (Nat.le_of_ble_eq_true rfl) (eo_M_said (g := ?_) eM)
  show Wp _ _ _ _ _ _ _ 1800 [(0, .float 0), (1, .ref 0), (2, .ref 331), (3, .int x3)] [.int r, .int r] (HS I2 L2 X)
  exact w_icmp_eq (Ev.cm _) rfl (fun _ => k) (fun c => absurd rfl c)
set_option maxHeartbeats 20000000 in
set_option maxRecDepth 20000 in
theorem lw_49 {fu : Nat} {I I1 I2 : Nat → Nat → Int32} {L L1 L2 : Nat → Nat → Int64} {X : Nat × (Nat → Int32)} {x3 : Int32} {r : Int32} {al : Nat × Nat} {n0 s0 : Nat} {Q : PQ} (v1 : vp_in (x3 + 1) X.1) (v2 : vp_in (x3 + 2) X.1) (v3 : vp_in (x3 + 3) X.1) (v4 : vp_in (x3 + 4) X.1) (v5 : vp_in (x3 + 5) X.1) (eX : FO_X_whose fu  I L = some (r, I1, L1)) (eM : FO_M_whose fu  I1 L1 = some (r, I2, L2)) (k : Wp (Ev 200) cd_L_law al (some .boolean) n0 s0 Q 1955 [(0, .float 0), (1, .ref 0), (2, .ref 331), (3, .int x3)] [] (HS I2 L2 X)) : Wp (Ev 200) cd_L_law al (some .boolean) n0 s0 Q 1805 [(0, .float 0), (1, .ref 0), (2, .ref 331), (3, .int x3)] [] (HS I L X) := by
  refine w_aload_n (Ev.cm _) rfl rfl ?_
  refine w_cvirt (o := 0) (as := []) (st := []) (Ev.cm _) rfl rfl rfl (Nat.le_of_ble_eq_true rfl) (Nat.le_of_ble_eq_true rfl) rfl (Nat.le_of_ble_eq_true rfl) (eo_X_whose (g := ?_) eX)
  show Wp _ _ _ _ _ _ _ 1809 [(0, .float 0), (1, .ref 0), (2, .ref 331), (3, .int x3)] [.int r] (HS I1 L1 X)
  refine w_aload_n (Ev.cm _) rfl rfl ?_
  refine w_cvirt (o := 331) (as := []) (st := [.int r]) (Ev.cm _) rfl rfl rfl (Nat.le_of_ble_eq_true rfl) (Nat.le_of_ble_eq_true rfl) rfl (Nat.le_of_ble_eq_true rfl) (eo_M_whose (g := ?_) eM)
  show Wp _ _ _ _ _ _ _ 1813 [(0, .float 0), (1, .ref 0), (2, .ref 331), (3, .int x3)] [.int r, .int r] (HS I2 L2 X)
  exact w_icmp_eq (Ev.cm _) rfl (fun _ => k) (fun c => absurd rfl c)
set_option maxHeartbeats 20000000 in
set_option maxRecDepth 20000 in
theorem lw_50 {fu : Nat} {I I1 I2 : Nat → Nat → Int32} {L L1 L2 : Nat → Nat → Int64} {X : Nat × (Nat → Int32)} {x3 : Int32} {r : Int32} {al : Nat × Nat} {n0 s0 : Nat} {Q : PQ} (v1 : vp_in (x3 + 1) X.1) (v2 : vp_in (x3 + 2) X.1) (v3 : vp_in (x3 + 3) X.1) (v4 : vp_in (x3 + 4) X.1) (v5 : vp_in (x3 + 5) X.1) (eX : FO_X_highest fu  I L = some (r, I1, L1)) (eM : FO_M_highest fu  I1 L1 = some (r, I2, L2)) (k : Wp (Ev 200) cd_L_law al (some .boolean) n0 s0 Q 1955 [(0, .float 0), (1, .ref 0), (2, .ref 331), (3, .int x3)] [] (HS I2 L2 X)) : Wp (Ev 200) cd_L_law al (some .boolean) n0 s0 Q 1818 [(0, .float 0), (1, .ref 0), (2, .ref 331), (3, .int x3)] [] (HS I L X) := by
  refine w_aload_n (Ev.cm _) rfl rfl ?_
  refine w_cvirt (o := 0) (as := []) (st := []) (Ev.cm _) rfl rfl rfl (Nat.le_of_ble_eq_true rfl) (Nat.le_of_ble_eq_true rfl) rfl (Nat.le_of_ble_eq_true rfl) (eo_X_highest (g := ?_) eX)
  show Wp _ _ _ _ _ _ _ 1822 [(0, .float 0), (1, .ref 0), (2, .ref 331), (3, .int x3)] [.int r] (HS I1 L1 X)
  refine w_aload_n (Ev.cm _) rfl rfl ?_
  refine w_cvirt (o := 331) (as := []) (st := [.int r]) (Ev.cm _) rfl rfl rfl (Nat.le_of_ble_eq_true rfl) (Nat.le_of_ble_eq_true rfl) rfl (Nat.le_of_ble_eq_true rfl) (eo_M_highest (g := ?_) eM)
  show Wp _ _ _ _ _ _ _ 1826 [(0, .float 0), (1, .ref 0), (2, .ref 331), (3, .int x3)] [.int r, .int r] (HS I2 L2 X)
  exact w_icmp_eq (Ev.cm _) rfl (fun _ => k) (fun c => absurd rfl c)
set_option maxHeartbeats 20000000 in
set_option maxRecDepth 20000 in
theorem lw_51 {fu : Nat} {I I1 I2 : Nat → Nat → Int32} {L L1 L2 : Nat → Nat → Int64} {X : Nat × (Nat → Int32)} {x3 : Int32} {r : Int32} {al : Nat × Nat} {n0 s0 : Nat} {Q : PQ} (v1 : vp_in (x3 + 1) X.1) (v2 : vp_in (x3 + 2) X.1) (v3 : vp_in (x3 + 3) X.1) (v4 : vp_in (x3 + 4) X.1) (v5 : vp_in (x3 + 5) X.1) (eX : FO_X_restless fu  I L = some (r, I1, L1)) (eM : FO_M_restless fu  I1 L1 = some (r, I2, L2)) (k : Wp (Ev 200) cd_L_law al (some .boolean) n0 s0 Q 1955 [(0, .float 0), (1, .ref 0), (2, .ref 331), (3, .int x3)] [] (HS I2 L2 X)) : Wp (Ev 200) cd_L_law al (some .boolean) n0 s0 Q 1831 [(0, .float 0), (1, .ref 0), (2, .ref 331), (3, .int x3)] [] (HS I L X) := by
  refine w_aload_n (Ev.cm _) rfl rfl ?_
  refine w_cvirt (o := 0) (as := []) (st := []) (Ev.cm _) rfl rfl rfl (Nat.le_of_ble_eq_true rfl) (Nat.le_of_ble_eq_true rfl) rfl (Nat.le_of_ble_eq_true rfl) (eo_X_restless (g := ?_) eX)
  show Wp _ _ _ _ _ _ _ 1835 [(0, .float 0), (1, .ref 0), (2, .ref 331), (3, .int x3)] [.int r] (HS I1 L1 X)
  refine w_aload_n (Ev.cm _) rfl rfl ?_
  refine w_cvirt (o := 331) (as := []) (st := [.int r]) (Ev.cm _) rfl rfl rfl (Nat.le_of_ble_eq_true rfl) (Nat.le_of_ble_eq_true rfl) rfl (Nat.le_of_ble_eq_true rfl) (eo_M_restless (g := ?_) eM)
  show Wp _ _ _ _ _ _ _ 1839 [(0, .float 0), (1, .ref 0), (2, .ref 331), (3, .int x3)] [.int r, .int r] (HS I2 L2 X)
  exact w_icmp_eq (Ev.cm _) rfl (fun _ => k) (fun c => absurd rfl c)
set_option maxHeartbeats 20000000 in
set_option maxRecDepth 20000 in
theorem lw_52 {fu : Nat} {I I1 I2 : Nat → Nat → Int32} {L L1 L2 : Nat → Nat → Int64} {X : Nat × (Nat → Int32)} {x3 : Int32} {r : Int32} {al : Nat × Nat} {n0 s0 : Nat} {Q : PQ} (v1 : vp_in (x3 + 1) X.1) (v2 : vp_in (x3 + 2) X.1) (v3 : vp_in (x3 + 3) X.1) (v4 : vp_in (x3 + 4) X.1) (v5 : vp_in (x3 + 5) X.1) (eX : FO_X_home fu  I L = some (r, I1, L1)) (eM : FO_M_home fu  I1 L1 = some (r, I2, L2)) (k : Wp (Ev 200) cd_L_law al (some .boolean) n0 s0 Q 1955 [(0, .float 0), (1, .ref 0), (2, .ref 331), (3, .int x3)] [] (HS I2 L2 X)) : Wp (Ev 200) cd_L_law al (some .boolean) n0 s0 Q 1844 [(0, .float 0), (1, .ref 0), (2, .ref 331), (3, .int x3)] [] (HS I L X) := by
  refine w_aload_n (Ev.cm _) rfl rfl ?_
  refine w_cvirt (o := 0) (as := []) (st := []) (Ev.cm _) rfl rfl rfl (Nat.le_of_ble_eq_true rfl) (Nat.le_of_ble_eq_true rfl) rfl (Nat.le_of_ble_eq_true rfl) (eo_X_home (g := ?_) eX)
  show Wp _ _ _ _ _ _ _ 1848 [(0, .float 0), (1, .ref 0), (2, .ref 331), (3, .int x3)] [.int r] (HS I1 L1 X)
  refine w_aload_n (Ev.cm _) rfl rfl ?_
  refine w_cvirt (o := 331) (as := []) (st := [.int r]) (Ev.cm _) rfl rfl rfl (Nat.le_of_ble_eq_true rfl) (Nat.le_of_ble_eq_true rfl) rfl (Nat.le_of_ble_eq_true rfl) (eo_M_home (g := ?_) eM)
  show Wp _ _ _ _ _ _ _ 1852 [(0, .float 0), (1, .ref 0), (2, .ref 331), (3, .int x3)] [.int r, .int r] (HS I2 L2 X)
  exact w_icmp_eq (Ev.cm _) rfl (fun _ => k) (fun c => absurd rfl c)
set_option maxHeartbeats 20000000 in
set_option maxRecDepth 20000 in
theorem lw_53 {fu : Nat} {I I1 I2 : Nat → Nat → Int32} {L L1 L2 : Nat → Nat → Int64} {X : Nat × (Nat → Int32)} {x3 : Int32} {r : Int32} {al : Nat × Nat} {n0 s0 : Nat} {Q : PQ} (v1 : vp_in (x3 + 1) X.1) (v2 : vp_in (x3 + 2) X.1) (v3 : vp_in (x3 + 3) X.1) (v4 : vp_in (x3 + 4) X.1) (v5 : vp_in (x3 + 5) X.1) (eX : FO_X_doubles fu  I L = some (r, I1, L1)) (eM : FO_M_doubles fu  I1 L1 = some (r, I2, L2)) (k : Wp (Ev 200) cd_L_law al (some .boolean) n0 s0 Q 1955 [(0, .float 0), (1, .ref 0), (2, .ref 331), (3, .int x3)] [] (HS I2 L2 X)) : Wp (Ev 200) cd_L_law al (some .boolean) n0 s0 Q 1857 [(0, .float 0), (1, .ref 0), (2, .ref 331), (3, .int x3)] [] (HS I L X) := by
  refine w_aload_n (Ev.cm _) rfl rfl ?_
  refine w_cvirt (o := 0) (as := []) (st := []) (Ev.cm _) rfl rfl rfl (Nat.le_of_ble_eq_true rfl) (Nat.le_of_ble_eq_true rfl) rfl (Nat.le_of_ble_eq_true rfl) (eo_X_doubles (g := ?_) eX)
  show Wp _ _ _ _ _ _ _ 1861 [(0, .float 0), (1, .ref 0), (2, .ref 331), (3, .int x3)] [.int r] (HS I1 L1 X)
  refine w_aload_n (Ev.cm _) rfl rfl ?_
  refine w_cvirt (o := 331) (as := []) (st := [.int r]) (Ev.cm _) rfl rfl rfl (Nat.le_of_ble_eq_true rfl) (Nat.le_of_ble_eq_true rfl) rfl (Nat.le_of_ble_eq_true rfl) (eo_M_doubles (g := ?_) eM)
  show Wp _ _ _ _ _ _ _ 1865 [(0, .float 0), (1, .ref 0), (2, .ref 331), (3, .int x3)] [.int r, .int r] (HS I2 L2 X)
  exact w_icmp_eq (Ev.cm _) rfl (fun _ => k) (fun c => absurd rfl c)
set_option maxHeartbeats 20000000 in
set_option maxRecDepth 20000 in
theorem lw_54 {fu : Nat} {I I1 I2 : Nat → Nat → Int32} {L L1 L2 : Nat → Nat → Int64} {X : Nat × (Nat → Int32)} {x3 : Int32} {r : Int32} {al : Nat × Nat} {n0 s0 : Nat} {Q : PQ} (v1 : vp_in (x3 + 1) X.1) (v2 : vp_in (x3 + 2) X.1) (v3 : vp_in (x3 + 3) X.1) (v4 : vp_in (x3 + 4) X.1) (v5 : vp_in (x3 + 5) X.1) (eX : FO_X_pause fu  I L = some (r, I1, L1)) (eM : FO_M_pause fu  I1 L1 = some (r, I2, L2)) (k : Wp (Ev 200) cd_L_law al (some .boolean) n0 s0 Q 1955 [(0, .float 0), (1, .ref 0), (2, .ref 331), (3, .int x3)] [] (HS I2 L2 X)) : Wp (Ev 200) cd_L_law al (some .boolean) n0 s0 Q 1870 [(0, .float 0), (1, .ref 0), (2, .ref 331), (3, .int x3)] [] (HS I L X) := by
  refine w_aload_n (Ev.cm _) rfl rfl ?_
  refine w_cvirt (o := 0) (as := []) (st := []) (Ev.cm _) rfl rfl rfl (Nat.le_of_ble_eq_true rfl) (Nat.le_of_ble_eq_true rfl) rfl (Nat.le_of_ble_eq_true rfl) (eo_X_pause (g := ?_) eX)
  show Wp _ _ _ _ _ _ _ 1874 [(0, .float 0), (1, .ref 0), (2, .ref 331), (3, .int x3)] [.int r] (HS I1 L1 X)
  refine w_aload_n (Ev.cm _) rfl rfl ?_
  refine w_cvirt (o := 331) (as := []) (st := [.int r]) (Ev.cm _) rfl rfl rfl (Nat.le_of_ble_eq_true rfl) (Nat.le_of_ble_eq_true rfl) rfl (Nat.le_of_ble_eq_true rfl) (eo_M_pause (g := ?_) eM)
  show Wp _ _ _ _ _ _ _ 1878 [(0, .float 0), (1, .ref 0), (2, .ref 331), (3, .int x3)] [.int r, .int r] (HS I2 L2 X)
  exact w_icmp_eq (Ev.cm _) rfl (fun _ => k) (fun c => absurd rfl c)
set_option maxHeartbeats 20000000 in
set_option maxRecDepth 20000 in
theorem lw_55 {fu : Nat} {I I1 I2 : Nat → Nat → Int32} {L L1 L2 : Nat → Nat → Int64} {X : Nat × (Nat → Int32)} {x3 : Int32} {r : Int32} {al : Nat × Nat} {n0 s0 : Nat} {Q : PQ} (v1 : vp_in (x3 + 1) X.1) (v2 : vp_in (x3 + 2) X.1) (v3 : vp_in (x3 + 3) X.1) (v4 : vp_in (x3 + 4) X.1) (v5 : vp_in (x3 + 5) X.1) (eX : FO_X_ledger fu (scr X x3 1) I L = some (r, I1, L1)) (eM : FO_M_ledger fu (scr X x3 1) I1 L1 = some (r, I2, L2)) (k : Wp (Ev 200) cd_L_law al (some .boolean) n0 s0 Q 1955 [(0, .float 0), (1, .ref 0), (2, .ref 331), (3, .int x3)] [] (HS I2 L2 X)) : Wp (Ev 200) cd_L_law al (some .boolean) n0 s0 Q 1883 [(0, .float 0), (1, .ref 0), (2, .ref 331), (3, .int x3)] [] (HS I L X) := by
  refine w_aload_n (Ev.cm _) rfl rfl ?_
  refine w_aload_nS (Ev.cm _) rfl rfl ?_
  refine w_iload_n (Ev.cm _) rfl rfl ?_
  refine w_iconst (Ev.cm _) rfl ?_
  refine w_iadd (Ev.cm _) rfl ?_
  refine w_sald (Ev.cm _) rfl v1 ?_
  refine w_cvirt (o := 0) (as := [.int (scr X x3 1)]) (st := []) (Ev.cm _) rfl rfl rfl (Nat.le_of_ble_eq_true rfl) (Nat.le_of_ble_eq_true rfl) rfl (Nat.le_of_ble_eq_true rfl) (eo_X_ledger (g := ?_) eX)
  show Wp _ _ _ _ _ _ _ 1892 [(0, .float 0), (1, .ref 0), (2, .ref 331), (3, .int x3)] [.int r] (HS I1 L1 X)
  refine w_aload_n (Ev.cm _) rfl rfl ?_
  refine w_aload_nS (Ev.cm _) rfl rfl ?_
  refine w_iload_n (Ev.cm _) rfl rfl ?_
  refine w_iconst (Ev.cm _) rfl ?_
  refine w_iadd (Ev.cm _) rfl ?_
  refine w_sald (Ev.cm _) rfl v1 ?_
  refine w_cvirt (o := 331) (as := [.int (scr X x3 1)]) (st := [.int r]) (Ev.cm _) rfl rfl rfl (Nat.le_of_ble_eq_true rfl) (Nat.le_of_ble_eq_true rfl) rfl (Nat.le_of_ble_eq_true rfl) (eo_M_ledger (g := ?_) eM)
  show Wp _ _ _ _ _ _ _ 1901 [(0, .float 0), (1, .ref 0), (2, .ref 331), (3, .int x3)] [.int r, .int r] (HS I2 L2 X)
  exact w_icmp_eq (Ev.cm _) rfl (fun _ => k) (fun c => absurd rfl c)
set_option maxHeartbeats 20000000 in
set_option maxRecDepth 20000 in
theorem lw_56 {fu : Nat} {I I1 I2 : Nat → Nat → Int32} {L L1 L2 : Nat → Nat → Int64} {X : Nat × (Nat → Int32)} {x3 : Int32} {r : Int32} {al : Nat × Nat} {n0 s0 : Nat} {Q : PQ} (v1 : vp_in (x3 + 1) X.1) (v2 : vp_in (x3 + 2) X.1) (v3 : vp_in (x3 + 3) X.1) (v4 : vp_in (x3 + 4) X.1) (v5 : vp_in (x3 + 5) X.1) (eX : FO_X_image fu  I L = some (r, I1, L1)) (eM : FO_M_image fu  I1 L1 = some (r, I2, L2)) (k : Wp (Ev 200) cd_L_law al (some .boolean) n0 s0 Q 1955 [(0, .float 0), (1, .ref 0), (2, .ref 331), (3, .int x3)] [] (HS I2 L2 X)) : Wp (Ev 200) cd_L_law al (some .boolean) n0 s0 Q 1906 [(0, .float 0), (1, .ref 0), (2, .ref 331), (3, .int x3)] [] (HS I L X) := by
  refine w_aload_n (Ev.cm _) rfl rfl ?_
  refine w_cvirt (o := 0) (as := []) (st := []) (Ev.cm _) rfl rfl rfl (Nat.le_of_ble_eq_true rfl) (Nat.le_of_ble_eq_true rfl) rfl (Nat.le_of_ble_eq_true rfl) (eo_X_image (g := ?_) eX)
  show Wp _ _ _ _ _ _ _ 1910 [(0, .float 0), (1, .ref 0), (2, .ref 331), (3, .int x3)] [.int r] (HS I1 L1 X)
  refine w_aload_n (Ev.cm _) rfl rfl ?_
  refine w_cvirt (o := 331) (as := []) (st := [.int r]) (Ev.cm _) rfl rfl rfl (Nat.le_of_ble_eq_true rfl) (Nat.le_of_ble_eq_true rfl) rfl (Nat.le_of_ble_eq_true rfl) (eo_M_image (g := ?_) eM)
  show Wp _ _ _ _ _ _ _ 1914 [(0, .float 0), (1, .ref 0), (2, .ref 331), (3, .int x3)] [.int r, .int r] (HS I2 L2 X)
  exact w_icmp_eq (Ev.cm _) rfl (fun _ => k) (fun c => absurd rfl c)
set_option maxHeartbeats 20000000 in
set_option maxRecDepth 20000 in
theorem lw_57 {fu : Nat} {I I1 I2 : Nat → Nat → Int32} {L L1 L2 : Nat → Nat → Int64} {X : Nat × (Nat → Int32)} {x3 : Int32} {r : Int32} {al : Nat × Nat} {n0 s0 : Nat} {Q : PQ} (v1 : vp_in (x3 + 1) X.1) (v2 : vp_in (x3 + 2) X.1) (v3 : vp_in (x3 + 3) X.1) (v4 : vp_in (x3 + 4) X.1) (v5 : vp_in (x3 + 5) X.1) (eX : FO_X_back fu  I L = some (r, I1, L1)) (eM : FO_M_back fu  I1 L1 = some (r, I2, L2)) (k : Wp (Ev 200) cd_L_law al (some .boolean) n0 s0 Q 1955 [(0, .float 0), (1, .ref 0), (2, .ref 331), (3, .int x3)] [] (HS I2 L2 X)) : Wp (Ev 200) cd_L_law al (some .boolean) n0 s0 Q 1919 [(0, .float 0), (1, .ref 0), (2, .ref 331), (3, .int x3)] [] (HS I L X) := by
  refine w_aload_n (Ev.cm _) rfl rfl ?_
  refine w_cvirt (o := 0) (as := []) (st := []) (Ev.cm _) rfl rfl rfl (Nat.le_of_ble_eq_true rfl) (Nat.le_of_ble_eq_true rfl) rfl (Nat.le_of_ble_eq_true rfl) (eo_X_back (g := ?_) eX)
  show Wp _ _ _ _ _ _ _ 1923 [(0, .float 0), (1, .ref 0), (2, .ref 331), (3, .int x3)] [.int r] (HS I1 L1 X)
  refine w_aload_n (Ev.cm _) rfl rfl ?_
  refine w_cvirt (o := 331) (as := []) (st := [.int r]) (Ev.cm _) rfl rfl rfl (Nat.le_of_ble_eq_true rfl) (Nat.le_of_ble_eq_true rfl) rfl (Nat.le_of_ble_eq_true rfl) (eo_M_back (g := ?_) eM)
  show Wp _ _ _ _ _ _ _ 1927 [(0, .float 0), (1, .ref 0), (2, .ref 331), (3, .int x3)] [.int r, .int r] (HS I2 L2 X)
  exact w_icmp_eq (Ev.cm _) rfl (fun _ => k) (fun c => absurd rfl c)
set_option maxHeartbeats 20000000 in
set_option maxRecDepth 20000 in
theorem lw_58 {fu : Nat} {I I1 I2 : Nat → Nat → Int32} {L L1 L2 : Nat → Nat → Int64} {X : Nat × (Nat → Int32)} {x3 : Int32} {r : Int32} {al : Nat × Nat} {n0 s0 : Nat} {Q : PQ} (v1 : vp_in (x3 + 1) X.1) (v2 : vp_in (x3 + 2) X.1) (v3 : vp_in (x3 + 3) X.1) (v4 : vp_in (x3 + 4) X.1) (v5 : vp_in (x3 + 5) X.1) (eX : FO_X_about fu (scr X x3 1) I L = some (r, I1, L1)) (eM : FO_M_about fu (scr X x3 1) I1 L1 = some (r, I2, L2)) (k : Wp (Ev 200) cd_L_law al (some .boolean) n0 s0 Q 1955 [(0, .float 0), (1, .ref 0), (2, .ref 331), (3, .int x3)] [] (HS I2 L2 X)) : Wp (Ev 200) cd_L_law al (some .boolean) n0 s0 Q 1932 [(0, .float 0), (1, .ref 0), (2, .ref 331), (3, .int x3)] [] (HS I L X) := by
  refine w_aload_n (Ev.cm _) rfl rfl ?_
  refine w_aload_nS (Ev.cm _) rfl rfl ?_
  refine w_iload_n (Ev.cm _) rfl rfl ?_
  refine w_iconst (Ev.cm _) rfl ?_
  refine w_iadd (Ev.cm _) rfl ?_
  refine w_sald (Ev.cm _) rfl v1 ?_
  refine w_cvirt (o := 0) (as := [.int (scr X x3 1)]) (st := []) (Ev.cm _) rfl rfl rfl (Nat.le_of_ble_eq_true rfl) (Nat.le_of_ble_eq_true rfl) rfl (Nat.le_of_ble_eq_true rfl) (eo_X_about (g := ?_) eX)
  show Wp _ _ _ _ _ _ _ 1941 [(0, .float 0), (1, .ref 0), (2, .ref 331), (3, .int x3)] [.int r] (HS I1 L1 X)
  refine w_aload_n (Ev.cm _) rfl rfl ?_
  refine w_aload_nS (Ev.cm _) rfl rfl ?_
  refine w_iload_n (Ev.cm _) rfl rfl ?_
  refine w_iconst (Ev.cm _) rfl ?_
  refine w_iadd (Ev.cm _) rfl ?_
  refine w_sald (Ev.cm _) rfl v1 ?_
  refine w_cvirt (o := 331) (as := [.int (scr X x3 1)]) (st := [.int r]) (Ev.cm _) rfl rfl rfl (Nat.le_of_ble_eq_true rfl) (Nat.le_of_ble_eq_true rfl) rfl (Nat.le_of_ble_eq_true rfl) (eo_M_about (g := ?_) eM)
  show Wp _ _ _ _ _ _ _ 1950 [(0, .float 0), (1, .ref 0), (2, .ref 331), (3, .int x3)] [.int r, .int r] (HS I2 L2 X)
  exact w_icmp_eq (Ev.cm _) rfl (fun _ => k) (fun c => absurd rfl c)
/-- each pair of calls answers alike, and R stays -/
def AllOps (fu : Nat) (R : (Nat → Nat → Int32) → (Nat → Nat → Int64) → Prop) : Prop :=
  (∀ a1 a2 : Int32, Op2 R (fun I L => FO_X_lodger fu a1 a2 I L) (fun I L => FO_M_lodger fu a1 a2 I L)) ∧
  (∀ a1 a2 a3 a4 a5 : Int32, Op2 R (fun I L => FO_X_feed fu a1 a2 a3 a4 a5 I L) (fun I L => FO_M_feed fu a1 a2 a3 a4 a5 I L)) ∧
  (∀ a1 : Int32, Op2 R (fun I L => FO_X_end fu a1 I L) (fun I L => FO_M_end fu a1 I L)) ∧
  (Op2 R (fun I L => FO_X_text fu  I L) (fun I L => FO_M_text fu  I L)) ∧
  (∀ a1 : Int32, Op2 R (fun I L => FO_X_fault fu a1 I L) (fun I L => FO_M_fault fu a1 I L)) ∧
  (∀ a1 : Int32, Op2 R (fun I L => FO_X_by fu a1 I L) (fun I L => FO_M_by fu a1 I L)) ∧
  (∀ a1 bv a3 : Int32, (bv = 0 ∨ bv = 1) → Op2 R (fun I L => FO_X_tread fu a1 bv a3 I L) (fun I L => FO_M_tread fu a1 bv a3 I L)) ∧
  (∀ a1 bv : Int32, (bv = 0 ∨ bv = 1) → Op2 R (fun I L => FO_X_hang fu a1 bv I L) (fun I L => FO_M_hang fu a1 bv I L)) ∧
  (∀ a1 : Int32, Op2 R (fun I L => FO_X_hour fu a1 I L) (fun I L => FO_M_hour fu a1 I L)) ∧
  (∀ a1 : Int32, Op2 R (fun I L => FO_X_played fu a1 I L) (fun I L => FO_M_played fu a1 I L)) ∧
  (∀ a1 a2 : Int32, Op2 R (fun I L => FO_X_nights fu a1 a2 I L) (fun I L => FO_M_nights fu a1 a2 I L)) ∧
  (Op2 R (fun I L => FO_X_undo fu  I L) (fun I L => FO_M_undo fu  I L)) ∧
  (∀ a1 a2 : Int32, Op2 R (fun I L => FO_X_of fu a1 a2 I L) (fun I L => FO_M_of fu a1 a2 I L)) ∧
  (∀ a1 a2 bv : Int32, (bv = 0 ∨ bv = 1) → Op2 R (fun I L => FO_X_ticks fu a1 a2 bv I L) (fun I L => FO_M_ticks fu a1 a2 bv I L)) ∧
  (∀ a1 : Int32, Op2 R (fun I L => FO_X_hears fu a1 I L) (fun I L => FO_M_hears fu a1 I L)) ∧
  (∀ a1 : Int32, Op2 R (fun I L => FO_X_is fu a1 I L) (fun I L => FO_M_is fu a1 I L)) ∧
  (∀ a1 a2 : Int32, Op2 R (fun I L => FO_X_book fu a1 a2 I L) (fun I L => FO_M_book fu a1 a2 I L)) ∧
  (∀ a1 a2 a3 : Int32, Op2 R (fun I L => FO_X_foretold fu a1 a2 a3 I L) (fun I L => FO_M_foretold fu a1 a2 a3 I L)) ∧
  (∀ a1 a2 a3 a4 : Int32, Op2 R (fun I L => FO_X_quiet fu a1 a2 a3 a4 I L) (fun I L => FO_M_quiet fu a1 a2 a3 a4 I L)) ∧
  (∀ a1 a2 : Int32, Op2 R (fun I L => FO_X_ways fu a1 a2 I L) (fun I L => FO_M_ways fu a1 a2 I L)) ∧
  (∀ a1 a2 a3 : Int32, Op2 R (fun I L => FO_X_unheard fu a1 a2 a3 I L) (fun I L => FO_M_unheard fu a1 a2 a3 I L)) ∧
  (∀ a1 a2 a3 : Int32, Op2 R (fun I L => FO_X_waysBy fu a1 a2 a3 I L) (fun I L => FO_M_waysBy fu a1 a2 a3 I L)) ∧
  (∀ a1 : Int32, Op2 R (fun I L => FO_X_loudest fu a1 I L) (fun I L => FO_M_loudest fu a1 I L)) ∧
  (∀ a1 bv : Int32, (bv = 0 ∨ bv = 1) → Op2 R (fun I L => FO_X_heardOn fu a1 bv I L) (fun I L => FO_M_heardOn fu a1 bv I L)) ∧
  (Op2 R (fun I L => FO_X_cupRow fu  I L) (fun I L => FO_M_cupRow fu  I L)) ∧
  (∀ a1 a2 a3 : Int32, Op2 R (fun I L => FO_X_change fu a1 a2 a3 I L) (fun I L => FO_M_change fu a1 a2 a3 I L)) ∧
  (∀ a1 a2 a3 : Int32, Op2 R (fun I L => FO_X_sound fu a1 a2 a3 I L) (fun I L => FO_M_sound fu a1 a2 a3 I L)) ∧
  (∀ a1 : Int32, Op2 R (fun I L => FO_X_listen fu a1 I L) (fun I L => FO_M_listen fu a1 I L)) ∧
  (Op2 R (fun I L => FO_X_weighed fu  I L) (fun I L => FO_M_weighed fu  I L)) ∧
  (∀ a1 a2 bv : Int32, (bv = 0 ∨ bv = 1) → Op2 R (fun I L => FO_X_mood fu a1 a2 bv I L) (fun I L => FO_M_mood fu a1 a2 bv I L)) ∧
  (∀ a1 : Int32, Op2 R (fun I L => FO_X_moods fu a1 I L) (fun I L => FO_M_moods fu a1 I L)) ∧
  (∀ a1 : Int32, Op2 R (fun I L => FO_X_likeliest fu a1 I L) (fun I L => FO_M_likeliest fu a1 I L)) ∧
  (∀ a1 bv : Int32, (bv = 0 ∨ bv = 1) → Op2 R (fun I L => FO_X_next fu a1 bv I L) (fun I L => FO_M_next fu a1 bv I L)) ∧
  (∀ a1 : Int32, Op2 R (fun I L => FO_X_code fu a1 I L) (fun I L => FO_M_code fu a1 I L)) ∧
  (Op2 R (fun I L => FO_X_clear fu  I L) (fun I L => FO_M_clear fu  I L)) ∧
  (Op2 R (fun I L => FO_X_doubt fu  I L) (fun I L => FO_M_doubt fu  I L)) ∧
  (Op2 R (fun I L => FO_X_free fu  I L) (fun I L => FO_M_free fu  I L)) ∧
  (∀ a1 : Int32, Op2 R (fun I L => FO_X_reads fu a1 I L) (fun I L => FO_M_reads fu a1 I L)) ∧
  (Op2 R (fun I L => FO_X_unread fu  I L) (fun I L => FO_M_unread fu  I L)) ∧
  (∀ bv : Int32, (bv = 0 ∨ bv = 1) → Op2 R (fun I L => FO_X_room fu bv I L) (fun I L => FO_M_room fu bv I L)) ∧
  (∀ a1 a2 : Int32, Op2 R (fun I L => FO_X_print fu a1 a2 I L) (fun I L => FO_M_print fu a1 a2 I L)) ∧
  (∀ bv : Int32, (bv = 0 ∨ bv = 1) → Op2 R (fun I L => FO_X_enough fu bv I L) (fun I L => FO_M_enough fu bv I L)) ∧
  (∀ a1 a2 : Int32, Op2 R (fun I L => FO_X_fits fu a1 a2 I L) (fun I L => FO_M_fits fu a1 a2 I L)) ∧
  (∀ a1 : Int32, Op2 R (fun I L => FO_X_alone fu a1 I L) (fun I L => FO_M_alone fu a1 I L)) ∧
  (Op2 R (fun I L => FO_X_shared fu  I L) (fun I L => FO_M_shared fu  I L)) ∧
  (Op2 R (fun I L => FO_X_which fu  I L) (fun I L => FO_M_which fu  I L)) ∧
  (∀ a1 a2 : Int32, Op2 R (fun I L => FO_X_heavy fu a1 a2 I L) (fun I L => FO_M_heavy fu a1 a2 I L)) ∧
  (∀ a1 : Int32, Op2 R (fun I L => FO_X_cheapest fu a1 I L) (fun I L => FO_M_cheapest fu a1 I L)) ∧
  (∀ a1 a2 a3 : Int32, Op2 R (fun I L => FO_X_said fu a1 a2 a3 I L) (fun I L => FO_M_said fu a1 a2 a3 I L)) ∧
  (Op2 R (fun I L => FO_X_whose fu  I L) (fun I L => FO_M_whose fu  I L)) ∧
  (Op2 R (fun I L => FO_X_highest fu  I L) (fun I L => FO_M_highest fu  I L)) ∧
  (Op2 R (fun I L => FO_X_restless fu  I L) (fun I L => FO_M_restless fu  I L)) ∧
  (Op2 R (fun I L => FO_X_home fu  I L) (fun I L => FO_M_home fu  I L)) ∧
  (Op2 R (fun I L => FO_X_doubles fu  I L) (fun I L => FO_M_doubles fu  I L)) ∧
  (Op2 R (fun I L => FO_X_pause fu  I L) (fun I L => FO_M_pause fu  I L)) ∧
  (∀ a1 : Int32, Op2 R (fun I L => FO_X_ledger fu a1 I L) (fun I L => FO_M_ledger fu a1 I L)) ∧
  (Op2 R (fun I L => FO_X_image fu  I L) (fun I L => FO_M_image fu  I L)) ∧
  (Op2 R (fun I L => FO_X_back fu  I L) (fun I L => FO_M_back fu  I L)) ∧
  (∀ a1 : Int32, Op2 R (fun I L => FO_X_about fu a1 I L) (fun I L => FO_M_about fu a1 I L))
theorem bv_of (x : Int32) : ∃ bv : Int32, (bv = 0 ∨ bv = 1) ∧ ((x = 0 ∧ bv = 0) ∨ (¬ x = 0 ∧ bv = 1)) := by
  by_cases h : x = 0
  · exact ⟨0, Or.inl rfl, Or.inl ⟨h, rfl⟩⟩
  · exact ⟨1, Or.inr rfl, Or.inr ⟨h, rfl⟩⟩
set_option maxHeartbeats 20000000 in
set_option maxRecDepth 20000 in
theorem law_round {fu : Nat} {R : (Nat → Nat → Int32) → (Nat → Nat → Int64) → Prop} (ops : AllOps fu R) {I : Nat → Nat → Int32} {L : Nat → Nat → Int64} {X : Nat × (Nat → Int32)} {x3 : Int32} {al : Nat × Nat} {n0 s0 : Nat} {Q : PQ} (hR : R I L) (v0 : vp_in x3 X.1) (v1 : vp_in (x3 + 1) X.1) (v2 : vp_in (x3 + 2) X.1) (v3 : vp_in (x3 + 3) X.1) (v4 : vp_in (x3 + 4) X.1) (v5 : vp_in (x3 + 5) X.1)
    (k : ∀ I2 L2, R I2 L2 → Wp (Ev 200) cd_L_law al (some .boolean) n0 s0 Q 1955 [(0, .float 0), (1, .ref 0), (2, .ref 331), (3, .int x3)] [] (HS I2 L2 X)) : Wp (Ev 200) cd_L_law al (some .boolean) n0 s0 Q 27 [(0, .float 0), (1, .ref 0), (2, .ref 331), (3, .int x3)] [] (HS I L X) := by
  unfold AllOps at ops
  obtain ⟨o0, o1, o2, o3, o4, o5, o6, o7, o8, o9, o10, o11, o12, o13, o14, o15, o16, o17, o18, o19, o20, o21, o22, o23, o24, o25, o26, o27, o28, o29, o30, o31, o32, o33, o34, o35, o36, o37, o38, o39, o40, o41, o42, o43, o44, o45, o46, o47, o48, o49, o50, o51, o52, o53, o54, o55, o56, o57, o58⟩ := ops
  refine w_aload_nS (Ev.cm _) rfl rfl ?_
  refine w_iload_n (Ev.cm _) rfl rfl ?_
  refine w_sald (Ev.cm _) rfl v0 ?_
  refine w_bipush (Ev.cm _) rfl ?_
  refine w_iand (Ev.cm _) rfl ?_
  refine w_tswL (Ev.cm _) [(0, 251), (1, 284), (2, 347), (3, 370), (4, 383), (5, 406), (6, 429), (7, 488), (8, 537), (9, 560), (10, 583), (11, 616), (12, 629), (13, 662), (14, 721), (15, 744), (16, 767), (17, 800), (18, 843), (19, 896), (20, 930), (21, 974), (22, 1018), (23, 1041), (24, 1090), (25, 1103), (26, 1146), (27, 1189), (28, 1212), (29, 1226), (30, 1286), (31, 1309), (32, 1332), (33, 1382), (34, 1405), (35, 1418), (36, 1431), (37, 1444), (38, 1467), (39, 1480), (40, 1519), (41, 1552), (42, 1591), (43, 1624), (44, 1647), (45, 1660), (46, 1673), (47, 1706), (48, 1729), (49, 1772), (50, 1785), (51, 1798), (52, 1811), (53, 1824), (54, 1837), (55, 1850), (56, 1873), (57, 1886), (58, 1899)] rfl (by decide +kernel) (by decide +kernel) ?_
  refine ⟨fun _ => ?_, fun _ => ⟨fun _ => ?_, fun _ => ⟨fun _ => ?_, fun _ => ⟨fun _ => ?_, fun _ => ⟨fun _ => ?_, fun _ => ⟨fun _ => ?_, fun _ => ⟨fun _ => ?_, fun _ => ⟨fun _ => ?_, fun _ => ⟨fun _ => ?_, fun _ => ⟨fun _ => ?_, fun _ => ⟨fun _ => ?_, fun _ => ⟨fun _ => ?_, fun _ => ⟨fun _ => ?_, fun _ => ⟨fun _ => ?_, fun _ => ⟨fun _ => ?_, fun _ => ⟨fun _ => ?_, fun _ => ⟨fun _ => ?_, fun _ => ⟨fun _ => ?_, fun _ => ⟨fun _ => ?_, fun _ => ⟨fun _ => ?_, fun _ => ⟨fun _ => ?_, fun _ => ⟨fun _ => ?_, fun _ => ⟨fun _ => ?_, fun _ => ⟨fun _ => ?_, fun _ => ⟨fun _ => ?_, fun _ => ⟨fun _ => ?_, fun _ => ⟨fun _ => ?_, fun _ => ⟨fun _ => ?_, fun _ => ⟨fun _ => ?_, fun _ => ⟨fun _ => ?_, fun _ => ⟨fun _ => ?_, fun _ => ⟨fun _ => ?_, fun _ => ⟨fun _ => ?_, fun _ => ⟨fun _ => ?_, fun _ => ⟨fun _ => ?_, fun _ => ⟨fun _ => ?_, fun _ => ⟨fun _ => ?_, fun _ => ⟨fun _ => ?_, fun _ => ⟨fun _ => ?_, fun _ => ⟨fun _ => ?_, fun _ => ⟨fun _ => ?_, fun _ => ⟨fun _ => ?_, fun _ => ⟨fun _ => ?_, fun _ => ⟨fun _ => ?_, fun _ => ⟨fun _ => ?_, fun _ => ⟨fun _ => ?_, fun _ => ⟨fun _ => ?_, fun _ => ⟨fun _ => ?_, fun _ => ⟨fun _ => ?_, fun _ => ⟨fun _ => ?_, fun _ => ⟨fun _ => ?_, fun _ => ⟨fun _ => ?_, fun _ => ⟨fun _ => ?_, fun _ => ⟨fun _ => ?_, fun _ => ⟨fun _ => ?_, fun _ => ⟨fun _ => ?_, fun _ => ⟨fun _ => ?_, fun _ => ⟨fun _ => ?_, fun _ => ⟨fun _ => ?_, fun _ => ?_⟩⟩⟩⟩⟩⟩⟩⟩⟩⟩⟩⟩⟩⟩⟩⟩⟩⟩⟩⟩⟩⟩⟩⟩⟩⟩⟩⟩⟩⟩⟩⟩⟩⟩⟩⟩⟩⟩⟩⟩⟩⟩⟩⟩⟩⟩⟩⟩⟩⟩⟩⟩⟩⟩⟩⟩⟩⟩⟩
  · show Wp _ _ _ _ _ _ _ 284 [(0, .float 0), (1, .ref 0), (2, .ref 331), (3, .int x3)] [] (HS I L X)
    obtain ⟨r, I1, L1, I2, L2, eX, eM, h2⟩ := o0 (scr X x3 1) (scr X x3 2) I L hR
    exact lw_0 v1 v2 v3 v4 v5 eX eM (k _ _ h2)
  · show Wp _ _ _ _ _ _ _ 317 [(0, .float 0), (1, .ref 0), (2, .ref 331), (3, .int x3)] [] (HS I L X)
    obtain ⟨r, I1, L1, I2, L2, eX, eM, h2⟩ := o1 (scr X x3 1) (scr X x3 2) (scr X x3 3) (scr X x3 4) (scr X x3 5) I L hR
    exact lw_1 v1 v2 v3 v4 v5 eX eM (k _ _ h2)
  · show Wp _ _ _ _ _ _ _ 380 [(0, .float 0), (1, .ref 0), (2, .ref 331), (3, .int x3)] [] (HS I L X)
    obtain ⟨r, I1, L1, I2, L2, eX, eM, h2⟩ := o2 (scr X x3 1) I L hR
    exact lw_2 v1 v2 v3 v4 v5 eX eM (k _ _ h2)
  · show Wp _ _ _ _ _ _ _ 403 [(0, .float 0), (1, .ref 0), (2, .ref 331), (3, .int x3)] [] (HS I L X)
    obtain ⟨r, I1, L1, I2, L2, eX, eM, h2⟩ := o3  I L hR
    exact lw_3 v1 v2 v3 v4 v5 eX eM (k _ _ h2)
  · show Wp _ _ _ _ _ _ _ 416 [(0, .float 0), (1, .ref 0), (2, .ref 331), (3, .int x3)] [] (HS I L X)
    obtain ⟨r, I1, L1, I2, L2, eX, eM, h2⟩ := o4 (scr X x3 1) I L hR
    exact lw_4 v1 v2 v3 v4 v5 eX eM (k _ _ h2)
  · show Wp _ _ _ _ _ _ _ 439 [(0, .float 0), (1, .ref 0), (2, .ref 331), (3, .int x3)] [] (HS I L X)
    obtain ⟨r, I1, L1, I2, L2, eX, eM, h2⟩ := o5 (scr X x3 1) I L hR
    exact lw_5 v1 v2 v3 v4 v5 eX eM (k _ _ h2)
  · show Wp _ _ _ _ _ _ _ 462 [(0, .float 0), (1, .ref 0), (2, .ref 331), (3, .int x3)] [] (HS I L X)
    obtain ⟨bv, hb1, hb2⟩ := bv_of (scr X x3 2)
    obtain ⟨r, I1, L1, I2, L2, eX, eM, h2⟩ := o6 (scr X x3 1) bv (scr X x3 3) hb1 I L hR
    exact lw_6 v1 v2 v3 v4 v5 hb2 eX eM (k _ _ h2)
  · show Wp _ _ _ _ _ _ _ 521 [(0, .float 0), (1, .ref 0), (2, .ref 331), (3, .int x3)] [] (HS I L X)
    obtain ⟨bv, hb1, hb2⟩ := bv_of (scr X x3 2)
    obtain ⟨r, I1, L1, I2, L2, eX, eM, h2⟩ := o7 (scr X x3 1) bv hb1 I L hR
    exact lw_7 v1 v2 v3 v4 v5 hb2 eX eM (k _ _ h2)
  · show Wp _ _ _ _ _ _ _ 570 [(0, .float 0), (1, .ref 0), (2, .ref 331), (3, .int x3)] [] (HS I L X)
    obtain ⟨r, I1, L1, I2, L2, eX, eM, h2⟩ := o8 (scr X x3 1) I L hR
    exact lw_8 v1 v2 v3 v4 v5 eX eM (k _ _ h2)
  · show Wp _ _ _ _ _ _ _ 593 [(0, .float 0), (1, .ref 0), (2, .ref 331), (3, .int x3)] [] (HS I L X)
    obtain ⟨r, I1, L1, I2, L2, eX, eM, h2⟩ := o9 (scr X x3 1) I L hR
    exact lw_9 v1 v2 v3 v4 v5 eX eM (k _ _ h2)
  · show Wp _ _ _ _ _ _ _ 616 [(0, .float 0), (1, .ref 0), (2, .ref 331), (3, .int x3)] [] (HS I L X)
    obtain ⟨r, I1, L1, I2, L2, eX, eM, h2⟩ := o10 (scr X x3 1) (scr X x3 2) I L hR
    exact lw_10 v1 v2 v3 v4 v5 eX eM (k _ _ h2)
  · show Wp _ _ _ _ _ _ _ 649 [(0, .float 0), (1, .ref 0), (2, .ref 331), (3, .int x3)] [] (HS I L X)
    obtain ⟨r, I1, L1, I2, L2, eX, eM, h2⟩ := o11  I L hR
    exact lw_11 v1 v2 v3 v4 v5 eX eM (k _ _ h2)
  · show Wp _ _ _ _ _ _ _ 662 [(0, .float 0), (1, .ref 0), (2, .ref 331), (3, .int x3)] [] (HS I L X)
    obtain ⟨r, I1, L1, I2, L2, eX, eM, h2⟩ := o12 (scr X x3 1) (scr X x3 2) I L hR
    exact lw_12 v1 v2 v3 v4 v5 eX eM (k _ _ h2)
  · show Wp _ _ _ _ _ _ _ 695 [(0, .float 0), (1, .ref 0), (2, .ref 331), (3, .int x3)] [] (HS I L X)
    obtain ⟨bv, hb1, hb2⟩ := bv_of (scr X x3 3)
    obtain ⟨r, I1, L1, I2, L2, eX, eM, h2⟩ := o13 (scr X x3 1) (scr X x3 2) bv hb1 I L hR
    exact lw_13 v1 v2 v3 v4 v5 hb2 eX eM (k _ _ h2)
  · show Wp _ _ _ _ _ _ _ 754 [(0, .float 0), (1, .ref 0), (2, .ref 331), (3, .int x3)] [] (HS I L X)
    obtain ⟨r, I1, L1, I2, L2, eX, eM, h2⟩ := o14 (scr X x3 1) I L hR
    exact lw_14 v1 v2 v3 v4 v5 eX eM (k _ _ h2)
  · show Wp _ _ _ _ _ _ _ 777 [(0, .float 0), (1, .ref 0), (2, .ref 331), (3, .int x3)] [] (HS I L X)
    obtain ⟨r, I1, L1, I2, L2, eX, eM, h2⟩ := o15 (scr X x3 1) I L hR
    exact lw_15 v1 v2 v3 v4 v5 eX eM (k _ _ h2)
  · show Wp _ _ _ _ _ _ _ 800 [(0, .float 0), (1, .ref 0), (2, .ref 331), (3, .int x3)] [] (HS I L X)
    obtain ⟨r, I1, L1, I2, L2, eX, eM, h2⟩ := o16 (scr X x3 1) (scr X x3 2) I L hR
    exact lw_16 v1 v2 v3 v4 v5 eX eM (k _ _ h2)
  · show Wp _ _ _ _ _ _ _ 833 [(0, .float 0), (1, .ref 0), (2, .ref 331), (3, .int x3)] [] (HS I L X)
    obtain ⟨r, I1, L1, I2, L2, eX, eM, h2⟩ := o17 (scr X x3 1) (scr X x3 2) (scr X x3 3) I L hR
    exact lw_17 v1 v2 v3 v4 v5 eX eM (k _ _ h2)
  · show Wp _ _ _ _ _ _ _ 876 [(0, .float 0), (1, .ref 0), (2, .ref 331), (3, .int x3)] [] (HS I L X)
    obtain ⟨r, I1, L1, I2, L2, eX, eM, h2⟩ := o18 (scr X x3 1) (scr X x3 2) (scr X x3 3) (scr X x3 4) I L hR
    exact lw_18 v1 v2 v3 v4 v5 eX eM (k _ _ h2)
  · show Wp _ _ _ _ _ _ _ 929 [(0, .float 0), (1, .ref 0), (2, .ref 331), (3, .int x3)] [] (HS I L X)
    obtain ⟨r, I1, L1, I2, L2, eX, eM, h2⟩ := o19 (scr X x3 1) (scr X x3 2) I L hR
    exact lw_19 v1 v2 v3 v4 v5 eX eM (k _ _ h2)
  · show Wp _ _ _ _ _ _ _ 963 [(0, .float 0), (1, .ref 0), (2, .ref 331), (3, .int x3)] [] (HS I L X)
    obtain ⟨r, I1, L1, I2, L2, eX, eM, h2⟩ := o20 (scr X x3 1) (scr X x3 2) (scr X x3 3) I L hR
    exact lw_20 v1 v2 v3 v4 v5 eX eM (k _ _ h2)
  · show Wp _ _ _ _ _ _ _ 1007 [(0, .float 0), (1, .ref 0), (2, .ref 331), (3, .int x3)] [] (HS I L X)
    obtain ⟨r, I1, L1, I2, L2, eX, eM, h2⟩ := o21 (scr X x3 1) (scr X x3 2) (scr X x3 3) I L hR
    exact lw_21 v1 v2 v3 v4 v5 eX eM (k _ _ h2)
  · show Wp _ _ _ _ _ _ _ 1051 [(0, .float 0), (1, .ref 0), (2, .ref 331), (3, .int x3)] [] (HS I L X)
    obtain ⟨r, I1, L1, I2, L2, eX, eM, h2⟩ := o22 (scr X x3 1) I L hR
    exact lw_22 v1 v2 v3 v4 v5 eX eM (k _ _ h2)
  · show Wp _ _ _ _ _ _ _ 1074 [(0, .float 0), (1, .ref 0), (2, .ref 331), (3, .int x3)] [] (HS I L X)
    obtain ⟨bv, hb1, hb2⟩ := bv_of (scr X x3 2)
    obtain ⟨r, I1, L1, I2, L2, eX, eM, h2⟩ := o23 (scr X x3 1) bv hb1 I L hR
    exact lw_23 v1 v2 v3 v4 v5 hb2 eX eM (k _ _ h2)
  · show Wp _ _ _ _ _ _ _ 1123 [(0, .float 0), (1, .ref 0), (2, .ref 331), (3, .int x3)] [] (HS I L X)
    obtain ⟨r, I1, L1, I2, L2, eX, eM, h2⟩ := o24  I L hR
    exact lw_24 v1 v2 v3 v4 v5 eX eM (k _ _ h2)
  · show Wp _ _ _ _ _ _ _ 1136 [(0, .float 0), (1, .ref 0), (2, .ref 331), (3, .int x3)] [] (HS I L X)
    obtain ⟨r, I1, L1, I2, L2, eX, eM, h2⟩ := o25 (scr X x3 1) (scr X x3 2) (scr X x3 3) I L hR
    exact lw_25 v1 v2 v3 v4 v5 eX eM (k _ _ h2)
  · show Wp _ _ _ _ _ _ _ 1179 [(0, .float 0), (1, .ref 0), (2, .ref 331), (3, .int x3)] [] (HS I L X)
    obtain ⟨r, I1, L1, I2, L2, eX, eM, h2⟩ := o26 (scr X x3 1) (scr X x3 2) (scr X x3 3) I L hR
    exact lw_26 v1 v2 v3 v4 v5 eX eM (k _ _ h2)
  · show Wp _ _ _ _ _ _ _ 1222 [(0, .float 0), (1, .ref 0), (2, .ref 331), (3, .int x3)] [] (HS I L X)
    obtain ⟨r, I1, L1, I2, L2, eX, eM, h2⟩ := o27 (scr X x3 1) I L hR
    exact lw_27 v1 v2 v3 v4 v5 eX eM (k _ _ h2)
  · show Wp _ _ _ _ _ _ _ 1245 [(0, .float 0), (1, .ref 0), (2, .ref 331), (3, .int x3)] [] (HS I L X)
    obtain ⟨r, I1, L1, I2, L2, eX, eM, h2⟩ := o28  I L hR
    exact lw_28 v1 v2 v3 v4 v5 eX eM (k _ _ h2)
  · show Wp _ _ _ _ _ _ _ 1259 [(0, .float 0), (1, .ref 0), (2, .ref 331), (3, .int x3)] [] (HS I L X)
    obtain ⟨bv, hb1, hb2⟩ := bv_of (scr X x3 3)
    obtain ⟨r, I1, L1, I2, L2, eX, eM, h2⟩ := o29 (scr X x3 1) (scr X x3 2) bv hb1 I L hR
    exact lw_29 v1 v2 v3 v4 v5 hb2 eX eM (k _ _ h2)
  · show Wp _ _ _ _ _ _ _ 1319 [(0, .float 0), (1, .ref 0), (2, .ref 331), (3, .int x3)] [] (HS I L X)
    obtain ⟨r, I1, L1, I2, L2, eX, eM, h2⟩ := o30 (scr X x3 1) I L hR
    exact lw_30 v1 v2 v3 v4 v5 eX eM (k _ _ h2)
  · show Wp _ _ _ _ _ _ _ 1342 [(0, .float 0), (1, .ref 0), (2, .ref 331), (3, .int x3)] [] (HS I L X)
    obtain ⟨r, I1, L1, I2, L2, eX, eM, h2⟩ := o31 (scr X x3 1) I L hR
    exact lw_31 v1 v2 v3 v4 v5 eX eM (k _ _ h2)
  · show Wp _ _ _ _ _ _ _ 1365 [(0, .float 0), (1, .ref 0), (2, .ref 331), (3, .int x3)] [] (HS I L X)
    obtain ⟨bv, hb1, hb2⟩ := bv_of (scr X x3 2)
    obtain ⟨r, I1, L1, I2, L2, eX, eM, h2⟩ := o32 (scr X x3 1) bv hb1 I L hR
    exact lw_32 v1 v2 v3 v4 v5 hb2 eX eM (k _ _ h2)
  · show Wp _ _ _ _ _ _ _ 1415 [(0, .float 0), (1, .ref 0), (2, .ref 331), (3, .int x3)] [] (HS I L X)
    obtain ⟨r, I1, L1, I2, L2, eX, eM, h2⟩ := o33 (scr X x3 1) I L hR
    exact lw_33 v1 v2 v3 v4 v5 eX eM (k _ _ h2)
  · show Wp _ _ _ _ _ _ _ 1438 [(0, .float 0), (1, .ref 0), (2, .ref 331), (3, .int x3)] [] (HS I L X)
    obtain ⟨r, I1, L1, I2, L2, eX, eM, h2⟩ := o34  I L hR
    exact lw_34 v1 v2 v3 v4 v5 eX eM (k _ _ h2)
  · show Wp _ _ _ _ _ _ _ 1451 [(0, .float 0), (1, .ref 0), (2, .ref 331), (3, .int x3)] [] (HS I L X)
    obtain ⟨r, I1, L1, I2, L2, eX, eM, h2⟩ := o35  I L hR
    exact lw_35 v1 v2 v3 v4 v5 eX eM (k _ _ h2)
  · show Wp _ _ _ _ _ _ _ 1464 [(0, .float 0), (1, .ref 0), (2, .ref 331), (3, .int x3)] [] (HS I L X)
    obtain ⟨r, I1, L1, I2, L2, eX, eM, h2⟩ := o36  I L hR
    exact lw_36 v1 v2 v3 v4 v5 eX eM (k _ _ h2)
  · show Wp _ _ _ _ _ _ _ 1477 [(0, .float 0), (1, .ref 0), (2, .ref 331), (3, .int x3)] [] (HS I L X)
    obtain ⟨r, I1, L1, I2, L2, eX, eM, h2⟩ := o37 (scr X x3 1) I L hR
    exact lw_37 v1 v2 v3 v4 v5 eX eM (k _ _ h2)
  · show Wp _ _ _ _ _ _ _ 1500 [(0, .float 0), (1, .ref 0), (2, .ref 331), (3, .int x3)] [] (HS I L X)
    obtain ⟨r, I1, L1, I2, L2, eX, eM, h2⟩ := o38  I L hR
    exact lw_38 v1 v2 v3 v4 v5 eX eM (k _ _ h2)
  · show Wp _ _ _ _ _ _ _ 1513 [(0, .float 0), (1, .ref 0), (2, .ref 331), (3, .int x3)] [] (HS I L X)
    obtain ⟨bv, hb1, hb2⟩ := bv_of (scr X x3 1)
    obtain ⟨r, I1, L1, I2, L2, eX, eM, h2⟩ := o39 bv hb1 I L hR
    exact lw_39 v1 v2 v3 v4 v5 hb2 eX eM (k _ _ h2)
  · show Wp _ _ _ _ _ _ _ 1552 [(0, .float 0), (1, .ref 0), (2, .ref 331), (3, .int x3)] [] (HS I L X)
    obtain ⟨r, I1, L1, I2, L2, eX, eM, h2⟩ := o40 (scr X x3 1) (scr X x3 2) I L hR
    exact lw_40 v1 v2 v3 v4 v5 eX eM (k _ _ h2)
  · show Wp _ _ _ _ _ _ _ 1585 [(0, .float 0), (1, .ref 0), (2, .ref 331), (3, .int x3)] [] (HS I L X)
    obtain ⟨bv, hb1, hb2⟩ := bv_of (scr X x3 1)
    obtain ⟨r, I1, L1, I2, L2, eX, eM, h2⟩ := o41 bv hb1 I L hR
    exact lw_41 v1 v2 v3 v4 v5 hb2 eX eM (k _ _ h2)
  · show Wp _ _ _ _ _ _ _ 1624 [(0, .float 0), (1, .ref 0), (2, .ref 331), (3, .int x3)] [] (HS I L X)
    obtain ⟨r, I1, L1, I2, L2, eX, eM, h2⟩ := o42 (scr X x3 1) (scr X x3 2) I L hR
    exact lw_42 v1 v2 v3 v4 v5 eX eM (k _ _ h2)
  · show Wp _ _ _ _ _ _ _ 1657 [(0, .float 0), (1, .ref 0), (2, .ref 331), (3, .int x3)] [] (HS I L X)
    obtain ⟨r, I1, L1, I2, L2, eX, eM, h2⟩ := o43 (scr X x3 1) I L hR
    exact lw_43 v1 v2 v3 v4 v5 eX eM (k _ _ h2)
  · show Wp _ _ _ _ _ _ _ 1680 [(0, .float 0), (1, .ref 0), (2, .ref 331), (3, .int x3)] [] (HS I L X)
    obtain ⟨r, I1, L1, I2, L2, eX, eM, h2⟩ := o44  I L hR
    exact lw_44 v1 v2 v3 v4 v5 eX eM (k _ _ h2)
  · show Wp _ _ _ _ _ _ _ 1693 [(0, .float 0), (1, .ref 0), (2, .ref 331), (3, .int x3)] [] (HS I L X)
    obtain ⟨r, I1, L1, I2, L2, eX, eM, h2⟩ := o45  I L hR
    exact lw_45 v1 v2 v3 v4 v5 eX eM (k _ _ h2)
  · show Wp _ _ _ _ _ _ _ 1706 [(0, .float 0), (1, .ref 0), (2, .ref 331), (3, .int x3)] [] (HS I L X)
    obtain ⟨r, I1, L1, I2, L2, eX, eM, h2⟩ := o46 (scr X x3 1) (scr X x3 2) I L hR
    exact lw_46 v1 v2 v3 v4 v5 eX eM (k _ _ h2)
  · show Wp _ _ _ _ _ _ _ 1739 [(0, .float 0), (1, .ref 0), (2, .ref 331), (3, .int x3)] [] (HS I L X)
    obtain ⟨r, I1, L1, I2, L2, eX, eM, h2⟩ := o47 (scr X x3 1) I L hR
    exact lw_47 v1 v2 v3 v4 v5 eX eM (k _ _ h2)
  · show Wp _ _ _ _ _ _ _ 1762 [(0, .float 0), (1, .ref 0), (2, .ref 331), (3, .int x3)] [] (HS I L X)
    obtain ⟨r, I1, L1, I2, L2, eX, eM, h2⟩ := o48 (scr X x3 1) (scr X x3 2) (scr X x3 3) I L hR
    exact lw_48 v1 v2 v3 v4 v5 eX eM (k _ _ h2)
  · show Wp _ _ _ _ _ _ _ 1805 [(0, .float 0), (1, .ref 0), (2, .ref 331), (3, .int x3)] [] (HS I L X)
    obtain ⟨r, I1, L1, I2, L2, eX, eM, h2⟩ := o49  I L hR
    exact lw_49 v1 v2 v3 v4 v5 eX eM (k _ _ h2)
  · show Wp _ _ _ _ _ _ _ 1818 [(0, .float 0), (1, .ref 0), (2, .ref 331), (3, .int x3)] [] (HS I L X)
    obtain ⟨r, I1, L1, I2, L2, eX, eM, h2⟩ := o50  I L hR
    exact lw_50 v1 v2 v3 v4 v5 eX eM (k _ _ h2)
  · show Wp _ _ _ _ _ _ _ 1831 [(0, .float 0), (1, .ref 0), (2, .ref 331), (3, .int x3)] [] (HS I L X)
    obtain ⟨r, I1, L1, I2, L2, eX, eM, h2⟩ := o51  I L hR
    exact lw_51 v1 v2 v3 v4 v5 eX eM (k _ _ h2)
  · show Wp _ _ _ _ _ _ _ 1844 [(0, .float 0), (1, .ref 0), (2, .ref 331), (3, .int x3)] [] (HS I L X)
    obtain ⟨r, I1, L1, I2, L2, eX, eM, h2⟩ := o52  I L hR
    exact lw_52 v1 v2 v3 v4 v5 eX eM (k _ _ h2)
  · show Wp _ _ _ _ _ _ _ 1857 [(0, .float 0), (1, .ref 0), (2, .ref 331), (3, .int x3)] [] (HS I L X)
    obtain ⟨r, I1, L1, I2, L2, eX, eM, h2⟩ := o53  I L hR
    exact lw_53 v1 v2 v3 v4 v5 eX eM (k _ _ h2)
  · show Wp _ _ _ _ _ _ _ 1870 [(0, .float 0), (1, .ref 0), (2, .ref 331), (3, .int x3)] [] (HS I L X)
    obtain ⟨r, I1, L1, I2, L2, eX, eM, h2⟩ := o54  I L hR
    exact lw_54 v1 v2 v3 v4 v5 eX eM (k _ _ h2)
  · show Wp _ _ _ _ _ _ _ 1883 [(0, .float 0), (1, .ref 0), (2, .ref 331), (3, .int x3)] [] (HS I L X)
    obtain ⟨r, I1, L1, I2, L2, eX, eM, h2⟩ := o55 (scr X x3 1) I L hR
    exact lw_55 v1 v2 v3 v4 v5 eX eM (k _ _ h2)
  · show Wp _ _ _ _ _ _ _ 1906 [(0, .float 0), (1, .ref 0), (2, .ref 331), (3, .int x3)] [] (HS I L X)
    obtain ⟨r, I1, L1, I2, L2, eX, eM, h2⟩ := o56  I L hR
    exact lw_56 v1 v2 v3 v4 v5 eX eM (k _ _ h2)
  · show Wp _ _ _ _ _ _ _ 1919 [(0, .float 0), (1, .ref 0), (2, .ref 331), (3, .int x3)] [] (HS I L X)
    obtain ⟨r, I1, L1, I2, L2, eX, eM, h2⟩ := o57  I L hR
    exact lw_57 v1 v2 v3 v4 v5 eX eM (k _ _ h2)
  · show Wp _ _ _ _ _ _ _ 1932 [(0, .float 0), (1, .ref 0), (2, .ref 331), (3, .int x3)] [] (HS I L X)
    obtain ⟨r, I1, L1, I2, L2, eX, eM, h2⟩ := o58 (scr X x3 1) I L hR
    exact lw_58 v1 v2 v3 v4 v5 eX eM (k _ _ h2)
  · exact k _ _ hR
set_option maxHeartbeats 4000000 in
set_option maxRecDepth 20000 in
/-- the loop, to its end -/
theorem law_loop {fu : Nat} {R : (Nat → Nat → Int32) → (Nat → Nat → Int64) → Prop} (ops : AllOps fu R) {X : Nat × (Nat → Int32)} (hX : X.1 ≤ 3072) {al : Nat × Nat} {n0 s0 : Nat} (hf : al = (0, 0) ∨ (349 = n0 + al.1 ∧ 19117 = s0 + al.2)) :
    ∀ (n i : Nat) (I : Nat → Nat → Int32) (L : Nat → Nat → Int64), X.1 ≤ i + 6 * n → i ≤ 3072 → R I L → Wp (Ev 200) cd_L_law al (some .boolean) n0 s0 (fun r _ => r = some (.int 1)) 18 [(0, .float 0), (1, .ref 0), (2, .ref 331), (3, .int (nI i))] [] (HS I L X) := by
  have fin : ∀ (i : Nat) (I : Nat → Nat → Int32) (L : Nat → Nat → Int64), Wp (Ev 200) cd_L_law al (some .boolean) n0 s0 (fun r _ => r = some (.int 1)) 1961 [(0, .float 0), (1, .ref 0), (2, .ref 331), (3, .int (nI i))] [] (HS I L X) := by
    intro i I L
    refine w_iconst (Ev.cm _) rfl ?_
    refine w_ireturn (Ev.cm _) rfl rok_1 ?_ rfl
    rcases hf with hf | hf
    · rw [hf]; exact Or.inl ⟨rfl, rfl⟩
    · exact Or.inr hf
  have hd : ∀ (i : Nat) (I : Nat → Nat → Int32) (L : Nat → Nat → Int64), i ≤ 3072 → (i + 6 ≤ X.1 → Wp (Ev 200) cd_L_law al (some .boolean) n0 s0 (fun r _ => r = some (.int 1)) 27 [(0, .float 0), (1, .ref 0), (2, .ref 331), (3, .int (nI i))] [] (HS I L X)) → Wp (Ev 200) cd_L_law al (some .boolean) n0 s0 (fun r _ => r = some (.int 1)) 18 [(0, .float 0), (1, .ref 0), (2, .ref 331), (3, .int (nI i))] [] (HS I L X) := by
    intro i I L hi w
    refine w_iload_n (Ev.cm _) rfl rfl ?_
    refine w_aload_nS (Ev.cm _) rfl rfl ?_
    refine w_slen (Ev.cm _) rfl ?_
    refine w_bipush (Ev.cm _) rfl ?_
    refine w_isub (Ev.cm _) rfl ?_
    refine w_icmp_gt (Ev.cm _) rfl (fun _ => fin i I L) (fun c => ?_)
    refine w ?_
    exact nI_c6 (by omega) (by omega) c
  intro n
  induction n with
  | zero => exact fun i I L h1 h2 hR => hd i I L h2 (fun h => by omega)
  | succ n ih =>
    intro i I L h1 h2 hR
    refine hd i I L h2 (fun h => ?_)
    have hv : ∀ j : Nat, j < 6 → vp_in (nI i + nI j) X.1 := fun j hj => by rw [nI_add]; exact vp_in_nI (by omega) (by omega)
    refine law_round ops hR (by have := hv 0 (by omega); rwa [nI_add, Nat.add_zero] at this) (hv 1 (by omega)) (hv 2 (by omega)) (hv 3 (by omega)) (hv 4 (by omega)) (hv 5 (by omega)) (fun I2 L2 h2 => ?_)
    refine w_iinc (ls2 := [(0, .float 0), (1, .ref 0), (2, .ref 331), (3, .int (nI i + 6))]) (Ev.cm _) rfl rfl rfl ?_
    rw [show nI i + 6 = nI (i + 6) from nI_add i 6]
    refine w_goto (Ev.cm _) rfl ?_
    exact ih (i + 6) I2 L2 (by omega) (by omega) h2
