/-! cells that are not known by number: a text of the library or the draft, a house -/
def isT (o : Nat) : Prop := o = 274 ∨ o = 282 ∨ o = 290 ∨ o = 298 ∨ o = 308
def isH (o : Nat) : Prop := o = 2 ∨ o = 138 ∨ (∃ i, i < 30 ∧ o = 8 + 4 * i) ∨ (∃ i, i < 30 ∧ o = 144 + 4 * i)
theorem vpK {o c n : Nat} {x : Int32} (e : K0 o = (c, n)) (k : Int32) (hk : k.toInt = (n : Int)) (h1 : 0 ≤ x) (h2 : x < k) : vp_in x (K0 o).2 := by rw [e]; exact vpI k hk h1 h2
theorem isT_lt {o : Nat} (h : isT o) (k : Nat) (hk : k < 8) : o + k < 349 := by rcases h with rfl | rfl | rfl | rfl | rfl <;> omega
theorem isT_lt0 {o : Nat} (h : isT o) : o < 349 := isT_lt h 0 (by omega)
theorem isT_k0 {o : Nat} (h : isT o) : K0 o = (7, 9) := by rcases h with rfl | rfl | rfl | rfl | rfl <;> rfl
theorem isT_k1 {o : Nat} (h : isT o) : K0 (o + 1) = (10, 24) := by rcases h with rfl | rfl | rfl | rfl | rfl <;> rfl
theorem isT_k2 {o : Nat} (h : isT o) : K0 (o + 2) = (10, 24) := by rcases h with rfl | rfl | rfl | rfl | rfl <;> rfl
theorem isT_k3 {o : Nat} (h : isT o) : K0 (o + 3) = (10, 24) := by rcases h with rfl | rfl | rfl | rfl | rfl <;> rfl
theorem isT_k4 {o : Nat} (h : isT o) : K0 (o + 4) = (10, 300) := by rcases h with rfl | rfl | rfl | rfl | rfl <;> rfl
theorem isT_k5 {o : Nat} (h : isT o) : K0 (o + 5) = (10, 300) := by rcases h with rfl | rfl | rfl | rfl | rfl <;> rfl
theorem isT_k6 {o : Nat} (h : isT o) : K0 (o + 6) = (10, 2) := by rcases h with rfl | rfl | rfl | rfl | rfl <;> rfl
theorem isT_k7 {o : Nat} (h : isT o) : K0 (o + 7) = (10, 2) := by rcases h with rfl | rfl | rfl | rfl | rfl <;> rfl
theorem isT_r1 {o : Nat} (h : isT o) : R0 o 1 = some (o + 1) := by rcases h with rfl | rfl | rfl | rfl | rfl <;> rfl
theorem isT_r2 {o : Nat} (h : isT o) : R0 o 2 = some (o + 2) := by rcases h with rfl | rfl | rfl | rfl | rfl <;> rfl
theorem isT_r3 {o : Nat} (h : isT o) : R0 o 3 = some (o + 3) := by rcases h with rfl | rfl | rfl | rfl | rfl <;> rfl
theorem isT_r5 {o : Nat} (h : isT o) : R0 o 5 = some (o + 4) := by rcases h with rfl | rfl | rfl | rfl | rfl <;> rfl
theorem isT_r6 {o : Nat} (h : isT o) : R0 o 6 = some (o + 5) := by rcases h with rfl | rfl | rfl | rfl | rfl <;> rfl
theorem isT_r7 {o : Nat} (h : isT o) : R0 o 7 = some (o + 6) := by rcases h with rfl | rfl | rfl | rfl | rfl <;> rfl
theorem isT_r8 {o : Nat} (h : isT o) : R0 o 8 = some (o + 7) := by rcases h with rfl | rfl | rfl | rfl | rfl <;> rfl
theorem isH_all {o : Nat} (h : isH o) : o + 3 < 349 ∧ K0 o = (1, 8) ∧ K0 (o + 1) = (10, 6) ∧ K0 (o + 2) = (10, 6) ∧ K0 (o + 3) = (10, 90) ∧ R0 o 5 = some (o + 1) ∧ R0 o 6 = some (o + 2) ∧ R0 o 7 = some (o + 3) := by
  rcases h with rfl | rfl | ⟨i, hi, rfl⟩ | ⟨i, hi, rfl⟩
  · decide +kernel
  · decide +kernel
  · exact (show ∀ i, i < 30 → (8 + 4 * i) + 3 < 349 ∧ K0 (8 + 4 * i) = (1, 8) ∧ K0 ((8 + 4 * i) + 1) = (10, 6) ∧ K0 ((8 + 4 * i) + 2) = (10, 6) ∧ K0 ((8 + 4 * i) + 3) = (10, 90) ∧ R0 (8 + 4 * i) 5 = some ((8 + 4 * i) + 1) ∧ R0 (8 + 4 * i) 6 = some ((8 + 4 * i) + 2) ∧ R0 (8 + 4 * i) 7 = some ((8 + 4 * i) + 3) by decide +kernel) i hi
  · exact (show ∀ i, i < 30 → (144 + 4 * i) + 3 < 349 ∧ K0 (144 + 4 * i) = (1, 8) ∧ K0 ((144 + 4 * i) + 1) = (10, 6) ∧ K0 ((144 + 4 * i) + 2) = (10, 6) ∧ K0 ((144 + 4 * i) + 3) = (10, 90) ∧ R0 (144 + 4 * i) 5 = some ((144 + 4 * i) + 1) ∧ R0 (144 + 4 * i) 6 = some ((144 + 4 * i) + 2) ∧ R0 (144 + 4 * i) 7 = some ((144 + 4 * i) + 3) by decide +kernel) i hi
theorem isH_lt {o : Nat} (h : isH o) (k : Nat) (hk : k < 4) : o + k < 349 := by have := (isH_all h).1; omega
theorem isH_lt0 {o : Nat} (h : isH o) : o < 349 := isH_lt h 0 (by omega)
theorem isH_k0 {o : Nat} (h : isH o) : K0 o = (1, 8) := (isH_all h).2.1
theorem isH_k1 {o : Nat} (h : isH o) : K0 (o + 1) = (10, 6) := (isH_all h).2.2.1
theorem isH_k2 {o : Nat} (h : isH o) : K0 (o + 2) = (10, 6) := (isH_all h).2.2.2.1
theorem isH_k3 {o : Nat} (h : isH o) : K0 (o + 3) = (10, 90) := (isH_all h).2.2.2.2.1
theorem isH_r5 {o : Nat} (h : isH o) : R0 o 5 = some (o + 1) := (isH_all h).2.2.2.2.2.1
theorem isH_r6 {o : Nat} (h : isH o) : R0 o 6 = some (o + 2) := (isH_all h).2.2.2.2.2.2.1
theorem isH_r7 {o : Nat} (h : isH o) : R0 o 7 = some (o + 3) := (isH_all h).2.2.2.2.2.2.2
theorem isT_308 : isT 308 := Or.inr (Or.inr (Or.inr (Or.inr rfl)))
theorem isH_2 : isH 2 := Or.inl rfl
theorem isH_138 : isH 138 := Or.inr (Or.inl rfl)
theorem clampLt {x k : Int32} {n : Nat} (hk : k.toInt = (n : Int)) (h1 : 0 ≤ x) (h2 : x < k) : x.toNatClampNeg < n := by
  have a := Int32.le_iff_toInt_le.mp h1
  have b := Int32.lt_iff_toInt_lt.mp h2
  rw [hk] at b
  have c : (0 : Int32).toInt = 0 := rfl
  rw [c] at a
  show x.toInt.toNat < n
  omega
theorem isH_st {x : Int32} (b : 0 ≤ x ∧ x < 30) : isH (8 + 4 * x.toNatClampNeg) := Or.inr (Or.inr (Or.inl ⟨_, clampLt (k := 30) (n := 30) rfl b.1 b.2, rfl⟩))
theorem isH_si {x : Int32} (b : 0 ≤ x ∧ x < 30) : isH (144 + 4 * x.toNatClampNeg) := Or.inr (Or.inr (Or.inr ⟨_, clampLt (k := 30) (n := 30) rfl b.1 b.2, rfl⟩))
theorem R0_st {k : Nat} (h : k < 30) : R0 7 k = some (8 + 4 * k) := (show ∀ k, k < 30 → R0 7 k = some (8 + 4 * k) by decide +kernel) k h
theorem R0_si {k : Nat} (h : k < 30) : R0 143 k = some (144 + 4 * k) := (show ∀ k, k < 30 → R0 143 k = some (144 + 4 * k) by decide +kernel) k h
theorem r_st {x : Int32} (b : 0 ≤ x ∧ x < 30) : R0 7 x.toNatClampNeg = some (8 + 4 * x.toNatClampNeg) := R0_st (clampLt (k := 30) (n := 30) rfl b.1 b.2)
theorem r_si {x : Int32} (b : 0 ≤ x ∧ x < 30) : R0 143 x.toNatClampNeg = some (144 + 4 * x.toNatClampNeg) := R0_si (clampLt (k := 30) (n := 30) rfl b.1 b.2)
theorem isT_ix {x : Int32} (b : 0 ≤ x ∧ x < 4) : isT (274 + 8 * x.toNatClampNeg) := by
  have := clampLt (k := 4) (n := 4) rfl b.1 b.2
  unfold isT
  omega
theorem r_lib {x : Int32} (b : 0 ≤ x ∧ x < 4) : R0 273 x.toNatClampNeg = some (274 + 8 * x.toNatClampNeg) := R0_lib (clampLt (k := 4) (n := 4) rfl b.1 b.2)
theorem isT_lib {I : Nat → Nat → Int32} {t : Int32} (c : isLib I t) : isT (274 + 8 * t.toNatClampNeg) := isT_ix ⟨c.1, c.2.1⟩
theorem x_textOf_t {d : Nat} {t : Int32} {I : Nat → Nat → Int32} {L : Nat → Nat → Int64} {X : Nat × (Nat → Int32)} {Q : PQ} (c : isLib I t) (q : Q (some (.ref (274 + 8 * t.toNatClampNeg))) (HS I L X)) : Ev (d + 1) m_X_textOf [.ref 0, .int t] (HS I L X) Q := by
  refine ev_start (d := d + 0) rfl rfl rfl (Nat.le_of_ble_eq_true rfl) ?_
  show Wp (Ev (d + 0)) cd_X_textOf (0, 0) (some (.object "StairRods$Text")) _ _ Q 0 [(0, .ref 0), (1, .int t)] [] (HS I L X)
  refine w_iload_n (Ev.cm _) rfl rfl ?_
  refine w_if_lt (Ev.cm _) rfl (fun z => absurd z (Int32.not_lt.mpr c.1)) (fun _ => ?_)
  refine w_iload_n (Ev.cm _) rfl rfl ?_
  refine w_iconst (Ev.cm _) rfl ?_
  refine w_icmp_ge (Ev.cm _) rfl (fun z => absurd z (Int32.not_le.mpr c.2.1)) (fun _ => ?_)
  refine w_iload_n (Ev.cm _) rfl rfl ?_
  refine w_aload_n (Ev.cm _) rfl rfl ?_
  refine w_getR (q := 1) (Ev.cm _) rfl (Nat.le_of_ble_eq_true rfl) rfl rfl ?_
  refine w_getI (Ev.cm _) rfl (Nat.le_of_ble_eq_true rfl) rfl ?_
  refine w_icmp_ge (Ev.cm _) rfl (fun z => absurd z (Int32.not_le.mpr c.2.2)) (fun _ => ?_)
  refine w_aload_n (Ev.cm _) rfl rfl ?_
  refine w_getR (q := 273) (Ev.cm _) rfl (Nat.le_of_ble_eq_true rfl) rfl rfl ?_
  refine w_iload_n (Ev.cm _) rfl rfl ?_
  refine w_aald (q := 274 + 8 * t.toNatClampNeg) (Ev.cm _) rfl (Nat.le_of_ble_eq_true rfl) rfl (show vp_in t 4 from vpI 4 (by decide) c.1 c.2.1) (r_lib ⟨c.1, c.2.1⟩) ?_
  refine w_goto (Ev.cm _) rfl ?_
  refine w_areturn (Ev.cm _) rfl trivial rf0 ?_
  exact q
theorem x_textOf_n {d : Nat} {t : Int32} {I : Nat → Nat → Int32} {L : Nat → Nat → Int64} {X : Nat × (Nat → Int32)} {Q : PQ} (c : ¬ isLib I t) (q : Q (some .null) (HS I L X)) : Ev (d + 1) m_X_textOf [.ref 0, .int t] (HS I L X) Q := by
  refine ev_start (d := d + 0) rfl rfl rfl (Nat.le_of_ble_eq_true rfl) ?_
  show Wp (Ev (d + 0)) cd_X_textOf (0, 0) (some (.object "StairRods$Text")) _ _ Q 0 [(0, .ref 0), (1, .int t)] [] (HS I L X)
  have z : ∀ n0 s0, Wp (Ev (d + 0)) cd_X_textOf (0, 0) (some (.object "StairRods$Text")) n0 s0 Q 29 [(0, .ref 0), (1, .int t)] [] (HS I L X) := by
    intro n0 s0
    refine w_aconst_null (Ev.cm _) rfl ?_
    refine w_areturn (Ev.cm _) rfl trivial rf0 ?_
    exact q
  refine w_iload_n (Ev.cm _) rfl rfl ?_
  refine w_if_lt (Ev.cm _) rfl (fun _ => z _ _) (fun c1 => ?_)
  refine w_iload_n (Ev.cm _) rfl rfl ?_
  refine w_iconst (Ev.cm _) rfl ?_
  refine w_icmp_ge (Ev.cm _) rfl (fun _ => z _ _) (fun c2 => ?_)
  refine w_iload_n (Ev.cm _) rfl rfl ?_
  refine w_aload_n (Ev.cm _) rfl rfl ?_
  refine w_getR (q := 1) (Ev.cm _) rfl (Nat.le_of_ble_eq_true rfl) rfl rfl ?_
  refine w_getI (Ev.cm _) rfl (Nat.le_of_ble_eq_true rfl) rfl ?_
  refine w_icmp_ge (Ev.cm _) rfl (fun _ => z _ _) (fun c3 => ?_)
  exact absurd ⟨Int32.not_lt.mp c1, Int32.not_le.mp c2, Int32.not_le.mp c3⟩ c
/-- what a callback of the reader does -/
def cbO (d : Nat) (k : Int32 → Int32 → (Nat → Nat → Int32) → (Nat → Nat → Int64) → Option (Int32 × (Nat → Nat → Int32) × (Nat → Nat → Int64))) : Prop := ∀ (a b : Int32) (I : Nat → Nat → Int32) (L : Nat → Nat → Int64) (X : Nat × (Nat → Int32)) (Q : PQ) (res : Int32 × (Nat → Nat → Int32) × (Nat → Nat → Int64)), Q (some (.int res.1)) (HS res.2.1 res.2.2 X) → k a b I L = some res → Ev d m_R_opened [.ref 307, .int a, .int b] (HS I L X) Q
def cbA (d : Nat) (k : Int32 → (Nat → Nat → Int32) → (Nat → Nat → Int64) → Option (Int32 × (Nat → Nat → Int32) × (Nat → Nat → Int64))) : Prop := ∀ (a : Int32) (I : Nat → Nat → Int32) (L : Nat → Nat → Int64) (X : Nat × (Nat → Int32)) (Q : PQ) (res : Int32 × (Nat → Nat → Int32) × (Nat → Nat → Int64)), Q (some (.int res.1)) (HS res.2.1 res.2.2 X) → k a I L = some res → Ev d m_R_ask [.ref 307, .int a] (HS I L X) Q
theorem ev_le {d e k : Nat} {a : List Value} {h : PH} {Q : PQ} (hd : d ≤ e) (w : Ev d k a h Q) : Ev e k a h Q := Ev.le hd k a h Q Q (fun _ _ q => q) w
theorem e_fill_e {d : Nat} {I I2 : Nat → Nat → Int32} {L : Nat → Nat → Int64} {X : Nat × (Nat → Int32)} {Q : PQ} {o n : Nat} {v : Int32} (ho : o < 349) (hk : K0 o = (10, n)) (hn : n < 2 ^ 31) (e : some (va_up I o (fillF (I o) v n)) = some I2) (q : Q none (HS I2 L X)) : Ev (d + 1) m_J_fill [.ref o, .int v] (HS I L X) Q := e_fill ho hk hn (by rw [Option.some.inj e]; exact q)
theorem e_fillL_e {d : Nat} {I : Nat → Nat → Int32} {L L2 : Nat → Nat → Int64} {X : Nat × (Nat → Int32)} {Q : PQ} {o n : Nat} {v : Int64} (ho : o < 349) (hk : K0 o = (11, n)) (hn : n < 2 ^ 31) (e : some (va_up L o (fillG (L o) v n)) = some L2) (q : Q none (HS I L2 X)) : Ev (d + 1) m_J_fillL [.ref o, .long v] (HS I L X) Q := e_fillL ho hk hn (by rw [Option.some.inj e]; exact q)
theorem e_copyRow_e {d : Nat} {I I2 : Nat → Nat → Int32} {L : Nat → Nat → Int64} {X : Nat × (Nat → Int32)} {Q : PQ} {o p n : Nat} (ho : o < 349) (hp : p < 349) (hk : K0 o = (10, n)) (hk2 : K0 p = (10, n)) (hn : n < 2 ^ 31) (e : some (va_up I p (va_cpy (I o) (I p) 0 0 n)) = some I2) (q : Q none (HS I2 L X)) : Ev (d + 2) m_X_copyRow [.ref o, .ref p] (HS I L X) Q := e_copyRow ho hp hk hk2 hn (by rw [Option.some.inj e]; exact q)
