/-! methods, read back by program -/
def FO_J_floorMod (fu : Nat) (p0 : Int32) (p1 : Int32) (I : Nat → Nat → Int32) (L : Nat → Nat → Int64) : Option (Int32 × (Nat → Nat → Int32) × (Nat → Nat → Int64)) := if ¬ p1 = 0 then (if 0 ≤ p0 ^^^ p1 then (some (iR p0 p1, I, L)) else (if iR p0 p1 = 0 then (some (iR p0 p1, I, L)) else (some ((iR p0 p1) + p1, I, L)))) else none
set_option maxHeartbeats 20000000 in
set_option maxRecDepth 20000 in
theorem eo_J_floorMod {d fu : Nat} {p0 : Int32} {p1 : Int32} {I : Nat → Nat → Int32} {L : Nat → Nat → Int64} {X : Nat × (Nat → Int32)} {Q : PQ} {res : Int32 × (Nat → Nat → Int32) × (Nat → Nat → Int64)}  (g : Q (some (.int res.1)) (HS res.2.1 res.2.2 X)) (q : FO_J_floorMod fu p0 p1 I L = some res) : Ev (d + 1) m_J_floorMod [.int p0, .int p1] (HS I L X) Q := by
  unfold FO_J_floorMod at q
  refine ev_start (d := d + 0) rfl rfl rfl (Nat.le_of_ble_eq_true rfl) ?_
  show Wp (Ev (d + 0)) cd_J_floorMod (0, 0) (some .int) _ _ Q 0 [(0, .int p0), (1, .int p1)] [] (HS I L X)
  refine w_iload_n (Ev.cm _) rfl rfl ?_
  refine w_iload_n (Ev.cm _) rfl rfl ?_
  obtain ⟨b1, q⟩ := ois q
  refine w_irem (Ev.cm _) rfl b1 ?_
  refine w_istore_n (ls2 := [(0, .int p0), (1, .int p1), (2, .int (iR p0 p1))]) (Ev.cm _) rfl rfl ?_
  refine w_iload_n (Ev.cm _) rfl rfl ?_
  refine w_iload_n (Ev.cm _) rfl rfl ?_
  refine w_ixor (Ev.cm _) rfl ?_
  refine w_if_ge (Ev.cm _) rfl (fun c1 => ?_) (fun c1 => ?_)
  · have c1 : 0 ≤ p0 ^^^ p1 := c1
    rw [if_pos c1] at q
    refine w_iload_n (Ev.cm _) rfl rfl ?_
    refine w_ireturn (Ev.cm _) rfl trivial rf0 ?_
    cases q
    exact g
  · have c1 : ¬ (0 ≤ p0 ^^^ p1) := c1
    rw [if_neg c1] at q
    refine w_iload_n (Ev.cm _) rfl rfl ?_
    refine w_if_eq (Ev.cm _) rfl (fun c2 => ?_) (fun c2 => ?_)
    · have c2 : iR p0 p1 = 0 := c2
      rw [if_pos c2] at q
      refine w_iload_n (Ev.cm _) rfl rfl ?_
      refine w_ireturn (Ev.cm _) rfl trivial rf0 ?_
      cases q
      exact g
    · have c2 : ¬ (iR p0 p1 = 0) := c2
      rw [if_neg c2] at q
      refine w_iload_n (Ev.cm _) rfl rfl ?_
      refine w_iload_n (Ev.cm _) rfl rfl ?_
      refine w_iadd (Ev.cm _) rfl ?_
      refine w_ireturn (Ev.cm _) rfl trivial rf0 ?_
      cases q
      exact g
def FO_J_bitCount (fu : Nat) (p0 : Int32) (I : Nat → Nat → Int32) (L : Nat → Nat → Int64) : Option (Int32 × (Nat → Nat → Int32) × (Nat → Nat → Int64)) := some ((((((((p0 - ((((p0 : Int32).toUInt32 >>> ((1 : Int32).toUInt32 &&& Int32.toUInt32 31)).toInt32) &&& 1431655765)) &&& 858993459) + (((((p0 - ((((p0 : Int32).toUInt32 >>> ((1 : Int32).toUInt32 &&& Int32.toUInt32 31)).toInt32) &&& 1431655765)) : Int32).toUInt32 >>> ((2 : Int32).toUInt32 &&& Int32.toUInt32 31)).toInt32) &&& 858993459)) + ((((((p0 - ((((p0 : Int32).toUInt32 >>> ((1 : Int32).toUInt32 &&& Int32.toUInt32 31)).toInt32) &&& 1431655765)) &&& 858993459) + (((((p0 - ((((p0 : Int32).toUInt32 >>> ((1 : Int32).toUInt32 &&& Int32.toUInt32 31)).toInt32) &&& 1431655765)) : Int32).toUInt32 >>> ((2 : Int32).toUInt32 &&& Int32.toUInt32 31)).toInt32) &&& 858993459)) : Int32).toUInt32 >>> ((4 : Int32).toUInt32 &&& Int32.toUInt32 31)).toInt32)) &&& 252645135) + ((((((((p0 - ((((p0 : Int32).toUInt32 >>> ((1 : Int32).toUInt32 &&& Int32.toUInt32 31)).toInt32) &&& 1431655765)) &&& 858993459) + (((((p0 - ((((p0 : Int32).toUInt32 >>> ((1 : Int32).toUInt32 &&& Int32.toUInt32 31)).toInt32) &&& 1431655765)) : Int32).toUInt32 >>> ((2 : Int32).toUInt32 &&& Int32.toUInt32 31)).toInt32) &&& 858993459)) + ((((((p0 - ((((p0 : Int32).toUInt32 >>> ((1 : Int32).toUInt32 &&& Int32.toUInt32 31)).toInt32) &&& 1431655765)) &&& 858993459) + (((((p0 - ((((p0 : Int32).toUInt32 >>> ((1 : Int32).toUInt32 &&& Int32.toUInt32 31)).toInt32) &&& 1431655765)) : Int32).toUInt32 >>> ((2 : Int32).toUInt32 &&& Int32.toUInt32 31)).toInt32) &&& 858993459)) : Int32).toUInt32 >>> ((4 : Int32).toUInt32 &&& Int32.toUInt32 31)).toInt32)) &&& 252645135) : Int32).toUInt32 >>> ((8 : Int32).toUInt32 &&& Int32.toUInt32 31)).toInt32)) + (((((((((p0 - ((((p0 : Int32).toUInt32 >>> ((1 : Int32).toUInt32 &&& Int32.toUInt32 31)).toInt32) &&& 1431655765)) &&& 858993459) + (((((p0 - ((((p0 : Int32).toUInt32 >>> ((1 : Int32).toUInt32 &&& Int32.toUInt32 31)).toInt32) &&& 1431655765)) : Int32).toUInt32 >>> ((2 : Int32).toUInt32 &&& Int32.toUInt32 31)).toInt32) &&& 858993459)) + ((((((p0 - ((((p0 : Int32).toUInt32 >>> ((1 : Int32).toUInt32 &&& Int32.toUInt32 31)).toInt32) &&& 1431655765)) &&& 858993459) + (((((p0 - ((((p0 : Int32).toUInt32 >>> ((1 : Int32).toUInt32 &&& Int32.toUInt32 31)).toInt32) &&& 1431655765)) : Int32).toUInt32 >>> ((2 : Int32).toUInt32 &&& Int32.toUInt32 31)).toInt32) &&& 858993459)) : Int32).toUInt32 >>> ((4 : Int32).toUInt32 &&& Int32.toUInt32 31)).toInt32)) &&& 252645135) + ((((((((p0 - ((((p0 : Int32).toUInt32 >>> ((1 : Int32).toUInt32 &&& Int32.toUInt32 31)).toInt32) &&& 1431655765)) &&& 858993459) + (((((p0 - ((((p0 : Int32).toUInt32 >>> ((1 : Int32).toUInt32 &&& Int32.toUInt32 31)).toInt32) &&& 1431655765)) : Int32).toUInt32 >>> ((2 : Int32).toUInt32 &&& Int32.toUInt32 31)).toInt32) &&& 858993459)) + ((((((p0 - ((((p0 : Int32).toUInt32 >>> ((1 : Int32).toUInt32 &&& Int32.toUInt32 31)).toInt32) &&& 1431655765)) &&& 858993459) + (((((p0 - ((((p0 : Int32).toUInt32 >>> ((1 : Int32).toUInt32 &&& Int32.toUInt32 31)).toInt32) &&& 1431655765)) : Int32).toUInt32 >>> ((2 : Int32).toUInt32 &&& Int32.toUInt32 31)).toInt32) &&& 858993459)) : Int32).toUInt32 >>> ((4 : Int32).toUInt32 &&& Int32.toUInt32 31)).toInt32)) &&& 252645135) : Int32).toUInt32 >>> ((8 : Int32).toUInt32 &&& Int32.toUInt32 31)).toInt32)) : Int32).toUInt32 >>> ((16 : Int32).toUInt32 &&& Int32.toUInt32 31)).toInt32)) &&& 63, I, L)
set_option maxHeartbeats 20000000 in
set_option maxRecDepth 20000 in
theorem eo_J_bitCount {d fu : Nat} {p0 : Int32} {I : Nat → Nat → Int32} {L : Nat → Nat → Int64} {X : Nat × (Nat → Int32)} {Q : PQ} {res : Int32 × (Nat → Nat → Int32) × (Nat → Nat → Int64)}  (g : Q (some (.int res.1)) (HS res.2.1 res.2.2 X)) (q : FO_J_bitCount fu p0 I L = some res) : Ev (d + 1) m_J_bitCount [.int p0] (HS I L X) Q := by
  unfold FO_J_bitCount at q
  refine ev_start (d := d + 0) rfl rfl rfl (Nat.le_of_ble_eq_true rfl) ?_
  show Wp (Ev (d + 0)) cd_J_bitCount (0, 0) (some .int) _ _ Q 0 [(0, .int p0)] [] (HS I L X)
  refine w_iload_n (Ev.cm _) rfl rfl ?_
  refine w_iload_n (Ev.cm _) rfl rfl ?_
  refine w_iconst (Ev.cm _) rfl ?_
  refine w_iushr (Ev.cm _) rfl ?_
  refine w_ldc_w (Ev.cm _) rfl ?_
  refine w_iand (Ev.cm _) rfl ?_
  refine w_isub (Ev.cm _) rfl ?_
  refine w_istore_n (ls2 := [(0, .int (p0 - ((((p0 : Int32).toUInt32 >>> ((1 : Int32).toUInt32 &&& Int32.toUInt32 31)).toInt32) &&& 1431655765)))]) (Ev.cm _) rfl rfl ?_
  refine w_iload_n (Ev.cm _) rfl rfl ?_
  refine w_ldc_w (Ev.cm _) rfl ?_
  refine w_iand (Ev.cm _) rfl ?_
  refine w_iload_n (Ev.cm _) rfl rfl ?_
  refine w_iconst (Ev.cm _) rfl ?_
  refine w_iushr (Ev.cm _) rfl ?_
  refine w_ldc_w (Ev.cm _) rfl ?_
  refine w_iand (Ev.cm _) rfl ?_
  refine w_iadd (Ev.cm _) rfl ?_
  refine w_istore_n (ls2 := [(0, .int (((p0 - ((((p0 : Int32).toUInt32 >>> ((1 : Int32).toUInt32 &&& Int32.toUInt32 31)).toInt32) &&& 1431655765)) &&& 858993459) + (((((p0 - ((((p0 : Int32).toUInt32 >>> ((1 : Int32).toUInt32 &&& Int32.toUInt32 31)).toInt32) &&& 1431655765)) : Int32).toUInt32 >>> ((2 : Int32).toUInt32 &&& Int32.toUInt32 31)).toInt32) &&& 858993459)))]) (Ev.cm _) rfl rfl ?_
  refine w_iload_n (Ev.cm _) rfl rfl ?_
  refine w_iload_n (Ev.cm _) rfl rfl ?_
  refine w_iconst (Ev.cm _) rfl ?_
  refine w_iushr (Ev.cm _) rfl ?_
  refine w_iadd (Ev.cm _) rfl ?_
  refine w_ldc_w (Ev.cm _) rfl ?_
  refine w_iand (Ev.cm _) rfl ?_
  refine w_istore_n (ls2 := [(0, .int (((((p0 - ((((p0 : Int32).toUInt32 >>> ((1 : Int32).toUInt32 &&& Int32.toUInt32 31)).toInt32) &&& 1431655765)) &&& 858993459) + (((((p0 - ((((p0 : Int32).toUInt32 >>> ((1 : Int32).toUInt32 &&& Int32.toUInt32 31)).toInt32) &&& 1431655765)) : Int32).toUInt32 >>> ((2 : Int32).toUInt32 &&& Int32.toUInt32 31)).toInt32) &&& 858993459)) + ((((((p0 - ((((p0 : Int32).toUInt32 >>> ((1 : Int32).toUInt32 &&& Int32.toUInt32 31)).toInt32) &&& 1431655765)) &&& 858993459) + (((((p0 - ((((p0 : Int32).toUInt32 >>> ((1 : Int32).toUInt32 &&& Int32.toUInt32 31)).toInt32) &&& 1431655765)) : Int32).toUInt32 >>> ((2 : Int32).toUInt32 &&& Int32.toUInt32 31)).toInt32) &&& 858993459)) : Int32).toUInt32 >>> ((4 : Int32).toUInt32 &&& Int32.toUInt32 31)).toInt32)) &&& 252645135))]) (Ev.cm _) rfl rfl ?_
  refine w_iload_n (Ev.cm _) rfl rfl ?_
  refine w_iload_n (Ev.cm _) rfl rfl ?_
  refine w_bipush (Ev.cm _) rfl ?_
  refine w_iushr (Ev.cm _) rfl ?_
  refine w_iadd (Ev.cm _) rfl ?_
  refine w_istore_n (ls2 := [(0, .int ((((((p0 - ((((p0 : Int32).toUInt32 >>> ((1 : Int32).toUInt32 &&& Int32.toUInt32 31)).toInt32) &&& 1431655765)) &&& 858993459) + (((((p0 - ((((p0 : Int32).toUInt32 >>> ((1 : Int32).toUInt32 &&& Int32.toUInt32 31)).toInt32) &&& 1431655765)) : Int32).toUInt32 >>> ((2 : Int32).toUInt32 &&& Int32.toUInt32 31)).toInt32) &&& 858993459)) + ((((((p0 - ((((p0 : Int32).toUInt32 >>> ((1 : Int32).toUInt32 &&& Int32.toUInt32 31)).toInt32) &&& 1431655765)) &&& 858993459) + (((((p0 - ((((p0 : Int32).toUInt32 >>> ((1 : Int32).toUInt32 &&& Int32.toUInt32 31)).toInt32) &&& 1431655765)) : Int32).toUInt32 >>> ((2 : Int32).toUInt32 &&& Int32.toUInt32 31)).toInt32) &&& 858993459)) : Int32).toUInt32 >>> ((4 : Int32).toUInt32 &&& Int32.toUInt32 31)).toInt32)) &&& 252645135) + ((((((((p0 - ((((p0 : Int32).toUInt32 >>> ((1 : Int32).toUInt32 &&& Int32.toUInt32 31)).toInt32) &&& 1431655765)) &&& 858993459) + (((((p0 - ((((p0 : Int32).toUInt32 >>> ((1 : Int32).toUInt32 &&& Int32.toUInt32 31)).toInt32) &&& 1431655765)) : Int32).toUInt32 >>> ((2 : Int32).toUInt32 &&& Int32.toUInt32 31)).toInt32) &&& 858993459)) + ((((((p0 - ((((p0 : Int32).toUInt32 >>> ((1 : Int32).toUInt32 &&& Int32.toUInt32 31)).toInt32) &&& 1431655765)) &&& 858993459) + (((((p0 - ((((p0 : Int32).toUInt32 >>> ((1 : Int32).toUInt32 &&& Int32.toUInt32 31)).toInt32) &&& 1431655765)) : Int32).toUInt32 >>> ((2 : Int32).toUInt32 &&& Int32.toUInt32 31)).toInt32) &&& 858993459)) : Int32).toUInt32 >>> ((4 : Int32).toUInt32 &&& Int32.toUInt32 31)).toInt32)) &&& 252645135) : Int32).toUInt32 >>> ((8 : Int32).toUInt32 &&& Int32.toUInt32 31)).toInt32)))]) (Ev.cm _) rfl rfl ?_
  refine w_iload_n (Ev.cm _) rfl rfl ?_
  refine w_iload_n (Ev.cm _) rfl rfl ?_
  refine w_bipush (Ev.cm _) rfl ?_
  refine w_iushr (Ev.cm _) rfl ?_
  refine w_iadd (Ev.cm _) rfl ?_
  refine w_istore_n (ls2 := [(0, .int (((((((p0 - ((((p0 : Int32).toUInt32 >>> ((1 : Int32).toUInt32 &&& Int32.toUInt32 31)).toInt32) &&& 1431655765)) &&& 858993459) + (((((p0 - ((((p0 : Int32).toUInt32 >>> ((1 : Int32).toUInt32 &&& Int32.toUInt32 31)).toInt32) &&& 1431655765)) : Int32).toUInt32 >>> ((2 : Int32).toUInt32 &&& Int32.toUInt32 31)).toInt32) &&& 858993459)) + ((((((p0 - ((((p0 : Int32).toUInt32 >>> ((1 : Int32).toUInt32 &&& Int32.toUInt32 31)).toInt32) &&& 1431655765)) &&& 858993459) + (((((p0 - ((((p0 : Int32).toUInt32 >>> ((1 : Int32).toUInt32 &&& Int32.toUInt32 31)).toInt32) &&& 1431655765)) : Int32).toUInt32 >>> ((2 : Int32).toUInt32 &&& Int32.toUInt32 31)).toInt32) &&& 858993459)) : Int32).toUInt32 >>> ((4 : Int32).toUInt32 &&& Int32.toUInt32 31)).toInt32)) &&& 252645135) + ((((((((p0 - ((((p0 : Int32).toUInt32 >>> ((1 : Int32).toUInt32 &&& Int32.toUInt32 31)).toInt32) &&& 1431655765)) &&& 858993459) + (((((p0 - ((((p0 : Int32).toUInt32 >>> ((1 : Int32).toUInt32 &&& Int32.toUInt32 31)).toInt32) &&& 1431655765)) : Int32).toUInt32 >>> ((2 : Int32).toUInt32 &&& Int32.toUInt32 31)).toInt32) &&& 858993459)) + ((((((p0 - ((((p0 : Int32).toUInt32 >>> ((1 : Int32).toUInt32 &&& Int32.toUInt32 31)).toInt32) &&& 1431655765)) &&& 858993459) + (((((p0 - ((((p0 : Int32).toUInt32 >>> ((1 : Int32).toUInt32 &&& Int32.toUInt32 31)).toInt32) &&& 1431655765)) : Int32).toUInt32 >>> ((2 : Int32).toUInt32 &&& Int32.toUInt32 31)).toInt32) &&& 858993459)) : Int32).toUInt32 >>> ((4 : Int32).toUInt32 &&& Int32.toUInt32 31)).toInt32)) &&& 252645135) : Int32).toUInt32 >>> ((8 : Int32).toUInt32 &&& Int32.toUInt32 31)).toInt32)) + (((((((((p0 - ((((p0 : Int32).toUInt32 >>> ((1 : Int32).toUInt32 &&& Int32.toUInt32 31)).toInt32) &&& 1431655765)) &&& 858993459) + (((((p0 - ((((p0 : Int32).toUInt32 >>> ((1 : Int32).toUInt32 &&& Int32.toUInt32 31)).toInt32) &&& 1431655765)) : Int32).toUInt32 >>> ((2 : Int32).toUInt32 &&& Int32.toUInt32 31)).toInt32) &&& 858993459)) + ((((((p0 - ((((p0 : Int32).toUInt32 >>> ((1 : Int32).toUInt32 &&& Int32.toUInt32 31)).toInt32) &&& 1431655765)) &&& 858993459) + (((((p0 - ((((p0 : Int32).toUInt32 >>> ((1 : Int32).toUInt32 &&& Int32.toUInt32 31)).toInt32) &&& 1431655765)) : Int32).toUInt32 >>> ((2 : Int32).toUInt32 &&& Int32.toUInt32 31)).toInt32) &&& 858993459)) : Int32).toUInt32 >>> ((4 : Int32).toUInt32 &&& Int32.toUInt32 31)).toInt32)) &&& 252645135) + ((((((((p0 - ((((p0 : Int32).toUInt32 >>> ((1 : Int32).toUInt32 &&& Int32.toUInt32 31)).toInt32) &&& 1431655765)) &&& 858993459) + (((((p0 - ((((p0 : Int32).toUInt32 >>> ((1 : Int32).toUInt32 &&& Int32.toUInt32 31)).toInt32) &&& 1431655765)) : Int32).toUInt32 >>> ((2 : Int32).toUInt32 &&& Int32.toUInt32 31)).toInt32) &&& 858993459)) + ((((((p0 - ((((p0 : Int32).toUInt32 >>> ((1 : Int32).toUInt32 &&& Int32.toUInt32 31)).toInt32) &&& 1431655765)) &&& 858993459) + (((((p0 - ((((p0 : Int32).toUInt32 >>> ((1 : Int32).toUInt32 &&& Int32.toUInt32 31)).toInt32) &&& 1431655765)) : Int32).toUInt32 >>> ((2 : Int32).toUInt32 &&& Int32.toUInt32 31)).toInt32) &&& 858993459)) : Int32).toUInt32 >>> ((4 : Int32).toUInt32 &&& Int32.toUInt32 31)).toInt32)) &&& 252645135) : Int32).toUInt32 >>> ((8 : Int32).toUInt32 &&& Int32.toUInt32 31)).toInt32)) : Int32).toUInt32 >>> ((16 : Int32).toUInt32 &&& Int32.toUInt32 31)).toInt32)))]) (Ev.cm _) rfl rfl ?_
  refine w_iload_n (Ev.cm _) rfl rfl ?_
  refine w_bipush (Ev.cm _) rfl ?_
  refine w_iand (Ev.cm _) rfl ?_
  refine w_ireturn (Ev.cm _) rfl trivial rf0 ?_
  cases q
  exact g
def LO_C_keyOf_9 (fu : Nat) : Nat → Int32 → Int32 → Int32 → Int32 → Int32 → (Nat → Nat → Int32) → (Nat → Nat → Int64) → Option (Int32 × (Nat → Nat → Int32) × (Nat → Nat → Int64))
  | 0, _, _, _, _, _, _, _ => none
  | n + 1, x0, x1, x2, x3, x4, I, L => if 8 ≤ x4 then (some (x1 ||| ((1 : Int32) <<< (x2 &&& 31)), I, L)) else (if x3 ≤ 0 then (some (x1 ||| ((1 : Int32) <<< (x2 &&& 31)), I, L)) else (if (1 : Int32) ≤ (iR x3 10) ∧ (iR x3 10) ≤ (2 : Int32) then (LO_C_keyOf_9 fu n x0 (x1 ||| (((iR x3 10) - 1) <<< (x4 &&& 31))) (x2 + 1) (x3 / 10) (x4 + 1) I L) else (some (0, I, L))))
set_option maxHeartbeats 20000000 in
set_option maxRecDepth 20000 in
theorem lo_C_keyOf_9 {d fu n0 s0 : Nat} {X : Nat × (Nat → Int32)} {Q : PQ} {res : Int32 × (Nat → Nat → Int32) × (Nat → Nat → Int64)}  (g : Q (some (.int res.1)) (HS res.2.1 res.2.2 X)) : ∀ (n : Nat) (x0 : Int32) (x1 : Int32) (x2 : Int32) (x3 : Int32) (x4 : Int32) (I : Nat → Nat → Int32) (L : Nat → Nat → Int64), LO_C_keyOf_9 fu n x0 x1 x2 x3 x4 I L = some res → Wp (Ev (d + 1)) cd_C_keyOf (0, 0) (some .int) n0 s0 Q 9 [(0, .int x0), (1, .int x1), (2, .int x2), (3, .int x3), (4, .int x4)] [] (HS I L X) := by
  intro n
  induction n with
  | zero => intro _ _ _ _ _ _ _ q; cases q
  | succ n ih =>
    intro x0 x1 x2 x3 x4 I L q
    unfold LO_C_keyOf_9 at q
    refine w_iload (Ev.cm _) rfl rfl ?_
    refine w_bipush (Ev.cm _) rfl ?_
    refine w_icmp_ge (Ev.cm _) rfl (fun c1 => ?_) (fun c1 => ?_)
    · have c1 : 8 ≤ x4 := c1
      rw [if_pos c1] at q
      refine w_iload_n (Ev.cm _) rfl rfl ?_
      refine w_iconst (Ev.cm _) rfl ?_
      refine w_iload_n (Ev.cm _) rfl rfl ?_
      refine w_ishl (Ev.cm _) rfl ?_
      refine w_ior (Ev.cm _) rfl ?_
      refine w_ireturn (Ev.cm _) rfl trivial rf0 ?_
      cases q
      exact g
    · have c1 : ¬ (8 ≤ x4) := c1
      rw [if_neg c1] at q
      refine w_iload_n (Ev.cm _) rfl rfl ?_
      refine w_if_le (Ev.cm _) rfl (fun c2 => ?_) (fun c2 => ?_)
      · have c2 : x3 ≤ 0 := c2
        rw [if_pos c2] at q
        refine w_iload_n (Ev.cm _) rfl rfl ?_
        refine w_iconst (Ev.cm _) rfl ?_
        refine w_iload_n (Ev.cm _) rfl rfl ?_
        refine w_ishl (Ev.cm _) rfl ?_
        refine w_ior (Ev.cm _) rfl ?_
        refine w_ireturn (Ev.cm _) rfl trivial rf0 ?_
        cases q
        exact g
      · have c2 : ¬ (x3 ≤ 0) := c2
        rw [if_neg c2] at q
        refine w_iload_n (Ev.cm _) rfl rfl ?_
        refine w_bipush (Ev.cm _) rfl ?_
        refine w_irem (Ev.cm _) rfl (by decide) ?_
        refine w_istore (ls2 := [(0, .int x0), (1, .int x1), (2, .int x2), (3, .int x3), (4, .int x4), (5, .int (iR x3 10))]) (Ev.cm _) rfl rfl ?_
        refine w_iload (Ev.cm _) rfl rfl ?_
        refine w_iconst (Ev.cm _) rfl ?_
        refine w_iconst (Ev.cm _) rfl ?_
        refine w_cnest (as := [.int (iR x3 10), .int 1, .int 2]) (st := []) (Ev.cm _) rfl rfl rfl (Nat.le_of_ble_eq_true rfl) (Nat.le_of_ble_eq_true rfl) (x_within ?_)
        show Wp _ _ _ _ _ _ _ 33 [(0, .int x0), (1, .int x1), (2, .int x2), (3, .int x3), (4, .int x4), (5, .int (iR x3 10))] [.int (bI ((1 : Int32) ≤ (iR x3 10) ∧ (iR x3 10) ≤ (2 : Int32)))] (HS I L X)
        refine w_if_ne (Ev.cm _) rfl (fun c3 => ?_) (fun c3 => ?_)
        · have c3 : (1 : Int32) ≤ (iR x3 10) ∧ (iR x3 10) ≤ (2 : Int32) := bI_1.mp c3
          rw [if_pos c3] at q
          refine w_iload_n (Ev.cm _) rfl rfl ?_
          refine w_iload (Ev.cm _) rfl rfl ?_
          refine w_iconst (Ev.cm _) rfl ?_
          refine w_isub (Ev.cm _) rfl ?_
          refine w_iload (Ev.cm _) rfl rfl ?_
          refine w_ishl (Ev.cm _) rfl ?_
          refine w_ior (Ev.cm _) rfl ?_
          refine w_istore_n (ls2 := [(0, .int x0), (1, .int (x1 ||| (((iR x3 10) - 1) <<< (x4 &&& 31)))), (2, .int x2), (3, .int x3), (4, .int x4), (5, .int (iR x3 10))]) (Ev.cm _) rfl rfl ?_
          refine w_iinc (ls2 := [(0, .int x0), (1, .int (x1 ||| (((iR x3 10) - 1) <<< (x4 &&& 31)))), (2, .int (x2 + 1)), (3, .int x3), (4, .int x4), (5, .int (iR x3 10))]) (Ev.cm _) rfl rfl rfl ?_
          refine w_iload_n (Ev.cm _) rfl rfl ?_
          refine w_bipush (Ev.cm _) rfl ?_
          refine w_idiv (Ev.cm _) rfl (by decide) ?_
          refine w_istore_n (ls2 := [(0, .int x0), (1, .int (x1 ||| (((iR x3 10) - 1) <<< (x4 &&& 31)))), (2, .int (x2 + 1)), (3, .int (x3 / 10)), (4, .int x4), (5, .int (iR x3 10))]) (Ev.cm _) rfl rfl ?_
          refine w_iinc (ls2 := [(0, .int x0), (1, .int (x1 ||| (((iR x3 10) - 1) <<< (x4 &&& 31)))), (2, .int (x2 + 1)), (3, .int (x3 / 10)), (4, .int (x4 + 1)), (5, .int (iR x3 10))]) (Ev.cm _) rfl rfl rfl ?_
          refine w_goto (Ev.cm _) rfl ?_
          show Wp _ _ _ _ _ _ _ 9 [(0, .int x0), (1, .int (x1 ||| (((iR x3 10) - 1) <<< (x4 &&& 31)))), (2, .int (x2 + 1)), (3, .int (x3 / 10)), (4, .int (x4 + 1)), (5, .int (iR x3 10))] [] (HS I L X)
          refine Wp.sub [0, 1, 2, 3, 4] (ls2 := [(0, .int x0), (1, .int (x1 ||| (((iR x3 10) - 1) <<< (x4 &&& 31)))), (2, .int (x2 + 1)), (3, .int (x3 / 10)), (4, .int (x4 + 1))]) rfl ?_
          exact ih _ _ _ _ _ _ _ q
        · have c3 : ¬ ((1 : Int32) ≤ (iR x3 10) ∧ (iR x3 10) ≤ (2 : Int32)) := bI_0.mp c3
          rw [if_neg c3] at q
          refine w_iconst (Ev.cm _) rfl ?_
          refine w_ireturn (Ev.cm _) rfl trivial rf0 ?_
          cases q
          exact g
def FO_C_keyOf (fu : Nat) (p0 : Int32) (I : Nat → Nat → Int32) (L : Nat → Nat → Int64) : Option (Int32 × (Nat → Nat → Int32) × (Nat → Nat → Int64)) := LO_C_keyOf_9 fu fu p0 0 0 p0 0 I L
set_option maxHeartbeats 20000000 in
set_option maxRecDepth 20000 in
theorem eo_C_keyOf {d fu : Nat} {p0 : Int32} {I : Nat → Nat → Int32} {L : Nat → Nat → Int64} {X : Nat × (Nat → Int32)} {Q : PQ} {res : Int32 × (Nat → Nat → Int32) × (Nat → Nat → Int64)}  (g : Q (some (.int res.1)) (HS res.2.1 res.2.2 X)) (q : FO_C_keyOf fu p0 I L = some res) : Ev (d + 2) m_C_keyOf [.int p0] (HS I L X) Q := by
  unfold FO_C_keyOf at q
  refine ev_start (d := d + 1) rfl rfl rfl (Nat.le_of_ble_eq_true rfl) ?_
  show Wp (Ev (d + 1)) cd_C_keyOf (0, 0) (some .int) _ _ Q 0 [(0, .int p0)] [] (HS I L X)
  refine w_iconst (Ev.cm _) rfl ?_
  refine w_istore_n (ls2 := [(0, .int p0), (1, .int 0)]) (Ev.cm _) rfl rfl ?_
  refine w_iconst (Ev.cm _) rfl ?_
  refine w_istore_n (ls2 := [(0, .int p0), (1, .int 0), (2, .int 0)]) (Ev.cm _) rfl rfl ?_
  refine w_iload_n (Ev.cm _) rfl rfl ?_
  refine w_istore_n (ls2 := [(0, .int p0), (1, .int 0), (2, .int 0), (3, .int p0)]) (Ev.cm _) rfl rfl ?_
  refine w_iconst (Ev.cm _) rfl ?_
  refine w_istore (ls2 := [(0, .int p0), (1, .int 0), (2, .int 0), (3, .int p0), (4, .int 0)]) (Ev.cm _) rfl rfl ?_
  show Wp _ _ _ _ _ _ _ 9 [(0, .int p0), (1, .int 0), (2, .int 0), (3, .int p0), (4, .int 0)] [] (HS I L X)
  refine Wp.sub [0, 1, 2, 3, 4] (ls2 := [(0, .int p0), (1, .int 0), (2, .int 0), (3, .int p0), (4, .int 0)]) rfl ?_
  exact lo_C_keyOf_9 g fu _ _ _ _ _ _ _ q
def LO_C_lengthOf_4 (fu : Nat) : Nat → Int32 → Int32 → Int32 → (Nat → Nat → Int32) → (Nat → Nat → Int64) → Option (Int32 × (Nat → Nat → Int32) × (Nat → Nat → Int64))
  | 0, _, _, _, _, _ => none
  | n + 1, x0, x1, x2, I, L => if x2 ≤ 1 then (some (x1, I, L)) else (if 8 ≤ x1 then (some (x1, I, L)) else (LO_C_lengthOf_4 fu n x0 (x1 + 1) (x2 >>> (1 &&& 31)) I L))
set_option maxHeartbeats 20000000 in
set_option maxRecDepth 20000 in
theorem lo_C_lengthOf_4 {d fu n0 s0 : Nat} {X : Nat × (Nat → Int32)} {Q : PQ} {res : Int32 × (Nat → Nat → Int32) × (Nat → Nat → Int64)}  (g : Q (some (.int res.1)) (HS res.2.1 res.2.2 X)) : ∀ (n : Nat) (x0 : Int32) (x1 : Int32) (x2 : Int32) (I : Nat → Nat → Int32) (L : Nat → Nat → Int64), LO_C_lengthOf_4 fu n x0 x1 x2 I L = some res → Wp (Ev (d + 0)) cd_C_lengthOf (0, 0) (some .int) n0 s0 Q 4 [(0, .int x0), (1, .int x1), (2, .int x2)] [] (HS I L X) := by
  intro n
  induction n with
  | zero => intro _ _ _ _ _ q; cases q
  | succ n ih =>
    intro x0 x1 x2 I L q
    unfold LO_C_lengthOf_4 at q
    refine w_iload_n (Ev.cm _) rfl rfl ?_
    refine w_iconst (Ev.cm _) rfl ?_
    refine w_icmp_le (Ev.cm _) rfl (fun c1 => ?_) (fun c1 => ?_)
    · have c1 : x2 ≤ 1 := c1
      rw [if_pos c1] at q
      refine w_iload_n (Ev.cm _) rfl rfl ?_
      refine w_ireturn (Ev.cm _) rfl trivial rf0 ?_
      cases q
      exact g
    · have c1 : ¬ (x2 ≤ 1) := c1
      rw [if_neg c1] at q
      refine w_iload_n (Ev.cm _) rfl rfl ?_
      refine w_bipush (Ev.cm _) rfl ?_
      refine w_icmp_ge (Ev.cm _) rfl (fun c2 => ?_) (fun c2 => ?_)
      · have c2 : 8 ≤ x1 := c2
        rw [if_pos c2] at q
        refine w_iload_n (Ev.cm _) rfl rfl ?_
        refine w_ireturn (Ev.cm _) rfl trivial rf0 ?_
        cases q
        exact g
      · have c2 : ¬ (8 ≤ x1) := c2
        rw [if_neg c2] at q
        refine w_iinc (ls2 := [(0, .int x0), (1, .int (x1 + 1)), (2, .int x2)]) (Ev.cm _) rfl rfl rfl ?_
        refine w_iload_n (Ev.cm _) rfl rfl ?_
        refine w_iconst (Ev.cm _) rfl ?_
        refine w_ishr (Ev.cm _) rfl ?_
        refine w_istore_n (ls2 := [(0, .int x0), (1, .int (x1 + 1)), (2, .int (x2 >>> (1 &&& 31)))]) (Ev.cm _) rfl rfl ?_
        refine w_goto (Ev.cm _) rfl ?_
        show Wp _ _ _ _ _ _ _ 4 [(0, .int x0), (1, .int (x1 + 1)), (2, .int (x2 >>> (1 &&& 31)))] [] (HS I L X)
        refine Wp.sub [0, 1, 2] (ls2 := [(0, .int x0), (1, .int (x1 + 1)), (2, .int (x2 >>> (1 &&& 31)))]) rfl ?_
        exact ih _ _ _ _ _ q
def FO_C_lengthOf (fu : Nat) (p0 : Int32) (I : Nat → Nat → Int32) (L : Nat → Nat → Int64) : Option (Int32 × (Nat → Nat → Int32) × (Nat → Nat → Int64)) := LO_C_lengthOf_4 fu fu p0 0 p0 I L
set_option maxHeartbeats 20000000 in
set_option maxRecDepth 20000 in
theorem eo_C_lengthOf {d fu : Nat} {p0 : Int32} {I : Nat → Nat → Int32} {L : Nat → Nat → Int64} {X : Nat × (Nat → Int32)} {Q : PQ} {res : Int32 × (Nat → Nat → Int32) × (Nat → Nat → Int64)}  (g : Q (some (.int res.1)) (HS res.2.1 res.2.2 X)) (q : FO_C_lengthOf fu p0 I L = some res) : Ev (d + 1) m_C_lengthOf [.int p0] (HS I L X) Q := by
  unfold FO_C_lengthOf at q
  refine ev_start (d := d + 0) rfl rfl rfl (Nat.le_of_ble_eq_true rfl) ?_
  show Wp (Ev (d + 0)) cd_C_lengthOf (0, 0) (some .int) _ _ Q 0 [(0, .int p0)] [] (HS I L X)
  refine w_iconst (Ev.cm _) rfl ?_
  refine w_istore_n (ls2 := [(0, .int p0), (1, .int 0)]) (Ev.cm _) rfl rfl ?_
  refine w_iload_n (Ev.cm _) rfl rfl ?_
  refine w_istore_n (ls2 := [(0, .int p0), (1, .int 0), (2, .int p0)]) (Ev.cm _) rfl rfl ?_
  show Wp _ _ _ _ _ _ _ 4 [(0, .int p0), (1, .int 0), (2, .int p0)] [] (HS I L X)
  refine Wp.sub [0, 1, 2] (ls2 := [(0, .int p0), (1, .int 0), (2, .int p0)]) rfl ?_
  exact lo_C_lengthOf_4 g fu _ _ _ _ _ q
def LO_C_isWord_2 (fu : Nat) : Nat → Int32 → Int32 → (Nat → Nat → Int32) → (Nat → Nat → Int64) → Option (Int32 × (Nat → Nat → Int32) × (Nat → Nat → Int64))
  | 0, _, _, _, _ => none
  | n + 1, x1, x2, I, L => if I 1 13 ≤ x2 then (some (0, I, L)) else (if 5 ≤ x2 then (some (0, I, L)) else (if 0 ≤ x2 ∧ x2 < 5 then (if I 134 x2.toNatClampNeg = x1 then (some (1, I, L)) else (LO_C_isWord_2 fu n x1 (x2 + 1) I L)) else none))
set_option maxHeartbeats 20000000 in
set_option maxRecDepth 20000 in
theorem lo_C_isWord_2 {d fu n0 s0 : Nat} {X : Nat × (Nat → Int32)} {Q : PQ} {res : Int32 × (Nat → Nat → Int32) × (Nat → Nat → Int64)}  (g : Q (some (.int res.1)) (HS res.2.1 res.2.2 X)) : ∀ (n : Nat) (x1 : Int32) (x2 : Int32) (I : Nat → Nat → Int32) (L : Nat → Nat → Int64), LO_C_isWord_2 fu n x1 x2 I L = some res → Wp (Ev (d + 0)) cd_C_isWord (0, 0) (some .boolean) n0 s0 Q 2 [(0, .ref 1), (1, .int x1), (2, .int x2)] [] (HS I L X) := by
  intro n
  induction n with
  | zero => intro _ _ _ _ q; cases q
  | succ n ih =>
    intro x1 x2 I L q
    unfold LO_C_isWord_2 at q
    refine w_iload_n (Ev.cm _) rfl rfl ?_
    refine w_aload_n (Ev.cm _) rfl rfl ?_
    refine w_getI (Ev.cm _) rfl (Nat.le_of_ble_eq_true rfl) rfl ?_
    refine w_icmp_ge (Ev.cm _) rfl (fun c1 => ?_) (fun c1 => ?_)
    · have c1 : I 1 13 ≤ x2 := c1
      rw [if_pos c1] at q
      refine w_iconst (Ev.cm _) rfl ?_
      refine w_ireturn (Ev.cm _) rfl (by first | exact rok_0 | exact rok_1 | exact rok_b) rf0 ?_
      cases q
      exact g
    · have c1 : ¬ (I 1 13 ≤ x2) := c1
      rw [if_neg c1] at q
      refine w_iload_n (Ev.cm _) rfl rfl ?_
      refine w_iconst (Ev.cm _) rfl ?_
      refine w_icmp_ge (Ev.cm _) rfl (fun c2 => ?_) (fun c2 => ?_)
      · have c2 : 5 ≤ x2 := c2
        rw [if_pos c2] at q
        refine w_iconst (Ev.cm _) rfl ?_
        refine w_ireturn (Ev.cm _) rfl (by first | exact rok_0 | exact rok_1 | exact rok_b) rf0 ?_
        cases q
        exact g
      · have c2 : ¬ (5 ≤ x2) := c2
        rw [if_neg c2] at q
        refine w_aload_n (Ev.cm _) rfl rfl ?_
        refine w_getR (q := 134) (Ev.cm _) rfl (Nat.le_of_ble_eq_true rfl) rfl rfl ?_
        refine w_iload_n (Ev.cm _) rfl rfl ?_
        obtain ⟨b1, q⟩ := ois q
        refine w_iald (Ev.cm _) rfl (Nat.le_of_ble_eq_true rfl) rfl (show vp_in x2 5 from vpI 5 (by decide) b1.1 b1.2) ?_
        refine w_iload_n (Ev.cm _) rfl rfl ?_
        refine w_icmp_ne (Ev.cm _) rfl (fun c3 => ?_) (fun c3 => ?_)
        · have c3 : ¬ (I 134 x2.toNatClampNeg = x1) := c3
          rw [if_neg c3] at q
          refine w_iinc (ls2 := [(0, .ref 1), (1, .int x1), (2, .int (x2 + 1))]) (Ev.cm _) rfl rfl rfl ?_
          refine w_goto (Ev.cm _) rfl ?_
          show Wp _ _ _ _ _ _ _ 2 [(0, .ref 1), (1, .int x1), (2, .int (x2 + 1))] [] (HS I L X)
          refine Wp.sub [0, 1, 2] (ls2 := [(0, .ref 1), (1, .int x1), (2, .int (x2 + 1))]) rfl ?_
          exact ih _ _ _ _ q
        · have c3 : I 134 x2.toNatClampNeg = x1 := c3
          rw [if_pos c3] at q
          refine w_iconst (Ev.cm _) rfl ?_
          refine w_ireturn (Ev.cm _) rfl (by first | exact rok_0 | exact rok_1 | exact rok_b) rf0 ?_
          cases q
          exact g
def FO_C_isWord (fu : Nat) (p1 : Int32) (I : Nat → Nat → Int32) (L : Nat → Nat → Int64) : Option (Int32 × (Nat → Nat → Int32) × (Nat → Nat → Int64)) := LO_C_isWord_2 fu fu p1 0 I L
set_option maxHeartbeats 20000000 in
set_option maxRecDepth 20000 in
theorem eo_C_isWord {d fu : Nat} {p1 : Int32} {I : Nat → Nat → Int32} {L : Nat → Nat → Int64} {X : Nat × (Nat → Int32)} {Q : PQ} {res : Int32 × (Nat → Nat → Int32) × (Nat → Nat → Int64)}  (g : Q (some (.int res.1)) (HS res.2.1 res.2.2 X)) (q : FO_C_isWord fu p1 I L = some res) : Ev (d + 1) m_C_isWord [.ref 1, .int p1] (HS I L X) Q := by
  unfold FO_C_isWord at q
  refine ev_start (d := d + 0) rfl rfl rfl (Nat.le_of_ble_eq_true rfl) ?_
  show Wp (Ev (d + 0)) cd_C_isWord (0, 0) (some .boolean) _ _ Q 0 [(0, .ref 1), (1, .int p1)] [] (HS I L X)
  refine w_iconst (Ev.cm _) rfl ?_
  refine w_istore_n (ls2 := [(0, .ref 1), (1, .int p1), (2, .int 0)]) (Ev.cm _) rfl rfl ?_
  show Wp _ _ _ _ _ _ _ 2 [(0, .ref 1), (1, .int p1), (2, .int 0)] [] (HS I L X)
  refine Wp.sub [0, 1, 2] (ls2 := [(0, .ref 1), (1, .int p1), (2, .int 0)]) rfl ?_
  exact lo_C_isWord_2 g fu _ _ _ _ q
def FO_C_behind (fu : Nat) (p0 : Int32) (p1 : Int32) (I : Nat → Nat → Int32) (L : Nat → Nat → Int64) : Option (Int32 × (Nat → Nat → Int32) × (Nat → Nat → Int64)) := (FO_C_lengthOf fu p0 I L).bind (fun u1 => let r1 := u1.1; let I1 := u1.2.1; let L1 := u1.2.2; (FO_C_lengthOf fu p1 I1 L1).bind (fun u2 => let r2 := u2.1; let I2 := u2.2.1; let L2 := u2.2.2; if r1 - r2 < 0 then (some (0, I2, L2)) else (if p0 >>> ((r1 - r2) &&& 31) = p1 then (some ((p0 &&& (((1 : Int32) <<< ((r1 - r2) &&& 31)) - 1)) ||| ((1 : Int32) <<< ((r1 - r2) &&& 31)), I2, L2)) else (some (0, I2, L2)))))
set_option maxHeartbeats 20000000 in
set_option maxRecDepth 20000 in
theorem eo_C_behind {d fu : Nat} {p0 : Int32} {p1 : Int32} {I : Nat → Nat → Int32} {L : Nat → Nat → Int64} {X : Nat × (Nat → Int32)} {Q : PQ} {res : Int32 × (Nat → Nat → Int32) × (Nat → Nat → Int64)}  (g : Q (some (.int res.1)) (HS res.2.1 res.2.2 X)) (q : FO_C_behind fu p0 p1 I L = some res) : Ev (d + 2) m_C_behind [.int p0, .int p1] (HS I L X) Q := by
  unfold FO_C_behind at q
  refine ev_start (d := d + 1) rfl rfl rfl (Nat.le_of_ble_eq_true rfl) ?_
  show Wp (Ev (d + 1)) cd_C_behind (0, 0) (some .int) _ _ Q 0 [(0, .int p0), (1, .int p1)] [] (HS I L X)
  refine w_iload_n (Ev.cm _) rfl rfl ?_
  obtain ⟨⟨r1, I1, L1⟩, e1, q⟩ := obs q
  dsimp only at q
  refine w_cstat (as := [.int p0]) (st := []) (Ev.cm _) rfl rfl rfl (Nat.le_of_ble_eq_true rfl) (Nat.le_of_ble_eq_true rfl) (eo_C_lengthOf (g := ?_) e1)
  show Wp _ _ _ _ _ _ _ 4 [(0, .int p0), (1, .int p1)] [.int r1] (HS I1 L1 X)
  refine w_iload_n (Ev.cm _) rfl rfl ?_
  obtain ⟨⟨r2, I2, L2⟩, e2, q⟩ := obs q
  dsimp only at q
  refine w_cstat (as := [.int p1]) (st := [.int r1]) (Ev.cm _) rfl rfl rfl (Nat.le_of_ble_eq_true rfl) (Nat.le_of_ble_eq_true rfl) (eo_C_lengthOf (g := ?_) e2)
  show Wp _ _ _ _ _ _ _ 8 [(0, .int p0), (1, .int p1)] [.int r2, .int r1] (HS I2 L2 X)
  refine w_isub (Ev.cm _) rfl ?_
  refine w_istore_n (ls2 := [(0, .int p0), (1, .int p1), (2, .int (r1 - r2))]) (Ev.cm _) rfl rfl ?_
  refine w_iload_n (Ev.cm _) rfl rfl ?_
  refine w_if_lt (Ev.cm _) rfl (fun c1 => ?_) (fun c1 => ?_)
  · have c1 : r1 - r2 < 0 := c1
    rw [if_pos c1] at q
    refine w_iconst (Ev.cm _) rfl ?_
    refine w_ireturn (Ev.cm _) rfl trivial rf0 ?_
    cases q
    exact g
  · have c1 : ¬ (r1 - r2 < 0) := c1
    rw [if_neg c1] at q
    refine w_iload_n (Ev.cm _) rfl rfl ?_
    refine w_iload_n (Ev.cm _) rfl rfl ?_
    refine w_ishr (Ev.cm _) rfl ?_
    refine w_iload_n (Ev.cm _) rfl rfl ?_
    refine w_icmp_eq (Ev.cm _) rfl (fun c2 => ?_) (fun c2 => ?_)
    · have c2 : p0 >>> ((r1 - r2) &&& 31) = p1 := c2
      rw [if_pos c2] at q
      refine w_iload_n (Ev.cm _) rfl rfl ?_
      refine w_iconst (Ev.cm _) rfl ?_
      refine w_iload_n (Ev.cm _) rfl rfl ?_
      refine w_ishl (Ev.cm _) rfl ?_
      refine w_iconst (Ev.cm _) rfl ?_
      refine w_isub (Ev.cm _) rfl ?_
      refine w_iand (Ev.cm _) rfl ?_
      refine w_iconst (Ev.cm _) rfl ?_
      refine w_iload_n (Ev.cm _) rfl rfl ?_
      refine w_ishl (Ev.cm _) rfl ?_
      refine w_ior (Ev.cm _) rfl ?_
      refine w_ireturn (Ev.cm _) rfl trivial rf0 ?_
      cases q
      exact g
    · have c2 : ¬ (p0 >>> ((r1 - r2) &&& 31) = p1) := c2
      rw [if_neg c2] at q
      refine w_iconst (Ev.cm _) rfl ?_
      refine w_ireturn (Ev.cm _) rfl trivial rf0 ?_
      cases q
      exact g
def LO_C_isFree_17 (fu : Nat) (k_2 : Int32 → (Nat → Nat → Int32) → (Nat → Nat → Int64) → Option (Int32 × (Nat → Nat → Int32) × (Nat → Nat → Int64))) : Nat → Int32 → Int32 → (Nat → Nat → Int32) → (Nat → Nat → Int64) → Option (Int32 × (Nat → Nat → Int32) × (Nat → Nat → Int64))
  | 0, _, _, _, _ => none
  | n + 1, x1, x2, I, L => if I 1 13 ≤ x2 then (k_2 (x1 + 1) I L) else (if 5 ≤ x2 then (k_2 (x1 + 1) I L) else (if x1 = x2 then (LO_C_isFree_17 fu k_2 n x1 (x2 + 1) I L) else (if 0 ≤ x1 ∧ x1 < 5 then (if 0 ≤ x2 ∧ x2 < 5 then ((FO_C_behind fu (I 134 x1.toNatClampNeg) (I 134 x2.toNatClampNeg) I L).bind (fun u3 => let r3 := u3.1; let I3 := u3.2.1; let L3 := u3.2.2; if r3 = 0 then (LO_C_isFree_17 fu k_2 n x1 (x2 + 1) I3 L3) else (some (0, I3, L3)))) else none) else none)))
set_option maxHeartbeats 20000000 in
set_option maxRecDepth 20000 in
theorem lo_C_isFree_17 {d fu n0 s0 : Nat} {X : Nat × (Nat → Int32)} {Q : PQ} {k_2 : Int32 → (Nat → Nat → Int32) → (Nat → Nat → Int64) → Option (Int32 × (Nat → Nat → Int32) × (Nat → Nat → Int64))} {res : Int32 × (Nat → Nat → Int32) × (Nat → Nat → Int64)}  (g : Q (some (.int res.1)) (HS res.2.1 res.2.2 X)) (hk_2 : ∀ (x1 : Int32) (I : Nat → Nat → Int32) (L : Nat → Nat → Int64), k_2 x1 I L = some res → Wp (Ev (d + 2)) cd_C_isFree (0, 0) (some .boolean) n0 s0 Q 2 [(0, .ref 1), (1, .int x1)] [] (HS I L X)) : ∀ (n : Nat) (x1 : Int32) (x2 : Int32) (I : Nat → Nat → Int32) (L : Nat → Nat → Int64), LO_C_isFree_17 fu k_2 n x1 x2 I L = some res → Wp (Ev (d + 2)) cd_C_isFree (0, 0) (some .boolean) n0 s0 Q 17 [(0, .ref 1), (1, .int x1), (2, .int x2)] [] (HS I L X) := by
  intro n
  induction n with
  | zero => intro _ _ _ _ q; cases q
  | succ n ih =>
    intro x1 x2 I L q
    unfold LO_C_isFree_17 at q
    refine w_iload_n (Ev.cm _) rfl rfl ?_
    refine w_aload_n (Ev.cm _) rfl rfl ?_
    refine w_getI (Ev.cm _) rfl (Nat.le_of_ble_eq_true rfl) rfl ?_
    refine w_icmp_ge (Ev.cm _) rfl (fun c1 => ?_) (fun c1 => ?_)
    · have c1 : I 1 13 ≤ x2 := c1
      rw [if_pos c1] at q
      refine w_iinc (ls2 := [(0, .ref 1), (1, .int (x1 + 1)), (2, .int x2)]) (Ev.cm _) rfl rfl rfl ?_
      refine w_goto (Ev.cm _) rfl ?_
      show Wp _ _ _ _ _ _ _ 2 [(0, .ref 1), (1, .int (x1 + 1)), (2, .int x2)] [] (HS I L X)
      refine Wp.sub [0, 1] (ls2 := [(0, .ref 1), (1, .int (x1 + 1))]) rfl ?_
      exact hk_2 _ _ _ q
    · have c1 : ¬ (I 1 13 ≤ x2) := c1
      rw [if_neg c1] at q
      refine w_iload_n (Ev.cm _) rfl rfl ?_
      refine w_iconst (Ev.cm _) rfl ?_
      refine w_icmp_ge (Ev.cm _) rfl (fun c2 => ?_) (fun c2 => ?_)
      · have c2 : 5 ≤ x2 := c2
        rw [if_pos c2] at q
        refine w_iinc (ls2 := [(0, .ref 1), (1, .int (x1 + 1)), (2, .int x2)]) (Ev.cm _) rfl rfl rfl ?_
        refine w_goto (Ev.cm _) rfl ?_
        show Wp _ _ _ _ _ _ _ 2 [(0, .ref 1), (1, .int (x1 + 1)), (2, .int x2)] [] (HS I L X)
        refine Wp.sub [0, 1] (ls2 := [(0, .ref 1), (1, .int (x1 + 1))]) rfl ?_
        exact hk_2 _ _ _ q
      · have c2 : ¬ (5 ≤ x2) := c2
        rw [if_neg c2] at q
        refine w_iload_n (Ev.cm _) rfl rfl ?_
        refine w_iload_n (Ev.cm _) rfl rfl ?_
        refine w_icmp_eq (Ev.cm _) rfl (fun c3 => ?_) (fun c3 => ?_)
        · have c3 : x1 = x2 := c3
          rw [if_pos c3] at q
          refine w_iinc (ls2 := [(0, .ref 1), (1, .int x1), (2, .int (x2 + 1))]) (Ev.cm _) rfl rfl rfl ?_
          refine w_goto (Ev.cm _) rfl ?_
          show Wp _ _ _ _ _ _ _ 17 [(0, .ref 1), (1, .int x1), (2, .int (x2 + 1))] [] (HS I L X)
          refine Wp.sub [0, 1, 2] (ls2 := [(0, .ref 1), (1, .int x1), (2, .int (x2 + 1))]) rfl ?_
          exact ih _ _ _ _ q
        · have c3 : ¬ (x1 = x2) := c3
          rw [if_neg c3] at q
          refine w_aload_n (Ev.cm _) rfl rfl ?_
          refine w_getR (q := 134) (Ev.cm _) rfl (Nat.le_of_ble_eq_true rfl) rfl rfl ?_
          refine w_iload_n (Ev.cm _) rfl rfl ?_
          obtain ⟨b1, q⟩ := ois q
          refine w_iald (Ev.cm _) rfl (Nat.le_of_ble_eq_true rfl) rfl (show vp_in x1 5 from vpI 5 (by decide) b1.1 b1.2) ?_
          refine w_aload_n (Ev.cm _) rfl rfl ?_
          refine w_getR (q := 134) (Ev.cm _) rfl (Nat.le_of_ble_eq_true rfl) rfl rfl ?_
          refine w_iload_n (Ev.cm _) rfl rfl ?_
          obtain ⟨b2, q⟩ := ois q
          refine w_iald (Ev.cm _) rfl (Nat.le_of_ble_eq_true rfl) rfl (show vp_in x2 5 from vpI 5 (by decide) b2.1 b2.2) ?_
          obtain ⟨⟨r3, I3, L3⟩, e3, q⟩ := obs q
          dsimp only at q
          refine w_cstat (as := [.int (I 134 x1.toNatClampNeg), .int (I 134 x2.toNatClampNeg)]) (st := []) (Ev.cm _) rfl rfl rfl (Nat.le_of_ble_eq_true rfl) (Nat.le_of_ble_eq_true rfl) (eo_C_behind (g := ?_) e3)
          show Wp _ _ _ _ _ _ _ 50 [(0, .ref 1), (1, .int x1), (2, .int x2)] [.int r3] (HS I3 L3 X)
          refine w_if_eq (Ev.cm _) rfl (fun c4 => ?_) (fun c4 => ?_)
          · have c4 : r3 = 0 := c4
            rw [if_pos c4] at q
            refine w_iinc (ls2 := [(0, .ref 1), (1, .int x1), (2, .int (x2 + 1))]) (Ev.cm _) rfl rfl rfl ?_
            refine w_goto (Ev.cm _) rfl ?_
            show Wp _ _ _ _ _ _ _ 17 [(0, .ref 1), (1, .int x1), (2, .int (x2 + 1))] [] (HS I3 L3 X)
            refine Wp.sub [0, 1, 2] (ls2 := [(0, .ref 1), (1, .int x1), (2, .int (x2 + 1))]) rfl ?_
            exact ih _ _ _ _ q
          · have c4 : ¬ (r3 = 0) := c4
            rw [if_neg c4] at q
            refine w_iconst (Ev.cm _) rfl ?_
            refine w_ireturn (Ev.cm _) rfl (by first | exact rok_0 | exact rok_1 | exact rok_b) rf0 ?_
            cases q
            exact g
def LO_C_isFree_2 (fu : Nat) : Nat → Int32 → (Nat → Nat → Int32) → (Nat → Nat → Int64) → Option (Int32 × (Nat → Nat → Int32) × (Nat → Nat → Int64))
  | 0, _, _, _ => none
  | n + 1, x1, I, L => if I 1 13 ≤ x1 then (some (1, I, L)) else (if 5 ≤ x1 then (some (1, I, L)) else (LO_C_isFree_17 fu (fun x1 I L => LO_C_isFree_2 fu n x1 I L) fu x1 0 I L))
set_option maxHeartbeats 20000000 in
set_option maxRecDepth 20000 in
theorem lo_C_isFree_2 {d fu n0 s0 : Nat} {X : Nat × (Nat → Int32)} {Q : PQ} {res : Int32 × (Nat → Nat → Int32) × (Nat → Nat → Int64)}  (g : Q (some (.int res.1)) (HS res.2.1 res.2.2 X)) : ∀ (n : Nat) (x1 : Int32) (I : Nat → Nat → Int32) (L : Nat → Nat → Int64), LO_C_isFree_2 fu n x1 I L = some res → Wp (Ev (d + 2)) cd_C_isFree (0, 0) (some .boolean) n0 s0 Q 2 [(0, .ref 1), (1, .int x1)] [] (HS I L X) := by
  intro n
  induction n with
  | zero => intro _ _ _ q; cases q
  | succ n ih =>
    intro x1 I L q
    unfold LO_C_isFree_2 at q
    refine w_iload_n (Ev.cm _) rfl rfl ?_
    refine w_aload_n (Ev.cm _) rfl rfl ?_
    refine w_getI (Ev.cm _) rfl (Nat.le_of_ble_eq_true rfl) rfl ?_
    refine w_icmp_ge (Ev.cm _) rfl (fun c1 => ?_) (fun c1 => ?_)
    · have c1 : I 1 13 ≤ x1 := c1
      rw [if_pos c1] at q
      refine w_iconst (Ev.cm _) rfl ?_
      refine w_ireturn (Ev.cm _) rfl (by first | exact rok_0 | exact rok_1 | exact rok_b) rf0 ?_
      cases q
      exact g
    · have c1 : ¬ (I 1 13 ≤ x1) := c1
      rw [if_neg c1] at q
      refine w_iload_n (Ev.cm _) rfl rfl ?_
      refine w_iconst (Ev.cm _) rfl ?_
      refine w_icmp_ge (Ev.cm _) rfl (fun c2 => ?_) (fun c2 => ?_)
      · have c2 : 5 ≤ x1 := c2
        rw [if_pos c2] at q
        refine w_iconst (Ev.cm _) rfl ?_
        refine w_ireturn (Ev.cm _) rfl (by first | exact rok_0 | exact rok_1 | exact rok_b) rf0 ?_
        cases q
        exact g
      · have c2 : ¬ (5 ≤ x1) := c2
        rw [if_neg c2] at q
        refine w_iconst (Ev.cm _) rfl ?_
        refine w_istore_n (ls2 := [(0, .ref 1), (1, .int x1), (2, .int 0)]) (Ev.cm _) rfl rfl ?_
        show Wp _ _ _ _ _ _ _ 17 [(0, .ref 1), (1, .int x1), (2, .int 0)] [] (HS I L X)
        refine Wp.sub [0, 1, 2] (ls2 := [(0, .ref 1), (1, .int x1), (2, .int 0)]) rfl ?_
        exact lo_C_isFree_17 g (fun x1 I L q => ih x1 I L q) fu _ _ _ _ q
def FO_C_isFree (fu : Nat) (I : Nat → Nat → Int32) (L : Nat → Nat → Int64) : Option (Int32 × (Nat → Nat → Int32) × (Nat → Nat → Int64)) := LO_C_isFree_2 fu fu 0 I L
set_option maxHeartbeats 20000000 in
set_option maxRecDepth 20000 in
theorem eo_C_isFree {d fu : Nat} {I : Nat → Nat → Int32} {L : Nat → Nat → Int64} {X : Nat × (Nat → Int32)} {Q : PQ} {res : Int32 × (Nat → Nat → Int32) × (Nat → Nat → Int64)}  (g : Q (some (.int res.1)) (HS res.2.1 res.2.2 X)) (q : FO_C_isFree fu  I L = some res) : Ev (d + 3) m_C_isFree [.ref 1] (HS I L X) Q := by
  unfold FO_C_isFree at q
  refine ev_start (d := d + 2) rfl rfl rfl (Nat.le_of_ble_eq_true rfl) ?_
  show Wp (Ev (d + 2)) cd_C_isFree (0, 0) (some .boolean) _ _ Q 0 [(0, .ref 1)] [] (HS I L X)
  refine w_iconst (Ev.cm _) rfl ?_
  refine w_istore_n (ls2 := [(0, .ref 1), (1, .int 0)]) (Ev.cm _) rfl rfl ?_
  show Wp _ _ _ _ _ _ _ 2 [(0, .ref 1), (1, .int 0)] [] (HS I L X)
  refine Wp.sub [0, 1] (ls2 := [(0, .ref 1), (1, .int 0)]) rfl ?_
  exact lo_C_isFree_2 g fu _ _ _ q
def FO_C_lower (fu : Nat) (p0 : Int32) (p1 : Int32) (I : Nat → Nat → Int32) (L : Nat → Nat → Int64) : Option (Int32 × (Nat → Nat → Int32) × (Nat → Nat → Int64)) := if (1 : Int32) ≤ p0 ∧ p0 ≤ (63 : Int32) then (if 0 ≤ p0 ∧ p0 < 64 then (if p1 < I 326 p0.toNatClampNeg then (if 0 ≤ p0 ∧ p0 < 64 then (some (1, sI I 326 p0.toNatClampNeg p1, L)) else none) else (some (0, I, L))) else none) else (some (0, I, L))
set_option maxHeartbeats 20000000 in
set_option maxRecDepth 20000 in
theorem eo_C_lower {d fu : Nat} {p0 : Int32} {p1 : Int32} {I : Nat → Nat → Int32} {L : Nat → Nat → Int64} {X : Nat × (Nat → Int32)} {Q : PQ} {res : Int32 × (Nat → Nat → Int32) × (Nat → Nat → Int64)}  (g : Q (some (.int res.1)) (HS res.2.1 res.2.2 X)) (q : FO_C_lower fu p0 p1 I L = some res) : Ev (d + 2) m_C_lower [.ref 325, .int p0, .int p1] (HS I L X) Q := by
  unfold FO_C_lower at q
  refine ev_start (d := d + 1) rfl rfl rfl (Nat.le_of_ble_eq_true rfl) ?_
  show Wp (Ev (d + 1)) cd_C_lower (0, 0) (some .boolean) _ _ Q 0 [(0, .ref 325), (1, .int p0), (2, .int p1)] [] (HS I L X)
  refine w_iload_n (Ev.cm _) rfl rfl ?_
  refine w_iconst (Ev.cm _) rfl ?_
  refine w_bipush (Ev.cm _) rfl ?_
  refine w_cnest (as := [.int p0, .int 1, .int 63]) (st := []) (Ev.cm _) rfl rfl rfl (Nat.le_of_ble_eq_true rfl) (Nat.le_of_ble_eq_true rfl) (x_within ?_)
  show Wp _ _ _ _ _ _ _ 7 [(0, .ref 325), (1, .int p0), (2, .int p1)] [.int (bI ((1 : Int32) ≤ p0 ∧ p0 ≤ (63 : Int32)))] (HS I L X)
  refine w_if_eq (Ev.cm _) rfl (fun c1 => ?_) (fun c1 => ?_)
  · have c1 : ¬ ((1 : Int32) ≤ p0 ∧ p0 ≤ (63 : Int32)) := bI_0.mp c1
    rw [if_neg c1] at q
    refine w_iconst (Ev.cm _) rfl ?_
    refine w_ireturn (Ev.cm _) rfl (by first | exact rok_0 | exact rok_1 | exact rok_b) rf0 ?_
    cases q
    exact g
  · have c1 : (1 : Int32) ≤ p0 ∧ p0 ≤ (63 : Int32) := bI_1.mp c1
    rw [if_pos c1] at q
    refine w_iload_n (Ev.cm _) rfl rfl ?_
    refine w_aload_n (Ev.cm _) rfl rfl ?_
    refine w_getR (q := 326) (Ev.cm _) rfl (Nat.le_of_ble_eq_true rfl) rfl rfl ?_
    refine w_iload_n (Ev.cm _) rfl rfl ?_
    obtain ⟨b1, q⟩ := ois q
    refine w_iald (Ev.cm _) rfl (Nat.le_of_ble_eq_true rfl) rfl (show vp_in p0 64 from vpI 64 (by decide) b1.1 b1.2) ?_
    refine w_icmp_lt (Ev.cm _) rfl (fun c2 => ?_) (fun c2 => ?_)
    · have c2 : p1 < I 326 p0.toNatClampNeg := c2
      rw [if_pos c2] at q
      refine w_aload_n (Ev.cm _) rfl rfl ?_
      refine w_getR (q := 326) (Ev.cm _) rfl (Nat.le_of_ble_eq_true rfl) rfl rfl ?_
      refine w_iload_n (Ev.cm _) rfl rfl ?_
      refine w_iload_n (Ev.cm _) rfl rfl ?_
      obtain ⟨b2, q⟩ := ois q
      refine w_iast (Ev.cm _) rfl (Nat.le_of_ble_eq_true rfl) rfl (show vp_in p0 64 from vpI 64 (by decide) b2.1 b2.2) ?_
      refine w_iconst (Ev.cm _) rfl ?_
      refine w_ireturn (Ev.cm _) rfl (by first | exact rok_0 | exact rok_1 | exact rok_b) rf0 ?_
      cases q
      exact g
    · have c2 : ¬ (p1 < I 326 p0.toNatClampNeg) := c2
      rw [if_neg c2] at q
      refine w_iconst (Ev.cm _) rfl ?_
      refine w_ireturn (Ev.cm _) rfl (by first | exact rok_0 | exact rok_1 | exact rok_b) rf0 ?_
      cases q
      exact g
def LO_C_waysToRead_47 (fu : Nat) (k_23 : Int32 → Int32 → Int32 → (Nat → Nat → Int32) → (Nat → Nat → Int64) → Option (Int32 × (Nat → Nat → Int32) × (Nat → Nat → Int64))) : Nat → Int32 → Int32 → Int32 → Int32 → Int32 → (Nat → Nat → Int32) → (Nat → Nat → Int64) → Option (Int32 × (Nat → Nat → Int32) × (Nat → Nat → Int64))
  | 0, _, _, _, _, _, _, _ => none
  | n + 1, x2, x3, x4, x5, x6, I, L => if I 1 13 ≤ x6 then (k_23 x2 x3 (x4 + 1) I L) else (if 5 ≤ x6 then (k_23 x2 x3 (x4 + 1) I L) else (if 0 ≤ x6 ∧ x6 < 5 then ((FO_C_lengthOf fu (I 134 x6.toNatClampNeg) I L).bind (fun u2 => let r2 := u2.1; let I2 := u2.2.1; let L2 := u2.2.2; if x4 - r2 < 0 then (LO_C_waysToRead_47 fu k_23 n x2 x3 x4 x5 (x6 + 1) I2 L2) else (if ((x5 &&& (((1 : Int32) <<< ((x4 - (x4 - r2)) &&& 31)) - 1)) ||| ((1 : Int32) <<< ((x4 - (x4 - r2)) &&& 31))) = I 134 x6.toNatClampNeg then (if 0 ≤ x4 ∧ x4 < 9 then (if 0 ≤ x4 - r2 ∧ x4 - r2 < 9 then (if 0 ≤ x4 ∧ x4 < 9 then (LO_C_waysToRead_47 fu k_23 n x2 x3 x4 x5 (x6 + 1) (sI I2 327 x4.toNatClampNeg ((I2 327 x4.toNatClampNeg) + (I2 327 ((x4 - r2).toNatClampNeg)))) L2) else none) else none) else none) else (LO_C_waysToRead_47 fu k_23 n x2 x3 x4 x5 (x6 + 1) I2 L2)))) else none))
set_option maxHeartbeats 20000000 in
set_option maxRecDepth 20000 in
theorem lo_C_waysToRead_47 {d fu n0 s0 : Nat} {X : Nat × (Nat → Int32)} {Q : PQ} {k_23 : Int32 → Int32 → Int32 → (Nat → Nat → Int32) → (Nat → Nat → Int64) → Option (Int32 × (Nat → Nat → Int32) × (Nat → Nat → Int64))} {res : Int32 × (Nat → Nat → Int32) × (Nat → Nat → Int64)}  (g : Q (some (.int res.1)) (HS res.2.1 res.2.2 X)) (hk_23 : ∀ (x2 : Int32) (x3 : Int32) (x4 : Int32) (I : Nat → Nat → Int32) (L : Nat → Nat → Int64), k_23 x2 x3 x4 I L = some res → Wp (Ev (d + 1)) cd_C_waysToRead (0, 0) (some .int) n0 s0 Q 23 [(0, .ref 325), (1, .ref 1), (2, .int x2), (3, .int x3), (4, .int x4)] [] (HS I L X)) : ∀ (n : Nat) (x2 : Int32) (x3 : Int32) (x4 : Int32) (x5 : Int32) (x6 : Int32) (I : Nat → Nat → Int32) (L : Nat → Nat → Int64), LO_C_waysToRead_47 fu k_23 n x2 x3 x4 x5 x6 I L = some res → Wp (Ev (d + 1)) cd_C_waysToRead (0, 0) (some .int) n0 s0 Q 47 [(0, .ref 325), (1, .ref 1), (2, .int x2), (3, .int x3), (4, .int x4), (5, .int x5), (6, .int x6)] [] (HS I L X) := by
  intro n
  induction n with
  | zero => intro _ _ _ _ _ _ _ q; cases q
  | succ n ih =>
    intro x2 x3 x4 x5 x6 I L q
    unfold LO_C_waysToRead_47 at q
    refine w_iload (Ev.cm _) rfl rfl ?_
    refine w_aload_n (Ev.cm _) rfl rfl ?_
    refine w_getI (Ev.cm _) rfl (Nat.le_of_ble_eq_true rfl) rfl ?_
    refine w_icmp_ge (Ev.cm _) rfl (fun c1 => ?_) (fun c1 => ?_)
    · have c1 : I 1 13 ≤ x6 := c1
      rw [if_pos c1] at q
      refine w_iinc (ls2 := [(0, .ref 325), (1, .ref 1), (2, .int x2), (3, .int x3), (4, .int (x4 + 1)), (5, .int x5), (6, .int x6)]) (Ev.cm _) rfl rfl rfl ?_
      refine w_goto (Ev.cm _) rfl ?_
      show Wp _ _ _ _ _ _ _ 23 [(0, .ref 325), (1, .ref 1), (2, .int x2), (3, .int x3), (4, .int (x4 + 1)), (5, .int x5), (6, .int x6)] [] (HS I L X)
      refine Wp.sub [0, 1, 2, 3, 4] (ls2 := [(0, .ref 325), (1, .ref 1), (2, .int x2), (3, .int x3), (4, .int (x4 + 1))]) rfl ?_
      exact hk_23 _ _ _ _ _ q
    · have c1 : ¬ (I 1 13 ≤ x6) := c1
      rw [if_neg c1] at q
      refine w_iload (Ev.cm _) rfl rfl ?_
      refine w_iconst (Ev.cm _) rfl ?_
      refine w_icmp_ge (Ev.cm _) rfl (fun c2 => ?_) (fun c2 => ?_)
      · have c2 : 5 ≤ x6 := c2
        rw [if_pos c2] at q
        refine w_iinc (ls2 := [(0, .ref 325), (1, .ref 1), (2, .int x2), (3, .int x3), (4, .int (x4 + 1)), (5, .int x5), (6, .int x6)]) (Ev.cm _) rfl rfl rfl ?_
        refine w_goto (Ev.cm _) rfl ?_
        show Wp _ _ _ _ _ _ _ 23 [(0, .ref 325), (1, .ref 1), (2, .int x2), (3, .int x3), (4, .int (x4 + 1)), (5, .int x5), (6, .int x6)] [] (HS I L X)
        refine Wp.sub [0, 1, 2, 3, 4] (ls2 := [(0, .ref 325), (1, .ref 1), (2, .int x2), (3, .int x3), (4, .int (x4 + 1))]) rfl ?_
        exact hk_23 _ _ _ _ _ q
      · have c2 : ¬ (5 ≤ x6) := c2
        rw [if_neg c2] at q
        refine w_aload_n (Ev.cm _) rfl rfl ?_
        refine w_getR (q := 134) (Ev.cm _) rfl (Nat.le_of_ble_eq_true rfl) rfl rfl ?_
        refine w_iload (Ev.cm _) rfl rfl ?_
        obtain ⟨b1, q⟩ := ois q
        refine w_iald (Ev.cm _) rfl (Nat.le_of_ble_eq_true rfl) rfl (show vp_in x6 5 from vpI 5 (by decide) b1.1 b1.2) ?_
        refine w_istore (ls2 := [(0, .ref 325), (1, .ref 1), (2, .int x2), (3, .int x3), (4, .int x4), (5, .int x5), (6, .int x6), (7, .int (I 134 x6.toNatClampNeg))]) (Ev.cm _) rfl rfl ?_
        refine w_iload (Ev.cm _) rfl rfl ?_
        refine w_iload (Ev.cm _) rfl rfl ?_
        obtain ⟨⟨r2, I2, L2⟩, e2, q⟩ := obs q
        dsimp only at q
        refine w_cstat (as := [.int (I 134 x6.toNatClampNeg)]) (st := [.int x4]) (Ev.cm _) rfl rfl rfl (Nat.le_of_ble_eq_true rfl) (Nat.le_of_ble_eq_true rfl) (eo_C_lengthOf (g := ?_) e2)
        show Wp _ _ _ _ _ _ _ 78 [(0, .ref 325), (1, .ref 1), (2, .int x2), (3, .int x3), (4, .int x4), (5, .int x5), (6, .int x6), (7, .int (I 134 x6.toNatClampNeg))] [.int r2, .int x4] (HS I2 L2 X)
        refine w_isub (Ev.cm _) rfl ?_
        refine w_istore (ls2 := [(0, .ref 325), (1, .ref 1), (2, .int x2), (3, .int x3), (4, .int x4), (5, .int x5), (6, .int x6), (7, .int (I 134 x6.toNatClampNeg)), (8, .int (x4 - r2))]) (Ev.cm _) rfl rfl ?_
        refine w_iconst (Ev.cm _) rfl ?_
        refine w_iload (Ev.cm _) rfl rfl ?_
        refine w_iload (Ev.cm _) rfl rfl ?_
        refine w_isub (Ev.cm _) rfl ?_
        refine w_ishl (Ev.cm _) rfl ?_
        refine w_istore (ls2 := [(0, .ref 325), (1, .ref 1), (2, .int x2), (3, .int x3), (4, .int x4), (5, .int x5), (6, .int x6), (7, .int (I 134 x6.toNatClampNeg)), (8, .int (x4 - r2)), (9, .int ((1 : Int32) <<< ((x4 - (x4 - r2)) &&& 31)))]) (Ev.cm _) rfl rfl ?_
        refine w_iload (Ev.cm _) rfl rfl ?_
        refine w_if_lt (Ev.cm _) rfl (fun c3 => ?_) (fun c3 => ?_)
        · have c3 : x4 - r2 < 0 := c3
          rw [if_pos c3] at q
          refine w_iinc (ls2 := [(0, .ref 325), (1, .ref 1), (2, .int x2), (3, .int x3), (4, .int x4), (5, .int x5), (6, .int (x6 + 1)), (7, .int (I 134 x6.toNatClampNeg)), (8, .int (x4 - r2)), (9, .int ((1 : Int32) <<< ((x4 - (x4 - r2)) &&& 31)))]) (Ev.cm _) rfl rfl rfl ?_
          refine w_goto (Ev.cm _) rfl ?_
          show Wp _ _ _ _ _ _ _ 47 [(0, .ref 325), (1, .ref 1), (2, .int x2), (3, .int x3), (4, .int x4), (5, .int x5), (6, .int (x6 + 1)), (7, .int (I 134 x6.toNatClampNeg)), (8, .int (x4 - r2)), (9, .int ((1 : Int32) <<< ((x4 - (x4 - r2)) &&& 31)))] [] (HS I2 L2 X)
          refine Wp.sub [0, 1, 2, 3, 4, 5, 6] (ls2 := [(0, .ref 325), (1, .ref 1), (2, .int x2), (3, .int x3), (4, .int x4), (5, .int x5), (6, .int (x6 + 1))]) rfl ?_
          exact ih _ _ _ _ _ _ _ q
        · have c3 : ¬ (x4 - r2 < 0) := c3
          rw [if_neg c3] at q
          refine w_iload (Ev.cm _) rfl rfl ?_
          refine w_iload (Ev.cm _) rfl rfl ?_
          refine w_iconst (Ev.cm _) rfl ?_
          refine w_isub (Ev.cm _) rfl ?_
          refine w_iand (Ev.cm _) rfl ?_
          refine w_iload (Ev.cm _) rfl rfl ?_
          refine w_ior (Ev.cm _) rfl ?_
          refine w_iload (Ev.cm _) rfl rfl ?_
          refine w_icmp_ne (Ev.cm _) rfl (fun c4 => ?_) (fun c4 => ?_)
          · have c4 : ¬ (((x5 &&& (((1 : Int32) <<< ((x4 - (x4 - r2)) &&& 31)) - 1)) ||| ((1 : Int32) <<< ((x4 - (x4 - r2)) &&& 31))) = I 134 x6.toNatClampNeg) := c4
            rw [if_neg c4] at q
            refine w_iinc (ls2 := [(0, .ref 325), (1, .ref 1), (2, .int x2), (3, .int x3), (4, .int x4), (5, .int x5), (6, .int (x6 + 1)), (7, .int (I 134 x6.toNatClampNeg)), (8, .int (x4 - r2)), (9, .int ((1 : Int32) <<< ((x4 - (x4 - r2)) &&& 31)))]) (Ev.cm _) rfl rfl rfl ?_
            refine w_goto (Ev.cm _) rfl ?_
            show Wp _ _ _ _ _ _ _ 47 [(0, .ref 325), (1, .ref 1), (2, .int x2), (3, .int x3), (4, .int x4), (5, .int x5), (6, .int (x6 + 1)), (7, .int (I 134 x6.toNatClampNeg)), (8, .int (x4 - r2)), (9, .int ((1 : Int32) <<< ((x4 - (x4 - r2)) &&& 31)))] [] (HS I2 L2 X)
            refine Wp.sub [0, 1, 2, 3, 4, 5, 6] (ls2 := [(0, .ref 325), (1, .ref 1), (2, .int x2), (3, .int x3), (4, .int x4), (5, .int x5), (6, .int (x6 + 1))]) rfl ?_
            exact ih _ _ _ _ _ _ _ q
          · have c4 : ((x5 &&& (((1 : Int32) <<< ((x4 - (x4 - r2)) &&& 31)) - 1)) ||| ((1 : Int32) <<< ((x4 - (x4 - r2)) &&& 31))) = I 134 x6.toNatClampNeg := c4
            rw [if_pos c4] at q
            refine w_aload_n (Ev.cm _) rfl rfl ?_
            refine w_getR (q := 327) (Ev.cm _) rfl (Nat.le_of_ble_eq_true rfl) rfl rfl ?_
            refine w_iload (Ev.cm _) rfl rfl ?_
            refine w_dup2 (Ev.cm _) rfl rfl rfl ?_
            obtain ⟨b3, q⟩ := ois q
            refine w_iald (Ev.cm _) rfl (Nat.le_of_ble_eq_true rfl) rfl (show vp_in x4 9 from vpI 9 (by decide) b3.1 b3.2) ?_
            refine w_aload_n (Ev.cm _) rfl rfl ?_
            refine w_getR (q := 327) (Ev.cm _) rfl (Nat.le_of_ble_eq_true rfl) rfl rfl ?_
            refine w_iload (Ev.cm _) rfl rfl ?_
            obtain ⟨b4, q⟩ := ois q
            refine w_iald (Ev.cm _) rfl (Nat.le_of_ble_eq_true rfl) rfl (show vp_in (x4 - r2) 9 from vpI 9 (by decide) b4.1 b4.2) ?_
            refine w_iadd (Ev.cm _) rfl ?_
            obtain ⟨b5, q⟩ := ois q
            refine w_iast (Ev.cm _) rfl (Nat.le_of_ble_eq_true rfl) rfl (show vp_in x4 9 from vpI 9 (by decide) b5.1 b5.2) ?_
            refine w_iinc (ls2 := [(0, .ref 325), (1, .ref 1), (2, .int x2), (3, .int x3), (4, .int x4), (5, .int x5), (6, .int (x6 + 1)), (7, .int (I 134 x6.toNatClampNeg)), (8, .int (x4 - r2)), (9, .int ((1 : Int32) <<< ((x4 - (x4 - r2)) &&& 31)))]) (Ev.cm _) rfl rfl rfl ?_
            refine w_goto (Ev.cm _) rfl ?_
            show Wp _ _ _ _ _ _ _ 47 [(0, .ref 325), (1, .ref 1), (2, .int x2), (3, .int x3), (4, .int x4), (5, .int x5), (6, .int (x6 + 1)), (7, .int (I 134 x6.toNatClampNeg)), (8, .int (x4 - r2)), (9, .int ((1 : Int32) <<< ((x4 - (x4 - r2)) &&& 31)))] [] (HS (sI I2 327 x4.toNatClampNeg ((I2 327 x4.toNatClampNeg) + (I2 327 ((x4 - r2).toNatClampNeg)))) L2 X)
            refine Wp.sub [0, 1, 2, 3, 4, 5, 6] (ls2 := [(0, .ref 325), (1, .ref 1), (2, .int x2), (3, .int x3), (4, .int x4), (5, .int x5), (6, .int (x6 + 1))]) rfl ?_
            exact ih _ _ _ _ _ _ _ q
def LO_C_waysToRead_23 (fu : Nat) : Nat → Int32 → Int32 → Int32 → (Nat → Nat → Int32) → (Nat → Nat → Int64) → Option (Int32 × (Nat → Nat → Int32) × (Nat → Nat → Int64))
  | 0, _, _, _, _, _ => none
  | n + 1, x2, x3, x4, I, L => if x3 < x4 then (if 0 ≤ x3 ∧ x3 < 9 then (some (I 327 x3.toNatClampNeg, I, L)) else none) else (if 8 < x4 then (if 0 ≤ x3 ∧ x3 < 9 then (some (I 327 x3.toNatClampNeg, I, L)) else none) else (LO_C_waysToRead_47 fu (fun x2 x3 x4 I L => LO_C_waysToRead_23 fu n x2 x3 x4 I L) fu x2 x3 x4 (x2 >>> ((x3 - x4) &&& 31)) 0 I L))
set_option maxHeartbeats 20000000 in
set_option maxRecDepth 20000 in
theorem lo_C_waysToRead_23 {d fu n0 s0 : Nat} {X : Nat × (Nat → Int32)} {Q : PQ} {res : Int32 × (Nat → Nat → Int32) × (Nat → Nat → Int64)}  (g : Q (some (.int res.1)) (HS res.2.1 res.2.2 X)) : ∀ (n : Nat) (x2 : Int32) (x3 : Int32) (x4 : Int32) (I : Nat → Nat → Int32) (L : Nat → Nat → Int64), LO_C_waysToRead_23 fu n x2 x3 x4 I L = some res → Wp (Ev (d + 1)) cd_C_waysToRead (0, 0) (some .int) n0 s0 Q 23 [(0, .ref 325), (1, .ref 1), (2, .int x2), (3, .int x3), (4, .int x4)] [] (HS I L X) := by
  intro n
  induction n with
  | zero => intro _ _ _ _ _ q; cases q
  | succ n ih =>
    intro x2 x3 x4 I L q
    unfold LO_C_waysToRead_23 at q
    refine w_iload (Ev.cm _) rfl rfl ?_
    refine w_iload_n (Ev.cm _) rfl rfl ?_
    refine w_icmp_gt (Ev.cm _) rfl (fun c1 => ?_) (fun c1 => ?_)
    · have c1 : x3 < x4 := c1
      rw [if_pos c1] at q
      refine w_aload_n (Ev.cm _) rfl rfl ?_
      refine w_getR (q := 327) (Ev.cm _) rfl (Nat.le_of_ble_eq_true rfl) rfl rfl ?_
      refine w_iload_n (Ev.cm _) rfl rfl ?_
      obtain ⟨b1, q⟩ := ois q
      refine w_iald (Ev.cm _) rfl (Nat.le_of_ble_eq_true rfl) rfl (show vp_in x3 9 from vpI 9 (by decide) b1.1 b1.2) ?_
      refine w_ireturn (Ev.cm _) rfl trivial rf0 ?_
      cases q
      exact g
    · have c1 : ¬ (x3 < x4) := c1
      rw [if_neg c1] at q
      refine w_iload (Ev.cm _) rfl rfl ?_
      refine w_bipush (Ev.cm _) rfl ?_
      refine w_icmp_gt (Ev.cm _) rfl (fun c2 => ?_) (fun c2 => ?_)
      · have c2 : 8 < x4 := c2
        rw [if_pos c2] at q
        refine w_aload_n (Ev.cm _) rfl rfl ?_
        refine w_getR (q := 327) (Ev.cm _) rfl (Nat.le_of_ble_eq_true rfl) rfl rfl ?_
        refine w_iload_n (Ev.cm _) rfl rfl ?_
        obtain ⟨b2, q⟩ := ois q
        refine w_iald (Ev.cm _) rfl (Nat.le_of_ble_eq_true rfl) rfl (show vp_in x3 9 from vpI 9 (by decide) b2.1 b2.2) ?_
        refine w_ireturn (Ev.cm _) rfl trivial rf0 ?_
        cases q
        exact g
      · have c2 : ¬ (8 < x4) := c2
        rw [if_neg c2] at q
        refine w_iload_n (Ev.cm _) rfl rfl ?_
        refine w_iload_n (Ev.cm _) rfl rfl ?_
        refine w_iload (Ev.cm _) rfl rfl ?_
        refine w_isub (Ev.cm _) rfl ?_
        refine w_ishr (Ev.cm _) rfl ?_
        refine w_istore (ls2 := [(0, .ref 325), (1, .ref 1), (2, .int x2), (3, .int x3), (4, .int x4), (5, .int (x2 >>> ((x3 - x4) &&& 31)))]) (Ev.cm _) rfl rfl ?_
        refine w_iconst (Ev.cm _) rfl ?_
        refine w_istore (ls2 := [(0, .ref 325), (1, .ref 1), (2, .int x2), (3, .int x3), (4, .int x4), (5, .int (x2 >>> ((x3 - x4) &&& 31))), (6, .int 0)]) (Ev.cm _) rfl rfl ?_
        show Wp _ _ _ _ _ _ _ 47 [(0, .ref 325), (1, .ref 1), (2, .int x2), (3, .int x3), (4, .int x4), (5, .int (x2 >>> ((x3 - x4) &&& 31))), (6, .int 0)] [] (HS I L X)
        refine Wp.sub [0, 1, 2, 3, 4, 5, 6] (ls2 := [(0, .ref 325), (1, .ref 1), (2, .int x2), (3, .int x3), (4, .int x4), (5, .int (x2 >>> ((x3 - x4) &&& 31))), (6, .int 0)]) rfl ?_
        exact lo_C_waysToRead_47 g (fun x2 x3 x4 I L q => ih x2 x3 x4 I L q) fu _ _ _ _ _ _ _ q
def FO_C_waysToRead (fu : Nat) (p1 : Int32) (I : Nat → Nat → Int32) (L : Nat → Nat → Int64) : Option (Int32 × (Nat → Nat → Int32) × (Nat → Nat → Int64)) := (FO_C_lengthOf fu p1 I L).bind (fun u1 => let r1 := u1.1; let I1 := u1.2.1; let L1 := u1.2.2; (some (va_up I1 327 (fillF (I1 327) 0 9))).bind (fun I2 => LO_C_waysToRead_23 fu fu p1 r1 1 (sI I2 327 0 1) L1))
set_option maxHeartbeats 20000000 in
set_option maxRecDepth 20000 in
theorem eo_C_waysToRead {d fu : Nat} {p1 : Int32} {I : Nat → Nat → Int32} {L : Nat → Nat → Int64} {X : Nat × (Nat → Int32)} {Q : PQ} {res : Int32 × (Nat → Nat → Int32) × (Nat → Nat → Int64)}  (g : Q (some (.int res.1)) (HS res.2.1 res.2.2 X)) (q : FO_C_waysToRead fu p1 I L = some res) : Ev (d + 2) m_C_waysToRead [.ref 325, .ref 1, .int p1] (HS I L X) Q := by
  unfold FO_C_waysToRead at q
  refine ev_start (d := d + 1) rfl rfl rfl (Nat.le_of_ble_eq_true rfl) ?_
  show Wp (Ev (d + 1)) cd_C_waysToRead (0, 0) (some .int) _ _ Q 0 [(0, .ref 325), (1, .ref 1), (2, .int p1)] [] (HS I L X)
  refine w_iload_n (Ev.cm _) rfl rfl ?_
  obtain ⟨⟨r1, I1, L1⟩, e1, q⟩ := obs q
  dsimp only at q
  refine w_cstat (as := [.int p1]) (st := []) (Ev.cm _) rfl rfl rfl (Nat.le_of_ble_eq_true rfl) (Nat.le_of_ble_eq_true rfl) (eo_C_lengthOf (g := ?_) e1)
  show Wp _ _ _ _ _ _ _ 4 [(0, .ref 325), (1, .ref 1), (2, .int p1)] [.int r1] (HS I1 L1 X)
  refine w_istore_n (ls2 := [(0, .ref 325), (1, .ref 1), (2, .int p1), (3, .int r1)]) (Ev.cm _) rfl rfl ?_
  refine w_aload_n (Ev.cm _) rfl rfl ?_
  refine w_getR (q := 327) (Ev.cm _) rfl (Nat.le_of_ble_eq_true rfl) rfl rfl ?_
  refine w_iconst (Ev.cm _) rfl ?_
  obtain ⟨I2, e2, q⟩ := obs q
  try dsimp only at q
  refine w_cstat (as := [.ref 327, .int 0]) (st := []) (Ev.cm _) rfl rfl rfl (Nat.le_of_ble_eq_true rfl) (Nat.le_of_ble_eq_true rfl) (e_fill_e (Nat.le_of_ble_eq_true rfl) (n := 9) rfl (by decide) e2 ?_)
  show Wp _ _ _ _ _ _ _ 13 [(0, .ref 325), (1, .ref 1), (2, .int p1), (3, .int r1)] [] (HS I2 L1 X)
  refine w_aload_n (Ev.cm _) rfl rfl ?_
  refine w_getR (q := 327) (Ev.cm _) rfl (Nat.le_of_ble_eq_true rfl) rfl rfl ?_
  refine w_iconst (Ev.cm _) rfl ?_
  refine w_iconst (Ev.cm _) rfl ?_
  refine w_iast (Ev.cm _) rfl (Nat.le_of_ble_eq_true rfl) rfl (show vp_in 0 9 from vpI 9 (by decide) (by decide) (by decide)) ?_
  refine w_iconst (Ev.cm _) rfl ?_
  refine w_istore (ls2 := [(0, .ref 325), (1, .ref 1), (2, .int p1), (3, .int r1), (4, .int 1)]) (Ev.cm _) rfl rfl ?_
  show Wp _ _ _ _ _ _ _ 23 [(0, .ref 325), (1, .ref 1), (2, .int p1), (3, .int r1), (4, .int 1)] [] (HS (sI I2 327 0 1) L1 X)
  refine Wp.sub [0, 1, 2, 3, 4] (ls2 := [(0, .ref 325), (1, .ref 1), (2, .int p1), (3, .int r1), (4, .int 1)]) rfl ?_
  exact lo_C_waysToRead_23 g fu _ _ _ _ _ q
def FO_H_copyHouse (fu : Nat) (o : Nat) (p : Nat) (I : Nat → Nat → Int32) (L : Nat → Nat → Int64) : Option (Unit × (Nat → Nat → Int32) × (Nat → Nat → Int64)) := (some (va_up (sI (sI (sI (sI (sI I o 0 (I p 0)) o 1 ((sI I o 0 (I p 0)) p 1)) o 2 ((sI (sI I o 0 (I p 0)) o 1 ((sI I o 0 (I p 0)) p 1)) p 2)) o 3 ((sI (sI (sI I o 0 (I p 0)) o 1 ((sI I o 0 (I p 0)) p 1)) o 2 ((sI (sI I o 0 (I p 0)) o 1 ((sI I o 0 (I p 0)) p 1)) p 2)) p 3)) o 4 ((sI (sI (sI (sI I o 0 (I p 0)) o 1 ((sI I o 0 (I p 0)) p 1)) o 2 ((sI (sI I o 0 (I p 0)) o 1 ((sI I o 0 (I p 0)) p 1)) p 2)) o 3 ((sI (sI (sI I o 0 (I p 0)) o 1 ((sI I o 0 (I p 0)) p 1)) o 2 ((sI (sI I o 0 (I p 0)) o 1 ((sI I o 0 (I p 0)) p 1)) p 2)) p 3)) p 4)) (o + 1) (va_cpy ((sI (sI (sI (sI (sI I o 0 (I p 0)) o 1 ((sI I o 0 (I p 0)) p 1)) o 2 ((sI (sI I o 0 (I p 0)) o 1 ((sI I o 0 (I p 0)) p 1)) p 2)) o 3 ((sI (sI (sI I o 0 (I p 0)) o 1 ((sI I o 0 (I p 0)) p 1)) o 2 ((sI (sI I o 0 (I p 0)) o 1 ((sI I o 0 (I p 0)) p 1)) p 2)) p 3)) o 4 ((sI (sI (sI (sI I o 0 (I p 0)) o 1 ((sI I o 0 (I p 0)) p 1)) o 2 ((sI (sI I o 0 (I p 0)) o 1 ((sI I o 0 (I p 0)) p 1)) p 2)) o 3 ((sI (sI (sI I o 0 (I p 0)) o 1 ((sI I o 0 (I p 0)) p 1)) o 2 ((sI (sI I o 0 (I p 0)) o 1 ((sI I o 0 (I p 0)) p 1)) p 2)) p 3)) p 4)) (p + 1)) ((sI (sI (sI (sI (sI I o 0 (I p 0)) o 1 ((sI I o 0 (I p 0)) p 1)) o 2 ((sI (sI I o 0 (I p 0)) o 1 ((sI I o 0 (I p 0)) p 1)) p 2)) o 3 ((sI (sI (sI I o 0 (I p 0)) o 1 ((sI I o 0 (I p 0)) p 1)) o 2 ((sI (sI I o 0 (I p 0)) o 1 ((sI I o 0 (I p 0)) p 1)) p 2)) p 3)) o 4 ((sI (sI (sI (sI I o 0 (I p 0)) o 1 ((sI I o 0 (I p 0)) p 1)) o 2 ((sI (sI I o 0 (I p 0)) o 1 ((sI I o 0 (I p 0)) p 1)) p 2)) o 3 ((sI (sI (sI I o 0 (I p 0)) o 1 ((sI I o 0 (I p 0)) p 1)) o 2 ((sI (sI I o 0 (I p 0)) o 1 ((sI I o 0 (I p 0)) p 1)) p 2)) p 3)) p 4)) (o + 1)) 0 0 6))).bind (fun I1 => (some (va_up I1 (o + 2) (va_cpy (I1 (p + 2)) (I1 (o + 2)) 0 0 6))).bind (fun I2 => (some (va_up I2 (o + 3) (va_cpy (I2 (p + 3)) (I2 (o + 3)) 0 0 90))).bind (fun I3 => some ((), I3, L))))
set_option maxHeartbeats 20000000 in
set_option maxRecDepth 20000 in
theorem eo_H_copyHouse {d fu : Nat} {o : Nat} {p : Nat} {I : Nat → Nat → Int32} {L : Nat → Nat → Int64} {X : Nat × (Nat → Int32)} {Q : PQ} {res : Unit × (Nat → Nat → Int32) × (Nat → Nat → Int64)}  (ho : isH o) (hp : isH p) (g : Q none (HS res.2.1 res.2.2 X)) (q : FO_H_copyHouse fu o p  I L = some res) : Ev (d + 3) m_H_copyHouse [.ref o, .ref p] (HS I L X) Q := by
  unfold FO_H_copyHouse at q
  refine ev_start (d := d + 2) rfl rfl rfl (Nat.le_of_ble_eq_true rfl) ?_
  show Wp (Ev (d + 2)) cd_H_copyHouse (0, 0) none _ _ Q 0 [(0, .ref o), (1, .ref p)] [] (HS I L X)
  refine w_aload_n (Ev.cm _) rfl rfl ?_
  refine w_aload_n (Ev.cm _) rfl rfl ?_
  refine w_getI (Ev.cm _) rfl (isH_lt0 hp) (congrArg Prod.fst (isH_k0 hp)) ?_
  refine w_putI (Ev.cm _) rfl (isH_lt0 ho) (congrArg Prod.fst (isH_k0 ho)) ?_
  refine w_aload_n (Ev.cm _) rfl rfl ?_
  refine w_aload_n (Ev.cm _) rfl rfl ?_
  refine w_getI (Ev.cm _) rfl (isH_lt0 hp) (congrArg Prod.fst (isH_k0 hp)) ?_
  refine w_putI (Ev.cm _) rfl (isH_lt0 ho) (congrArg Prod.fst (isH_k0 ho)) ?_
  refine w_aload_n (Ev.cm _) rfl rfl ?_
  refine w_aload_n (Ev.cm _) rfl rfl ?_
  refine w_getI (Ev.cm _) rfl (isH_lt0 hp) (congrArg Prod.fst (isH_k0 hp)) ?_
  refine w_putI (Ev.cm _) rfl (isH_lt0 ho) (congrArg Prod.fst (isH_k0 ho)) ?_
  refine w_aload_n (Ev.cm _) rfl rfl ?_
  refine w_aload_n (Ev.cm _) rfl rfl ?_
  refine w_getI (Ev.cm _) rfl (isH_lt0 hp) (congrArg Prod.fst (isH_k0 hp)) ?_
  refine w_putI (Ev.cm _) rfl (isH_lt0 ho) (congrArg Prod.fst (isH_k0 ho)) ?_
  refine w_aload_n (Ev.cm _) rfl rfl ?_
  refine w_aload_n (Ev.cm _) rfl rfl ?_
  refine w_getI (Ev.cm _) rfl (isH_lt0 hp) (congrArg Prod.fst (isH_k0 hp)) ?_
  refine w_putI (Ev.cm _) rfl (isH_lt0 ho) (congrArg Prod.fst (isH_k0 ho)) ?_
  refine w_aload_n (Ev.cm _) rfl rfl ?_
  refine w_getR (q := p + 1) (Ev.cm _) rfl (isH_lt0 hp) (congrArg Prod.fst (isH_k0 hp)) (isH_r5 hp) ?_
  refine w_aload_n (Ev.cm _) rfl rfl ?_
  refine w_getR (q := o + 1) (Ev.cm _) rfl (isH_lt0 ho) (congrArg Prod.fst (isH_k0 ho)) (isH_r5 ho) ?_
  obtain ⟨I1, e1, q⟩ := obs q
  try dsimp only at q
  refine w_cnest (as := [.ref (p + 1), .ref (o + 1)]) (st := []) (Ev.cm _) rfl rfl rfl (Nat.le_of_ble_eq_true rfl) (Nat.le_of_ble_eq_true rfl) (e_copyRow_e (isH_lt hp 1 (by decide)) (isH_lt ho 1 (by decide)) (n := 6) (isH_k1 hp) (isH_k1 ho) (by decide) e1 ?_)
  show Wp _ _ _ _ _ _ _ 51 [(0, .ref o), (1, .ref p)] [] (HS I1 L X)
  refine w_aload_n (Ev.cm _) rfl rfl ?_
  refine w_getR (q := p + 2) (Ev.cm _) rfl (isH_lt0 hp) (congrArg Prod.fst (isH_k0 hp)) (isH_r6 hp) ?_
  refine w_aload_n (Ev.cm _) rfl rfl ?_
  refine w_getR (q := o + 2) (Ev.cm _) rfl (isH_lt0 ho) (congrArg Prod.fst (isH_k0 ho)) (isH_r6 ho) ?_
  obtain ⟨I2, e2, q⟩ := obs q
  try dsimp only at q
  refine w_cnest (as := [.ref (p + 2), .ref (o + 2)]) (st := []) (Ev.cm _) rfl rfl rfl (Nat.le_of_ble_eq_true rfl) (Nat.le_of_ble_eq_true rfl) (e_copyRow_e (isH_lt hp 2 (by decide)) (isH_lt ho 2 (by decide)) (n := 6) (isH_k2 hp) (isH_k2 ho) (by decide) e2 ?_)
  show Wp _ _ _ _ _ _ _ 62 [(0, .ref o), (1, .ref p)] [] (HS I2 L X)
  refine w_aload_n (Ev.cm _) rfl rfl ?_
  refine w_getR (q := p + 3) (Ev.cm _) rfl (isH_lt0 hp) (congrArg Prod.fst (isH_k0 hp)) (isH_r7 hp) ?_
  refine w_aload_n (Ev.cm _) rfl rfl ?_
  refine w_getR (q := o + 3) (Ev.cm _) rfl (isH_lt0 ho) (congrArg Prod.fst (isH_k0 ho)) (isH_r7 ho) ?_
  obtain ⟨I3, e3, q⟩ := obs q
  try dsimp only at q
  refine w_cnest (as := [.ref (p + 3), .ref (o + 3)]) (st := []) (Ev.cm _) rfl rfl rfl (Nat.le_of_ble_eq_true rfl) (Nat.le_of_ble_eq_true rfl) (e_copyRow_e (isH_lt hp 3 (by decide)) (isH_lt ho 3 (by decide)) (n := 90) (isH_k3 hp) (isH_k3 ho) (by decide) e3 ?_)
  show Wp _ _ _ _ _ _ _ 73 [(0, .ref o), (1, .ref p)] [] (HS I3 L X)
  refine w_return (Ev.cm _) rfl rfl rf0 ?_
  cases q
  exact g
def FO_H_write (fu : Nat) (p0 : Int32) (p1 : Int32) (I : Nat → Nat → Int32) (L : Nat → Nat → Int64) : Option (Unit × (Nat → Nat → Int32) × (Nat → Nat → Int64)) := if I 2 4 < 30 then (if 0 ≤ (F_J_max I (I 2 4) 0) * 3 ∧ (F_J_max I (I 2 4) 0) * 3 < 90 then (if 0 ≤ ((F_J_max I (I 2 4) 0) * 3) + 1 ∧ ((F_J_max I (I 2 4) 0) * 3) + 1 < 90 then (if 0 ≤ ((F_J_max I (I 2 4) 0) * 3) + 2 ∧ ((F_J_max I (I 2 4) 0) * 3) + 2 < 90 then (some ((), sI (sI (sI (sI I 5 (((F_J_max I (I 2 4) 0) * 3).toNatClampNeg) (I 2 0)) 5 ((((F_J_max I (I 2 4) 0) * 3) + 1).toNatClampNeg) p0) 5 ((((F_J_max I (I 2 4) 0) * 3) + 2).toNatClampNeg) p1) 2 4 ((F_J_max (sI (sI (sI I 5 (((F_J_max I (I 2 4) 0) * 3).toNatClampNeg) (I 2 0)) 5 ((((F_J_max I (I 2 4) 0) * 3) + 1).toNatClampNeg) p0) 5 ((((F_J_max I (I 2 4) 0) * 3) + 2).toNatClampNeg) p1) (I 2 4) 0) + 1), L)) else none) else none) else none) else (if 0 ≤ (F_J_max (sI (va_up I 5 (va_cpy (I 5) (I 5) 3 0 87)) 2 4 29) 29 0) * 3 ∧ (F_J_max (sI (va_up I 5 (va_cpy (I 5) (I 5) 3 0 87)) 2 4 29) 29 0) * 3 < 90 then (if 0 ≤ ((F_J_max (sI (va_up I 5 (va_cpy (I 5) (I 5) 3 0 87)) 2 4 29) 29 0) * 3) + 1 ∧ ((F_J_max (sI (va_up I 5 (va_cpy (I 5) (I 5) 3 0 87)) 2 4 29) 29 0) * 3) + 1 < 90 then (if 0 ≤ ((F_J_max (sI (va_up I 5 (va_cpy (I 5) (I 5) 3 0 87)) 2 4 29) 29 0) * 3) + 2 ∧ ((F_J_max (sI (va_up I 5 (va_cpy (I 5) (I 5) 3 0 87)) 2 4 29) 29 0) * 3) + 2 < 90 then (some ((), sI (sI (sI (sI (sI (va_up I 5 (va_cpy (I 5) (I 5) 3 0 87)) 2 4 29) 5 (((F_J_max (sI (va_up I 5 (va_cpy (I 5) (I 5) 3 0 87)) 2 4 29) 29 0) * 3).toNatClampNeg) ((va_up I 5 (va_cpy (I 5) (I 5) 3 0 87)) 2 0)) 5 ((((F_J_max (sI (va_up I 5 (va_cpy (I 5) (I 5) 3 0 87)) 2 4 29) 29 0) * 3) + 1).toNatClampNeg) p0) 5 ((((F_J_max (sI (va_up I 5 (va_cpy (I 5) (I 5) 3 0 87)) 2 4 29) 29 0) * 3) + 2).toNatClampNeg) p1) 2 4 ((F_J_max (sI (sI (sI (sI (va_up I 5 (va_cpy (I 5) (I 5) 3 0 87)) 2 4 29) 5 (((F_J_max (sI (va_up I 5 (va_cpy (I 5) (I 5) 3 0 87)) 2 4 29) 29 0) * 3).toNatClampNeg) ((va_up I 5 (va_cpy (I 5) (I 5) 3 0 87)) 2 0)) 5 ((((F_J_max (sI (va_up I 5 (va_cpy (I 5) (I 5) 3 0 87)) 2 4 29) 29 0) * 3) + 1).toNatClampNeg) p0) 5 ((((F_J_max (sI (va_up I 5 (va_cpy (I 5) (I 5) 3 0 87)) 2 4 29) 29 0) * 3) + 2).toNatClampNeg) p1) 29 0) + 1), L)) else none) else none) else none)
set_option maxHeartbeats 20000000 in
set_option maxRecDepth 20000 in
theorem eo_H_write {d fu : Nat} {p0 : Int32} {p1 : Int32} {I : Nat → Nat → Int32} {L : Nat → Nat → Int64} {X : Nat × (Nat → Int32)} {Q : PQ} {res : Unit × (Nat → Nat → Int32) × (Nat → Nat → Int64)}  (g : Q none (HS res.2.1 res.2.2 X)) (q : FO_H_write fu p0 p1 I L = some res) : Ev (d + 2) m_H_write [.ref 2, .int p0, .int p1] (HS I L X) Q := by
  unfold FO_H_write at q
  refine ev_start (d := d + 1) rfl rfl rfl (Nat.le_of_ble_eq_true rfl) ?_
  show Wp (Ev (d + 1)) cd_H_write (0, 0) none _ _ Q 0 [(0, .ref 2), (1, .int p0), (2, .int p1)] [] (HS I L X)
  refine w_aload_n (Ev.cm _) rfl rfl ?_
  refine w_getI (Ev.cm _) rfl (Nat.le_of_ble_eq_true rfl) rfl ?_
  refine w_bipush (Ev.cm _) rfl ?_
  refine w_icmp_lt (Ev.cm _) rfl (fun c1 => ?_) (fun c1 => ?_)
  · have c1 : I 2 4 < 30 := c1
    rw [if_pos c1] at q
    refine w_aload_n (Ev.cm _) rfl rfl ?_
    refine w_getI (Ev.cm _) rfl (Nat.le_of_ble_eq_true rfl) rfl ?_
    refine w_iconst (Ev.cm _) rfl ?_
    refine w_cstat (as := [.int (I 2 4), .int 0]) (st := []) (Ev.cm _) rfl rfl rfl (Nat.le_of_ble_eq_true rfl) (Nat.le_of_ble_eq_true rfl) (e_J_max ?_)
    show Wp _ _ _ _ _ _ _ 38 [(0, .ref 2), (1, .int p0), (2, .int p1)] [.int (F_J_max I (I 2 4) 0)] (HS I L X)
    refine w_iconst (Ev.cm _) rfl ?_
    refine w_imul (Ev.cm _) rfl ?_
    refine w_istore_n (ls2 := [(0, .ref 2), (1, .int p0), (2, .int p1), (3, .int ((F_J_max I (I 2 4) 0) * 3))]) (Ev.cm _) rfl rfl ?_
    refine w_aload_n (Ev.cm _) rfl rfl ?_
    refine w_getR (q := 5) (Ev.cm _) rfl (Nat.le_of_ble_eq_true rfl) rfl rfl ?_
    refine w_iload_n (Ev.cm _) rfl rfl ?_
    refine w_aload_n (Ev.cm _) rfl rfl ?_
    refine w_getI (Ev.cm _) rfl (Nat.le_of_ble_eq_true rfl) rfl ?_
    obtain ⟨b1, q⟩ := ois q
    refine w_iast (Ev.cm _) rfl (Nat.le_of_ble_eq_true rfl) rfl (show vp_in ((F_J_max I (I 2 4) 0) * 3) 90 from vpI 90 (by decide) b1.1 b1.2) ?_
    refine w_aload_n (Ev.cm _) rfl rfl ?_
    refine w_getR (q := 5) (Ev.cm _) rfl (Nat.le_of_ble_eq_true rfl) rfl rfl ?_
    refine w_iload_n (Ev.cm _) rfl rfl ?_
    refine w_iconst (Ev.cm _) rfl ?_
    refine w_iadd (Ev.cm _) rfl ?_
    refine w_iload_n (Ev.cm _) rfl rfl ?_
    obtain ⟨b2, q⟩ := ois q
    refine w_iast (Ev.cm _) rfl (Nat.le_of_ble_eq_true rfl) rfl (show vp_in (((F_J_max I (I 2 4) 0) * 3) + 1) 90 from vpI 90 (by decide) b2.1 b2.2) ?_
    refine w_aload_n (Ev.cm _) rfl rfl ?_
    refine w_getR (q := 5) (Ev.cm _) rfl (Nat.le_of_ble_eq_true rfl) rfl rfl ?_
    refine w_iload_n (Ev.cm _) rfl rfl ?_
    refine w_iconst (Ev.cm _) rfl ?_
    refine w_iadd (Ev.cm _) rfl ?_
    refine w_iload_n (Ev.cm _) rfl rfl ?_
    obtain ⟨b3, q⟩ := ois q
    refine w_iast (Ev.cm _) rfl (Nat.le_of_ble_eq_true rfl) rfl (show vp_in (((F_J_max I (I 2 4) 0) * 3) + 2) 90 from vpI 90 (by decide) b3.1 b3.2) ?_
    refine w_aload_n (Ev.cm _) rfl rfl ?_
    refine w_aload_n (Ev.cm _) rfl rfl ?_
    refine w_getI (Ev.cm _) rfl (Nat.le_of_ble_eq_true rfl) rfl ?_
    refine w_iconst (Ev.cm _) rfl ?_
    refine w_cstat (as := [.int (I 2 4), .int 0]) (st := [.ref 2]) (Ev.cm _) rfl rfl rfl (Nat.le_of_ble_eq_true rfl) (Nat.le_of_ble_eq_true rfl) (e_J_max ?_)
    show Wp _ _ _ _ _ _ _ 78 [(0, .ref 2), (1, .int p0), (2, .int p1), (3, .int ((F_J_max I (I 2 4) 0) * 3))] [.int (F_J_max (sI (sI (sI I 5 (((F_J_max I (I 2 4) 0) * 3).toNatClampNeg) (I 2 0)) 5 ((((F_J_max I (I 2 4) 0) * 3) + 1).toNatClampNeg) p0) 5 ((((F_J_max I (I 2 4) 0) * 3) + 2).toNatClampNeg) p1) (I 2 4) 0), .ref 2] (HS (sI (sI (sI I 5 (((F_J_max I (I 2 4) 0) * 3).toNatClampNeg) (I 2 0)) 5 ((((F_J_max I (I 2 4) 0) * 3) + 1).toNatClampNeg) p0) 5 ((((F_J_max I (I 2 4) 0) * 3) + 2).toNatClampNeg) p1) L X)
    refine w_iconst (Ev.cm _) rfl ?_
    refine w_iadd (Ev.cm _) rfl ?_
    refine w_putI (Ev.cm _) rfl (Nat.le_of_ble_eq_true rfl) rfl ?_
    refine w_return (Ev.cm _) rfl rfl rf0 ?_
    cases q
    exact g
  · have c1 : ¬ (I 2 4 < 30) := c1
    rw [if_neg c1] at q
    refine w_aload_n (Ev.cm _) rfl rfl ?_
    refine w_getR (q := 5) (Ev.cm _) rfl (Nat.le_of_ble_eq_true rfl) rfl rfl ?_
    refine w_iconst (Ev.cm _) rfl ?_
    refine w_aload_n (Ev.cm _) rfl rfl ?_
    refine w_getR (q := 5) (Ev.cm _) rfl (Nat.le_of_ble_eq_true rfl) rfl rfl ?_
    refine w_iconst (Ev.cm _) rfl ?_
    refine w_bipush (Ev.cm _) rfl ?_
    refine w_copy (Ev.cm _) rfl (Nat.le_of_ble_eq_true rfl) (Nat.le_of_ble_eq_true rfl) rfl rfl (by decide) (by decide) (by decide) (Nat.le_of_ble_eq_true rfl) (Nat.le_of_ble_eq_true rfl) (Nat.le_of_ble_eq_true rfl) ?_
    refine w_aload_n (Ev.cm _) rfl rfl ?_
    refine w_bipush (Ev.cm _) rfl ?_
    refine w_putI (Ev.cm _) rfl (Nat.le_of_ble_eq_true rfl) rfl ?_
    refine w_aload_n (Ev.cm _) rfl rfl ?_
    refine w_getI (Ev.cm _) rfl (Nat.le_of_ble_eq_true rfl) rfl ?_
    refine w_iconst (Ev.cm _) rfl ?_
    refine w_cstat (as := [.int 29, .int 0]) (st := []) (Ev.cm _) rfl rfl rfl (Nat.le_of_ble_eq_true rfl) (Nat.le_of_ble_eq_true rfl) (e_J_max ?_)
    show Wp _ _ _ _ _ _ _ 38 [(0, .ref 2), (1, .int p0), (2, .int p1)] [.int (F_J_max (sI (va_up I 5 (va_cpy (I 5) (I 5) 3 0 87)) 2 4 29) 29 0)] (HS (sI (va_up I 5 (va_cpy (I 5) (I 5) 3 0 87)) 2 4 29) L X)
    refine w_iconst (Ev.cm _) rfl ?_
    refine w_imul (Ev.cm _) rfl ?_
    refine w_istore_n (ls2 := [(0, .ref 2), (1, .int p0), (2, .int p1), (3, .int ((F_J_max (sI (va_up I 5 (va_cpy (I 5) (I 5) 3 0 87)) 2 4 29) 29 0) * 3))]) (Ev.cm _) rfl rfl ?_
    refine w_aload_n (Ev.cm _) rfl rfl ?_
    refine w_getR (q := 5) (Ev.cm _) rfl (Nat.le_of_ble_eq_true rfl) rfl rfl ?_
    refine w_iload_n (Ev.cm _) rfl rfl ?_
    refine w_aload_n (Ev.cm _) rfl rfl ?_
    refine w_getI (Ev.cm _) rfl (Nat.le_of_ble_eq_true rfl) rfl ?_
    obtain ⟨b4, q⟩ := ois q
    refine w_iast (Ev.cm _) rfl (Nat.le_of_ble_eq_true rfl) rfl (show vp_in ((F_J_max (sI (va_up I 5 (va_cpy (I 5) (I 5) 3 0 87)) 2 4 29) 29 0) * 3) 90 from vpI 90 (by decide) b4.1 b4.2) ?_
    refine w_aload_n (Ev.cm _) rfl rfl ?_
    refine w_getR (q := 5) (Ev.cm _) rfl (Nat.le_of_ble_eq_true rfl) rfl rfl ?_
    refine w_iload_n (Ev.cm _) rfl rfl ?_
    refine w_iconst (Ev.cm _) rfl ?_
    refine w_iadd (Ev.cm _) rfl ?_
    refine w_iload_n (Ev.cm _) rfl rfl ?_
    obtain ⟨b5, q⟩ := ois q
    refine w_iast (Ev.cm _) rfl (Nat.le_of_ble_eq_true rfl) rfl (show vp_in (((F_J_max (sI (va_up I 5 (va_cpy (I 5) (I 5) 3 0 87)) 2 4 29) 29 0) * 3) + 1) 90 from vpI 90 (by decide) b5.1 b5.2) ?_
    refine w_aload_n (Ev.cm _) rfl rfl ?_
    refine w_getR (q := 5) (Ev.cm _) rfl (Nat.le_of_ble_eq_true rfl) rfl rfl ?_
    refine w_iload_n (Ev.cm _) rfl rfl ?_
    refine w_iconst (Ev.cm _) rfl ?_
    refine w_iadd (Ev.cm _) rfl ?_
    refine w_iload_n (Ev.cm _) rfl rfl ?_
    obtain ⟨b6, q⟩ := ois q
    refine w_iast (Ev.cm _) rfl (Nat.le_of_ble_eq_true rfl) rfl (show vp_in (((F_J_max (sI (va_up I 5 (va_cpy (I 5) (I 5) 3 0 87)) 2 4 29) 29 0) * 3) + 2) 90 from vpI 90 (by decide) b6.1 b6.2) ?_
    refine w_aload_n (Ev.cm _) rfl rfl ?_
    refine w_aload_n (Ev.cm _) rfl rfl ?_
    refine w_getI (Ev.cm _) rfl (Nat.le_of_ble_eq_true rfl) rfl ?_
    refine w_iconst (Ev.cm _) rfl ?_
    refine w_cstat (as := [.int 29, .int 0]) (st := [.ref 2]) (Ev.cm _) rfl rfl rfl (Nat.le_of_ble_eq_true rfl) (Nat.le_of_ble_eq_true rfl) (e_J_max ?_)
    show Wp _ _ _ _ _ _ _ 78 [(0, .ref 2), (1, .int p0), (2, .int p1), (3, .int ((F_J_max (sI (va_up I 5 (va_cpy (I 5) (I 5) 3 0 87)) 2 4 29) 29 0) * 3))] [.int (F_J_max (sI (sI (sI (sI (va_up I 5 (va_cpy (I 5) (I 5) 3 0 87)) 2 4 29) 5 (((F_J_max (sI (va_up I 5 (va_cpy (I 5) (I 5) 3 0 87)) 2 4 29) 29 0) * 3).toNatClampNeg) ((va_up I 5 (va_cpy (I 5) (I 5) 3 0 87)) 2 0)) 5 ((((F_J_max (sI (va_up I 5 (va_cpy (I 5) (I 5) 3 0 87)) 2 4 29) 29 0) * 3) + 1).toNatClampNeg) p0) 5 ((((F_J_max (sI (va_up I 5 (va_cpy (I 5) (I 5) 3 0 87)) 2 4 29) 29 0) * 3) + 2).toNatClampNeg) p1) 29 0), .ref 2] (HS (sI (sI (sI (sI (va_up I 5 (va_cpy (I 5) (I 5) 3 0 87)) 2 4 29) 5 (((F_J_max (sI (va_up I 5 (va_cpy (I 5) (I 5) 3 0 87)) 2 4 29) 29 0) * 3).toNatClampNeg) ((va_up I 5 (va_cpy (I 5) (I 5) 3 0 87)) 2 0)) 5 ((((F_J_max (sI (va_up I 5 (va_cpy (I 5) (I 5) 3 0 87)) 2 4 29) 29 0) * 3) + 1).toNatClampNeg) p0) 5 ((((F_J_max (sI (va_up I 5 (va_cpy (I 5) (I 5) 3 0 87)) 2 4 29) 29 0) * 3) + 2).toNatClampNeg) p1) L X)
    refine w_iconst (Ev.cm _) rfl ?_
    refine w_iadd (Ev.cm _) rfl ?_
    refine w_putI (Ev.cm _) rfl (Nat.le_of_ble_eq_true rfl) rfl ?_
    refine w_return (Ev.cm _) rfl rfl rf0 ?_
    cases q
    exact g
def FO_W_tell (fu : Nat) (p1 : Int32) (I : Nat → Nat → Int32) (L : Nat → Nat → Int64) : Option (Unit × (Nat → Nat → Int32) × (Nat → Nat → Int64)) := some ((), sI (sI (sI (sI I 321 0 (I 2 0)) 321 1 (I 2 2)) 321 2 p1) 319 2 (I 2 3), L)
set_option maxHeartbeats 20000000 in
set_option maxRecDepth 20000 in
theorem eo_W_tell {d fu : Nat} {p1 : Int32} {I : Nat → Nat → Int32} {L : Nat → Nat → Int64} {X : Nat × (Nat → Int32)} {Q : PQ} {res : Unit × (Nat → Nat → Int32) × (Nat → Nat → Int64)}  (g : Q none (HS res.2.1 res.2.2 X)) (q : FO_W_tell fu p1 I L = some res) : Ev (d + 1) m_W_tell [.ref 319, .ref 2, .int p1] (HS I L X) Q := by
  unfold FO_W_tell at q
  refine ev_start (d := d + 0) rfl rfl rfl (Nat.le_of_ble_eq_true rfl) ?_
  show Wp (Ev (d + 0)) cd_W_tell (0, 0) none _ _ Q 0 [(0, .ref 319), (1, .ref 2), (2, .int p1)] [] (HS I L X)
  refine w_aload_n (Ev.cm _) rfl rfl ?_
  refine w_getR (q := 321) (Ev.cm _) rfl (Nat.le_of_ble_eq_true rfl) rfl rfl ?_
  refine w_iconst (Ev.cm _) rfl ?_
  refine w_aload_n (Ev.cm _) rfl rfl ?_
  refine w_getI (Ev.cm _) rfl (Nat.le_of_ble_eq_true rfl) rfl ?_
  refine w_iast (Ev.cm _) rfl (Nat.le_of_ble_eq_true rfl) rfl (show vp_in 0 8 from vpI 8 (by decide) (by decide) (by decide)) ?_
  refine w_aload_n (Ev.cm _) rfl rfl ?_
  refine w_getR (q := 321) (Ev.cm _) rfl (Nat.le_of_ble_eq_true rfl) rfl rfl ?_
  refine w_iconst (Ev.cm _) rfl ?_
  refine w_aload_n (Ev.cm _) rfl rfl ?_
  refine w_getI (Ev.cm _) rfl (Nat.le_of_ble_eq_true rfl) rfl ?_
  refine w_iast (Ev.cm _) rfl (Nat.le_of_ble_eq_true rfl) rfl (show vp_in 1 8 from vpI 8 (by decide) (by decide) (by decide)) ?_
  refine w_aload_n (Ev.cm _) rfl rfl ?_
  refine w_getR (q := 321) (Ev.cm _) rfl (Nat.le_of_ble_eq_true rfl) rfl rfl ?_
  refine w_iconst (Ev.cm _) rfl ?_
  refine w_iload_n (Ev.cm _) rfl rfl ?_
  refine w_iast (Ev.cm _) rfl (Nat.le_of_ble_eq_true rfl) rfl (show vp_in 2 8 from vpI 8 (by decide) (by decide) (by decide)) ?_
  refine w_aload_n (Ev.cm _) rfl rfl ?_
  refine w_aload_n (Ev.cm _) rfl rfl ?_
  refine w_getI (Ev.cm _) rfl (Nat.le_of_ble_eq_true rfl) rfl ?_
  refine w_putI (Ev.cm _) rfl (Nat.le_of_ble_eq_true rfl) rfl ?_
  refine w_return (Ev.cm _) rfl rfl rf0 ?_
  cases q
  exact g
def FO_W_tellLodger (fu : Nat) (p0 : Int32) (p1 : Int32) (p2 : Int32) (p3 : Int32) (p4 : Int32) (I : Nat → Nat → Int32) (L : Nat → Nat → Int64) : Option (Unit × (Nat → Nat → Int32) × (Nat → Nat → Int64)) := some ((), sI (sI (sI (sI (sI I 321 3 p0) 321 4 p1) 321 5 p2) 321 6 p3) 321 7 p4, L)
set_option maxHeartbeats 20000000 in
set_option maxRecDepth 20000 in
theorem eo_W_tellLodger {d fu : Nat} {p0 : Int32} {p1 : Int32} {p2 : Int32} {p3 : Int32} {p4 : Int32} {I : Nat → Nat → Int32} {L : Nat → Nat → Int64} {X : Nat × (Nat → Int32)} {Q : PQ} {res : Unit × (Nat → Nat → Int32) × (Nat → Nat → Int64)}  (g : Q none (HS res.2.1 res.2.2 X)) (q : FO_W_tellLodger fu p0 p1 p2 p3 p4 I L = some res) : Ev (d + 1) m_W_tellLodger [.ref 319, .int p0, .int p1, .int p2, .int p3, .int p4] (HS I L X) Q := by
  unfold FO_W_tellLodger at q
  refine ev_start (d := d + 0) rfl rfl rfl (Nat.le_of_ble_eq_true rfl) ?_
  show Wp (Ev (d + 0)) cd_W_tellLodger (0, 0) none _ _ Q 0 [(0, .ref 319), (1, .int p0), (2, .int p1), (3, .int p2), (4, .int p3), (5, .int p4)] [] (HS I L X)
  refine w_aload_n (Ev.cm _) rfl rfl ?_
  refine w_getR (q := 321) (Ev.cm _) rfl (Nat.le_of_ble_eq_true rfl) rfl rfl ?_
  refine w_iconst (Ev.cm _) rfl ?_
  refine w_iload_n (Ev.cm _) rfl rfl ?_
  refine w_iast (Ev.cm _) rfl (Nat.le_of_ble_eq_true rfl) rfl (show vp_in 3 8 from vpI 8 (by decide) (by decide) (by decide)) ?_
  refine w_aload_n (Ev.cm _) rfl rfl ?_
  refine w_getR (q := 321) (Ev.cm _) rfl (Nat.le_of_ble_eq_true rfl) rfl rfl ?_
  refine w_iconst (Ev.cm _) rfl ?_
  refine w_iload_n (Ev.cm _) rfl rfl ?_
  refine w_iast (Ev.cm _) rfl (Nat.le_of_ble_eq_true rfl) rfl (show vp_in 4 8 from vpI 8 (by decide) (by decide) (by decide)) ?_
  refine w_aload_n (Ev.cm _) rfl rfl ?_
  refine w_getR (q := 321) (Ev.cm _) rfl (Nat.le_of_ble_eq_true rfl) rfl rfl ?_
  refine w_iconst (Ev.cm _) rfl ?_
  refine w_iload_n (Ev.cm _) rfl rfl ?_
  refine w_iast (Ev.cm _) rfl (Nat.le_of_ble_eq_true rfl) rfl (show vp_in 5 8 from vpI 8 (by decide) (by decide) (by decide)) ?_
  refine w_aload_n (Ev.cm _) rfl rfl ?_
  refine w_getR (q := 321) (Ev.cm _) rfl (Nat.le_of_ble_eq_true rfl) rfl rfl ?_
  refine w_bipush (Ev.cm _) rfl ?_
  refine w_iload (Ev.cm _) rfl rfl ?_
  refine w_iast (Ev.cm _) rfl (Nat.le_of_ble_eq_true rfl) rfl (show vp_in 6 8 from vpI 8 (by decide) (by decide) (by decide)) ?_
  refine w_aload_n (Ev.cm _) rfl rfl ?_
  refine w_getR (q := 321) (Ev.cm _) rfl (Nat.le_of_ble_eq_true rfl) rfl rfl ?_
  refine w_bipush (Ev.cm _) rfl ?_
  refine w_iload (Ev.cm _) rfl rfl ?_
  refine w_iast (Ev.cm _) rfl (Nat.le_of_ble_eq_true rfl) rfl (show vp_in 7 8 from vpI 8 (by decide) (by decide) (by decide)) ?_
  refine w_return (Ev.cm _) rfl rfl rf0 ?_
  cases q
  exact g
def FO_W_takenBy (fu : Nat) (p0 : Int32) (I : Nat → Nat → Int32) (L : Nat → Nat → Int64) : Option (Int32 × (Nat → Nat → Int32) × (Nat → Nat → Int64)) := if p0 = 2 then (some (0, I, L)) else (if p0 = 46 then (some (1, I, L)) else (if p0 = 53 then (some (1, I, L)) else (if p0 = 60 then (some (0, I, L)) else (if p0 = 61 then (some (1, I, L)) else (if p0 = 62 then (some (0, I, L)) else (if p0 = 63 then (some (1, I, L)) else (some (2, I, L))))))))
set_option maxHeartbeats 20000000 in
set_option maxRecDepth 20000 in
theorem eo_W_takenBy {d fu : Nat} {p0 : Int32} {I : Nat → Nat → Int32} {L : Nat → Nat → Int64} {X : Nat × (Nat → Int32)} {Q : PQ} {res : Int32 × (Nat → Nat → Int32) × (Nat → Nat → Int64)}  (g : Q (some (.int res.1)) (HS res.2.1 res.2.2 X)) (q : FO_W_takenBy fu p0 I L = some res) : Ev (d + 1) m_W_takenBy [.int p0] (HS I L X) Q := by
  unfold FO_W_takenBy at q
  refine ev_start (d := d + 0) rfl rfl rfl (Nat.le_of_ble_eq_true rfl) ?_
  show Wp (Ev (d + 0)) cd_W_takenBy (0, 0) (some .int) _ _ Q 0 [(0, .int p0)] [] (HS I L X)
  refine w_iload_n (Ev.cm _) rfl rfl ?_
  refine w_lsw (Ev.cm _) rfl ?_
  refine ⟨fun c1 => ?_, fun c1_0 => ⟨fun c1 => ?_, fun c1_1 => ⟨fun c1 => ?_, fun c1_2 => ⟨fun c1 => ?_, fun c1_3 => ⟨fun c1 => ?_, fun c1_4 => ⟨fun c1 => ?_, fun c1_5 => ⟨fun c1 => ?_, fun c1_6 => ?_⟩⟩⟩⟩⟩⟩⟩
  · have c1 : p0 = 2 := sw_v c1 (by decide)
    rw [if_pos c1] at q
    show Wp _ _ _ _ _ _ _ 68 [(0, .int p0)] [] (HS I L X)
    refine w_iconst (Ev.cm _) rfl ?_
    refine w_ireturn (Ev.cm _) rfl trivial rf0 ?_
    cases q
    exact g
  · have c1_0 : ¬ p0 = 2 := sw_w c1_0 (by decide)
    have c1 : p0 = 46 := sw_v c1 (by decide)
    rw [if_neg c1_0, if_pos c1] at q
    show Wp _ _ _ _ _ _ _ 70 [(0, .int p0)] [] (HS I L X)
    refine w_iconst (Ev.cm _) rfl ?_
    refine w_ireturn (Ev.cm _) rfl trivial rf0 ?_
    cases q
    exact g
  · have c1_0 : ¬ p0 = 2 := sw_w c1_0 (by decide)
    have c1_1 : ¬ p0 = 46 := sw_w c1_1 (by decide)
    have c1 : p0 = 53 := sw_v c1 (by decide)
    rw [if_neg c1_0, if_neg c1_1, if_pos c1] at q
    show Wp _ _ _ _ _ _ _ 70 [(0, .int p0)] [] (HS I L X)
    refine w_iconst (Ev.cm _) rfl ?_
    refine w_ireturn (Ev.cm _) rfl trivial rf0 ?_
    cases q
    exact g
  · have c1_0 : ¬ p0 = 2 := sw_w c1_0 (by decide)
    have c1_1 : ¬ p0 = 46 := sw_w c1_1 (by decide)
    have c1_2 : ¬ p0 = 53 := sw_w c1_2 (by decide)
    have c1 : p0 = 60 := sw_v c1 (by decide)
    rw [if_neg c1_0, if_neg c1_1, if_neg c1_2, if_pos c1] at q
    show Wp _ _ _ _ _ _ _ 68 [(0, .int p0)] [] (HS I L X)
    refine w_iconst (Ev.cm _) rfl ?_
    refine w_ireturn (Ev.cm _) rfl trivial rf0 ?_
    cases q
    exact g
  · have c1_0 : ¬ p0 = 2 := sw_w c1_0 (by decide)
    have c1_1 : ¬ p0 = 46 := sw_w c1_1 (by decide)
    have c1_2 : ¬ p0 = 53 := sw_w c1_2 (by decide)
    have c1_3 : ¬ p0 = 60 := sw_w c1_3 (by decide)
    have c1 : p0 = 61 := sw_v c1 (by decide)
    rw [if_neg c1_0, if_neg c1_1, if_neg c1_2, if_neg c1_3, if_pos c1] at q
    show Wp _ _ _ _ _ _ _ 70 [(0, .int p0)] [] (HS I L X)
    refine w_iconst (Ev.cm _) rfl ?_
    refine w_ireturn (Ev.cm _) rfl trivial rf0 ?_
    cases q
    exact g
  · have c1_0 : ¬ p0 = 2 := sw_w c1_0 (by decide)
    have c1_1 : ¬ p0 = 46 := sw_w c1_1 (by decide)
    have c1_2 : ¬ p0 = 53 := sw_w c1_2 (by decide)
    have c1_3 : ¬ p0 = 60 := sw_w c1_3 (by decide)
    have c1_4 : ¬ p0 = 61 := sw_w c1_4 (by decide)
    have c1 : p0 = 62 := sw_v c1 (by decide)
    rw [if_neg c1_0, if_neg c1_1, if_neg c1_2, if_neg c1_3, if_neg c1_4, if_pos c1] at q
    show Wp _ _ _ _ _ _ _ 68 [(0, .int p0)] [] (HS I L X)
    refine w_iconst (Ev.cm _) rfl ?_
    refine w_ireturn (Ev.cm _) rfl trivial rf0 ?_
    cases q
    exact g
  · have c1_0 : ¬ p0 = 2 := sw_w c1_0 (by decide)
    have c1_1 : ¬ p0 = 46 := sw_w c1_1 (by decide)
    have c1_2 : ¬ p0 = 53 := sw_w c1_2 (by decide)
    have c1_3 : ¬ p0 = 60 := sw_w c1_3 (by decide)
    have c1_4 : ¬ p0 = 61 := sw_w c1_4 (by decide)
    have c1_5 : ¬ p0 = 62 := sw_w c1_5 (by decide)
    have c1 : p0 = 63 := sw_v c1 (by decide)
    rw [if_neg c1_0, if_neg c1_1, if_neg c1_2, if_neg c1_3, if_neg c1_4, if_neg c1_5, if_pos c1] at q
    show Wp _ _ _ _ _ _ _ 70 [(0, .int p0)] [] (HS I L X)
    refine w_iconst (Ev.cm _) rfl ?_
    refine w_ireturn (Ev.cm _) rfl trivial rf0 ?_
    cases q
    exact g
  · have c1_0 : ¬ p0 = 2 := sw_w c1_0 (by decide)
    have c1_1 : ¬ p0 = 46 := sw_w c1_1 (by decide)
    have c1_2 : ¬ p0 = 53 := sw_w c1_2 (by decide)
    have c1_3 : ¬ p0 = 60 := sw_w c1_3 (by decide)
    have c1_4 : ¬ p0 = 61 := sw_w c1_4 (by decide)
    have c1_5 : ¬ p0 = 62 := sw_w c1_5 (by decide)
    have c1_6 : ¬ p0 = 63 := sw_w c1_6 (by decide)
    rw [if_neg c1_0, if_neg c1_1, if_neg c1_2, if_neg c1_3, if_neg c1_4, if_neg c1_5, if_neg c1_6] at q
    show Wp _ _ _ _ _ _ _ 72 [(0, .int p0)] [] (HS I L X)
    refine w_iconst (Ev.cm _) rfl ?_
    refine w_ireturn (Ev.cm _) rfl trivial rf0 ?_
    cases q
    exact g
def FO_W_turn (fu : Nat) (p0 : Int32) (p1 : Int32) (I : Nat → Nat → Int32) (L : Nat → Nat → Int64) : Option (Int32 × (Nat → Nat → Int32) × (Nat → Nat → Int64)) := if p0 = 53 then (some ((1 : Int32) - p1, I, L)) else (if p0 = 61 then (some (-p1, I, L)) else (if (1 : Int32) ≤ p1 ∧ p1 ≤ (12 : Int32) then (some (((I 319 2) >>> (p1 &&& 31)) &&& 1, I, L)) else (some (0, I, L))))
set_option maxHeartbeats 20000000 in
set_option maxRecDepth 20000 in
theorem eo_W_turn {d fu : Nat} {p0 : Int32} {p1 : Int32} {I : Nat → Nat → Int32} {L : Nat → Nat → Int64} {X : Nat × (Nat → Int32)} {Q : PQ} {res : Int32 × (Nat → Nat → Int32) × (Nat → Nat → Int64)}  (g : Q (some (.int res.1)) (HS res.2.1 res.2.2 X)) (q : FO_W_turn fu p0 p1 I L = some res) : Ev (d + 2) m_W_turn [.ref 319, .int p0, .int p1] (HS I L X) Q := by
  unfold FO_W_turn at q
  refine ev_start (d := d + 1) rfl rfl rfl (Nat.le_of_ble_eq_true rfl) ?_
  show Wp (Ev (d + 1)) cd_W_turn (0, 0) (some .int) _ _ Q 0 [(0, .ref 319), (1, .int p0), (2, .int p1)] [] (HS I L X)
  refine w_iload_n (Ev.cm _) rfl rfl ?_
  refine w_lsw (Ev.cm _) rfl ?_
  refine ⟨fun c1 => ?_, fun c1_0 => ⟨fun c1 => ?_, fun c1_1 => ?_⟩⟩
  · have c1 : p0 = 53 := sw_v c1 (by decide)
    rw [if_pos c1] at q
    show Wp _ _ _ _ _ _ _ 31 [(0, .ref 319), (1, .int p0), (2, .int p1)] [] (HS I L X)
    refine w_iconst (Ev.cm _) rfl ?_
    refine w_iload_n (Ev.cm _) rfl rfl ?_
    refine w_isub (Ev.cm _) rfl ?_
    refine w_ireturn (Ev.cm _) rfl trivial rf0 ?_
    cases q
    exact g
  · have c1_0 : ¬ p0 = 53 := sw_w c1_0 (by decide)
    have c1 : p0 = 61 := sw_v c1 (by decide)
    rw [if_neg c1_0, if_pos c1] at q
    show Wp _ _ _ _ _ _ _ 28 [(0, .ref 319), (1, .int p0), (2, .int p1)] [] (HS I L X)
    refine w_iload_n (Ev.cm _) rfl rfl ?_
    refine w_ineg (Ev.cm _) rfl ?_
    refine w_ireturn (Ev.cm _) rfl trivial rf0 ?_
    cases q
    exact g
  · have c1_0 : ¬ p0 = 53 := sw_w c1_0 (by decide)
    have c1_1 : ¬ p0 = 61 := sw_w c1_1 (by decide)
    rw [if_neg c1_0, if_neg c1_1] at q
    show Wp _ _ _ _ _ _ _ 35 [(0, .ref 319), (1, .int p0), (2, .int p1)] [] (HS I L X)
    refine w_iload_n (Ev.cm _) rfl rfl ?_
    refine w_iconst (Ev.cm _) rfl ?_
    refine w_bipush (Ev.cm _) rfl ?_
    refine w_cnest (as := [.int p1, .int 1, .int 12]) (st := []) (Ev.cm _) rfl rfl rfl (Nat.le_of_ble_eq_true rfl) (Nat.le_of_ble_eq_true rfl) (x_within ?_)
    show Wp _ _ _ _ _ _ _ 42 [(0, .ref 319), (1, .int p0), (2, .int p1)] [.int (bI ((1 : Int32) ≤ p1 ∧ p1 ≤ (12 : Int32)))] (HS I L X)
    refine w_if_eq (Ev.cm _) rfl (fun c2 => ?_) (fun c2 => ?_)
    · have c2 : ¬ ((1 : Int32) ≤ p1 ∧ p1 ≤ (12 : Int32)) := bI_0.mp c2
      rw [if_neg c2] at q
      refine w_iconst (Ev.cm _) rfl ?_
      refine w_ireturn (Ev.cm _) rfl trivial rf0 ?_
      cases q
      exact g
    · have c2 : (1 : Int32) ≤ p1 ∧ p1 ≤ (12 : Int32) := bI_1.mp c2
      rw [if_pos c2] at q
      refine w_aload_n (Ev.cm _) rfl rfl ?_
      refine w_getI (Ev.cm _) rfl (Nat.le_of_ble_eq_true rfl) rfl ?_
      refine w_iload_n (Ev.cm _) rfl rfl ?_
      refine w_ishr (Ev.cm _) rfl ?_
      refine w_iconst (Ev.cm _) rfl ?_
      refine w_iand (Ev.cm _) rfl ?_
      refine w_goto (Ev.cm _) rfl ?_
      refine w_ireturn (Ev.cm _) rfl trivial rf0 ?_
      cases q
      exact g
def FO_W_join (fu : Nat) (p0 : Int32) (p1 : Int32) (p2 : Int32) (I : Nat → Nat → Int32) (L : Nat → Nat → Int64) : Option (Int32 × (Nat → Nat → Int32) × (Nat → Nat → Int64)) := if p0 = 3 then (if p2 < p1 then (some (0, I, L)) else (some (1, I, L))) else (if p0 = 4 then (if p1 < p2 then (some (0, I, L)) else (some (1, I, L))) else (if p0 = 10 then (if p2 ≤ p1 then (some (0, I, L)) else (some (1, I, L))) else (if p0 = 11 then (if p1 ≤ p2 then (some (0, I, L)) else (some (1, I, L))) else (if p0 = 12 then (if p1 = p2 then (some (1, I, L)) else (some (0, I, L))) else (if p0 = 14 then (some (F_J_max I (-1000000) (F_J_min I (p1 + p2) 1000000), I, L)) else (if p0 = 15 then (some (F_J_max I (-1000000) (F_J_min I (p1 - p2) 1000000), I, L)) else (if p0 = 16 then (some (((F_J_maxL I (-1000000) (F_J_minL I (((p1 : Int32).toInt64) * ((p2 : Int32).toInt64)) 1000000)) : Int64).toInt32, I, L)) else (if p0 = 17 then (if p2 = 0 then (some (0, I, L)) else (if ¬ p2 = 0 then (some (p1 / p2, I, L)) else none)) else (if p0 = 45 then (if p2 = 0 then (if p2 = 0 then (some (F_J_abs I p1, I, L)) else (some (F_J_min I (F_J_abs I p1) ((F_J_abs I p2) - (F_J_abs I p1)), I, L))) else (if ¬ p2 = 0 then (if p2 = 0 then (some (F_J_abs I (iR p1 p2), I, L)) else (some (F_J_min I (F_J_abs I (iR p1 p2)) ((F_J_abs I p2) - (F_J_abs I (iR p1 p2))), I, L))) else none)) else (if p0 = 51 then (some (p1 ||| p2, I, L)) else (if p0 = 52 then (some (p1 &&& p2, I, L)) else (if p1 = p2 then (some (0, I, L)) else (some (1, I, L))))))))))))))
set_option maxHeartbeats 20000000 in
set_option maxRecDepth 20000 in
theorem eo_W_join {d fu : Nat} {p0 : Int32} {p1 : Int32} {p2 : Int32} {I : Nat → Nat → Int32} {L : Nat → Nat → Int64} {X : Nat × (Nat → Int32)} {Q : PQ} {res : Int32 × (Nat → Nat → Int32) × (Nat → Nat → Int64)}  (g : Q (some (.int res.1)) (HS res.2.1 res.2.2 X)) (q : FO_W_join fu p0 p1 p2 I L = some res) : Ev (d + 2) m_W_join [.int p0, .int p1, .int p2] (HS I L X) Q := by
  unfold FO_W_join at q
  refine ev_start (d := d + 1) rfl rfl rfl (Nat.le_of_ble_eq_true rfl) ?_
  show Wp (Ev (d + 1)) cd_W_join (0, 0) (some .int) _ _ Q 0 [(0, .int p0), (1, .int p1), (2, .int p2)] [] (HS I L X)
  refine w_iload_n (Ev.cm _) rfl rfl ?_
  refine w_tswL (Ev.cm _) [(3, 330), (4, 352), (10, 319), (11, 341), (12, 363), (14, 215), (15, 229), (16, 243), (17, 262), (45, 274), (51, 315), (52, 311)] rfl (by decide +kernel) (by decide +kernel) ?_
  refine ⟨fun c1 => ?_, fun c1_0 => ⟨fun c1 => ?_, fun c1_1 => ⟨fun c1 => ?_, fun c1_2 => ⟨fun c1 => ?_, fun c1_3 => ⟨fun c1 => ?_, fun c1_4 => ⟨fun c1 => ?_, fun c1_5 => ⟨fun c1 => ?_, fun c1_6 => ⟨fun c1 => ?_, fun c1_7 => ⟨fun c1 => ?_, fun c1_8 => ⟨fun c1 => ?_, fun c1_9 => ⟨fun c1 => ?_, fun c1_10 => ⟨fun c1 => ?_, fun c1_11 => ?_⟩⟩⟩⟩⟩⟩⟩⟩⟩⟩⟩⟩
  · have c1 : p0 = 3 := sw_v c1 (by decide)
    rw [if_pos c1] at q
    show Wp _ _ _ _ _ _ _ 331 [(0, .int p0), (1, .int p1), (2, .int p2)] [] (HS I L X)
    refine w_iload_n (Ev.cm _) rfl rfl ?_
    refine w_iload_n (Ev.cm _) rfl rfl ?_
    refine w_icmp_gt (Ev.cm _) rfl (fun c2 => ?_) (fun c2 => ?_)
    · have c2 : p2 < p1 := c2
      rw [if_pos c2] at q
      refine w_iconst (Ev.cm _) rfl ?_
      refine w_ireturn (Ev.cm _) rfl trivial rf0 ?_
      cases q
      exact g
    · have c2 : ¬ (p2 < p1) := c2
      rw [if_neg c2] at q
      refine w_iconst (Ev.cm _) rfl ?_
      refine w_goto (Ev.cm _) rfl ?_
      refine w_ireturn (Ev.cm _) rfl trivial rf0 ?_
      cases q
      exact g
  · have c1_0 : ¬ p0 = 3 := sw_w c1_0 (by decide)
    have c1 : p0 = 4 := sw_v c1 (by decide)
    rw [if_neg c1_0, if_pos c1] at q
    show Wp _ _ _ _ _ _ _ 353 [(0, .int p0), (1, .int p1), (2, .int p2)] [] (HS I L X)
    refine w_iload_n (Ev.cm _) rfl rfl ?_
    refine w_iload_n (Ev.cm _) rfl rfl ?_
    refine w_icmp_lt (Ev.cm _) rfl (fun c3 => ?_) (fun c3 => ?_)
    · have c3 : p1 < p2 := c3
      rw [if_pos c3] at q
      refine w_iconst (Ev.cm _) rfl ?_
      refine w_ireturn (Ev.cm _) rfl trivial rf0 ?_
      cases q
      exact g
    · have c3 : ¬ (p1 < p2) := c3
      rw [if_neg c3] at q
      refine w_iconst (Ev.cm _) rfl ?_
      refine w_goto (Ev.cm _) rfl ?_
      refine w_ireturn (Ev.cm _) rfl trivial rf0 ?_
      cases q
      exact g
  · have c1_0 : ¬ p0 = 3 := sw_w c1_0 (by decide)
    have c1_1 : ¬ p0 = 4 := sw_w c1_1 (by decide)
    have c1 : p0 = 10 := sw_v c1 (by decide)
    rw [if_neg c1_0, if_neg c1_1, if_pos c1] at q
    show Wp _ _ _ _ _ _ _ 320 [(0, .int p0), (1, .int p1), (2, .int p2)] [] (HS I L X)
    refine w_iload_n (Ev.cm _) rfl rfl ?_
    refine w_iload_n (Ev.cm _) rfl rfl ?_
    refine w_icmp_ge (Ev.cm _) rfl (fun c4 => ?_) (fun c4 => ?_)
    · have c4 : p2 ≤ p1 := c4
      rw [if_pos c4] at q
      refine w_iconst (Ev.cm _) rfl ?_
      refine w_ireturn (Ev.cm _) rfl trivial rf0 ?_
      cases q
      exact g
    · have c4 : ¬ (p2 ≤ p1) := c4
      rw [if_neg c4] at q
      refine w_iconst (Ev.cm _) rfl ?_
      refine w_goto (Ev.cm _) rfl ?_
      refine w_ireturn (Ev.cm _) rfl trivial rf0 ?_
      cases q
      exact g
  · have c1_0 : ¬ p0 = 3 := sw_w c1_0 (by decide)
    have c1_1 : ¬ p0 = 4 := sw_w c1_1 (by decide)
    have c1_2 : ¬ p0 = 10 := sw_w c1_2 (by decide)
    have c1 : p0 = 11 := sw_v c1 (by decide)
    rw [if_neg c1_0, if_neg c1_1, if_neg c1_2, if_pos c1] at q
    show Wp _ _ _ _ _ _ _ 342 [(0, .int p0), (1, .int p1), (2, .int p2)] [] (HS I L X)
    refine w_iload_n (Ev.cm _) rfl rfl ?_
    refine w_iload_n (Ev.cm _) rfl rfl ?_
    refine w_icmp_le (Ev.cm _) rfl (fun c5 => ?_) (fun c5 => ?_)
    · have c5 : p1 ≤ p2 := c5
      rw [if_pos c5] at q
      refine w_iconst (Ev.cm _) rfl ?_
      refine w_ireturn (Ev.cm _) rfl trivial rf0 ?_
      cases q
      exact g
    · have c5 : ¬ (p1 ≤ p2) := c5
      rw [if_neg c5] at q
      refine w_iconst (Ev.cm _) rfl ?_
      refine w_goto (Ev.cm _) rfl ?_
      refine w_ireturn (Ev.cm _) rfl trivial rf0 ?_
      cases q
      exact g
  · have c1_0 : ¬ p0 = 3 := sw_w c1_0 (by decide)
    have c1_1 : ¬ p0 = 4 := sw_w c1_1 (by decide)
    have c1_2 : ¬ p0 = 10 := sw_w c1_2 (by decide)
    have c1_3 : ¬ p0 = 11 := sw_w c1_3 (by decide)
    have c1 : p0 = 12 := sw_v c1 (by decide)
    rw [if_neg c1_0, if_neg c1_1, if_neg c1_2, if_neg c1_3, if_pos c1] at q
    show Wp _ _ _ _ _ _ _ 364 [(0, .int p0), (1, .int p1), (2, .int p2)] [] (HS I L X)
    refine w_iload_n (Ev.cm _) rfl rfl ?_
    refine w_iload_n (Ev.cm _) rfl rfl ?_
    refine w_icmp_ne (Ev.cm _) rfl (fun c6 => ?_) (fun c6 => ?_)
    · have c6 : ¬ (p1 = p2) := c6
      rw [if_neg c6] at q
      refine w_iconst (Ev.cm _) rfl ?_
      refine w_ireturn (Ev.cm _) rfl trivial rf0 ?_
      cases q
      exact g
    · have c6 : p1 = p2 := c6
      rw [if_pos c6] at q
      refine w_iconst (Ev.cm _) rfl ?_
      refine w_goto (Ev.cm _) rfl ?_
      refine w_ireturn (Ev.cm _) rfl trivial rf0 ?_
      cases q
      exact g
  · have c1_0 : ¬ p0 = 3 := sw_w c1_0 (by decide)
    have c1_1 : ¬ p0 = 4 := sw_w c1_1 (by decide)
    have c1_2 : ¬ p0 = 10 := sw_w c1_2 (by decide)
    have c1_3 : ¬ p0 = 11 := sw_w c1_3 (by decide)
    have c1_4 : ¬ p0 = 12 := sw_w c1_4 (by decide)
    have c1 : p0 = 14 := sw_v c1 (by decide)
    rw [if_neg c1_0, if_neg c1_1, if_neg c1_2, if_neg c1_3, if_neg c1_4, if_pos c1] at q
    show Wp _ _ _ _ _ _ _ 216 [(0, .int p0), (1, .int p1), (2, .int p2)] [] (HS I L X)
    refine w_ldc (Ev.cm _) rfl ?_
    refine w_iload_n (Ev.cm _) rfl rfl ?_
    refine w_iload_n (Ev.cm _) rfl rfl ?_
    refine w_iadd (Ev.cm _) rfl ?_
    refine w_ldc (Ev.cm _) rfl ?_
    refine w_cstat (as := [.int (p1 + p2), .int 1000000]) (st := [.int (-1000000)]) (Ev.cm _) rfl rfl rfl (Nat.le_of_ble_eq_true rfl) (Nat.le_of_ble_eq_true rfl) (e_J_min ?_)
    show Wp _ _ _ _ _ _ _ 226 [(0, .int p0), (1, .int p1), (2, .int p2)] [.int (F_J_min I (p1 + p2) 1000000), .int (-1000000)] (HS I L X)
    refine w_cstat (as := [.int (-1000000), .int (F_J_min I (p1 + p2) 1000000)]) (st := []) (Ev.cm _) rfl rfl rfl (Nat.le_of_ble_eq_true rfl) (Nat.le_of_ble_eq_true rfl) (e_J_max ?_)
    show Wp _ _ _ _ _ _ _ 229 [(0, .int p0), (1, .int p1), (2, .int p2)] [.int (F_J_max I (-1000000) (F_J_min I (p1 + p2) 1000000))] (HS I L X)
    refine w_ireturn (Ev.cm _) rfl trivial rf0 ?_
    cases q
    exact g
  · have c1_0 : ¬ p0 = 3 := sw_w c1_0 (by decide)
    have c1_1 : ¬ p0 = 4 := sw_w c1_1 (by decide)
    have c1_2 : ¬ p0 = 10 := sw_w c1_2 (by decide)
    have c1_3 : ¬ p0 = 11 := sw_w c1_3 (by decide)
    have c1_4 : ¬ p0 = 12 := sw_w c1_4 (by decide)
    have c1_5 : ¬ p0 = 14 := sw_w c1_5 (by decide)
    have c1 : p0 = 15 := sw_v c1 (by decide)
    rw [if_neg c1_0, if_neg c1_1, if_neg c1_2, if_neg c1_3, if_neg c1_4, if_neg c1_5, if_pos c1] at q
    show Wp _ _ _ _ _ _ _ 230 [(0, .int p0), (1, .int p1), (2, .int p2)] [] (HS I L X)
    refine w_ldc (Ev.cm _) rfl ?_
    refine w_iload_n (Ev.cm _) rfl rfl ?_
    refine w_iload_n (Ev.cm _) rfl rfl ?_
    refine w_isub (Ev.cm _) rfl ?_
    refine w_ldc (Ev.cm _) rfl ?_
    refine w_cstat (as := [.int (p1 - p2), .int 1000000]) (st := [.int (-1000000)]) (Ev.cm _) rfl rfl rfl (Nat.le_of_ble_eq_true rfl) (Nat.le_of_ble_eq_true rfl) (e_J_min ?_)
    show Wp _ _ _ _ _ _ _ 240 [(0, .int p0), (1, .int p1), (2, .int p2)] [.int (F_J_min I (p1 - p2) 1000000), .int (-1000000)] (HS I L X)
    refine w_cstat (as := [.int (-1000000), .int (F_J_min I (p1 - p2) 1000000)]) (st := []) (Ev.cm _) rfl rfl rfl (Nat.le_of_ble_eq_true rfl) (Nat.le_of_ble_eq_true rfl) (e_J_max ?_)
    show Wp _ _ _ _ _ _ _ 243 [(0, .int p0), (1, .int p1), (2, .int p2)] [.int (F_J_max I (-1000000) (F_J_min I (p1 - p2) 1000000))] (HS I L X)
    refine w_ireturn (Ev.cm _) rfl trivial rf0 ?_
    cases q
    exact g
  · have c1_0 : ¬ p0 = 3 := sw_w c1_0 (by decide)
    have c1_1 : ¬ p0 = 4 := sw_w c1_1 (by decide)
    have c1_2 : ¬ p0 = 10 := sw_w c1_2 (by decide)
    have c1_3 : ¬ p0 = 11 := sw_w c1_3 (by decide)
    have c1_4 : ¬ p0 = 12 := sw_w c1_4 (by decide)
    have c1_5 : ¬ p0 = 14 := sw_w c1_5 (by decide)
    have c1_6 : ¬ p0 = 15 := sw_w c1_6 (by decide)
    have c1 : p0 = 16 := sw_v c1 (by decide)
    rw [if_neg c1_0, if_neg c1_1, if_neg c1_2, if_neg c1_3, if_neg c1_4, if_neg c1_5, if_neg c1_6, if_pos c1] at q
    show Wp _ _ _ _ _ _ _ 244 [(0, .int p0), (1, .int p1), (2, .int p2)] [] (HS I L X)
    refine w_ldc2_w (Ev.cm _) rfl ?_
    refine w_iload_n (Ev.cm _) rfl rfl ?_
    refine w_i2l (Ev.cm _) rfl ?_
    refine w_iload_n (Ev.cm _) rfl rfl ?_
    refine w_i2l (Ev.cm _) rfl ?_
    refine w_lmul (Ev.cm _) rfl ?_
    refine w_ldc2_w (Ev.cm _) rfl ?_
    refine w_cstat (as := [.long (((p1 : Int32).toInt64) * ((p2 : Int32).toInt64)), .long 1000000]) (st := [.long (-1000000)]) (Ev.cm _) rfl rfl rfl (Nat.le_of_ble_eq_true rfl) (Nat.le_of_ble_eq_true rfl) (e_J_minL ?_)
    show Wp _ _ _ _ _ _ _ 258 [(0, .int p0), (1, .int p1), (2, .int p2)] [.long (F_J_minL I (((p1 : Int32).toInt64) * ((p2 : Int32).toInt64)) 1000000), .long (-1000000)] (HS I L X)
    refine w_cstat (as := [.long (-1000000), .long (F_J_minL I (((p1 : Int32).toInt64) * ((p2 : Int32).toInt64)) 1000000)]) (st := []) (Ev.cm _) rfl rfl rfl (Nat.le_of_ble_eq_true rfl) (Nat.le_of_ble_eq_true rfl) (e_J_maxL ?_)
    show Wp _ _ _ _ _ _ _ 261 [(0, .int p0), (1, .int p1), (2, .int p2)] [.long (F_J_maxL I (-1000000) (F_J_minL I (((p1 : Int32).toInt64) * ((p2 : Int32).toInt64)) 1000000))] (HS I L X)
    refine w_l2i (Ev.cm _) rfl ?_
    refine w_ireturn (Ev.cm _) rfl trivial rf0 ?_
    cases q
    exact g
  · have c1_0 : ¬ p0 = 3 := sw_w c1_0 (by decide)
    have c1_1 : ¬ p0 = 4 := sw_w c1_1 (by decide)
    have c1_2 : ¬ p0 = 10 := sw_w c1_2 (by decide)
    have c1_3 : ¬ p0 = 11 := sw_w c1_3 (by decide)
    have c1_4 : ¬ p0 = 12 := sw_w c1_4 (by decide)
    have c1_5 : ¬ p0 = 14 := sw_w c1_5 (by decide)
    have c1_6 : ¬ p0 = 15 := sw_w c1_6 (by decide)
    have c1_7 : ¬ p0 = 16 := sw_w c1_7 (by decide)
    have c1 : p0 = 17 := sw_v c1 (by decide)
    rw [if_neg c1_0, if_neg c1_1, if_neg c1_2, if_neg c1_3, if_neg c1_4, if_neg c1_5, if_neg c1_6, if_neg c1_7, if_pos c1] at q
    show Wp _ _ _ _ _ _ _ 263 [(0, .int p0), (1, .int p1), (2, .int p2)] [] (HS I L X)
    refine w_iload_n (Ev.cm _) rfl rfl ?_
    refine w_if_ne (Ev.cm _) rfl (fun c7 => ?_) (fun c7 => ?_)
    · have c7 : ¬ (p2 = 0) := c7
      rw [if_neg c7] at q
      refine w_iload_n (Ev.cm _) rfl rfl ?_
      refine w_iload_n (Ev.cm _) rfl rfl ?_
      obtain ⟨b1, q⟩ := ois q
      refine w_idiv (Ev.cm _) rfl b1 ?_
      refine w_ireturn (Ev.cm _) rfl trivial rf0 ?_
      cases q
      exact g
    · have c7 : p2 = 0 := c7
      rw [if_pos c7] at q
      refine w_iconst (Ev.cm _) rfl ?_
      refine w_goto (Ev.cm _) rfl ?_
      refine w_ireturn (Ev.cm _) rfl trivial rf0 ?_
      cases q
      exact g
  · have c1_0 : ¬ p0 = 3 := sw_w c1_0 (by decide)
    have c1_1 : ¬ p0 = 4 := sw_w c1_1 (by decide)
    have c1_2 : ¬ p0 = 10 := sw_w c1_2 (by decide)
    have c1_3 : ¬ p0 = 11 := sw_w c1_3 (by decide)
    have c1_4 : ¬ p0 = 12 := sw_w c1_4 (by decide)
    have c1_5 : ¬ p0 = 14 := sw_w c1_5 (by decide)
    have c1_6 : ¬ p0 = 15 := sw_w c1_6 (by decide)
    have c1_7 : ¬ p0 = 16 := sw_w c1_7 (by decide)
    have c1_8 : ¬ p0 = 17 := sw_w c1_8 (by decide)
    have c1 : p0 = 45 := sw_v c1 (by decide)
    rw [if_neg c1_0, if_neg c1_1, if_neg c1_2, if_neg c1_3, if_neg c1_4, if_neg c1_5, if_neg c1_6, if_neg c1_7, if_neg c1_8, if_pos c1] at q
    show Wp _ _ _ _ _ _ _ 275 [(0, .int p0), (1, .int p1), (2, .int p2)] [] (HS I L X)
    refine w_iload_n (Ev.cm _) rfl rfl ?_
    refine w_if_ne (Ev.cm _) rfl (fun c8 => ?_) (fun c8 => ?_)
    · have c8 : ¬ (p2 = 0) := c8
      rw [if_neg c8] at q
      refine w_iload_n (Ev.cm _) rfl rfl ?_
      refine w_iload_n (Ev.cm _) rfl rfl ?_
      obtain ⟨b2, q⟩ := ois q
      refine w_irem (Ev.cm _) rfl b2 ?_
      refine w_cstat (as := [.int (iR p1 p2)]) (st := []) (Ev.cm _) rfl rfl rfl (Nat.le_of_ble_eq_true rfl) (Nat.le_of_ble_eq_true rfl) (e_J_abs ?_)
      show Wp _ _ _ _ _ _ _ 292 [(0, .int p0), (1, .int p1), (2, .int p2)] [.int (F_J_abs I (iR p1 p2))] (HS I L X)
      refine w_istore_n (ls2 := [(0, .int p0), (1, .int p1), (2, .int p2), (3, .int (F_J_abs I (iR p1 p2)))]) (Ev.cm _) rfl rfl ?_
      refine w_iload_n (Ev.cm _) rfl rfl ?_
      refine w_if_ne (Ev.cm _) rfl (fun c9 => ?_) (fun c9 => ?_)
      · have c9 : ¬ (p2 = 0) := c9
        rw [if_neg c9] at q
        refine w_iload_n (Ev.cm _) rfl rfl ?_
        refine w_iload_n (Ev.cm _) rfl rfl ?_
        refine w_cstat (as := [.int p2]) (st := [.int (F_J_abs I (iR p1 p2))]) (Ev.cm _) rfl rfl rfl (Nat.le_of_ble_eq_true rfl) (Nat.le_of_ble_eq_true rfl) (e_J_abs ?_)
        show Wp _ _ _ _ _ _ _ 306 [(0, .int p0), (1, .int p1), (2, .int p2), (3, .int (F_J_abs I (iR p1 p2)))] [.int (F_J_abs I p2), .int (F_J_abs I (iR p1 p2))] (HS I L X)
        refine w_iload_n (Ev.cm _) rfl rfl ?_
        refine w_isub (Ev.cm _) rfl ?_
        refine w_cstat (as := [.int (F_J_abs I (iR p1 p2)), .int ((F_J_abs I p2) - (F_J_abs I (iR p1 p2)))]) (st := []) (Ev.cm _) rfl rfl rfl (Nat.le_of_ble_eq_true rfl) (Nat.le_of_ble_eq_true rfl) (e_J_min ?_)
        show Wp _ _ _ _ _ _ _ 311 [(0, .int p0), (1, .int p1), (2, .int p2), (3, .int (F_J_abs I (iR p1 p2)))] [.int (F_J_min I (F_J_abs I (iR p1 p2)) ((F_J_abs I p2) - (F_J_abs I (iR p1 p2))))] (HS I L X)
        refine w_ireturn (Ev.cm _) rfl trivial rf0 ?_
        cases q
        exact g
      · have c9 : p2 = 0 := c9
        rw [if_pos c9] at q
        refine w_iload_n (Ev.cm _) rfl rfl ?_
        refine w_goto (Ev.cm _) rfl ?_
        refine w_ireturn (Ev.cm _) rfl trivial rf0 ?_
        cases q
        exact g
    · have c8 : p2 = 0 := c8
      rw [if_pos c8] at q
      refine w_iload_n (Ev.cm _) rfl rfl ?_
      refine w_cstat (as := [.int p1]) (st := []) (Ev.cm _) rfl rfl rfl (Nat.le_of_ble_eq_true rfl) (Nat.le_of_ble_eq_true rfl) (e_J_abs ?_)
      show Wp _ _ _ _ _ _ _ 283 [(0, .int p0), (1, .int p1), (2, .int p2)] [.int (F_J_abs I p1)] (HS I L X)
      refine w_goto (Ev.cm _) rfl ?_
      refine w_istore_n (ls2 := [(0, .int p0), (1, .int p1), (2, .int p2), (3, .int (F_J_abs I p1))]) (Ev.cm _) rfl rfl ?_
      refine w_iload_n (Ev.cm _) rfl rfl ?_
      refine w_if_ne (Ev.cm _) rfl (fun c10 => ?_) (fun c10 => ?_)
      · have c10 : ¬ (p2 = 0) := c10
        rw [if_neg c10] at q
        refine w_iload_n (Ev.cm _) rfl rfl ?_
        refine w_iload_n (Ev.cm _) rfl rfl ?_
        refine w_cstat (as := [.int p2]) (st := [.int (F_J_abs I p1)]) (Ev.cm _) rfl rfl rfl (Nat.le_of_ble_eq_true rfl) (Nat.le_of_ble_eq_true rfl) (e_J_abs ?_)
        show Wp _ _ _ _ _ _ _ 306 [(0, .int p0), (1, .int p1), (2, .int p2), (3, .int (F_J_abs I p1))] [.int (F_J_abs I p2), .int (F_J_abs I p1)] (HS I L X)
        refine w_iload_n (Ev.cm _) rfl rfl ?_
        refine w_isub (Ev.cm _) rfl ?_
        refine w_cstat (as := [.int (F_J_abs I p1), .int ((F_J_abs I p2) - (F_J_abs I p1))]) (st := []) (Ev.cm _) rfl rfl rfl (Nat.le_of_ble_eq_true rfl) (Nat.le_of_ble_eq_true rfl) (e_J_min ?_)
        show Wp _ _ _ _ _ _ _ 311 [(0, .int p0), (1, .int p1), (2, .int p2), (3, .int (F_J_abs I p1))] [.int (F_J_min I (F_J_abs I p1) ((F_J_abs I p2) - (F_J_abs I p1)))] (HS I L X)
        refine w_ireturn (Ev.cm _) rfl trivial rf0 ?_
        cases q
        exact g
      · have c10 : p2 = 0 := c10
        rw [if_pos c10] at q
        refine w_iload_n (Ev.cm _) rfl rfl ?_
        refine w_goto (Ev.cm _) rfl ?_
        refine w_ireturn (Ev.cm _) rfl trivial rf0 ?_
        cases q
        exact g
  · have c1_0 : ¬ p0 = 3 := sw_w c1_0 (by decide)
    have c1_1 : ¬ p0 = 4 := sw_w c1_1 (by decide)
    have c1_2 : ¬ p0 = 10 := sw_w c1_2 (by decide)
    have c1_3 : ¬ p0 = 11 := sw_w c1_3 (by decide)
    have c1_4 : ¬ p0 = 12 := sw_w c1_4 (by decide)
    have c1_5 : ¬ p0 = 14 := sw_w c1_5 (by decide)
    have c1_6 : ¬ p0 = 15 := sw_w c1_6 (by decide)
    have c1_7 : ¬ p0 = 16 := sw_w c1_7 (by decide)
    have c1_8 : ¬ p0 = 17 := sw_w c1_8 (by decide)
    have c1_9 : ¬ p0 = 45 := sw_w c1_9 (by decide)
    have c1 : p0 = 51 := sw_v c1 (by decide)
    rw [if_neg c1_0, if_neg c1_1, if_neg c1_2, if_neg c1_3, if_neg c1_4, if_neg c1_5, if_neg c1_6, if_neg c1_7, if_neg c1_8, if_neg c1_9, if_pos c1] at q
    show Wp _ _ _ _ _ _ _ 316 [(0, .int p0), (1, .int p1), (2, .int p2)] [] (HS I L X)
    refine w_iload_n (Ev.cm _) rfl rfl ?_
    refine w_iload_n (Ev.cm _) rfl rfl ?_
    refine w_ior (Ev.cm _) rfl ?_
    refine w_ireturn (Ev.cm _) rfl trivial rf0 ?_
    cases q
    exact g
  · have c1_0 : ¬ p0 = 3 := sw_w c1_0 (by decide)
    have c1_1 : ¬ p0 = 4 := sw_w c1_1 (by decide)
    have c1_2 : ¬ p0 = 10 := sw_w c1_2 (by decide)
    have c1_3 : ¬ p0 = 11 := sw_w c1_3 (by decide)
    have c1_4 : ¬ p0 = 12 := sw_w c1_4 (by decide)
    have c1_5 : ¬ p0 = 14 := sw_w c1_5 (by decide)
    have c1_6 : ¬ p0 = 15 := sw_w c1_6 (by decide)
    have c1_7 : ¬ p0 = 16 := sw_w c1_7 (by decide)
    have c1_8 : ¬ p0 = 17 := sw_w c1_8 (by decide)
    have c1_9 : ¬ p0 = 45 := sw_w c1_9 (by decide)
    have c1_10 : ¬ p0 = 51 := sw_w c1_10 (by decide)
    have c1 : p0 = 52 := sw_v c1 (by decide)
    rw [if_neg c1_0, if_neg c1_1, if_neg c1_2, if_neg c1_3, if_neg c1_4, if_neg c1_5, if_neg c1_6, if_neg c1_7, if_neg c1_8, if_neg c1_9, if_neg c1_10, if_pos c1] at q
    show Wp _ _ _ _ _ _ _ 312 [(0, .int p0), (1, .int p1), (2, .int p2)] [] (HS I L X)
    refine w_iload_n (Ev.cm _) rfl rfl ?_
    refine w_iload_n (Ev.cm _) rfl rfl ?_
    refine w_iand (Ev.cm _) rfl ?_
    refine w_ireturn (Ev.cm _) rfl trivial rf0 ?_
    cases q
    exact g
  · have c1_0 : ¬ p0 = 3 := sw_w c1_0 (by decide)
    have c1_1 : ¬ p0 = 4 := sw_w c1_1 (by decide)
    have c1_2 : ¬ p0 = 10 := sw_w c1_2 (by decide)
    have c1_3 : ¬ p0 = 11 := sw_w c1_3 (by decide)
    have c1_4 : ¬ p0 = 12 := sw_w c1_4 (by decide)
    have c1_5 : ¬ p0 = 14 := sw_w c1_5 (by decide)
    have c1_6 : ¬ p0 = 15 := sw_w c1_6 (by decide)
    have c1_7 : ¬ p0 = 16 := sw_w c1_7 (by decide)
    have c1_8 : ¬ p0 = 17 := sw_w c1_8 (by decide)
    have c1_9 : ¬ p0 = 45 := sw_w c1_9 (by decide)
    have c1_10 : ¬ p0 = 51 := sw_w c1_10 (by decide)
    have c1_11 : ¬ p0 = 52 := sw_w c1_11 (by decide)
    rw [if_neg c1_0, if_neg c1_1, if_neg c1_2, if_neg c1_3, if_neg c1_4, if_neg c1_5, if_neg c1_6, if_neg c1_7, if_neg c1_8, if_neg c1_9, if_neg c1_10, if_neg c1_11] at q
    show Wp _ _ _ _ _ _ _ 375 [(0, .int p0), (1, .int p1), (2, .int p2)] [] (HS I L X)
    refine w_iload_n (Ev.cm _) rfl rfl ?_
    refine w_iload_n (Ev.cm _) rfl rfl ?_
    refine w_icmp_eq (Ev.cm _) rfl (fun c11 => ?_) (fun c11 => ?_)
    · have c11 : p1 = p2 := c11
      rw [if_pos c11] at q
      refine w_iconst (Ev.cm _) rfl ?_
      refine w_ireturn (Ev.cm _) rfl trivial rf0 ?_
      cases q
      exact g
    · have c11 : ¬ (p1 = p2) := c11
      rw [if_neg c11] at q
      refine w_iconst (Ev.cm _) rfl ?_
      refine w_goto (Ev.cm _) rfl ?_
      refine w_ireturn (Ev.cm _) rfl trivial rf0 ?_
      cases q
      exact g
def LO_O_all_17 (fu : Nat) : Nat → Int32 → Int64 → Int32 → (Nat → Nat → Int32) → (Nat → Nat → Int64) → Option (Int64 × (Nat → Nat → Int32) × (Nat → Nat → Int64))
  | 0, _, _, _, _, _ => none
  | n + 1, x1, x2, x4, I, L => if 3 ≤ x4 then (some (x2, I, L)) else (if 0 ≤ ((x1 - 1) * 3) + x4 ∧ ((x1 - 1) * 3) + x4 < 18 then (LO_O_all_17 fu n x1 (x2 + (L 323 ((((x1 - 1) * 3) + x4).toNatClampNeg))) (x4 + 1) I L) else none)
set_option maxHeartbeats 20000000 in
set_option maxRecDepth 20000 in
theorem lo_O_all_17 {d fu n0 s0 : Nat} {X : Nat × (Nat → Int32)} {Q : PQ} {res : Int64 × (Nat → Nat → Int32) × (Nat → Nat → Int64)}  (g : Q (some (.long res.1)) (HS res.2.1 res.2.2 X)) : ∀ (n : Nat) (x1 : Int32) (x2 : Int64) (x4 : Int32) (I : Nat → Nat → Int32) (L : Nat → Nat → Int64), LO_O_all_17 fu n x1 x2 x4 I L = some res → Wp (Ev (d + 1)) cd_O_all (0, 0) (some .long) n0 s0 Q 17 [(0, .ref 322), (1, .int x1), (2, .long x2), (4, .int x4)] [] (HS I L X) := by
  intro n
  induction n with
  | zero => intro _ _ _ _ _ q; cases q
  | succ n ih =>
    intro x1 x2 x4 I L q
    unfold LO_O_all_17 at q
    refine w_iload (Ev.cm _) rfl rfl ?_
    refine w_iconst (Ev.cm _) rfl ?_
    refine w_icmp_ge (Ev.cm _) rfl (fun c1 => ?_) (fun c1 => ?_)
    · have c1 : 3 ≤ x4 := c1
      rw [if_pos c1] at q
      refine w_lload_n (Ev.cm _) rfl rfl ?_
      refine w_lreturn (Ev.cm _) rfl rfl rf0 ?_
      cases q
      exact g
    · have c1 : ¬ (3 ≤ x4) := c1
      rw [if_neg c1] at q
      refine w_lload_n (Ev.cm _) rfl rfl ?_
      refine w_aload_n (Ev.cm _) rfl rfl ?_
      refine w_getR (q := 323) (Ev.cm _) rfl (Nat.le_of_ble_eq_true rfl) rfl rfl ?_
      refine w_iload_n (Ev.cm _) rfl rfl ?_
      refine w_iconst (Ev.cm _) rfl ?_
      refine w_isub (Ev.cm _) rfl ?_
      refine w_iconst (Ev.cm _) rfl ?_
      refine w_imul (Ev.cm _) rfl ?_
      refine w_iload (Ev.cm _) rfl rfl ?_
      refine w_iadd (Ev.cm _) rfl ?_
      obtain ⟨b1, q⟩ := ois q
      refine w_lald (Ev.cm _) rfl (Nat.le_of_ble_eq_true rfl) rfl (show vp_in (((x1 - 1) * 3) + x4) 18 from vpI 18 (by decide) b1.1 b1.2) ?_
      refine w_ladd (Ev.cm _) rfl ?_
      refine w_lstore_n (ls2 := [(0, .ref 322), (1, .int x1), (2, .long (x2 + (L 323 ((((x1 - 1) * 3) + x4).toNatClampNeg)))), (4, .int x4)]) (Ev.cm _) rfl rfl ?_
      refine w_iinc (ls2 := [(0, .ref 322), (1, .int x1), (2, .long (x2 + (L 323 ((((x1 - 1) * 3) + x4).toNatClampNeg)))), (4, .int (x4 + 1))]) (Ev.cm _) rfl rfl rfl ?_
      refine w_goto (Ev.cm _) rfl ?_
      show Wp _ _ _ _ _ _ _ 17 [(0, .ref 322), (1, .int x1), (2, .long (x2 + (L 323 ((((x1 - 1) * 3) + x4).toNatClampNeg)))), (4, .int (x4 + 1))] [] (HS I L X)
      refine Wp.sub [0, 1, 2, 3] (ls2 := [(0, .ref 322), (1, .int x1), (2, .long (x2 + (L 323 ((((x1 - 1) * 3) + x4).toNatClampNeg)))), (4, .int (x4 + 1))]) rfl ?_
      exact ih _ _ _ _ _ q
def FO_O_all (fu : Nat) (p0 : Int32) (I : Nat → Nat → Int32) (L : Nat → Nat → Int64) : Option (Int64 × (Nat → Nat → Int32) × (Nat → Nat → Int64)) := if (1 : Int32) ≤ p0 ∧ p0 ≤ (6 : Int32) then (LO_O_all_17 fu fu p0 0 0 I L) else (some (1, I, L))
set_option maxHeartbeats 20000000 in
set_option maxRecDepth 20000 in
theorem eo_O_all {d fu : Nat} {p0 : Int32} {I : Nat → Nat → Int32} {L : Nat → Nat → Int64} {X : Nat × (Nat → Int32)} {Q : PQ} {res : Int64 × (Nat → Nat → Int32) × (Nat → Nat → Int64)}  (g : Q (some (.long res.1)) (HS res.2.1 res.2.2 X)) (q : FO_O_all fu p0 I L = some res) : Ev (d + 2) m_O_all [.ref 322, .int p0] (HS I L X) Q := by
  unfold FO_O_all at q
  refine ev_start (d := d + 1) rfl rfl rfl (Nat.le_of_ble_eq_true rfl) ?_
  show Wp (Ev (d + 1)) cd_O_all (0, 0) (some .long) _ _ Q 0 [(0, .ref 322), (1, .int p0)] [] (HS I L X)
  refine w_iload_n (Ev.cm _) rfl rfl ?_
  refine w_iconst (Ev.cm _) rfl ?_
  refine w_bipush (Ev.cm _) rfl ?_
  refine w_cnest (as := [.int p0, .int 1, .int 6]) (st := []) (Ev.cm _) rfl rfl rfl (Nat.le_of_ble_eq_true rfl) (Nat.le_of_ble_eq_true rfl) (x_within ?_)
  show Wp _ _ _ _ _ _ _ 7 [(0, .ref 322), (1, .int p0)] [.int (bI ((1 : Int32) ≤ p0 ∧ p0 ≤ (6 : Int32)))] (HS I L X)
  refine w_if_ne (Ev.cm _) rfl (fun c1 => ?_) (fun c1 => ?_)
  · have c1 : (1 : Int32) ≤ p0 ∧ p0 ≤ (6 : Int32) := bI_1.mp c1
    rw [if_pos c1] at q
    refine w_lconst (Ev.cm _) rfl ?_
    refine w_lstore_n (ls2 := [(0, .ref 322), (1, .int p0), (2, .long 0)]) (Ev.cm _) rfl rfl ?_
    refine w_iconst (Ev.cm _) rfl ?_
    refine w_istore (ls2 := [(0, .ref 322), (1, .int p0), (2, .long 0), (4, .int 0)]) (Ev.cm _) rfl rfl ?_
    show Wp _ _ _ _ _ _ _ 17 [(0, .ref 322), (1, .int p0), (2, .long 0), (4, .int 0)] [] (HS I L X)
    refine Wp.sub [0, 1, 2, 3] (ls2 := [(0, .ref 322), (1, .int p0), (2, .long 0), (4, .int 0)]) rfl ?_
    exact lo_O_all_17 g fu _ _ _ _ _ q
  · have c1 : ¬ ((1 : Int32) ≤ p0 ∧ p0 ≤ (6 : Int32)) := bI_0.mp c1
    rw [if_neg c1] at q
    refine w_lconst (Ev.cm _) rfl ?_
    refine w_lreturn (Ev.cm _) rfl rfl rf0 ?_
    cases q
    exact g
def FO_O_through (fu : Nat) (p0 : Int32) (p1 : Int32) (I : Nat → Nat → Int32) (L : Nat → Nat → Int64) : Option (Int64 × (Nat → Nat → Int32) × (Nat → Nat → Int64)) := if (0 : Int32) ≤ ((p0 * 3) + p1) ∧ ((p0 * 3) + p1) ≤ (17 : Int32) then (if 0 ≤ (p0 * 3) + p1 ∧ (p0 * 3) + p1 < 18 then (if 0 ≤ (p0 * 3) + p1 ∧ (p0 * 3) + p1 < 18 then (some ((L 323 (((p0 * 3) + p1).toNatClampNeg)) * (L 324 (((p0 * 3) + p1).toNatClampNeg)), I, L)) else none) else none) else (some (0, I, L))
set_option maxHeartbeats 20000000 in
set_option maxRecDepth 20000 in
theorem eo_O_through {d fu : Nat} {p0 : Int32} {p1 : Int32} {I : Nat → Nat → Int32} {L : Nat → Nat → Int64} {X : Nat × (Nat → Int32)} {Q : PQ} {res : Int64 × (Nat → Nat → Int32) × (Nat → Nat → Int64)}  (g : Q (some (.long res.1)) (HS res.2.1 res.2.2 X)) (q : FO_O_through fu p0 p1 I L = some res) : Ev (d + 2) m_O_through [.ref 322, .int p0, .int p1] (HS I L X) Q := by
  unfold FO_O_through at q
  refine ev_start (d := d + 1) rfl rfl rfl (Nat.le_of_ble_eq_true rfl) ?_
  show Wp (Ev (d + 1)) cd_O_through (0, 0) (some .long) _ _ Q 0 [(0, .ref 322), (1, .int p0), (2, .int p1)] [] (HS I L X)
  refine w_iload_n (Ev.cm _) rfl rfl ?_
  refine w_iconst (Ev.cm _) rfl ?_
  refine w_imul (Ev.cm _) rfl ?_
  refine w_iload_n (Ev.cm _) rfl rfl ?_
  refine w_iadd (Ev.cm _) rfl ?_
  refine w_istore_n (ls2 := [(0, .ref 322), (1, .int p0), (2, .int p1), (3, .int ((p0 * 3) + p1))]) (Ev.cm _) rfl rfl ?_
  refine w_iload_n (Ev.cm _) rfl rfl ?_
  refine w_iconst (Ev.cm _) rfl ?_
  refine w_bipush (Ev.cm _) rfl ?_
  refine w_cnest (as := [.int ((p0 * 3) + p1), .int 0, .int 17]) (st := []) (Ev.cm _) rfl rfl rfl (Nat.le_of_ble_eq_true rfl) (Nat.le_of_ble_eq_true rfl) (x_within ?_)
  show Wp _ _ _ _ _ _ _ 13 [(0, .ref 322), (1, .int p0), (2, .int p1), (3, .int ((p0 * 3) + p1))] [.int (bI ((0 : Int32) ≤ ((p0 * 3) + p1) ∧ ((p0 * 3) + p1) ≤ (17 : Int32)))] (HS I L X)
  refine w_if_eq (Ev.cm _) rfl (fun c1 => ?_) (fun c1 => ?_)
  · have c1 : ¬ ((0 : Int32) ≤ ((p0 * 3) + p1) ∧ ((p0 * 3) + p1) ≤ (17 : Int32)) := bI_0.mp c1
    rw [if_neg c1] at q
    refine w_lconst (Ev.cm _) rfl ?_
    refine w_lreturn (Ev.cm _) rfl rfl rf0 ?_
    cases q
    exact g
  · have c1 : (0 : Int32) ≤ ((p0 * 3) + p1) ∧ ((p0 * 3) + p1) ≤ (17 : Int32) := bI_1.mp c1
    rw [if_pos c1] at q
    refine w_aload_n (Ev.cm _) rfl rfl ?_
    refine w_getR (q := 323) (Ev.cm _) rfl (Nat.le_of_ble_eq_true rfl) rfl rfl ?_
    refine w_iload_n (Ev.cm _) rfl rfl ?_
    obtain ⟨b1, q⟩ := ois q
    refine w_lald (Ev.cm _) rfl (Nat.le_of_ble_eq_true rfl) rfl (show vp_in ((p0 * 3) + p1) 18 from vpI 18 (by decide) b1.1 b1.2) ?_
    refine w_aload_n (Ev.cm _) rfl rfl ?_
    refine w_getR (q := 324) (Ev.cm _) rfl (Nat.le_of_ble_eq_true rfl) rfl rfl ?_
    refine w_iload_n (Ev.cm _) rfl rfl ?_
    obtain ⟨b2, q⟩ := ois q
    refine w_lald (Ev.cm _) rfl (Nat.le_of_ble_eq_true rfl) rfl (show vp_in ((p0 * 3) + p1) 18 from vpI 18 (by decide) b2.1 b2.2) ?_
    refine w_lmul (Ev.cm _) rfl ?_
    refine w_goto (Ev.cm _) rfl ?_
    refine w_lreturn (Ev.cm _) rfl rfl rf0 ?_
    cases q
    exact g
def LO_O_comesTo_6 (fu : Nat) : Nat → Int32 → Int32 → Int64 → Int32 → (Nat → Nat → Int32) → (Nat → Nat → Int64) → Option (Int64 × (Nat → Nat → Int32) × (Nat → Nat → Int64))
  | 0, _, _, _, _, _, _ => none
  | n + 1, x2, x3, x4, x6, I, L => if 3 ≤ x6 then (some (x4, I, L)) else (if x2 < 0 then (some (x4, I, L)) else (if 6 ≤ x2 then (some (x4, I, L)) else (if 0 ≤ (x2 * 3) + x6 ∧ (x2 * 3) + x6 < 18 then (if 0 ≤ (x6 * 3) + x3 ∧ (x6 * 3) + x3 < 9 then (LO_O_comesTo_6 fu n x2 x3 (x4 + ((L 323 (((x2 * 3) + x6).toNatClampNeg)) * (((I 131 (((x6 * 3) + x3).toNatClampNeg)) : Int32).toInt64))) (x6 + 1) I L) else none) else none)))
set_option maxHeartbeats 20000000 in
set_option maxRecDepth 20000 in
theorem lo_O_comesTo_6 {d fu n0 s0 : Nat} {X : Nat × (Nat → Int32)} {Q : PQ} {res : Int64 × (Nat → Nat → Int32) × (Nat → Nat → Int64)}  (g : Q (some (.long res.1)) (HS res.2.1 res.2.2 X)) : ∀ (n : Nat) (x2 : Int32) (x3 : Int32) (x4 : Int64) (x6 : Int32) (I : Nat → Nat → Int32) (L : Nat → Nat → Int64), LO_O_comesTo_6 fu n x2 x3 x4 x6 I L = some res → Wp (Ev (d + 0)) cd_O_comesTo (0, 0) (some .long) n0 s0 Q 6 [(0, .ref 322), (1, .ref 1), (2, .int x2), (3, .int x3), (4, .long x4), (6, .int x6)] [] (HS I L X) := by
  intro n
  induction n with
  | zero => intro _ _ _ _ _ _ q; cases q
  | succ n ih =>
    intro x2 x3 x4 x6 I L q
    unfold LO_O_comesTo_6 at q
    refine w_iload (Ev.cm _) rfl rfl ?_
    refine w_iconst (Ev.cm _) rfl ?_
    refine w_icmp_ge (Ev.cm _) rfl (fun c1 => ?_) (fun c1 => ?_)
    · have c1 : 3 ≤ x6 := c1
      rw [if_pos c1] at q
      refine w_lload (Ev.cm _) rfl rfl ?_
      refine w_lreturn (Ev.cm _) rfl rfl rf0 ?_
      cases q
      exact g
    · have c1 : ¬ (3 ≤ x6) := c1
      rw [if_neg c1] at q
      refine w_iload_n (Ev.cm _) rfl rfl ?_
      refine w_if_lt (Ev.cm _) rfl (fun c2 => ?_) (fun c2 => ?_)
      · have c2 : x2 < 0 := c2
        rw [if_pos c2] at q
        refine w_lload (Ev.cm _) rfl rfl ?_
        refine w_lreturn (Ev.cm _) rfl rfl rf0 ?_
        cases q
        exact g
      · have c2 : ¬ (x2 < 0) := c2
        rw [if_neg c2] at q
        refine w_iload_n (Ev.cm _) rfl rfl ?_
        refine w_bipush (Ev.cm _) rfl ?_
        refine w_icmp_ge (Ev.cm _) rfl (fun c3 => ?_) (fun c3 => ?_)
        · have c3 : 6 ≤ x2 := c3
          rw [if_pos c3] at q
          refine w_lload (Ev.cm _) rfl rfl ?_
          refine w_lreturn (Ev.cm _) rfl rfl rf0 ?_
          cases q
          exact g
        · have c3 : ¬ (6 ≤ x2) := c3
          rw [if_neg c3] at q
          refine w_lload (Ev.cm _) rfl rfl ?_
          refine w_aload_n (Ev.cm _) rfl rfl ?_
          refine w_getR (q := 323) (Ev.cm _) rfl (Nat.le_of_ble_eq_true rfl) rfl rfl ?_
          refine w_iload_n (Ev.cm _) rfl rfl ?_
          refine w_iconst (Ev.cm _) rfl ?_
          refine w_imul (Ev.cm _) rfl ?_
          refine w_iload (Ev.cm _) rfl rfl ?_
          refine w_iadd (Ev.cm _) rfl ?_
          obtain ⟨b1, q⟩ := ois q
          refine w_lald (Ev.cm _) rfl (Nat.le_of_ble_eq_true rfl) rfl (show vp_in ((x2 * 3) + x6) 18 from vpI 18 (by decide) b1.1 b1.2) ?_
          refine w_aload_n (Ev.cm _) rfl rfl ?_
          refine w_getR (q := 131) (Ev.cm _) rfl (Nat.le_of_ble_eq_true rfl) rfl rfl ?_
          refine w_iload (Ev.cm _) rfl rfl ?_
          refine w_iconst (Ev.cm _) rfl ?_
          refine w_imul (Ev.cm _) rfl ?_
          refine w_iload_n (Ev.cm _) rfl rfl ?_
          refine w_iadd (Ev.cm _) rfl ?_
          obtain ⟨b2, q⟩ := ois q
          refine w_iald (Ev.cm _) rfl (Nat.le_of_ble_eq_true rfl) rfl (show vp_in ((x6 * 3) + x3) 9 from vpI 9 (by decide) b2.1 b2.2) ?_
          refine w_i2l (Ev.cm _) rfl ?_
          refine w_lmul (Ev.cm _) rfl ?_
          refine w_ladd (Ev.cm _) rfl ?_
          refine w_lstore (ls2 := [(0, .ref 322), (1, .ref 1), (2, .int x2), (3, .int x3), (4, .long (x4 + ((L 323 (((x2 * 3) + x6).toNatClampNeg)) * (((I 131 (((x6 * 3) + x3).toNatClampNeg)) : Int32).toInt64)))), (6, .int x6)]) (Ev.cm _) rfl rfl ?_
          refine w_iinc (ls2 := [(0, .ref 322), (1, .ref 1), (2, .int x2), (3, .int x3), (4, .long (x4 + ((L 323 (((x2 * 3) + x6).toNatClampNeg)) * (((I 131 (((x6 * 3) + x3).toNatClampNeg)) : Int32).toInt64)))), (6, .int (x6 + 1))]) (Ev.cm _) rfl rfl rfl ?_
          refine w_goto (Ev.cm _) rfl ?_
          show Wp _ _ _ _ _ _ _ 6 [(0, .ref 322), (1, .ref 1), (2, .int x2), (3, .int x3), (4, .long (x4 + ((L 323 (((x2 * 3) + x6).toNatClampNeg)) * (((I 131 (((x6 * 3) + x3).toNatClampNeg)) : Int32).toInt64)))), (6, .int (x6 + 1))] [] (HS I L X)
          refine Wp.sub [0, 1, 2, 3, 4, 5] (ls2 := [(0, .ref 322), (1, .ref 1), (2, .int x2), (3, .int x3), (4, .long (x4 + ((L 323 (((x2 * 3) + x6).toNatClampNeg)) * (((I 131 (((x6 * 3) + x3).toNatClampNeg)) : Int32).toInt64)))), (6, .int (x6 + 1))]) rfl ?_
          exact ih _ _ _ _ _ _ q
def FO_O_comesTo (fu : Nat) (p1 : Int32) (p2 : Int32) (I : Nat → Nat → Int32) (L : Nat → Nat → Int64) : Option (Int64 × (Nat → Nat → Int32) × (Nat → Nat → Int64)) := LO_O_comesTo_6 fu fu p1 p2 0 0 I L
set_option maxHeartbeats 20000000 in
set_option maxRecDepth 20000 in
theorem eo_O_comesTo {d fu : Nat} {p1 : Int32} {p2 : Int32} {I : Nat → Nat → Int32} {L : Nat → Nat → Int64} {X : Nat × (Nat → Int32)} {Q : PQ} {res : Int64 × (Nat → Nat → Int32) × (Nat → Nat → Int64)}  (g : Q (some (.long res.1)) (HS res.2.1 res.2.2 X)) (q : FO_O_comesTo fu p1 p2 I L = some res) : Ev (d + 1) m_O_comesTo [.ref 322, .ref 1, .int p1, .int p2] (HS I L X) Q := by
  unfold FO_O_comesTo at q
  refine ev_start (d := d + 0) rfl rfl rfl (Nat.le_of_ble_eq_true rfl) ?_
  show Wp (Ev (d + 0)) cd_O_comesTo (0, 0) (some .long) _ _ Q 0 [(0, .ref 322), (1, .ref 1), (2, .int p1), (3, .int p2)] [] (HS I L X)
  refine w_lconst (Ev.cm _) rfl ?_
  refine w_lstore (ls2 := [(0, .ref 322), (1, .ref 1), (2, .int p1), (3, .int p2), (4, .long 0)]) (Ev.cm _) rfl rfl ?_
  refine w_iconst (Ev.cm _) rfl ?_
  refine w_istore (ls2 := [(0, .ref 322), (1, .ref 1), (2, .int p1), (3, .int p2), (4, .long 0), (6, .int 0)]) (Ev.cm _) rfl rfl ?_
  show Wp _ _ _ _ _ _ _ 6 [(0, .ref 322), (1, .ref 1), (2, .int p1), (3, .int p2), (4, .long 0), (6, .int 0)] [] (HS I L X)
  refine Wp.sub [0, 1, 2, 3, 4, 5] (ls2 := [(0, .ref 322), (1, .ref 1), (2, .int p1), (3, .int p2), (4, .long 0), (6, .int 0)]) rfl ?_
  exact lo_O_comesTo_6 g fu _ _ _ _ _ _ q
def FO_O_soundWeight (fu : Nat) (p1 : Int32) (p2 : Int32) (I : Nat → Nat → Int32) (L : Nat → Nat → Int64) : Option (Int32 × (Nat → Nat → Int32) × (Nat → Nat → Int64)) := if (0 : Int32) ≤ p1 ∧ p1 ≤ (5 : Int32) then (if 0 ≤ p1 ∧ p1 < 6 then (if 0 ≤ (I 133 p1.toNatClampNeg) ∧ (I 133 p1.toNatClampNeg) ≤ 2 then (if 0 ≤ (p2 * 3) + (I 133 p1.toNatClampNeg) ∧ (p2 * 3) + (I 133 p1.toNatClampNeg) < 9 then (some (I 132 (((p2 * 3) + (I 133 p1.toNatClampNeg)).toNatClampNeg), I, L)) else none) else (some (0, I, L))) else none) else (if 0 ≤ (-1 : Int32) ∧ (-1 : Int32) ≤ 2 then (if 0 ≤ (p2 * 3) + (-1) ∧ (p2 * 3) + (-1) < 9 then (some (I 132 (((p2 * 3) + (-1)).toNatClampNeg), I, L)) else none) else (some (0, I, L)))
set_option maxHeartbeats 20000000 in
set_option maxRecDepth 20000 in
theorem eo_O_soundWeight {d fu : Nat} {p1 : Int32} {p2 : Int32} {I : Nat → Nat → Int32} {L : Nat → Nat → Int64} {X : Nat × (Nat → Int32)} {Q : PQ} {res : Int32 × (Nat → Nat → Int32) × (Nat → Nat → Int64)}  (g : Q (some (.int res.1)) (HS res.2.1 res.2.2 X)) (q : FO_O_soundWeight fu p1 p2 I L = some res) : Ev (d + 3) m_O_soundWeight [.ref 1, .int p1, .int p2] (HS I L X) Q := by
  unfold FO_O_soundWeight at q
  refine ev_start (d := d + 2) rfl rfl rfl (Nat.le_of_ble_eq_true rfl) ?_
  show Wp (Ev (d + 2)) cd_O_soundWeight (0, 0) (some .int) _ _ Q 0 [(0, .ref 1), (1, .int p1), (2, .int p2)] [] (HS I L X)
  refine w_iload_n (Ev.cm _) rfl rfl ?_
  refine w_iconst (Ev.cm _) rfl ?_
  refine w_iconst (Ev.cm _) rfl ?_
  refine w_cnest (as := [.int p1, .int 0, .int 5]) (st := []) (Ev.cm _) rfl rfl rfl (Nat.le_of_ble_eq_true rfl) (Nat.le_of_ble_eq_true rfl) (x_within ?_)
  show Wp _ _ _ _ _ _ _ 6 [(0, .ref 1), (1, .int p1), (2, .int p2)] [.int (bI ((0 : Int32) ≤ p1 ∧ p1 ≤ (5 : Int32)))] (HS I L X)
  refine w_if_eq (Ev.cm _) rfl (fun c1 => ?_) (fun c1 => ?_)
  · have c1 : ¬ ((0 : Int32) ≤ p1 ∧ p1 ≤ (5 : Int32)) := bI_0.mp c1
    rw [if_neg c1] at q
    refine w_iconst (Ev.cm _) rfl ?_
    refine w_istore_n (ls2 := [(0, .ref 1), (1, .int p1), (2, .int p2), (3, .int (-1))]) (Ev.cm _) rfl rfl ?_
    refine w_iload_n (Ev.cm _) rfl rfl ?_
    refine w_cnest (as := [.int (-1)]) (st := []) (Ev.cm _) rfl rfl rfl (Nat.le_of_ble_eq_true rfl) (Nat.le_of_ble_eq_true rfl) (x_isMood ?_)
    show Wp _ _ _ _ _ _ _ 24 [(0, .ref 1), (1, .int p1), (2, .int p2), (3, .int (-1))] [.int (bI (0 ≤ (-1 : Int32) ∧ (-1 : Int32) ≤ 2))] (HS I L X)
    refine w_if_eq (Ev.cm _) rfl (fun c2 => ?_) (fun c2 => ?_)
    · have c2 : ¬ (0 ≤ (-1 : Int32) ∧ (-1 : Int32) ≤ 2) := bI_0.mp c2
      rw [if_neg c2] at q
      refine w_iconst (Ev.cm _) rfl ?_
      refine w_ireturn (Ev.cm _) rfl trivial rf0 ?_
      cases q
      exact g
    · have c2 : 0 ≤ (-1 : Int32) ∧ (-1 : Int32) ≤ 2 := bI_1.mp c2
      rw [if_pos c2] at q
      refine w_aload_n (Ev.cm _) rfl rfl ?_
      refine w_getR (q := 132) (Ev.cm _) rfl (Nat.le_of_ble_eq_true rfl) rfl rfl ?_
      refine w_iload_n (Ev.cm _) rfl rfl ?_
      refine w_iconst (Ev.cm _) rfl ?_
      refine w_imul (Ev.cm _) rfl ?_
      refine w_iload_n (Ev.cm _) rfl rfl ?_
      refine w_iadd (Ev.cm _) rfl ?_
      obtain ⟨b1, q⟩ := ois q
      refine w_iald (Ev.cm _) rfl (Nat.le_of_ble_eq_true rfl) rfl (show vp_in ((p2 * 3) + (-1)) 9 from vpI 9 (by decide) b1.1 b1.2) ?_
      refine w_goto (Ev.cm _) rfl ?_
      refine w_ireturn (Ev.cm _) rfl trivial rf0 ?_
      cases q
      exact g
  · have c1 : (0 : Int32) ≤ p1 ∧ p1 ≤ (5 : Int32) := bI_1.mp c1
    rw [if_pos c1] at q
    refine w_aload_n (Ev.cm _) rfl rfl ?_
    refine w_getR (q := 133) (Ev.cm _) rfl (Nat.le_of_ble_eq_true rfl) rfl rfl ?_
    refine w_iload_n (Ev.cm _) rfl rfl ?_
    obtain ⟨b2, q⟩ := ois q
    refine w_iald (Ev.cm _) rfl (Nat.le_of_ble_eq_true rfl) rfl (show vp_in p1 6 from vpI 6 (by decide) b2.1 b2.2) ?_
    refine w_goto (Ev.cm _) rfl ?_
    refine w_istore_n (ls2 := [(0, .ref 1), (1, .int p1), (2, .int p2), (3, .int (I 133 p1.toNatClampNeg))]) (Ev.cm _) rfl rfl ?_
    refine w_iload_n (Ev.cm _) rfl rfl ?_
    refine w_cnest (as := [.int (I 133 p1.toNatClampNeg)]) (st := []) (Ev.cm _) rfl rfl rfl (Nat.le_of_ble_eq_true rfl) (Nat.le_of_ble_eq_true rfl) (x_isMood ?_)
    show Wp _ _ _ _ _ _ _ 24 [(0, .ref 1), (1, .int p1), (2, .int p2), (3, .int (I 133 p1.toNatClampNeg))] [.int (bI (0 ≤ (I 133 p1.toNatClampNeg) ∧ (I 133 p1.toNatClampNeg) ≤ 2))] (HS I L X)
    refine w_if_eq (Ev.cm _) rfl (fun c3 => ?_) (fun c3 => ?_)
    · have c3 : ¬ (0 ≤ (I 133 p1.toNatClampNeg) ∧ (I 133 p1.toNatClampNeg) ≤ 2) := bI_0.mp c3
      rw [if_neg c3] at q
      refine w_iconst (Ev.cm _) rfl ?_
      refine w_ireturn (Ev.cm _) rfl trivial rf0 ?_
      cases q
      exact g
    · have c3 : 0 ≤ (I 133 p1.toNatClampNeg) ∧ (I 133 p1.toNatClampNeg) ≤ 2 := bI_1.mp c3
      rw [if_pos c3] at q
      refine w_aload_n (Ev.cm _) rfl rfl ?_
      refine w_getR (q := 132) (Ev.cm _) rfl (Nat.le_of_ble_eq_true rfl) rfl rfl ?_
      refine w_iload_n (Ev.cm _) rfl rfl ?_
      refine w_iconst (Ev.cm _) rfl ?_
      refine w_imul (Ev.cm _) rfl ?_
      refine w_iload_n (Ev.cm _) rfl rfl ?_
      refine w_iadd (Ev.cm _) rfl ?_
      obtain ⟨b3, q⟩ := ois q
      refine w_iald (Ev.cm _) rfl (Nat.le_of_ble_eq_true rfl) rfl (show vp_in ((p2 * 3) + (I 133 p1.toNatClampNeg)) 9 from vpI 9 (by decide) b3.1 b3.2) ?_
      refine w_goto (Ev.cm _) rfl ?_
      refine w_ireturn (Ev.cm _) rfl trivial rf0 ?_
      cases q
      exact g
def FO_R_addToken (fu : Nat) (p0 : Int32) (p1 : Int32) (p2 : Int32) (I : Nat → Nat → Int32) (L : Nat → Nat → Int64) : Option (Unit × (Nat → Nat → Int32) × (Nat → Nat → Int64)) := if (0 : Int32) ≤ (I 307 7) ∧ (I 307 7) ≤ (300 : Int32) then (if 0 ≤ I 307 7 ∧ I 307 7 < 301 then (if 0 ≤ I 307 7 ∧ I 307 7 < 301 then (if 0 ≤ I 307 7 ∧ I 307 7 < 301 then (some ((), sI (sI (sI (sI I 316 ((I 307 7).toNatClampNeg) p0) 318 ((I 307 7).toNatClampNeg) p1) 317 ((I 307 7).toNatClampNeg) p2) 307 7 ((I 307 7) + 1), L)) else none) else none) else none) else (some ((), I, L))
set_option maxHeartbeats 20000000 in
set_option maxRecDepth 20000 in
theorem eo_R_addToken {d fu : Nat} {p0 : Int32} {p1 : Int32} {p2 : Int32} {I : Nat → Nat → Int32} {L : Nat → Nat → Int64} {X : Nat × (Nat → Int32)} {Q : PQ} {res : Unit × (Nat → Nat → Int32) × (Nat → Nat → Int64)}  (g : Q none (HS res.2.1 res.2.2 X)) (q : FO_R_addToken fu p0 p1 p2 I L = some res) : Ev (d + 2) m_R_addToken [.ref 307, .int p0, .int p1, .int p2] (HS I L X) Q := by
  unfold FO_R_addToken at q
  refine ev_start (d := d + 1) rfl rfl rfl (Nat.le_of_ble_eq_true rfl) ?_
  show Wp (Ev (d + 1)) cd_R_addToken (0, 0) none _ _ Q 0 [(0, .ref 307), (1, .int p0), (2, .int p1), (3, .int p2)] [] (HS I L X)
  refine w_aload_n (Ev.cm _) rfl rfl ?_
  refine w_getI (Ev.cm _) rfl (Nat.le_of_ble_eq_true rfl) rfl ?_
  refine w_iconst (Ev.cm _) rfl ?_
  refine w_sipush (Ev.cm _) rfl ?_
  refine w_cnest (as := [.int (I 307 7), .int 0, .int 300]) (st := []) (Ev.cm _) rfl rfl rfl (Nat.le_of_ble_eq_true rfl) (Nat.le_of_ble_eq_true rfl) (x_within ?_)
  show Wp _ _ _ _ _ _ _ 11 [(0, .ref 307), (1, .int p0), (2, .int p1), (3, .int p2)] [.int (bI ((0 : Int32) ≤ (I 307 7) ∧ (I 307 7) ≤ (300 : Int32)))] (HS I L X)
  refine w_if_eq (Ev.cm _) rfl (fun c1 => ?_) (fun c1 => ?_)
  · have c1 : ¬ ((0 : Int32) ≤ (I 307 7) ∧ (I 307 7) ≤ (300 : Int32)) := bI_0.mp c1
    rw [if_neg c1] at q
    refine w_return (Ev.cm _) rfl rfl rf0 ?_
    cases q
    exact g
  · have c1 : (0 : Int32) ≤ (I 307 7) ∧ (I 307 7) ≤ (300 : Int32) := bI_1.mp c1
    rw [if_pos c1] at q
    refine w_aload_n (Ev.cm _) rfl rfl ?_
    refine w_getR (q := 316) (Ev.cm _) rfl (Nat.le_of_ble_eq_true rfl) rfl rfl ?_
    refine w_aload_n (Ev.cm _) rfl rfl ?_
    refine w_getI (Ev.cm _) rfl (Nat.le_of_ble_eq_true rfl) rfl ?_
    refine w_iload_n (Ev.cm _) rfl rfl ?_
    obtain ⟨b1, q⟩ := ois q
    refine w_iast (Ev.cm _) rfl (Nat.le_of_ble_eq_true rfl) rfl (show vp_in (I 307 7) 301 from vpI 301 (by decide) b1.1 b1.2) ?_
    refine w_aload_n (Ev.cm _) rfl rfl ?_
    refine w_getR (q := 318) (Ev.cm _) rfl (Nat.le_of_ble_eq_true rfl) rfl rfl ?_
    refine w_aload_n (Ev.cm _) rfl rfl ?_
    refine w_getI (Ev.cm _) rfl (Nat.le_of_ble_eq_true rfl) rfl ?_
    refine w_iload_n (Ev.cm _) rfl rfl ?_
    obtain ⟨b2, q⟩ := ois q
    refine w_iast (Ev.cm _) rfl (Nat.le_of_ble_eq_true rfl) rfl (show vp_in (I 307 7) 301 from vpI 301 (by decide) b2.1 b2.2) ?_
    refine w_aload_n (Ev.cm _) rfl rfl ?_
    refine w_getR (q := 317) (Ev.cm _) rfl (Nat.le_of_ble_eq_true rfl) rfl rfl ?_
    refine w_aload_n (Ev.cm _) rfl rfl ?_
    refine w_getI (Ev.cm _) rfl (Nat.le_of_ble_eq_true rfl) rfl ?_
    refine w_iload_n (Ev.cm _) rfl rfl ?_
    obtain ⟨b3, q⟩ := ois q
    refine w_iast (Ev.cm _) rfl (Nat.le_of_ble_eq_true rfl) rfl (show vp_in (I 307 7) 301 from vpI 301 (by decide) b3.1 b3.2) ?_
    refine w_aload_n (Ev.cm _) rfl rfl ?_
    refine w_dup (Ev.cm _) rfl rfl ?_
    refine w_getI (Ev.cm _) rfl (Nat.le_of_ble_eq_true rfl) rfl ?_
    refine w_iconst (Ev.cm _) rfl ?_
    refine w_iadd (Ev.cm _) rfl ?_
    refine w_putI (Ev.cm _) rfl (Nat.le_of_ble_eq_true rfl) rfl ?_
    refine w_return (Ev.cm _) rfl rfl rf0 ?_
    cases q
    exact g
def FO_R_isLetter (fu : Nat) (p0 : Int32) (I : Nat → Nat → Int32) (L : Nat → Nat → Int64) : Option (Int32 × (Nat → Nat → Int32) × (Nat → Nat → Int64)) := if (97 : Int32) ≤ p0 ∧ p0 ≤ (122 : Int32) then (some (1, I, L)) else (if (65 : Int32) ≤ p0 ∧ p0 ≤ (90 : Int32) then (some (1, I, L)) else (some (0, I, L)))
set_option maxHeartbeats 20000000 in
set_option maxRecDepth 20000 in
theorem eo_R_isLetter {d fu : Nat} {p0 : Int32} {I : Nat → Nat → Int32} {L : Nat → Nat → Int64} {X : Nat × (Nat → Int32)} {Q : PQ} {res : Int32 × (Nat → Nat → Int32) × (Nat → Nat → Int64)}  (g : Q (some (.int res.1)) (HS res.2.1 res.2.2 X)) (q : FO_R_isLetter fu p0 I L = some res) : Ev (d + 2) m_R_isLetter [.int p0] (HS I L X) Q := by
  unfold FO_R_isLetter at q
  refine ev_start (d := d + 1) rfl rfl rfl (Nat.le_of_ble_eq_true rfl) ?_
  show Wp (Ev (d + 1)) cd_R_isLetter (0, 0) (some .boolean) _ _ Q 0 [(0, .int p0)] [] (HS I L X)
  refine w_iload_n (Ev.cm _) rfl rfl ?_
  refine w_bipush (Ev.cm _) rfl ?_
  refine w_bipush (Ev.cm _) rfl ?_
  refine w_cnest (as := [.int p0, .int 97, .int 122]) (st := []) (Ev.cm _) rfl rfl rfl (Nat.le_of_ble_eq_true rfl) (Nat.le_of_ble_eq_true rfl) (x_within ?_)
  show Wp _ _ _ _ _ _ _ 8 [(0, .int p0)] [.int (bI ((97 : Int32) ≤ p0 ∧ p0 ≤ (122 : Int32)))] (HS I L X)
  refine w_if_ne (Ev.cm _) rfl (fun c1 => ?_) (fun c1 => ?_)
  · have c1 : (97 : Int32) ≤ p0 ∧ p0 ≤ (122 : Int32) := bI_1.mp c1
    rw [if_pos c1] at q
    refine w_iconst (Ev.cm _) rfl ?_
    refine w_goto (Ev.cm _) rfl ?_
    refine w_ireturn (Ev.cm _) rfl (by first | exact rok_0 | exact rok_1 | exact rok_b) rf0 ?_
    cases q
    exact g
  · have c1 : ¬ ((97 : Int32) ≤ p0 ∧ p0 ≤ (122 : Int32)) := bI_0.mp c1
    rw [if_neg c1] at q
    refine w_iload_n (Ev.cm _) rfl rfl ?_
    refine w_bipush (Ev.cm _) rfl ?_
    refine w_bipush (Ev.cm _) rfl ?_
    refine w_cnest (as := [.int p0, .int 65, .int 90]) (st := []) (Ev.cm _) rfl rfl rfl (Nat.le_of_ble_eq_true rfl) (Nat.le_of_ble_eq_true rfl) (x_within ?_)
    show Wp _ _ _ _ _ _ _ 19 [(0, .int p0)] [.int (bI ((65 : Int32) ≤ p0 ∧ p0 ≤ (90 : Int32)))] (HS I L X)
    refine w_if_eq (Ev.cm _) rfl (fun c2 => ?_) (fun c2 => ?_)
    · have c2 : ¬ ((65 : Int32) ≤ p0 ∧ p0 ≤ (90 : Int32)) := bI_0.mp c2
      rw [if_neg c2] at q
      refine w_iconst (Ev.cm _) rfl ?_
      refine w_ireturn (Ev.cm _) rfl (by first | exact rok_0 | exact rok_1 | exact rok_b) rf0 ?_
      cases q
      exact g
    · have c2 : (65 : Int32) ≤ p0 ∧ p0 ≤ (90 : Int32) := bI_1.mp c2
      rw [if_pos c2] at q
      refine w_iconst (Ev.cm _) rfl ?_
      refine w_goto (Ev.cm _) rfl ?_
      refine w_ireturn (Ev.cm _) rfl (by first | exact rok_0 | exact rok_1 | exact rok_b) rf0 ?_
      cases q
      exact g
def FO_R_isDigit (fu : Nat) (p0 : Int32) (I : Nat → Nat → Int32) (L : Nat → Nat → Int64) : Option (Int32 × (Nat → Nat → Int32) × (Nat → Nat → Int64)) := some (bI ((48 : Int32) ≤ p0 ∧ p0 ≤ (57 : Int32)), I, L)
set_option maxHeartbeats 20000000 in
set_option maxRecDepth 20000 in
theorem eo_R_isDigit {d fu : Nat} {p0 : Int32} {I : Nat → Nat → Int32} {L : Nat → Nat → Int64} {X : Nat × (Nat → Int32)} {Q : PQ} {res : Int32 × (Nat → Nat → Int32) × (Nat → Nat → Int64)}  (g : Q (some (.int res.1)) (HS res.2.1 res.2.2 X)) (q : FO_R_isDigit fu p0 I L = some res) : Ev (d + 2) m_R_isDigit [.int p0] (HS I L X) Q := by
  unfold FO_R_isDigit at q
  refine ev_start (d := d + 1) rfl rfl rfl (Nat.le_of_ble_eq_true rfl) ?_
  show Wp (Ev (d + 1)) cd_R_isDigit (0, 0) (some .boolean) _ _ Q 0 [(0, .int p0)] [] (HS I L X)
  refine w_iload_n (Ev.cm _) rfl rfl ?_
  refine w_bipush (Ev.cm _) rfl ?_
  refine w_bipush (Ev.cm _) rfl ?_
  refine w_cnest (as := [.int p0, .int 48, .int 57]) (st := []) (Ev.cm _) rfl rfl rfl (Nat.le_of_ble_eq_true rfl) (Nat.le_of_ble_eq_true rfl) (x_within ?_)
  show Wp _ _ _ _ _ _ _ 8 [(0, .int p0)] [.int (bI ((48 : Int32) ≤ p0 ∧ p0 ≤ (57 : Int32)))] (HS I L X)
  refine w_ireturn (Ev.cm _) rfl (by first | exact rok_0 | exact rok_1 | exact rok_b) rf0 ?_
  cases q
  exact g
def LO_R_behindRun_3 (fu : Nat) : Nat → Int32 → Int32 → Int32 → Int32 → (Nat → Nat → Int32) → (Nat → Nat → Int64) → Option (Int32 × (Nat → Nat → Int32) × (Nat → Nat → Int64))
  | 0, _, _, _, _, _, _ => none
  | n + 1, x1, x2, x3, x4, I, L => if x2 ≤ x4 then (some (x2, I, L)) else (if x3 = 0 then (if 0 ≤ x4 ∧ x4 < 300 then ((FO_R_isDigit fu (I 306 x4.toNatClampNeg) I L).bind (fun u2 => let r2 := u2.1; let I2 := u2.2.1; let L2 := u2.2.2; if r2 = 0 then (some (x4, I2, L2)) else (LO_R_behindRun_3 fu n x1 x2 x3 (x4 + 1) I2 L2))) else none) else (if 0 ≤ x4 ∧ x4 < 300 then ((FO_R_isLetter fu (I 306 x4.toNatClampNeg) I L).bind (fun u4 => let r4 := u4.1; let I4 := u4.2.1; let L4 := u4.2.2; if r4 = 0 then (some (x4, I4, L4)) else (LO_R_behindRun_3 fu n x1 x2 x3 (x4 + 1) I4 L4))) else none))
set_option maxHeartbeats 20000000 in
set_option maxRecDepth 20000 in
theorem lo_R_behindRun_3 {d fu n0 s0 : Nat} {X : Nat × (Nat → Int32)} {Q : PQ} {res : Int32 × (Nat → Nat → Int32) × (Nat → Nat → Int64)}  (g : Q (some (.int res.1)) (HS res.2.1 res.2.2 X)) : ∀ (n : Nat) (x1 : Int32) (x2 : Int32) (x3 : Int32) (x4 : Int32) (I : Nat → Nat → Int32) (L : Nat → Nat → Int64), LO_R_behindRun_3 fu n x1 x2 x3 x4 I L = some res → Wp (Ev (d + 2)) cd_R_behindRun (0, 0) (some .int) n0 s0 Q 3 [(0, .ref 306), (1, .int x1), (2, .int x2), (3, .int x3), (4, .int x4)] [] (HS I L X) := by
  intro n
  induction n with
  | zero => intro _ _ _ _ _ _ q; cases q
  | succ n ih =>
    intro x1 x2 x3 x4 I L q
    unfold LO_R_behindRun_3 at q
    refine w_iload (Ev.cm _) rfl rfl ?_
    refine w_iload_n (Ev.cm _) rfl rfl ?_
    refine w_icmp_ge (Ev.cm _) rfl (fun c1 => ?_) (fun c1 => ?_)
    · have c1 : x2 ≤ x4 := c1
      rw [if_pos c1] at q
      refine w_iload_n (Ev.cm _) rfl rfl ?_
      refine w_ireturn (Ev.cm _) rfl trivial rf0 ?_
      cases q
      exact g
    · have c1 : ¬ (x2 ≤ x4) := c1
      rw [if_neg c1] at q
      refine w_iload_n (Ev.cm _) rfl rfl ?_
      refine w_if_eq (Ev.cm _) rfl (fun c2 => ?_) (fun c2 => ?_)
      · have c2 : x3 = 0 := c2
        rw [if_pos c2] at q
        refine w_aload_n (Ev.cm _) rfl rfl ?_
        refine w_iload (Ev.cm _) rfl rfl ?_
        obtain ⟨b1, q⟩ := ois q
        refine w_iald (Ev.cm _) rfl (Nat.le_of_ble_eq_true rfl) rfl (show vp_in x4 300 from vpI 300 (by decide) b1.1 b1.2) ?_
        obtain ⟨⟨r2, I2, L2⟩, e2, q⟩ := obs q
        dsimp only at q
        refine w_cstat (as := [.int (I 306 x4.toNatClampNeg)]) (st := []) (Ev.cm _) rfl rfl rfl (Nat.le_of_ble_eq_true rfl) (Nat.le_of_ble_eq_true rfl) (eo_R_isDigit (g := ?_) e2)
        show Wp _ _ _ _ _ _ _ 33 [(0, .ref 306), (1, .int x1), (2, .int x2), (3, .int x3), (4, .int x4)] [.int r2] (HS I2 L2 X)
        refine w_if_ne (Ev.cm _) rfl (fun c3 => ?_) (fun c3 => ?_)
        · have c3 : ¬ (r2 = 0) := c3
          rw [if_neg c3] at q
          refine w_iinc (ls2 := [(0, .ref 306), (1, .int x1), (2, .int x2), (3, .int x3), (4, .int (x4 + 1))]) (Ev.cm _) rfl rfl rfl ?_
          refine w_goto (Ev.cm _) rfl ?_
          show Wp _ _ _ _ _ _ _ 3 [(0, .ref 306), (1, .int x1), (2, .int x2), (3, .int x3), (4, .int (x4 + 1))] [] (HS I2 L2 X)
          refine Wp.sub [0, 1, 2, 3, 4] (ls2 := [(0, .ref 306), (1, .int x1), (2, .int x2), (3, .int x3), (4, .int (x4 + 1))]) rfl ?_
          exact ih _ _ _ _ _ _ q
        · have c3 : r2 = 0 := c3
          rw [if_pos c3] at q
          refine w_iload (Ev.cm _) rfl rfl ?_
          refine w_ireturn (Ev.cm _) rfl trivial rf0 ?_
          cases q
          exact g
      · have c2 : ¬ (x3 = 0) := c2
        rw [if_neg c2] at q
        refine w_aload_n (Ev.cm _) rfl rfl ?_
        refine w_iload (Ev.cm _) rfl rfl ?_
        obtain ⟨b3, q⟩ := ois q
        refine w_iald (Ev.cm _) rfl (Nat.le_of_ble_eq_true rfl) rfl (show vp_in x4 300 from vpI 300 (by decide) b3.1 b3.2) ?_
        obtain ⟨⟨r4, I4, L4⟩, e4, q⟩ := obs q
        dsimp only at q
        refine w_cstat (as := [.int (I 306 x4.toNatClampNeg)]) (st := []) (Ev.cm _) rfl rfl rfl (Nat.le_of_ble_eq_true rfl) (Nat.le_of_ble_eq_true rfl) (eo_R_isLetter (g := ?_) e4)
        show Wp _ _ _ _ _ _ _ 20 [(0, .ref 306), (1, .int x1), (2, .int x2), (3, .int x3), (4, .int x4)] [.int r4] (HS I4 L4 X)
        refine w_if_eq (Ev.cm _) rfl (fun c4 => ?_) (fun c4 => ?_)
        · have c4 : r4 = 0 := c4
          rw [if_pos c4] at q
          refine w_iload (Ev.cm _) rfl rfl ?_
          refine w_ireturn (Ev.cm _) rfl trivial rf0 ?_
          cases q
          exact g
        · have c4 : ¬ (r4 = 0) := c4
          rw [if_neg c4] at q
          refine w_goto (Ev.cm _) rfl ?_
          refine w_iinc (ls2 := [(0, .ref 306), (1, .int x1), (2, .int x2), (3, .int x3), (4, .int (x4 + 1))]) (Ev.cm _) rfl rfl rfl ?_
          refine w_goto (Ev.cm _) rfl ?_
          show Wp _ _ _ _ _ _ _ 3 [(0, .ref 306), (1, .int x1), (2, .int x2), (3, .int x3), (4, .int (x4 + 1))] [] (HS I4 L4 X)
          refine Wp.sub [0, 1, 2, 3, 4] (ls2 := [(0, .ref 306), (1, .int x1), (2, .int x2), (3, .int x3), (4, .int (x4 + 1))]) rfl ?_
          exact ih _ _ _ _ _ _ q
def FO_R_behindRun (fu : Nat) (p1 : Int32) (p2 : Int32) (p3 : Int32) (I : Nat → Nat → Int32) (L : Nat → Nat → Int64) : Option (Int32 × (Nat → Nat → Int32) × (Nat → Nat → Int64)) := LO_R_behindRun_3 fu fu p1 p2 p3 p1 I L
set_option maxHeartbeats 20000000 in
set_option maxRecDepth 20000 in
theorem eo_R_behindRun {d fu : Nat} {p1 : Int32} {p2 : Int32} {p3 : Int32} {I : Nat → Nat → Int32} {L : Nat → Nat → Int64} {X : Nat × (Nat → Int32)} {Q : PQ} {res : Int32 × (Nat → Nat → Int32) × (Nat → Nat → Int64)}  (g : Q (some (.int res.1)) (HS res.2.1 res.2.2 X)) (q : FO_R_behindRun fu p1 p2 p3 I L = some res) : Ev (d + 3) m_R_behindRun [.ref 306, .int p1, .int p2, .int p3] (HS I L X) Q := by
  unfold FO_R_behindRun at q
  refine ev_start (d := d + 2) rfl rfl rfl (Nat.le_of_ble_eq_true rfl) ?_
  show Wp (Ev (d + 2)) cd_R_behindRun (0, 0) (some .int) _ _ Q 0 [(0, .ref 306), (1, .int p1), (2, .int p2), (3, .int p3)] [] (HS I L X)
  refine w_iload_n (Ev.cm _) rfl rfl ?_
  refine w_istore (ls2 := [(0, .ref 306), (1, .int p1), (2, .int p2), (3, .int p3), (4, .int p1)]) (Ev.cm _) rfl rfl ?_
  show Wp _ _ _ _ _ _ _ 3 [(0, .ref 306), (1, .int p1), (2, .int p2), (3, .int p3), (4, .int p1)] [] (HS I L X)
  refine Wp.sub [0, 1, 2, 3, 4] (ls2 := [(0, .ref 306), (1, .int p1), (2, .int p2), (3, .int p3), (4, .int p1)]) rfl ?_
  exact lo_R_behindRun_3 g fu _ _ _ _ _ _ q
def LO_R_numberOf_5 (fu : Nat) : Nat → Int32 → Int32 → Int32 → Int32 → (Nat → Nat → Int32) → (Nat → Nat → Int64) → Option (Int32 × (Nat → Nat → Int32) × (Nat → Nat → Int64))
  | 0, _, _, _, _, _, _ => none
  | n + 1, x1, x2, x3, x4, I, L => if x2 ≤ x4 then (some (x3, I, L)) else (if 0 ≤ x4 ∧ x4 < 300 then (LO_R_numberOf_5 fu n x1 x2 (F_J_min I (((x3 * 10) + (I 306 x4.toNatClampNeg)) - 48) 10000) (x4 + 1) I L) else none)
set_option maxHeartbeats 20000000 in
set_option maxRecDepth 20000 in
theorem lo_R_numberOf_5 {d fu n0 s0 : Nat} {X : Nat × (Nat → Int32)} {Q : PQ} {res : Int32 × (Nat → Nat → Int32) × (Nat → Nat → Int64)}  (g : Q (some (.int res.1)) (HS res.2.1 res.2.2 X)) : ∀ (n : Nat) (x1 : Int32) (x2 : Int32) (x3 : Int32) (x4 : Int32) (I : Nat → Nat → Int32) (L : Nat → Nat → Int64), LO_R_numberOf_5 fu n x1 x2 x3 x4 I L = some res → Wp (Ev (d + 1)) cd_R_numberOf (0, 0) (some .int) n0 s0 Q 5 [(0, .ref 306), (1, .int x1), (2, .int x2), (3, .int x3), (4, .int x4)] [] (HS I L X) := by
  intro n
  induction n with
  | zero => intro _ _ _ _ _ _ q; cases q
  | succ n ih =>
    intro x1 x2 x3 x4 I L q
    unfold LO_R_numberOf_5 at q
    refine w_iload (Ev.cm _) rfl rfl ?_
    refine w_iload_n (Ev.cm _) rfl rfl ?_
    refine w_icmp_ge (Ev.cm _) rfl (fun c1 => ?_) (fun c1 => ?_)
    · have c1 : x2 ≤ x4 := c1
      rw [if_pos c1] at q
      refine w_iload_n (Ev.cm _) rfl rfl ?_
      refine w_ireturn (Ev.cm _) rfl trivial rf0 ?_
      cases q
      exact g
    · have c1 : ¬ (x2 ≤ x4) := c1
      rw [if_neg c1] at q
      refine w_iload_n (Ev.cm _) rfl rfl ?_
      refine w_bipush (Ev.cm _) rfl ?_
      refine w_imul (Ev.cm _) rfl ?_
      refine w_aload_n (Ev.cm _) rfl rfl ?_
      refine w_iload (Ev.cm _) rfl rfl ?_
      obtain ⟨b1, q⟩ := ois q
      refine w_iald (Ev.cm _) rfl (Nat.le_of_ble_eq_true rfl) rfl (show vp_in x4 300 from vpI 300 (by decide) b1.1 b1.2) ?_
      refine w_iadd (Ev.cm _) rfl ?_
      refine w_bipush (Ev.cm _) rfl ?_
      refine w_isub (Ev.cm _) rfl ?_
      refine w_sipush (Ev.cm _) rfl ?_
      refine w_cstat (as := [.int (((x3 * 10) + (I 306 x4.toNatClampNeg)) - 48), .int 10000]) (st := []) (Ev.cm _) rfl rfl rfl (Nat.le_of_ble_eq_true rfl) (Nat.le_of_ble_eq_true rfl) (e_J_min ?_)
      show Wp _ _ _ _ _ _ _ 29 [(0, .ref 306), (1, .int x1), (2, .int x2), (3, .int x3), (4, .int x4)] [.int (F_J_min I (((x3 * 10) + (I 306 x4.toNatClampNeg)) - 48) 10000)] (HS I L X)
      refine w_istore_n (ls2 := [(0, .ref 306), (1, .int x1), (2, .int x2), (3, .int (F_J_min I (((x3 * 10) + (I 306 x4.toNatClampNeg)) - 48) 10000)), (4, .int x4)]) (Ev.cm _) rfl rfl ?_
      refine w_iinc (ls2 := [(0, .ref 306), (1, .int x1), (2, .int x2), (3, .int (F_J_min I (((x3 * 10) + (I 306 x4.toNatClampNeg)) - 48) 10000)), (4, .int (x4 + 1))]) (Ev.cm _) rfl rfl rfl ?_
      refine w_goto (Ev.cm _) rfl ?_
      show Wp _ _ _ _ _ _ _ 5 [(0, .ref 306), (1, .int x1), (2, .int x2), (3, .int (F_J_min I (((x3 * 10) + (I 306 x4.toNatClampNeg)) - 48) 10000)), (4, .int (x4 + 1))] [] (HS I L X)
      refine Wp.sub [0, 1, 2, 3, 4] (ls2 := [(0, .ref 306), (1, .int x1), (2, .int x2), (3, .int (F_J_min I (((x3 * 10) + (I 306 x4.toNatClampNeg)) - 48) 10000)), (4, .int (x4 + 1))]) rfl ?_
      exact ih _ _ _ _ _ _ q
def FO_R_numberOf (fu : Nat) (p1 : Int32) (p2 : Int32) (I : Nat → Nat → Int32) (L : Nat → Nat → Int64) : Option (Int32 × (Nat → Nat → Int32) × (Nat → Nat → Int64)) := LO_R_numberOf_5 fu fu p1 p2 0 p1 I L
set_option maxHeartbeats 20000000 in
set_option maxRecDepth 20000 in
theorem eo_R_numberOf {d fu : Nat} {p1 : Int32} {p2 : Int32} {I : Nat → Nat → Int32} {L : Nat → Nat → Int64} {X : Nat × (Nat → Int32)} {Q : PQ} {res : Int32 × (Nat → Nat → Int32) × (Nat → Nat → Int64)}  (g : Q (some (.int res.1)) (HS res.2.1 res.2.2 X)) (q : FO_R_numberOf fu p1 p2 I L = some res) : Ev (d + 2) m_R_numberOf [.ref 306, .int p1, .int p2] (HS I L X) Q := by
  unfold FO_R_numberOf at q
  refine ev_start (d := d + 1) rfl rfl rfl (Nat.le_of_ble_eq_true rfl) ?_
  show Wp (Ev (d + 1)) cd_R_numberOf (0, 0) (some .int) _ _ Q 0 [(0, .ref 306), (1, .int p1), (2, .int p2)] [] (HS I L X)
  refine w_iconst (Ev.cm _) rfl ?_
  refine w_istore_n (ls2 := [(0, .ref 306), (1, .int p1), (2, .int p2), (3, .int 0)]) (Ev.cm _) rfl rfl ?_
  refine w_iload_n (Ev.cm _) rfl rfl ?_
  refine w_istore (ls2 := [(0, .ref 306), (1, .int p1), (2, .int p2), (3, .int 0), (4, .int p1)]) (Ev.cm _) rfl rfl ?_
  show Wp _ _ _ _ _ _ _ 5 [(0, .ref 306), (1, .int p1), (2, .int p2), (3, .int 0), (4, .int p1)] [] (HS I L X)
  refine Wp.sub [0, 1, 2, 3, 4] (ls2 := [(0, .ref 306), (1, .int p1), (2, .int p2), (3, .int 0), (4, .int p1)]) rfl ?_
  exact lo_R_numberOf_5 g fu _ _ _ _ _ _ q
def LO_R_wordOf_12 (fu : Nat) : Nat → Int32 → Int32 → Int32 → Int32 → Int32 → Int32 → (Nat → Nat → Int32) → (Nat → Nat → Int64) → Option (Int32 × (Nat → Nat → Int32) × (Nat → Nat → Int64))
  | 0, _, _, _, _, _, _, _, _ => none
  | n + 1, x1, x2, x3, x4, x5, x6, I, L => if 125 ≤ x6 then (some (1, I, L)) else (if 0 ≤ x6 ∧ x6 < 125 then (if (txt 1).getD x6.toNatClampNeg 0 = 32 then (if x5 = 0 then (LO_R_wordOf_12 fu n x1 x2 (x3 + 1) x1 1 (x6 + 1) I L) else (if x4 = x2 then (some (x3, I, L)) else (LO_R_wordOf_12 fu n x1 x2 (x3 + 1) x1 1 (x6 + 1) I L))) else (if x5 = 0 then (LO_R_wordOf_12 fu n x1 x2 x3 (x4 + 1) 0 (x6 + 1) I L) else (if x2 ≤ x4 then (LO_R_wordOf_12 fu n x1 x2 x3 (x4 + 1) 0 (x6 + 1) I L) else (if 0 ≤ x4 ∧ x4 < 300 then (if I 306 x4.toNatClampNeg = (txt 1).getD x6.toNatClampNeg 0 then (LO_R_wordOf_12 fu n x1 x2 x3 (x4 + 1) 1 (x6 + 1) I L) else (LO_R_wordOf_12 fu n x1 x2 x3 (x4 + 1) 0 (x6 + 1) I L)) else none)))) else none)
set_option maxHeartbeats 20000000 in
set_option maxRecDepth 20000 in
theorem lo_R_wordOf_12 {d fu n0 s0 : Nat} {X : Nat × (Nat → Int32)} {Q : PQ} {res : Int32 × (Nat → Nat → Int32) × (Nat → Nat → Int64)}  (g : Q (some (.int res.1)) (HS res.2.1 res.2.2 X)) : ∀ (n : Nat) (x1 : Int32) (x2 : Int32) (x3 : Int32) (x4 : Int32) (x5 : Int32) (x6 : Int32) (I : Nat → Nat → Int32) (L : Nat → Nat → Int64), LO_R_wordOf_12 fu n x1 x2 x3 x4 x5 x6 I L = some res → Wp (Ev (d + 1)) cd_R_wordOf (0, 0) (some .int) n0 s0 Q 12 [(0, .ref 306), (1, .int x1), (2, .int x2), (3, .int x3), (4, .int x4), (5, .int x5), (6, .int x6)] [] (HS I L X) := by
  intro n
  induction n with
  | zero => intro _ _ _ _ _ _ _ _ q; cases q
  | succ n ih =>
    intro x1 x2 x3 x4 x5 x6 I L q
    unfold LO_R_wordOf_12 at q
    refine w_iload (Ev.cm _) rfl rfl ?_
    refine w_ldc (Ev.cm _) rfl ?_
    refine w_ctext (o := 1) (as := []) (st := [.int x6]) (Ev.cm _) rfl rfl rfl (Nat.le_of_ble_eq_true rfl) (Nat.le_of_ble_eq_true rfl) (e_len1 ?_)
    show Wp _ _ _ _ _ _ _ 19 [(0, .ref 306), (1, .int x1), (2, .int x2), (3, .int x3), (4, .int x4), (5, .int x5), (6, .int x6)] [.int 125, .int x6] (HS I L X)
    refine w_icmp_ge (Ev.cm _) rfl (fun c1 => ?_) (fun c1 => ?_)
    · have c1 : 125 ≤ x6 := c1
      rw [if_pos c1] at q
      refine w_iconst (Ev.cm _) rfl ?_
      refine w_ireturn (Ev.cm _) rfl trivial rf0 ?_
      cases q
      exact g
    · have c1 : ¬ (125 ≤ x6) := c1
      rw [if_neg c1] at q
      refine w_ldc (Ev.cm _) rfl ?_
      refine w_iload (Ev.cm _) rfl rfl ?_
      obtain ⟨b1, q⟩ := ois q
      refine w_ctext (o := 1) (as := [.int x6]) (st := []) (Ev.cm _) rfl rfl rfl (Nat.le_of_ble_eq_true rfl) (Nat.le_of_ble_eq_true rfl) (e_chr1 b1 ?_)
      show Wp _ _ _ _ _ _ _ 29 [(0, .ref 306), (1, .int x1), (2, .int x2), (3, .int x3), (4, .int x4), (5, .int x5), (6, .int x6)] [.int ((txt 1).getD x6.toNatClampNeg 0)] (HS I L X)
      refine w_istore (ls2 := [(0, .ref 306), (1, .int x1), (2, .int x2), (3, .int x3), (4, .int x4), (5, .int x5), (6, .int x6), (7, .int ((txt 1).getD x6.toNatClampNeg 0))]) (Ev.cm _) rfl rfl ?_
      refine w_iload (Ev.cm _) rfl rfl ?_
      refine w_bipush (Ev.cm _) rfl ?_
      refine w_icmp_eq (Ev.cm _) rfl (fun c2 => ?_) (fun c2 => ?_)
      · have c2 : (txt 1).getD x6.toNatClampNeg 0 = 32 := c2
        rw [if_pos c2] at q
        refine w_iload (Ev.cm _) rfl rfl ?_
        refine w_if_eq (Ev.cm _) rfl (fun c3 => ?_) (fun c3 => ?_)
        · have c3 : x5 = 0 := c3
          rw [if_pos c3] at q
          refine w_iinc (ls2 := [(0, .ref 306), (1, .int x1), (2, .int x2), (3, .int (x3 + 1)), (4, .int x4), (5, .int x5), (6, .int x6), (7, .int ((txt 1).getD x6.toNatClampNeg 0))]) (Ev.cm _) rfl rfl rfl ?_
          refine w_iload_n (Ev.cm _) rfl rfl ?_
          refine w_istore (ls2 := [(0, .ref 306), (1, .int x1), (2, .int x2), (3, .int (x3 + 1)), (4, .int x1), (5, .int x5), (6, .int x6), (7, .int ((txt 1).getD x6.toNatClampNeg 0))]) (Ev.cm _) rfl rfl ?_
          refine w_iconst (Ev.cm _) rfl ?_
          refine w_istore (ls2 := [(0, .ref 306), (1, .int x1), (2, .int x2), (3, .int (x3 + 1)), (4, .int x1), (5, .int 1), (6, .int x6), (7, .int ((txt 1).getD x6.toNatClampNeg 0))]) (Ev.cm _) rfl rfl ?_
          refine w_iinc (ls2 := [(0, .ref 306), (1, .int x1), (2, .int x2), (3, .int (x3 + 1)), (4, .int x1), (5, .int 1), (6, .int (x6 + 1)), (7, .int ((txt 1).getD x6.toNatClampNeg 0))]) (Ev.cm _) rfl rfl rfl ?_
          refine w_goto (Ev.cm _) rfl ?_
          show Wp _ _ _ _ _ _ _ 12 [(0, .ref 306), (1, .int x1), (2, .int x2), (3, .int (x3 + 1)), (4, .int x1), (5, .int 1), (6, .int (x6 + 1)), (7, .int ((txt 1).getD x6.toNatClampNeg 0))] [] (HS I L X)
          refine Wp.sub [0, 1, 2, 3, 4, 5, 6] (ls2 := [(0, .ref 306), (1, .int x1), (2, .int x2), (3, .int (x3 + 1)), (4, .int x1), (5, .int 1), (6, .int (x6 + 1))]) rfl ?_
          exact ih _ _ _ _ _ _ _ _ q
        · have c3 : ¬ (x5 = 0) := c3
          rw [if_neg c3] at q
          refine w_iload (Ev.cm _) rfl rfl ?_
          refine w_iload_n (Ev.cm _) rfl rfl ?_
          refine w_icmp_ne (Ev.cm _) rfl (fun c4 => ?_) (fun c4 => ?_)
          · have c4 : ¬ (x4 = x2) := c4
            rw [if_neg c4] at q
            refine w_iinc (ls2 := [(0, .ref 306), (1, .int x1), (2, .int x2), (3, .int (x3 + 1)), (4, .int x4), (5, .int x5), (6, .int x6), (7, .int ((txt 1).getD x6.toNatClampNeg 0))]) (Ev.cm _) rfl rfl rfl ?_
            refine w_iload_n (Ev.cm _) rfl rfl ?_
            refine w_istore (ls2 := [(0, .ref 306), (1, .int x1), (2, .int x2), (3, .int (x3 + 1)), (4, .int x1), (5, .int x5), (6, .int x6), (7, .int ((txt 1).getD x6.toNatClampNeg 0))]) (Ev.cm _) rfl rfl ?_
            refine w_iconst (Ev.cm _) rfl ?_
            refine w_istore (ls2 := [(0, .ref 306), (1, .int x1), (2, .int x2), (3, .int (x3 + 1)), (4, .int x1), (5, .int 1), (6, .int x6), (7, .int ((txt 1).getD x6.toNatClampNeg 0))]) (Ev.cm _) rfl rfl ?_
            refine w_iinc (ls2 := [(0, .ref 306), (1, .int x1), (2, .int x2), (3, .int (x3 + 1)), (4, .int x1), (5, .int 1), (6, .int (x6 + 1)), (7, .int ((txt 1).getD x6.toNatClampNeg 0))]) (Ev.cm _) rfl rfl rfl ?_
            refine w_goto (Ev.cm _) rfl ?_
            show Wp _ _ _ _ _ _ _ 12 [(0, .ref 306), (1, .int x1), (2, .int x2), (3, .int (x3 + 1)), (4, .int x1), (5, .int 1), (6, .int (x6 + 1)), (7, .int ((txt 1).getD x6.toNatClampNeg 0))] [] (HS I L X)
            refine Wp.sub [0, 1, 2, 3, 4, 5, 6] (ls2 := [(0, .ref 306), (1, .int x1), (2, .int x2), (3, .int (x3 + 1)), (4, .int x1), (5, .int 1), (6, .int (x6 + 1))]) rfl ?_
            exact ih _ _ _ _ _ _ _ _ q
          · have c4 : x4 = x2 := c4
            rw [if_pos c4] at q
            refine w_iload_n (Ev.cm _) rfl rfl ?_
            refine w_ireturn (Ev.cm _) rfl trivial rf0 ?_
            cases q
            exact g
      · have c2 : ¬ ((txt 1).getD x6.toNatClampNeg 0 = 32) := c2
        rw [if_neg c2] at q
        refine w_iload (Ev.cm _) rfl rfl ?_
        refine w_if_eq (Ev.cm _) rfl (fun c5 => ?_) (fun c5 => ?_)
        · have c5 : x5 = 0 := c5
          rw [if_pos c5] at q
          refine w_iconst (Ev.cm _) rfl ?_
          refine w_istore (ls2 := [(0, .ref 306), (1, .int x1), (2, .int x2), (3, .int x3), (4, .int x4), (5, .int 0), (6, .int x6), (7, .int ((txt 1).getD x6.toNatClampNeg 0))]) (Ev.cm _) rfl rfl ?_
          refine w_iinc (ls2 := [(0, .ref 306), (1, .int x1), (2, .int x2), (3, .int x3), (4, .int (x4 + 1)), (5, .int 0), (6, .int x6), (7, .int ((txt 1).getD x6.toNatClampNeg 0))]) (Ev.cm _) rfl rfl rfl ?_
          refine w_goto (Ev.cm _) rfl ?_
          refine w_iinc (ls2 := [(0, .ref 306), (1, .int x1), (2, .int x2), (3, .int x3), (4, .int (x4 + 1)), (5, .int 0), (6, .int (x6 + 1)), (7, .int ((txt 1).getD x6.toNatClampNeg 0))]) (Ev.cm _) rfl rfl rfl ?_
          refine w_goto (Ev.cm _) rfl ?_
          show Wp _ _ _ _ _ _ _ 12 [(0, .ref 306), (1, .int x1), (2, .int x2), (3, .int x3), (4, .int (x4 + 1)), (5, .int 0), (6, .int (x6 + 1)), (7, .int ((txt 1).getD x6.toNatClampNeg 0))] [] (HS I L X)
          refine Wp.sub [0, 1, 2, 3, 4, 5, 6] (ls2 := [(0, .ref 306), (1, .int x1), (2, .int x2), (3, .int x3), (4, .int (x4 + 1)), (5, .int 0), (6, .int (x6 + 1))]) rfl ?_
          exact ih _ _ _ _ _ _ _ _ q
        · have c5 : ¬ (x5 = 0) := c5
          rw [if_neg c5] at q
          refine w_iload (Ev.cm _) rfl rfl ?_
          refine w_iload_n (Ev.cm _) rfl rfl ?_
          refine w_icmp_ge (Ev.cm _) rfl (fun c6 => ?_) (fun c6 => ?_)
          · have c6 : x2 ≤ x4 := c6
            rw [if_pos c6] at q
            refine w_iconst (Ev.cm _) rfl ?_
            refine w_istore (ls2 := [(0, .ref 306), (1, .int x1), (2, .int x2), (3, .int x3), (4, .int x4), (5, .int 0), (6, .int x6), (7, .int ((txt 1).getD x6.toNatClampNeg 0))]) (Ev.cm _) rfl rfl ?_
            refine w_iinc (ls2 := [(0, .ref 306), (1, .int x1), (2, .int x2), (3, .int x3), (4, .int (x4 + 1)), (5, .int 0), (6, .int x6), (7, .int ((txt 1).getD x6.toNatClampNeg 0))]) (Ev.cm _) rfl rfl rfl ?_
            refine w_goto (Ev.cm _) rfl ?_
            refine w_iinc (ls2 := [(0, .ref 306), (1, .int x1), (2, .int x2), (3, .int x3), (4, .int (x4 + 1)), (5, .int 0), (6, .int (x6 + 1)), (7, .int ((txt 1).getD x6.toNatClampNeg 0))]) (Ev.cm _) rfl rfl rfl ?_
            refine w_goto (Ev.cm _) rfl ?_
            show Wp _ _ _ _ _ _ _ 12 [(0, .ref 306), (1, .int x1), (2, .int x2), (3, .int x3), (4, .int (x4 + 1)), (5, .int 0), (6, .int (x6 + 1)), (7, .int ((txt 1).getD x6.toNatClampNeg 0))] [] (HS I L X)
            refine Wp.sub [0, 1, 2, 3, 4, 5, 6] (ls2 := [(0, .ref 306), (1, .int x1), (2, .int x2), (3, .int x3), (4, .int (x4 + 1)), (5, .int 0), (6, .int (x6 + 1))]) rfl ?_
            exact ih _ _ _ _ _ _ _ _ q
          · have c6 : ¬ (x2 ≤ x4) := c6
            rw [if_neg c6] at q
            refine w_aload_n (Ev.cm _) rfl rfl ?_
            refine w_iload (Ev.cm _) rfl rfl ?_
            obtain ⟨b2, q⟩ := ois q
            refine w_iald (Ev.cm _) rfl (Nat.le_of_ble_eq_true rfl) rfl (show vp_in x4 300 from vpI 300 (by decide) b2.1 b2.2) ?_
            refine w_iload (Ev.cm _) rfl rfl ?_
            refine w_icmp_ne (Ev.cm _) rfl (fun c7 => ?_) (fun c7 => ?_)
            · have c7 : ¬ (I 306 x4.toNatClampNeg = (txt 1).getD x6.toNatClampNeg 0) := c7
              rw [if_neg c7] at q
              refine w_iconst (Ev.cm _) rfl ?_
              refine w_istore (ls2 := [(0, .ref 306), (1, .int x1), (2, .int x2), (3, .int x3), (4, .int x4), (5, .int 0), (6, .int x6), (7, .int ((txt 1).getD x6.toNatClampNeg 0))]) (Ev.cm _) rfl rfl ?_
              refine w_iinc (ls2 := [(0, .ref 306), (1, .int x1), (2, .int x2), (3, .int x3), (4, .int (x4 + 1)), (5, .int 0), (6, .int x6), (7, .int ((txt 1).getD x6.toNatClampNeg 0))]) (Ev.cm _) rfl rfl rfl ?_
              refine w_goto (Ev.cm _) rfl ?_
              refine w_iinc (ls2 := [(0, .ref 306), (1, .int x1), (2, .int x2), (3, .int x3), (4, .int (x4 + 1)), (5, .int 0), (6, .int (x6 + 1)), (7, .int ((txt 1).getD x6.toNatClampNeg 0))]) (Ev.cm _) rfl rfl rfl ?_
              refine w_goto (Ev.cm _) rfl ?_
              show Wp _ _ _ _ _ _ _ 12 [(0, .ref 306), (1, .int x1), (2, .int x2), (3, .int x3), (4, .int (x4 + 1)), (5, .int 0), (6, .int (x6 + 1)), (7, .int ((txt 1).getD x6.toNatClampNeg 0))] [] (HS I L X)
              refine Wp.sub [0, 1, 2, 3, 4, 5, 6] (ls2 := [(0, .ref 306), (1, .int x1), (2, .int x2), (3, .int x3), (4, .int (x4 + 1)), (5, .int 0), (6, .int (x6 + 1))]) rfl ?_
              exact ih _ _ _ _ _ _ _ _ q
            · have c7 : I 306 x4.toNatClampNeg = (txt 1).getD x6.toNatClampNeg 0 := c7
              rw [if_pos c7] at q
              refine w_iconst (Ev.cm _) rfl ?_
              refine w_goto (Ev.cm _) rfl ?_
              refine w_istore (ls2 := [(0, .ref 306), (1, .int x1), (2, .int x2), (3, .int x3), (4, .int x4), (5, .int 1), (6, .int x6), (7, .int ((txt 1).getD x6.toNatClampNeg 0))]) (Ev.cm _) rfl rfl ?_
              refine w_iinc (ls2 := [(0, .ref 306), (1, .int x1), (2, .int x2), (3, .int x3), (4, .int (x4 + 1)), (5, .int 1), (6, .int x6), (7, .int ((txt 1).getD x6.toNatClampNeg 0))]) (Ev.cm _) rfl rfl rfl ?_
              refine w_goto (Ev.cm _) rfl ?_
              refine w_iinc (ls2 := [(0, .ref 306), (1, .int x1), (2, .int x2), (3, .int x3), (4, .int (x4 + 1)), (5, .int 1), (6, .int (x6 + 1)), (7, .int ((txt 1).getD x6.toNatClampNeg 0))]) (Ev.cm _) rfl rfl rfl ?_
              refine w_goto (Ev.cm _) rfl ?_
              show Wp _ _ _ _ _ _ _ 12 [(0, .ref 306), (1, .int x1), (2, .int x2), (3, .int x3), (4, .int (x4 + 1)), (5, .int 1), (6, .int (x6 + 1)), (7, .int ((txt 1).getD x6.toNatClampNeg 0))] [] (HS I L X)
              refine Wp.sub [0, 1, 2, 3, 4, 5, 6] (ls2 := [(0, .ref 306), (1, .int x1), (2, .int x2), (3, .int x3), (4, .int (x4 + 1)), (5, .int 1), (6, .int (x6 + 1))]) rfl ?_
              exact ih _ _ _ _ _ _ _ _ q
def FO_R_wordOf (fu : Nat) (p1 : Int32) (p2 : Int32) (I : Nat → Nat → Int32) (L : Nat → Nat → Int64) : Option (Int32 × (Nat → Nat → Int32) × (Nat → Nat → Int64)) := LO_R_wordOf_12 fu fu p1 p2 30 p1 1 0 I L
set_option maxHeartbeats 20000000 in
set_option maxRecDepth 20000 in
theorem eo_R_wordOf {d fu : Nat} {p1 : Int32} {p2 : Int32} {I : Nat → Nat → Int32} {L : Nat → Nat → Int64} {X : Nat × (Nat → Int32)} {Q : PQ} {res : Int32 × (Nat → Nat → Int32) × (Nat → Nat → Int64)}  (g : Q (some (.int res.1)) (HS res.2.1 res.2.2 X)) (q : FO_R_wordOf fu p1 p2 I L = some res) : Ev (d + 2) m_R_wordOf [.ref 306, .int p1, .int p2] (HS I L X) Q := by
  unfold FO_R_wordOf at q
  refine ev_start (d := d + 1) rfl rfl rfl (Nat.le_of_ble_eq_true rfl) ?_
  show Wp (Ev (d + 1)) cd_R_wordOf (0, 0) (some .int) _ _ Q 0 [(0, .ref 306), (1, .int p1), (2, .int p2)] [] (HS I L X)
  refine w_bipush (Ev.cm _) rfl ?_
  refine w_istore_n (ls2 := [(0, .ref 306), (1, .int p1), (2, .int p2), (3, .int 30)]) (Ev.cm _) rfl rfl ?_
  refine w_iload_n (Ev.cm _) rfl rfl ?_
  refine w_istore (ls2 := [(0, .ref 306), (1, .int p1), (2, .int p2), (3, .int 30), (4, .int p1)]) (Ev.cm _) rfl rfl ?_
  refine w_iconst (Ev.cm _) rfl ?_
  refine w_istore (ls2 := [(0, .ref 306), (1, .int p1), (2, .int p2), (3, .int 30), (4, .int p1), (5, .int 1)]) (Ev.cm _) rfl rfl ?_
  refine w_iconst (Ev.cm _) rfl ?_
  refine w_istore (ls2 := [(0, .ref 306), (1, .int p1), (2, .int p2), (3, .int 30), (4, .int p1), (5, .int 1), (6, .int 0)]) (Ev.cm _) rfl rfl ?_
  show Wp _ _ _ _ _ _ _ 12 [(0, .ref 306), (1, .int p1), (2, .int p2), (3, .int 30), (4, .int p1), (5, .int 1), (6, .int 0)] [] (HS I L X)
  refine Wp.sub [0, 1, 2, 3, 4, 5, 6] (ls2 := [(0, .ref 306), (1, .int p1), (2, .int p2), (3, .int 30), (4, .int p1), (5, .int 1), (6, .int 0)]) rfl ?_
  exact lo_R_wordOf_12 g fu _ _ _ _ _ _ _ _ q
def LO_R_signOf_19 (fu : Nat) : Nat → Int32 → Int32 → Int32 → (Nat → Nat → Int32) → (Nat → Nat → Int64) → Option (Int32 × (Nat → Nat → Int32) × (Nat → Nat → Int64))
  | 0, _, _, _, _, _ => none
  | n + 1, x0, x1, x2, I, L => if 11 ≤ x2 then (some (1, I, L)) else (if 0 ≤ x2 ∧ x2 < 11 then (if (txt 2).getD x2.toNatClampNeg 0 = x0 then (some ((10 : Int32) + x2, I, L)) else (LO_R_signOf_19 fu n x0 x1 (x2 + 1) I L)) else none)
set_option maxHeartbeats 20000000 in
set_option maxRecDepth 20000 in
theorem lo_R_signOf_19 {d fu n0 s0 : Nat} {X : Nat × (Nat → Int32)} {Q : PQ} {res : Int32 × (Nat → Nat → Int32) × (Nat → Nat → Int64)}  (g : Q (some (.int res.1)) (HS res.2.1 res.2.2 X)) : ∀ (n : Nat) (x0 : Int32) (x1 : Int32) (x2 : Int32) (I : Nat → Nat → Int32) (L : Nat → Nat → Int64), LO_R_signOf_19 fu n x0 x1 x2 I L = some res → Wp (Ev (d + 1)) cd_R_signOf (0, 0) (some .int) n0 s0 Q 19 [(0, .int x0), (1, .int x1), (2, .int x2)] [] (HS I L X) := by
  intro n
  induction n with
  | zero => intro _ _ _ _ _ q; cases q
  | succ n ih =>
    intro x0 x1 x2 I L q
    unfold LO_R_signOf_19 at q
    refine w_iload_n (Ev.cm _) rfl rfl ?_
    refine w_ldc (Ev.cm _) rfl ?_
    refine w_ctext (o := 2) (as := []) (st := [.int x2]) (Ev.cm _) rfl rfl rfl (Nat.le_of_ble_eq_true rfl) (Nat.le_of_ble_eq_true rfl) (e_len2 ?_)
    show Wp _ _ _ _ _ _ _ 25 [(0, .int x0), (1, .int x1), (2, .int x2)] [.int 11, .int x2] (HS I L X)
    refine w_icmp_ge (Ev.cm _) rfl (fun c1 => ?_) (fun c1 => ?_)
    · have c1 : 11 ≤ x2 := c1
      rw [if_pos c1] at q
      refine w_iconst (Ev.cm _) rfl ?_
      refine w_ireturn (Ev.cm _) rfl trivial rf0 ?_
      cases q
      exact g
    · have c1 : ¬ (11 ≤ x2) := c1
      rw [if_neg c1] at q
      refine w_ldc (Ev.cm _) rfl ?_
      refine w_iload_n (Ev.cm _) rfl rfl ?_
      obtain ⟨b1, q⟩ := ois q
      refine w_ctext (o := 2) (as := [.int x2]) (st := []) (Ev.cm _) rfl rfl rfl (Nat.le_of_ble_eq_true rfl) (Nat.le_of_ble_eq_true rfl) (e_chr2 b1 ?_)
      show Wp _ _ _ _ _ _ _ 34 [(0, .int x0), (1, .int x1), (2, .int x2)] [.int ((txt 2).getD x2.toNatClampNeg 0)] (HS I L X)
      refine w_iload_n (Ev.cm _) rfl rfl ?_
      refine w_icmp_ne (Ev.cm _) rfl (fun c2 => ?_) (fun c2 => ?_)
      · have c2 : ¬ ((txt 2).getD x2.toNatClampNeg 0 = x0) := c2
        rw [if_neg c2] at q
        refine w_iinc (ls2 := [(0, .int x0), (1, .int x1), (2, .int (x2 + 1))]) (Ev.cm _) rfl rfl rfl ?_
        refine w_goto (Ev.cm _) rfl ?_
        show Wp _ _ _ _ _ _ _ 19 [(0, .int x0), (1, .int x1), (2, .int (x2 + 1))] [] (HS I L X)
        refine Wp.sub [0, 1, 2] (ls2 := [(0, .int x0), (1, .int x1), (2, .int (x2 + 1))]) rfl ?_
        exact ih _ _ _ _ _ q
      · have c2 : (txt 2).getD x2.toNatClampNeg 0 = x0 := c2
        rw [if_pos c2] at q
        refine w_bipush (Ev.cm _) rfl ?_
        refine w_iload_n (Ev.cm _) rfl rfl ?_
        refine w_iadd (Ev.cm _) rfl ?_
        refine w_ireturn (Ev.cm _) rfl trivial rf0 ?_
        cases q
        exact g
def FO_R_signOf (fu : Nat) (p0 : Int32) (p1 : Int32) (I : Nat → Nat → Int32) (L : Nat → Nat → Int64) : Option (Int32 × (Nat → Nat → Int32) × (Nat → Nat → Int64)) := if p1 = 2 then (if p0 = 60 then (some (3, I, L)) else (some (4, I, L))) else (LO_R_signOf_19 fu fu p0 p1 0 I L)
set_option maxHeartbeats 20000000 in
set_option maxRecDepth 20000 in
theorem eo_R_signOf {d fu : Nat} {p0 : Int32} {p1 : Int32} {I : Nat → Nat → Int32} {L : Nat → Nat → Int64} {X : Nat × (Nat → Int32)} {Q : PQ} {res : Int32 × (Nat → Nat → Int32) × (Nat → Nat → Int64)}  (g : Q (some (.int res.1)) (HS res.2.1 res.2.2 X)) (q : FO_R_signOf fu p0 p1 I L = some res) : Ev (d + 2) m_R_signOf [.int p0, .int p1] (HS I L X) Q := by
  unfold FO_R_signOf at q
  refine ev_start (d := d + 1) rfl rfl rfl (Nat.le_of_ble_eq_true rfl) ?_
  show Wp (Ev (d + 1)) cd_R_signOf (0, 0) (some .int) _ _ Q 0 [(0, .int p0), (1, .int p1)] [] (HS I L X)
  refine w_iload_n (Ev.cm _) rfl rfl ?_
  refine w_iconst (Ev.cm _) rfl ?_
  refine w_icmp_ne (Ev.cm _) rfl (fun c1 => ?_) (fun c1 => ?_)
  · have c1 : ¬ (p1 = 2) := c1
    rw [if_neg c1] at q
    refine w_iconst (Ev.cm _) rfl ?_
    refine w_istore_n (ls2 := [(0, .int p0), (1, .int p1), (2, .int 0)]) (Ev.cm _) rfl rfl ?_
    show Wp _ _ _ _ _ _ _ 19 [(0, .int p0), (1, .int p1), (2, .int 0)] [] (HS I L X)
    refine Wp.sub [0, 1, 2] (ls2 := [(0, .int p0), (1, .int p1), (2, .int 0)]) rfl ?_
    exact lo_R_signOf_19 g fu _ _ _ _ _ q
  · have c1 : p1 = 2 := c1
    rw [if_pos c1] at q
    refine w_iload_n (Ev.cm _) rfl rfl ?_
    refine w_bipush (Ev.cm _) rfl ?_
    refine w_icmp_ne (Ev.cm _) rfl (fun c2 => ?_) (fun c2 => ?_)
    · have c2 : ¬ (p0 = 60) := c2
      rw [if_neg c2] at q
      refine w_iconst (Ev.cm _) rfl ?_
      refine w_ireturn (Ev.cm _) rfl trivial rf0 ?_
      cases q
      exact g
    · have c2 : p0 = 60 := c2
      rw [if_pos c2] at q
      refine w_iconst (Ev.cm _) rfl ?_
      refine w_goto (Ev.cm _) rfl ?_
      refine w_ireturn (Ev.cm _) rfl trivial rf0 ?_
      cases q
      exact g
def FO_R_comeTo (fu : Nat) (p0 : Int32) (I : Nat → Nat → Int32) (L : Nat → Nat → Int64) : Option (Unit × (Nat → Nat → Int32) × (Nat → Nat → Int64)) := if I 307 7 ≤ F_J_max I 0 (F_J_min I p0 300) then (if I 307 7 ≤ F_J_max I 0 (F_J_min I p0 300) then (some ((), sI (sI (sI I 307 8 (F_J_max I 0 (F_J_min I p0 300))) 307 9 0) 307 10 0, L)) else (if 0 ≤ F_J_max I 0 (F_J_min I p0 300) ∧ F_J_max I 0 (F_J_min I p0 300) < 301 then (some ((), sI (sI (sI I 307 8 (F_J_max I 0 (F_J_min I p0 300))) 307 9 0) 307 10 (I 317 ((F_J_max I 0 (F_J_min I p0 300)).toNatClampNeg)), L)) else none)) else (if 0 ≤ F_J_max I 0 (F_J_min I p0 300) ∧ F_J_max I 0 (F_J_min I p0 300) < 301 then (if I 307 7 ≤ F_J_max I 0 (F_J_min I p0 300) then (some ((), sI (sI (sI I 307 8 (F_J_max I 0 (F_J_min I p0 300))) 307 9 (I 316 ((F_J_max I 0 (F_J_min I p0 300)).toNatClampNeg))) 307 10 0, L)) else (if 0 ≤ F_J_max I 0 (F_J_min I p0 300) ∧ F_J_max I 0 (F_J_min I p0 300) < 301 then (some ((), sI (sI (sI I 307 8 (F_J_max I 0 (F_J_min I p0 300))) 307 9 (I 316 ((F_J_max I 0 (F_J_min I p0 300)).toNatClampNeg))) 307 10 (I 317 ((F_J_max I 0 (F_J_min I p0 300)).toNatClampNeg)), L)) else none)) else none)
set_option maxHeartbeats 20000000 in
set_option maxRecDepth 20000 in
theorem eo_R_comeTo {d fu : Nat} {p0 : Int32} {I : Nat → Nat → Int32} {L : Nat → Nat → Int64} {X : Nat × (Nat → Int32)} {Q : PQ} {res : Unit × (Nat → Nat → Int32) × (Nat → Nat → Int64)}  (g : Q none (HS res.2.1 res.2.2 X)) (q : FO_R_comeTo fu p0 I L = some res) : Ev (d + 2) m_R_comeTo [.ref 307, .int p0] (HS I L X) Q := by
  unfold FO_R_comeTo at q
  refine ev_start (d := d + 1) rfl rfl rfl (Nat.le_of_ble_eq_true rfl) ?_
  show Wp (Ev (d + 1)) cd_R_comeTo (0, 0) none _ _ Q 0 [(0, .ref 307), (1, .int p0)] [] (HS I L X)
  refine w_aload_n (Ev.cm _) rfl rfl ?_
  refine w_iconst (Ev.cm _) rfl ?_
  refine w_iload_n (Ev.cm _) rfl rfl ?_
  refine w_sipush (Ev.cm _) rfl ?_
  refine w_cstat (as := [.int p0, .int 300]) (st := [.int 0, .ref 307]) (Ev.cm _) rfl rfl rfl (Nat.le_of_ble_eq_true rfl) (Nat.le_of_ble_eq_true rfl) (e_J_min ?_)
  show Wp _ _ _ _ _ _ _ 9 [(0, .ref 307), (1, .int p0)] [.int (F_J_min I p0 300), .int 0, .ref 307] (HS I L X)
  refine w_cstat (as := [.int 0, .int (F_J_min I p0 300)]) (st := [.ref 307]) (Ev.cm _) rfl rfl rfl (Nat.le_of_ble_eq_true rfl) (Nat.le_of_ble_eq_true rfl) (e_J_max ?_)
  show Wp _ _ _ _ _ _ _ 12 [(0, .ref 307), (1, .int p0)] [.int (F_J_max I 0 (F_J_min I p0 300)), .ref 307] (HS I L X)
  refine w_putI (Ev.cm _) rfl (Nat.le_of_ble_eq_true rfl) rfl ?_
  refine w_aload_n (Ev.cm _) rfl rfl ?_
  refine w_aload_n (Ev.cm _) rfl rfl ?_
  refine w_getI (Ev.cm _) rfl (Nat.le_of_ble_eq_true rfl) rfl ?_
  refine w_aload_n (Ev.cm _) rfl rfl ?_
  refine w_getI (Ev.cm _) rfl (Nat.le_of_ble_eq_true rfl) rfl ?_
  refine w_icmp_ge (Ev.cm _) rfl (fun c1 => ?_) (fun c1 => ?_)
  · have c1 : I 307 7 ≤ F_J_max I 0 (F_J_min I p0 300) := c1
    rw [if_pos c1] at q
    refine w_iconst (Ev.cm _) rfl ?_
    refine w_putI (Ev.cm _) rfl (Nat.le_of_ble_eq_true rfl) rfl ?_
    refine w_aload_n (Ev.cm _) rfl rfl ?_
    refine w_aload_n (Ev.cm _) rfl rfl ?_
    refine w_getI (Ev.cm _) rfl (Nat.le_of_ble_eq_true rfl) rfl ?_
    refine w_aload_n (Ev.cm _) rfl rfl ?_
    refine w_getI (Ev.cm _) rfl (Nat.le_of_ble_eq_true rfl) rfl ?_
    refine w_icmp_ge (Ev.cm _) rfl (fun c2 => ?_) (fun c2 => ?_)
    · have c2 : I 307 7 ≤ F_J_max I 0 (F_J_min I p0 300) := c2
      rw [if_pos c2] at q
      refine w_iconst (Ev.cm _) rfl ?_
      refine w_putI (Ev.cm _) rfl (Nat.le_of_ble_eq_true rfl) rfl ?_
      refine w_return (Ev.cm _) rfl rfl rf0 ?_
      cases q
      exact g
    · have c2 : ¬ (I 307 7 ≤ F_J_max I 0 (F_J_min I p0 300)) := c2
      rw [if_neg c2] at q
      refine w_aload_n (Ev.cm _) rfl rfl ?_
      refine w_getR (q := 317) (Ev.cm _) rfl (Nat.le_of_ble_eq_true rfl) rfl rfl ?_
      refine w_aload_n (Ev.cm _) rfl rfl ?_
      refine w_getI (Ev.cm _) rfl (Nat.le_of_ble_eq_true rfl) rfl ?_
      obtain ⟨b1, q⟩ := ois q
      refine w_iald (Ev.cm _) rfl (Nat.le_of_ble_eq_true rfl) rfl (show vp_in (F_J_max I 0 (F_J_min I p0 300)) 301 from vpI 301 (by decide) b1.1 b1.2) ?_
      refine w_goto (Ev.cm _) rfl ?_
      refine w_putI (Ev.cm _) rfl (Nat.le_of_ble_eq_true rfl) rfl ?_
      refine w_return (Ev.cm _) rfl rfl rf0 ?_
      cases q
      exact g
  · have c1 : ¬ (I 307 7 ≤ F_J_max I 0 (F_J_min I p0 300)) := c1
    rw [if_neg c1] at q
    refine w_aload_n (Ev.cm _) rfl rfl ?_
    refine w_getR (q := 316) (Ev.cm _) rfl (Nat.le_of_ble_eq_true rfl) rfl rfl ?_
    refine w_aload_n (Ev.cm _) rfl rfl ?_
    refine w_getI (Ev.cm _) rfl (Nat.le_of_ble_eq_true rfl) rfl ?_
    obtain ⟨b2, q⟩ := ois q
    refine w_iald (Ev.cm _) rfl (Nat.le_of_ble_eq_true rfl) rfl (show vp_in (F_J_max I 0 (F_J_min I p0 300)) 301 from vpI 301 (by decide) b2.1 b2.2) ?_
    refine w_goto (Ev.cm _) rfl ?_
    refine w_putI (Ev.cm _) rfl (Nat.le_of_ble_eq_true rfl) rfl ?_
    refine w_aload_n (Ev.cm _) rfl rfl ?_
    refine w_aload_n (Ev.cm _) rfl rfl ?_
    refine w_getI (Ev.cm _) rfl (Nat.le_of_ble_eq_true rfl) rfl ?_
    refine w_aload_n (Ev.cm _) rfl rfl ?_
    refine w_getI (Ev.cm _) rfl (Nat.le_of_ble_eq_true rfl) rfl ?_
    refine w_icmp_ge (Ev.cm _) rfl (fun c3 => ?_) (fun c3 => ?_)
    · have c3 : I 307 7 ≤ F_J_max I 0 (F_J_min I p0 300) := c3
      rw [if_pos c3] at q
      refine w_iconst (Ev.cm _) rfl ?_
      refine w_putI (Ev.cm _) rfl (Nat.le_of_ble_eq_true rfl) rfl ?_
      refine w_return (Ev.cm _) rfl rfl rf0 ?_
      cases q
      exact g
    · have c3 : ¬ (I 307 7 ≤ F_J_max I 0 (F_J_min I p0 300)) := c3
      rw [if_neg c3] at q
      refine w_aload_n (Ev.cm _) rfl rfl ?_
      refine w_getR (q := 317) (Ev.cm _) rfl (Nat.le_of_ble_eq_true rfl) rfl rfl ?_
      refine w_aload_n (Ev.cm _) rfl rfl ?_
      refine w_getI (Ev.cm _) rfl (Nat.le_of_ble_eq_true rfl) rfl ?_
      obtain ⟨b3, q⟩ := ois q
      refine w_iald (Ev.cm _) rfl (Nat.le_of_ble_eq_true rfl) rfl (show vp_in (F_J_max I 0 (F_J_min I p0 300)) 301 from vpI 301 (by decide) b3.1 b3.2) ?_
      refine w_goto (Ev.cm _) rfl ?_
      refine w_putI (Ev.cm _) rfl (Nat.le_of_ble_eq_true rfl) rfl ?_
      refine w_return (Ev.cm _) rfl rfl rf0 ?_
      cases q
      exact g
def FO_R_fail (fu : Nat) (p0 : Int32) (I : Nat → Nat → Int32) (L : Nat → Nat → Int64) : Option (Int32 × (Nat → Nat → Int32) × (Nat → Nat → Int64)) := if I 307 8 < 0 then (some (0, sI (sI I 307 1 p0) 307 2 0, L)) else (if 301 ≤ I 307 8 then (some (0, sI (sI I 307 1 p0) 307 2 0, L)) else (if 0 ≤ I 307 8 ∧ I 307 8 < 301 then (some (0, sI (sI I 307 1 p0) 307 2 (I 318 ((I 307 8).toNatClampNeg)), L)) else none))
set_option maxHeartbeats 20000000 in
set_option maxRecDepth 20000 in
theorem eo_R_fail {d fu : Nat} {p0 : Int32} {I : Nat → Nat → Int32} {L : Nat → Nat → Int64} {X : Nat × (Nat → Int32)} {Q : PQ} {res : Int32 × (Nat → Nat → Int32) × (Nat → Nat → Int64)}  (g : Q (some (.int res.1)) (HS res.2.1 res.2.2 X)) (q : FO_R_fail fu p0 I L = some res) : Ev (d + 1) m_R_fail [.ref 307, .int p0] (HS I L X) Q := by
  unfold FO_R_fail at q
  refine ev_start (d := d + 0) rfl rfl rfl (Nat.le_of_ble_eq_true rfl) ?_
  show Wp (Ev (d + 0)) cd_R_fail (0, 0) (some .boolean) _ _ Q 0 [(0, .ref 307), (1, .int p0)] [] (HS I L X)
  refine w_aload_n (Ev.cm _) rfl rfl ?_
  refine w_iload_n (Ev.cm _) rfl rfl ?_
  refine w_putI (Ev.cm _) rfl (Nat.le_of_ble_eq_true rfl) rfl ?_
  refine w_aload_n (Ev.cm _) rfl rfl ?_
  refine w_aload_n (Ev.cm _) rfl rfl ?_
  refine w_getI (Ev.cm _) rfl (Nat.le_of_ble_eq_true rfl) rfl ?_
  refine w_if_lt (Ev.cm _) rfl (fun c1 => ?_) (fun c1 => ?_)
  · have c1 : I 307 8 < 0 := c1
    rw [if_pos c1] at q
    refine w_iconst (Ev.cm _) rfl ?_
    refine w_putI (Ev.cm _) rfl (Nat.le_of_ble_eq_true rfl) rfl ?_
    refine w_iconst (Ev.cm _) rfl ?_
    refine w_ireturn (Ev.cm _) rfl (by first | exact rok_0 | exact rok_1 | exact rok_b) rf0 ?_
    cases q
    exact g
  · have c1 : ¬ (I 307 8 < 0) := c1
    rw [if_neg c1] at q
    refine w_aload_n (Ev.cm _) rfl rfl ?_
    refine w_getI (Ev.cm _) rfl (Nat.le_of_ble_eq_true rfl) rfl ?_
    refine w_aload_n (Ev.cm _) rfl rfl ?_
    refine w_getR (q := 318) (Ev.cm _) rfl (Nat.le_of_ble_eq_true rfl) rfl rfl ?_
    refine w_alen (Ev.cm _) rfl (Nat.le_of_ble_eq_true rfl) (Nat.le_of_ble_eq_true rfl) (Nat.le_of_ble_eq_true rfl) ?_
    refine w_icmp_ge (Ev.cm _) rfl (fun c2 => ?_) (fun c2 => ?_)
    · have c2 : 301 ≤ I 307 8 := c2
      rw [if_pos c2] at q
      refine w_iconst (Ev.cm _) rfl ?_
      refine w_putI (Ev.cm _) rfl (Nat.le_of_ble_eq_true rfl) rfl ?_
      refine w_iconst (Ev.cm _) rfl ?_
      refine w_ireturn (Ev.cm _) rfl (by first | exact rok_0 | exact rok_1 | exact rok_b) rf0 ?_
      cases q
      exact g
    · have c2 : ¬ (301 ≤ I 307 8) := c2
      rw [if_neg c2] at q
      refine w_aload_n (Ev.cm _) rfl rfl ?_
      refine w_getR (q := 318) (Ev.cm _) rfl (Nat.le_of_ble_eq_true rfl) rfl rfl ?_
      refine w_aload_n (Ev.cm _) rfl rfl ?_
      refine w_getI (Ev.cm _) rfl (Nat.le_of_ble_eq_true rfl) rfl ?_
      obtain ⟨b1, q⟩ := ois q
      refine w_iald (Ev.cm _) rfl (Nat.le_of_ble_eq_true rfl) rfl (show vp_in (I 307 8) 301 from vpI 301 (by decide) b1.1 b1.2) ?_
      refine w_goto (Ev.cm _) rfl ?_
      refine w_putI (Ev.cm _) rfl (Nat.le_of_ble_eq_true rfl) rfl ?_
      refine w_iconst (Ev.cm _) rfl ?_
      refine w_ireturn (Ev.cm _) rfl (by first | exact rok_0 | exact rok_1 | exact rok_b) rf0 ?_
      cases q
      exact g
def FO_R_pass (fu : Nat) (p0 : Int32) (I : Nat → Nat → Int32) (L : Nat → Nat → Int64) : Option (Int32 × (Nat → Nat → Int32) × (Nat → Nat → Int64)) := if I 307 9 = p0 then ((FO_R_comeTo fu ((I 307 8) + 1) I L).bind (fun u1 => let r1 := u1.1; let I1 := u1.2.1; let L1 := u1.2.2; some (1, I1, L1))) else ((FO_R_fail fu 1 I L).bind (fun u2 => let r2 := u2.1; let I2 := u2.2.1; let L2 := u2.2.2; if r2 = 0 ∨ r2 = 1 then (some (r2, I2, L2)) else none))
set_option maxHeartbeats 20000000 in
set_option maxRecDepth 20000 in
theorem eo_R_pass {d fu : Nat} {p0 : Int32} {I : Nat → Nat → Int32} {L : Nat → Nat → Int64} {X : Nat × (Nat → Int32)} {Q : PQ} {res : Int32 × (Nat → Nat → Int32) × (Nat → Nat → Int64)}  (g : Q (some (.int res.1)) (HS res.2.1 res.2.2 X)) (q : FO_R_pass fu p0 I L = some res) : Ev (d + 3) m_R_pass [.ref 307, .int p0] (HS I L X) Q := by
  unfold FO_R_pass at q
  refine ev_start (d := d + 2) rfl rfl rfl (Nat.le_of_ble_eq_true rfl) ?_
  show Wp (Ev (d + 2)) cd_R_pass (0, 0) (some .boolean) _ _ Q 0 [(0, .ref 307), (1, .int p0)] [] (HS I L X)
  refine w_aload_n (Ev.cm _) rfl rfl ?_
  refine w_getI (Ev.cm _) rfl (Nat.le_of_ble_eq_true rfl) rfl ?_
  refine w_iload_n (Ev.cm _) rfl rfl ?_
  refine w_icmp_eq (Ev.cm _) rfl (fun c1 => ?_) (fun c1 => ?_)
  · have c1 : I 307 9 = p0 := c1
    rw [if_pos c1] at q
    refine w_aload_n (Ev.cm _) rfl rfl ?_
    refine w_aload_n (Ev.cm _) rfl rfl ?_
    refine w_getI (Ev.cm _) rfl (Nat.le_of_ble_eq_true rfl) rfl ?_
    refine w_iconst (Ev.cm _) rfl ?_
    refine w_iadd (Ev.cm _) rfl ?_
    obtain ⟨⟨r1, I1, L1⟩, e1, q⟩ := obs q
    dsimp only at q
    refine w_cvirt (o := 307) (as := [.int ((I 307 8) + 1)]) (st := []) (Ev.cm _) rfl rfl rfl (Nat.le_of_ble_eq_true rfl) (Nat.le_of_ble_eq_true rfl) rfl (Nat.le_of_ble_eq_true rfl) (eo_R_comeTo (g := ?_) e1)
    show Wp _ _ _ _ _ _ _ 24 [(0, .ref 307), (1, .int p0)] [] (HS I1 L1 X)
    refine w_iconst (Ev.cm _) rfl ?_
    refine w_ireturn (Ev.cm _) rfl (by first | exact rok_0 | exact rok_1 | exact rok_b) rf0 ?_
    cases q
    exact g
  · have c1 : ¬ (I 307 9 = p0) := c1
    rw [if_neg c1] at q
    refine w_aload_n (Ev.cm _) rfl rfl ?_
    refine w_iconst (Ev.cm _) rfl ?_
    obtain ⟨⟨r2, I2, L2⟩, e2, q⟩ := obs q
    dsimp only at q
    refine w_cvirt (o := 307) (as := [.int 1]) (st := []) (Ev.cm _) rfl rfl rfl (Nat.le_of_ble_eq_true rfl) (Nat.le_of_ble_eq_true rfl) rfl (Nat.le_of_ble_eq_true rfl) (eo_R_fail (g := ?_) e2)
    show Wp _ _ _ _ _ _ _ 13 [(0, .ref 307), (1, .int p0)] [.int r2] (HS I2 L2 X)
    obtain ⟨b3, q⟩ := ois q
    refine w_ireturn (Ev.cm _) rfl (show rok (some .boolean) _ from b3) rf0 ?_
    cases q
    exact g
def FO_R_passNumber (fu : Nat) (p0 : Int32) (p1 : Int32) (I : Nat → Nat → Int32) (L : Nat → Nat → Int64) : Option (Int32 × (Nat → Nat → Int32) × (Nat → Nat → Int64)) := if I 307 9 = 2 then (if p0 ≤ (I 307 10) ∧ (I 307 10) ≤ p1 then ((FO_R_comeTo fu ((I 307 8) + 1) I L).bind (fun u1 => let r1 := u1.1; let I1 := u1.2.1; let L1 := u1.2.2; some (1, I1, L1))) else ((FO_R_fail fu 2 I L).bind (fun u2 => let r2 := u2.1; let I2 := u2.2.1; let L2 := u2.2.2; if r2 = 0 ∨ r2 = 1 then (some (r2, I2, L2)) else none))) else ((FO_R_fail fu 1 I L).bind (fun u4 => let r4 := u4.1; let I4 := u4.2.1; let L4 := u4.2.2; if r4 = 0 ∨ r4 = 1 then (some (r4, I4, L4)) else none))
set_option maxHeartbeats 20000000 in
set_option maxRecDepth 20000 in
theorem eo_R_passNumber {d fu : Nat} {p0 : Int32} {p1 : Int32} {I : Nat → Nat → Int32} {L : Nat → Nat → Int64} {X : Nat × (Nat → Int32)} {Q : PQ} {res : Int32 × (Nat → Nat → Int32) × (Nat → Nat → Int64)}  (g : Q (some (.int res.1)) (HS res.2.1 res.2.2 X)) (q : FO_R_passNumber fu p0 p1 I L = some res) : Ev (d + 3) m_R_passNumber [.ref 307, .int p0, .int p1] (HS I L X) Q := by
  unfold FO_R_passNumber at q
  refine ev_start (d := d + 2) rfl rfl rfl (Nat.le_of_ble_eq_true rfl) ?_
  show Wp (Ev (d + 2)) cd_R_passNumber (0, 0) (some .boolean) _ _ Q 0 [(0, .ref 307), (1, .int p0), (2, .int p1)] [] (HS I L X)
  refine w_aload_n (Ev.cm _) rfl rfl ?_
  refine w_getI (Ev.cm _) rfl (Nat.le_of_ble_eq_true rfl) rfl ?_
  refine w_iconst (Ev.cm _) rfl ?_
  refine w_icmp_eq (Ev.cm _) rfl (fun c1 => ?_) (fun c1 => ?_)
  · have c1 : I 307 9 = 2 := c1
    rw [if_pos c1] at q
    refine w_aload_n (Ev.cm _) rfl rfl ?_
    refine w_getI (Ev.cm _) rfl (Nat.le_of_ble_eq_true rfl) rfl ?_
    refine w_iload_n (Ev.cm _) rfl rfl ?_
    refine w_iload_n (Ev.cm _) rfl rfl ?_
    refine w_cnest (as := [.int (I 307 10), .int p0, .int p1]) (st := []) (Ev.cm _) rfl rfl rfl (Nat.le_of_ble_eq_true rfl) (Nat.le_of_ble_eq_true rfl) (x_within ?_)
    show Wp _ _ _ _ _ _ _ 23 [(0, .ref 307), (1, .int p0), (2, .int p1)] [.int (bI (p0 ≤ (I 307 10) ∧ (I 307 10) ≤ p1))] (HS I L X)
    refine w_if_ne (Ev.cm _) rfl (fun c2 => ?_) (fun c2 => ?_)
    · have c2 : p0 ≤ (I 307 10) ∧ (I 307 10) ≤ p1 := bI_1.mp c2
      rw [if_pos c2] at q
      refine w_aload_n (Ev.cm _) rfl rfl ?_
      refine w_aload_n (Ev.cm _) rfl rfl ?_
      refine w_getI (Ev.cm _) rfl (Nat.le_of_ble_eq_true rfl) rfl ?_
      refine w_iconst (Ev.cm _) rfl ?_
      refine w_iadd (Ev.cm _) rfl ?_
      obtain ⟨⟨r1, I1, L1⟩, e1, q⟩ := obs q
      dsimp only at q
      refine w_cvirt (o := 307) (as := [.int ((I 307 8) + 1)]) (st := []) (Ev.cm _) rfl rfl rfl (Nat.le_of_ble_eq_true rfl) (Nat.le_of_ble_eq_true rfl) rfl (Nat.le_of_ble_eq_true rfl) (eo_R_comeTo (g := ?_) e1)
      show Wp _ _ _ _ _ _ _ 42 [(0, .ref 307), (1, .int p0), (2, .int p1)] [] (HS I1 L1 X)
      refine w_iconst (Ev.cm _) rfl ?_
      refine w_ireturn (Ev.cm _) rfl (by first | exact rok_0 | exact rok_1 | exact rok_b) rf0 ?_
      cases q
      exact g
    · have c2 : ¬ (p0 ≤ (I 307 10) ∧ (I 307 10) ≤ p1) := bI_0.mp c2
      rw [if_neg c2] at q
      refine w_aload_n (Ev.cm _) rfl rfl ?_
      refine w_iconst (Ev.cm _) rfl ?_
      obtain ⟨⟨r2, I2, L2⟩, e2, q⟩ := obs q
      dsimp only at q
      refine w_cvirt (o := 307) (as := [.int 2]) (st := []) (Ev.cm _) rfl rfl rfl (Nat.le_of_ble_eq_true rfl) (Nat.le_of_ble_eq_true rfl) rfl (Nat.le_of_ble_eq_true rfl) (eo_R_fail (g := ?_) e2)
      show Wp _ _ _ _ _ _ _ 31 [(0, .ref 307), (1, .int p0), (2, .int p1)] [.int r2] (HS I2 L2 X)
      obtain ⟨b3, q⟩ := ois q
      refine w_ireturn (Ev.cm _) rfl (show rok (some .boolean) _ from b3) rf0 ?_
      cases q
      exact g
  · have c1 : ¬ (I 307 9 = 2) := c1
    rw [if_neg c1] at q
    refine w_aload_n (Ev.cm _) rfl rfl ?_
    refine w_iconst (Ev.cm _) rfl ?_
    obtain ⟨⟨r4, I4, L4⟩, e4, q⟩ := obs q
    dsimp only at q
    refine w_cvirt (o := 307) (as := [.int 1]) (st := []) (Ev.cm _) rfl rfl rfl (Nat.le_of_ble_eq_true rfl) (Nat.le_of_ble_eq_true rfl) rfl (Nat.le_of_ble_eq_true rfl) (eo_R_fail (g := ?_) e4)
    show Wp _ _ _ _ _ _ _ 13 [(0, .ref 307), (1, .int p0), (2, .int p1)] [.int r4] (HS I4 L4 X)
    obtain ⟨b5, q⟩ := ois q
    refine w_ireturn (Ev.cm _) rfl (show rok (some .boolean) _ from b5) rf0 ?_
    cases q
    exact g
def LO_S_copySteps_6_18 (fu : Nat) : Nat → Int32 → (Nat → Nat → Int32) → (Nat → Nat → Int64) → Option (Unit × (Nat → Nat → Int32) × (Nat → Nat → Int64))
  | 0, _, _, _ => none
  | n + 1, x2, I, L => if 30 ≤ x2 then (some ((), I, L)) else (if 0 ≤ x2 ∧ x2 < 30 then (if 0 ≤ x2 ∧ x2 < 30 then ((FO_H_copyHouse fu (8 + 4 * x2.toNatClampNeg) (144 + 4 * x2.toNatClampNeg) I L).bind (fun u3 => let r3 := u3.1; let I3 := u3.2.1; let L3 := u3.2.2; LO_S_copySteps_6_18 fu n (x2 + 1) I3 L3)) else none) else none)
set_option maxHeartbeats 20000000 in
set_option maxRecDepth 20000 in
theorem lo_S_copySteps_6_18 {d fu n0 s0 : Nat} {X : Nat × (Nat → Int32)} {Q : PQ} {res : Unit × (Nat → Nat → Int32) × (Nat → Nat → Int64)}  (g : Q none (HS res.2.1 res.2.2 X)) : ∀ (n : Nat) (x2 : Int32) (I : Nat → Nat → Int32) (L : Nat → Nat → Int64), LO_S_copySteps_6_18 fu n x2 I L = some res → Wp (Ev (d + 3)) cd_S_copySteps (0, 0) none n0 s0 Q 18 [(0, .ref 6), (1, .ref 142), (2, .int x2)] [] (HS I L X) := by
  intro n
  induction n with
  | zero => intro _ _ _ q; cases q
  | succ n ih =>
    intro x2 I L q
    unfold LO_S_copySteps_6_18 at q
    refine w_iload_n (Ev.cm _) rfl rfl ?_
    refine w_bipush (Ev.cm _) rfl ?_
    refine w_icmp_ge (Ev.cm _) rfl (fun c1 => ?_) (fun c1 => ?_)
    · have c1 : 30 ≤ x2 := c1
      rw [if_pos c1] at q
      refine w_return (Ev.cm _) rfl rfl rf0 ?_
      cases q
      exact g
    · have c1 : ¬ (30 ≤ x2) := c1
      rw [if_neg c1] at q
      refine w_aload_n (Ev.cm _) rfl rfl ?_
      refine w_getR (q := 7) (Ev.cm _) rfl (Nat.le_of_ble_eq_true rfl) rfl rfl ?_
      refine w_iload_n (Ev.cm _) rfl rfl ?_
      obtain ⟨b1, q⟩ := ois q
      refine w_aald (q := 8 + 4 * x2.toNatClampNeg) (Ev.cm _) rfl (Nat.le_of_ble_eq_true rfl) rfl (show vp_in x2 30 from vpI 30 (by decide) b1.1 b1.2) (r_st b1) ?_
      refine w_astore_n (ls2 := [(0, .ref 6), (1, .ref 142), (2, .int x2), (3, .ref (8 + 4 * x2.toNatClampNeg))]) (Ev.cm _) rfl trivial rfl ?_
      refine w_aload_n (Ev.cm _) rfl rfl ?_
      refine w_getR (q := 143) (Ev.cm _) rfl (Nat.le_of_ble_eq_true rfl) rfl rfl ?_
      refine w_iload_n (Ev.cm _) rfl rfl ?_
      obtain ⟨b2, q⟩ := ois q
      refine w_aald (q := 144 + 4 * x2.toNatClampNeg) (Ev.cm _) rfl (Nat.le_of_ble_eq_true rfl) rfl (show vp_in x2 30 from vpI 30 (by decide) b2.1 b2.2) (r_si b2) ?_
      refine w_astore (ls2 := [(0, .ref 6), (1, .ref 142), (2, .int x2), (3, .ref (8 + 4 * x2.toNatClampNeg)), (4, .ref (144 + 4 * x2.toNatClampNeg))]) (Ev.cm _) rfl trivial rfl ?_
      refine w_aload_n (Ev.cm _) rfl rfl ?_
      refine w_ifnull (Ev.cm _) rfl ?_
      refine w_aload (Ev.cm _) rfl rfl ?_
      refine w_ifnull (Ev.cm _) rfl ?_
      refine w_aload_n (Ev.cm _) rfl rfl ?_
      refine w_aload (Ev.cm _) rfl rfl ?_
      obtain ⟨⟨r3, I3, L3⟩, e3, q⟩ := obs q
      dsimp only at q
      refine w_cvirt (o := 8 + 4 * x2.toNatClampNeg) (as := [.ref (144 + 4 * x2.toNatClampNeg)]) (st := []) (Ev.cm _) rfl rfl rfl (Nat.le_of_ble_eq_true rfl) (isH_lt0 (isH_st b1)) (congrArg Prod.fst (isH_k0 (isH_st b1))) (Nat.le_of_ble_eq_true rfl) (eo_H_copyHouse (isH_st b1) (isH_si b2) (g := ?_) e3)
      show Wp _ _ _ _ _ _ _ 54 [(0, .ref 6), (1, .ref 142), (2, .int x2), (3, .ref (8 + 4 * x2.toNatClampNeg)), (4, .ref (144 + 4 * x2.toNatClampNeg))] [] (HS I3 L3 X)
      refine w_iinc (ls2 := [(0, .ref 6), (1, .ref 142), (2, .int (x2 + 1)), (3, .ref (8 + 4 * x2.toNatClampNeg)), (4, .ref (144 + 4 * x2.toNatClampNeg))]) (Ev.cm _) rfl rfl rfl ?_
      refine w_goto (Ev.cm _) rfl ?_
      show Wp _ _ _ _ _ _ _ 18 [(0, .ref 6), (1, .ref 142), (2, .int (x2 + 1)), (3, .ref (8 + 4 * x2.toNatClampNeg)), (4, .ref (144 + 4 * x2.toNatClampNeg))] [] (HS I3 L3 X)
      refine Wp.sub [0, 1, 2] (ls2 := [(0, .ref 6), (1, .ref 142), (2, .int (x2 + 1))]) rfl ?_
      exact ih _ _ _ q
def FO_S_copySteps_6 (fu : Nat) (I : Nat → Nat → Int32) (L : Nat → Nat → Int64) : Option (Unit × (Nat → Nat → Int32) × (Nat → Nat → Int64)) := LO_S_copySteps_6_18 fu fu 0 (sI (sI I 6 1 (I 142 1)) 6 2 (I 142 2)) L
set_option maxHeartbeats 20000000 in
set_option maxRecDepth 20000 in
theorem eo_S_copySteps_6 {d fu : Nat} {I : Nat → Nat → Int32} {L : Nat → Nat → Int64} {X : Nat × (Nat → Int32)} {Q : PQ} {res : Unit × (Nat → Nat → Int32) × (Nat → Nat → Int64)}  (g : Q none (HS res.2.1 res.2.2 X)) (q : FO_S_copySteps_6 fu  I L = some res) : Ev (d + 4) m_S_copySteps [.ref 6, .ref 142] (HS I L X) Q := by
  unfold FO_S_copySteps_6 at q
  refine ev_start (d := d + 3) rfl rfl rfl (Nat.le_of_ble_eq_true rfl) ?_
  show Wp (Ev (d + 3)) cd_S_copySteps (0, 0) none _ _ Q 0 [(0, .ref 6), (1, .ref 142)] [] (HS I L X)
  refine w_aload_n (Ev.cm _) rfl rfl ?_
  refine w_aload_n (Ev.cm _) rfl rfl ?_
  refine w_getI (Ev.cm _) rfl (Nat.le_of_ble_eq_true rfl) rfl ?_
  refine w_putI (Ev.cm _) rfl (Nat.le_of_ble_eq_true rfl) rfl ?_
  refine w_aload_n (Ev.cm _) rfl rfl ?_
  refine w_aload_n (Ev.cm _) rfl rfl ?_
  refine w_getI (Ev.cm _) rfl (Nat.le_of_ble_eq_true rfl) rfl ?_
  refine w_putI (Ev.cm _) rfl (Nat.le_of_ble_eq_true rfl) rfl ?_
  refine w_iconst (Ev.cm _) rfl ?_
  refine w_istore_n (ls2 := [(0, .ref 6), (1, .ref 142), (2, .int 0)]) (Ev.cm _) rfl rfl ?_
  show Wp _ _ _ _ _ _ _ 18 [(0, .ref 6), (1, .ref 142), (2, .int 0)] [] (HS (sI (sI I 6 1 (I 142 1)) 6 2 (I 142 2)) L X)
  refine Wp.sub [0, 1, 2] (ls2 := [(0, .ref 6), (1, .ref 142), (2, .int 0)]) rfl ?_
  exact lo_S_copySteps_6_18 g fu _ _ _ q
def LO_S_copySteps_142_18 (fu : Nat) : Nat → Int32 → (Nat → Nat → Int32) → (Nat → Nat → Int64) → Option (Unit × (Nat → Nat → Int32) × (Nat → Nat → Int64))
  | 0, _, _, _ => none
  | n + 1, x2, I, L => if 30 ≤ x2 then (some ((), I, L)) else (if 0 ≤ x2 ∧ x2 < 30 then (if 0 ≤ x2 ∧ x2 < 30 then ((FO_H_copyHouse fu (144 + 4 * x2.toNatClampNeg) (8 + 4 * x2.toNatClampNeg) I L).bind (fun u3 => let r3 := u3.1; let I3 := u3.2.1; let L3 := u3.2.2; LO_S_copySteps_142_18 fu n (x2 + 1) I3 L3)) else none) else none)
set_option maxHeartbeats 20000000 in
set_option maxRecDepth 20000 in
theorem lo_S_copySteps_142_18 {d fu n0 s0 : Nat} {X : Nat × (Nat → Int32)} {Q : PQ} {res : Unit × (Nat → Nat → Int32) × (Nat → Nat → Int64)}  (g : Q none (HS res.2.1 res.2.2 X)) : ∀ (n : Nat) (x2 : Int32) (I : Nat → Nat → Int32) (L : Nat → Nat → Int64), LO_S_copySteps_142_18 fu n x2 I L = some res → Wp (Ev (d + 3)) cd_S_copySteps (0, 0) none n0 s0 Q 18 [(0, .ref 142), (1, .ref 6), (2, .int x2)] [] (HS I L X) := by
  intro n
  induction n with
  | zero => intro _ _ _ q; cases q
  | succ n ih =>
    intro x2 I L q
    unfold LO_S_copySteps_142_18 at q
    refine w_iload_n (Ev.cm _) rfl rfl ?_
    refine w_bipush (Ev.cm _) rfl ?_
    refine w_icmp_ge (Ev.cm _) rfl (fun c1 => ?_) (fun c1 => ?_)
    · have c1 : 30 ≤ x2 := c1
      rw [if_pos c1] at q
      refine w_return (Ev.cm _) rfl rfl rf0 ?_
      cases q
      exact g
    · have c1 : ¬ (30 ≤ x2) := c1
      rw [if_neg c1] at q
      refine w_aload_n (Ev.cm _) rfl rfl ?_
      refine w_getR (q := 143) (Ev.cm _) rfl (Nat.le_of_ble_eq_true rfl) rfl rfl ?_
      refine w_iload_n (Ev.cm _) rfl rfl ?_
      obtain ⟨b1, q⟩ := ois q
      refine w_aald (q := 144 + 4 * x2.toNatClampNeg) (Ev.cm _) rfl (Nat.le_of_ble_eq_true rfl) rfl (show vp_in x2 30 from vpI 30 (by decide) b1.1 b1.2) (r_si b1) ?_
      refine w_astore_n (ls2 := [(0, .ref 142), (1, .ref 6), (2, .int x2), (3, .ref (144 + 4 * x2.toNatClampNeg))]) (Ev.cm _) rfl trivial rfl ?_
      refine w_aload_n (Ev.cm _) rfl rfl ?_
      refine w_getR (q := 7) (Ev.cm _) rfl (Nat.le_of_ble_eq_true rfl) rfl rfl ?_
      refine w_iload_n (Ev.cm _) rfl rfl ?_
      obtain ⟨b2, q⟩ := ois q
      refine w_aald (q := 8 + 4 * x2.toNatClampNeg) (Ev.cm _) rfl (Nat.le_of_ble_eq_true rfl) rfl (show vp_in x2 30 from vpI 30 (by decide) b2.1 b2.2) (r_st b2) ?_
      refine w_astore (ls2 := [(0, .ref 142), (1, .ref 6), (2, .int x2), (3, .ref (144 + 4 * x2.toNatClampNeg)), (4, .ref (8 + 4 * x2.toNatClampNeg))]) (Ev.cm _) rfl trivial rfl ?_
      refine w_aload_n (Ev.cm _) rfl rfl ?_
      refine w_ifnull (Ev.cm _) rfl ?_
      refine w_aload (Ev.cm _) rfl rfl ?_
      refine w_ifnull (Ev.cm _) rfl ?_
      refine w_aload_n (Ev.cm _) rfl rfl ?_
      refine w_aload (Ev.cm _) rfl rfl ?_
      obtain ⟨⟨r3, I3, L3⟩, e3, q⟩ := obs q
      dsimp only at q
      refine w_cvirt (o := 144 + 4 * x2.toNatClampNeg) (as := [.ref (8 + 4 * x2.toNatClampNeg)]) (st := []) (Ev.cm _) rfl rfl rfl (Nat.le_of_ble_eq_true rfl) (isH_lt0 (isH_si b1)) (congrArg Prod.fst (isH_k0 (isH_si b1))) (Nat.le_of_ble_eq_true rfl) (eo_H_copyHouse (isH_si b1) (isH_st b2) (g := ?_) e3)
      show Wp _ _ _ _ _ _ _ 54 [(0, .ref 142), (1, .ref 6), (2, .int x2), (3, .ref (144 + 4 * x2.toNatClampNeg)), (4, .ref (8 + 4 * x2.toNatClampNeg))] [] (HS I3 L3 X)
      refine w_iinc (ls2 := [(0, .ref 142), (1, .ref 6), (2, .int (x2 + 1)), (3, .ref (144 + 4 * x2.toNatClampNeg)), (4, .ref (8 + 4 * x2.toNatClampNeg))]) (Ev.cm _) rfl rfl rfl ?_
      refine w_goto (Ev.cm _) rfl ?_
      show Wp _ _ _ _ _ _ _ 18 [(0, .ref 142), (1, .ref 6), (2, .int (x2 + 1)), (3, .ref (144 + 4 * x2.toNatClampNeg)), (4, .ref (8 + 4 * x2.toNatClampNeg))] [] (HS I3 L3 X)
      refine Wp.sub [0, 1, 2] (ls2 := [(0, .ref 142), (1, .ref 6), (2, .int (x2 + 1))]) rfl ?_
      exact ih _ _ _ q
def FO_S_copySteps_142 (fu : Nat) (I : Nat → Nat → Int32) (L : Nat → Nat → Int64) : Option (Unit × (Nat → Nat → Int32) × (Nat → Nat → Int64)) := LO_S_copySteps_142_18 fu fu 0 (sI (sI I 142 1 (I 6 1)) 142 2 (I 6 2)) L
set_option maxHeartbeats 20000000 in
set_option maxRecDepth 20000 in
theorem eo_S_copySteps_142 {d fu : Nat} {I : Nat → Nat → Int32} {L : Nat → Nat → Int64} {X : Nat × (Nat → Int32)} {Q : PQ} {res : Unit × (Nat → Nat → Int32) × (Nat → Nat → Int64)}  (g : Q none (HS res.2.1 res.2.2 X)) (q : FO_S_copySteps_142 fu  I L = some res) : Ev (d + 4) m_S_copySteps [.ref 142, .ref 6] (HS I L X) Q := by
  unfold FO_S_copySteps_142 at q
  refine ev_start (d := d + 3) rfl rfl rfl (Nat.le_of_ble_eq_true rfl) ?_
  show Wp (Ev (d + 3)) cd_S_copySteps (0, 0) none _ _ Q 0 [(0, .ref 142), (1, .ref 6)] [] (HS I L X)
  refine w_aload_n (Ev.cm _) rfl rfl ?_
  refine w_aload_n (Ev.cm _) rfl rfl ?_
  refine w_getI (Ev.cm _) rfl (Nat.le_of_ble_eq_true rfl) rfl ?_
  refine w_putI (Ev.cm _) rfl (Nat.le_of_ble_eq_true rfl) rfl ?_
  refine w_aload_n (Ev.cm _) rfl rfl ?_
  refine w_aload_n (Ev.cm _) rfl rfl ?_
  refine w_getI (Ev.cm _) rfl (Nat.le_of_ble_eq_true rfl) rfl ?_
  refine w_putI (Ev.cm _) rfl (Nat.le_of_ble_eq_true rfl) rfl ?_
  refine w_iconst (Ev.cm _) rfl ?_
  refine w_istore_n (ls2 := [(0, .ref 142), (1, .ref 6), (2, .int 0)]) (Ev.cm _) rfl rfl ?_
  show Wp _ _ _ _ _ _ _ 18 [(0, .ref 142), (1, .ref 6), (2, .int 0)] [] (HS (sI (sI I 142 1 (I 6 1)) 142 2 (I 6 2)) L X)
  refine Wp.sub [0, 1, 2] (ls2 := [(0, .ref 142), (1, .ref 6), (2, .int 0)]) rfl ?_
  exact lo_S_copySteps_142_18 g fu _ _ _ q
def FO_S_keep (fu : Nat) (I : Nat → Nat → Int32) (L : Nat → Nat → Int64) : Option (Unit × (Nat → Nat → Int32) × (Nat → Nat → Int64)) := (FO_J_floorMod fu ((I 6 1) + (I 6 2)) 30 I L).bind (fun u1 => let r1 := u1.1; let I1 := u1.2.1; let L1 := u1.2.2; if 0 ≤ r1 ∧ r1 < 30 then ((FO_H_copyHouse fu (8 + 4 * r1.toNatClampNeg) 2 I1 L1).bind (fun u3 => let r3 := u3.1; let I3 := u3.2.1; let L3 := u3.2.2; if 30 ≤ I3 6 2 then ((FO_J_floorMod fu ((I3 6 1) + 1) 30 I3 L3).bind (fun u4 => let r4 := u4.1; let I4 := u4.2.1; let L4 := u4.2.2; some ((), sI I4 6 1 r4, L4))) else (some ((), sI I3 6 2 ((I3 6 2) + 1), L3)))) else none)
set_option maxHeartbeats 20000000 in
set_option maxRecDepth 20000 in
theorem eo_S_keep {d fu : Nat} {I : Nat → Nat → Int32} {L : Nat → Nat → Int64} {X : Nat × (Nat → Int32)} {Q : PQ} {res : Unit × (Nat → Nat → Int32) × (Nat → Nat → Int64)}  (g : Q none (HS res.2.1 res.2.2 X)) (q : FO_S_keep fu  I L = some res) : Ev (d + 4) m_S_keep [.ref 6, .ref 2] (HS I L X) Q := by
  unfold FO_S_keep at q
  refine ev_start (d := d + 3) rfl rfl rfl (Nat.le_of_ble_eq_true rfl) ?_
  show Wp (Ev (d + 3)) cd_S_keep (0, 0) none _ _ Q 0 [(0, .ref 6), (1, .ref 2)] [] (HS I L X)
  refine w_aload_n (Ev.cm _) rfl rfl ?_
  refine w_getR (q := 7) (Ev.cm _) rfl (Nat.le_of_ble_eq_true rfl) rfl rfl ?_
  refine w_aload_n (Ev.cm _) rfl rfl ?_
  refine w_getI (Ev.cm _) rfl (Nat.le_of_ble_eq_true rfl) rfl ?_
  refine w_aload_n (Ev.cm _) rfl rfl ?_
  refine w_getI (Ev.cm _) rfl (Nat.le_of_ble_eq_true rfl) rfl ?_
  refine w_iadd (Ev.cm _) rfl ?_
  refine w_bipush (Ev.cm _) rfl ?_
  obtain ⟨⟨r1, I1, L1⟩, e1, q⟩ := obs q
  dsimp only at q
  refine w_cstat (as := [.int ((I 6 1) + (I 6 2)), .int 30]) (st := [.ref 7]) (Ev.cm _) rfl rfl rfl (Nat.le_of_ble_eq_true rfl) (Nat.le_of_ble_eq_true rfl) (eo_J_floorMod (g := ?_) e1)
  show Wp _ _ _ _ _ _ _ 18 [(0, .ref 6), (1, .ref 2)] [.int r1, .ref 7] (HS I1 L1 X)
  obtain ⟨b2, q⟩ := ois q
  refine w_aald (q := 8 + 4 * r1.toNatClampNeg) (Ev.cm _) rfl (Nat.le_of_ble_eq_true rfl) rfl (show vp_in r1 30 from vpI 30 (by decide) b2.1 b2.2) (r_st b2) ?_
  refine w_astore_n (ls2 := [(0, .ref 6), (1, .ref 2), (2, .ref (8 + 4 * r1.toNatClampNeg))]) (Ev.cm _) rfl trivial rfl ?_
  refine w_aload_n (Ev.cm _) rfl rfl ?_
  refine w_ifnull (Ev.cm _) rfl ?_
  refine w_aload_n (Ev.cm _) rfl rfl ?_
  refine w_aload_n (Ev.cm _) rfl rfl ?_
  obtain ⟨⟨r3, I3, L3⟩, e3, q⟩ := obs q
  dsimp only at q
  refine w_cvirt (o := 8 + 4 * r1.toNatClampNeg) (as := [.ref 2]) (st := []) (Ev.cm _) rfl rfl rfl (Nat.le_of_ble_eq_true rfl) (isH_lt0 (isH_st b2)) (congrArg Prod.fst (isH_k0 (isH_st b2))) (Nat.le_of_ble_eq_true rfl) (eo_H_copyHouse (isH_st b2) isH_2 (g := ?_) e3)
  show Wp _ _ _ _ _ _ _ 29 [(0, .ref 6), (1, .ref 2), (2, .ref (8 + 4 * r1.toNatClampNeg))] [] (HS I3 L3 X)
  refine w_aload_n (Ev.cm _) rfl rfl ?_
  refine w_getI (Ev.cm _) rfl (Nat.le_of_ble_eq_true rfl) rfl ?_
  refine w_bipush (Ev.cm _) rfl ?_
  refine w_icmp_ge (Ev.cm _) rfl (fun c1 => ?_) (fun c1 => ?_)
  · have c1 : 30 ≤ I3 6 2 := c1
    rw [if_pos c1] at q
    refine w_aload_n (Ev.cm _) rfl rfl ?_
    refine w_aload_n (Ev.cm _) rfl rfl ?_
    refine w_getI (Ev.cm _) rfl (Nat.le_of_ble_eq_true rfl) rfl ?_
    refine w_iconst (Ev.cm _) rfl ?_
    refine w_iadd (Ev.cm _) rfl ?_
    refine w_bipush (Ev.cm _) rfl ?_
    obtain ⟨⟨r4, I4, L4⟩, e4, q⟩ := obs q
    dsimp only at q
    refine w_cstat (as := [.int ((I3 6 1) + 1), .int 30]) (st := [.ref 6]) (Ev.cm _) rfl rfl rfl (Nat.le_of_ble_eq_true rfl) (Nat.le_of_ble_eq_true rfl) (eo_J_floorMod (g := ?_) e4)
    show Wp _ _ _ _ _ _ _ 63 [(0, .ref 6), (1, .ref 2), (2, .ref (8 + 4 * r1.toNatClampNeg))] [.int r4, .ref 6] (HS I4 L4 X)
    refine w_putI (Ev.cm _) rfl (Nat.le_of_ble_eq_true rfl) rfl ?_
    refine w_return (Ev.cm _) rfl rfl rf0 ?_
    cases q
    exact g
  · have c1 : ¬ (30 ≤ I3 6 2) := c1
    rw [if_neg c1] at q
    refine w_aload_n (Ev.cm _) rfl rfl ?_
    refine w_dup (Ev.cm _) rfl rfl ?_
    refine w_getI (Ev.cm _) rfl (Nat.le_of_ble_eq_true rfl) rfl ?_
    refine w_iconst (Ev.cm _) rfl ?_
    refine w_iadd (Ev.cm _) rfl ?_
    refine w_putI (Ev.cm _) rfl (Nat.le_of_ble_eq_true rfl) rfl ?_
    refine w_goto (Ev.cm _) rfl ?_
    refine w_return (Ev.cm _) rfl rfl rf0 ?_
    cases q
    exact g
def FO_S_takeBack (fu : Nat) (I : Nat → Nat → Int32) (L : Nat → Nat → Int64) : Option (Int32 × (Nat → Nat → Int32) × (Nat → Nat → Int64)) := if 0 < I 6 2 then ((FO_J_floorMod fu ((I 6 1) + ((I 6 2) - 1)) 30 (sI I 6 2 ((I 6 2) - 1)) L).bind (fun u1 => let r1 := u1.1; let I1 := u1.2.1; let L1 := u1.2.2; if 0 ≤ r1 ∧ r1 < 30 then ((FO_H_copyHouse fu 2 (8 + 4 * r1.toNatClampNeg) I1 L1).bind (fun u3 => let r3 := u3.1; let I3 := u3.2.1; let L3 := u3.2.2; some (1, I3, L3))) else none)) else (some (0, I, L))
set_option maxHeartbeats 20000000 in
set_option maxRecDepth 20000 in
theorem eo_S_takeBack {d fu : Nat} {I : Nat → Nat → Int32} {L : Nat → Nat → Int64} {X : Nat × (Nat → Int32)} {Q : PQ} {res : Int32 × (Nat → Nat → Int32) × (Nat → Nat → Int64)}  (g : Q (some (.int res.1)) (HS res.2.1 res.2.2 X)) (q : FO_S_takeBack fu  I L = some res) : Ev (d + 4) m_S_takeBack [.ref 6, .ref 2] (HS I L X) Q := by
  unfold FO_S_takeBack at q
  refine ev_start (d := d + 3) rfl rfl rfl (Nat.le_of_ble_eq_true rfl) ?_
  show Wp (Ev (d + 3)) cd_S_takeBack (0, 0) (some .boolean) _ _ Q 0 [(0, .ref 6), (1, .ref 2)] [] (HS I L X)
  refine w_aload_n (Ev.cm _) rfl rfl ?_
  refine w_getI (Ev.cm _) rfl (Nat.le_of_ble_eq_true rfl) rfl ?_
  refine w_if_gt (Ev.cm _) rfl (fun c1 => ?_) (fun c1 => ?_)
  · have c1 : 0 < I 6 2 := c1
    rw [if_pos c1] at q
    refine w_aload_n (Ev.cm _) rfl rfl ?_
    refine w_dup (Ev.cm _) rfl rfl ?_
    refine w_getI (Ev.cm _) rfl (Nat.le_of_ble_eq_true rfl) rfl ?_
    refine w_iconst (Ev.cm _) rfl ?_
    refine w_isub (Ev.cm _) rfl ?_
    refine w_putI (Ev.cm _) rfl (Nat.le_of_ble_eq_true rfl) rfl ?_
    refine w_aload_n (Ev.cm _) rfl rfl ?_
    refine w_getR (q := 7) (Ev.cm _) rfl (Nat.le_of_ble_eq_true rfl) rfl rfl ?_
    refine w_aload_n (Ev.cm _) rfl rfl ?_
    refine w_getI (Ev.cm _) rfl (Nat.le_of_ble_eq_true rfl) rfl ?_
    refine w_aload_n (Ev.cm _) rfl rfl ?_
    refine w_getI (Ev.cm _) rfl (Nat.le_of_ble_eq_true rfl) rfl ?_
    refine w_iadd (Ev.cm _) rfl ?_
    refine w_bipush (Ev.cm _) rfl ?_
    obtain ⟨⟨r1, I1, L1⟩, e1, q⟩ := obs q
    dsimp only at q
    refine w_cstat (as := [.int ((I 6 1) + ((I 6 2) - 1)), .int 30]) (st := [.ref 7]) (Ev.cm _) rfl rfl rfl (Nat.le_of_ble_eq_true rfl) (Nat.le_of_ble_eq_true rfl) (eo_J_floorMod (g := ?_) e1)
    show Wp _ _ _ _ _ _ _ 37 [(0, .ref 6), (1, .ref 2)] [.int r1, .ref 7] (HS I1 L1 X)
    obtain ⟨b2, q⟩ := ois q
    refine w_aald (q := 8 + 4 * r1.toNatClampNeg) (Ev.cm _) rfl (Nat.le_of_ble_eq_true rfl) rfl (show vp_in r1 30 from vpI 30 (by decide) b2.1 b2.2) (r_st b2) ?_
    refine w_astore_n (ls2 := [(0, .ref 6), (1, .ref 2), (2, .ref (8 + 4 * r1.toNatClampNeg))]) (Ev.cm _) rfl trivial rfl ?_
    refine w_aload_n (Ev.cm _) rfl rfl ?_
    refine w_ifnull (Ev.cm _) rfl ?_
    refine w_aload_n (Ev.cm _) rfl rfl ?_
    refine w_aload_n (Ev.cm _) rfl rfl ?_
    obtain ⟨⟨r3, I3, L3⟩, e3, q⟩ := obs q
    dsimp only at q
    refine w_cvirt (o := 2) (as := [.ref (8 + 4 * r1.toNatClampNeg)]) (st := []) (Ev.cm _) rfl rfl rfl (Nat.le_of_ble_eq_true rfl) (Nat.le_of_ble_eq_true rfl) rfl (Nat.le_of_ble_eq_true rfl) (eo_H_copyHouse isH_2 (isH_st b2) (g := ?_) e3)
    show Wp _ _ _ _ _ _ _ 48 [(0, .ref 6), (1, .ref 2), (2, .ref (8 + 4 * r1.toNatClampNeg))] [] (HS I3 L3 X)
    refine w_iconst (Ev.cm _) rfl ?_
    refine w_ireturn (Ev.cm _) rfl (by first | exact rok_0 | exact rok_1 | exact rok_b) rf0 ?_
    cases q
    exact g
  · have c1 : ¬ (0 < I 6 2) := c1
    rw [if_neg c1] at q
    refine w_iconst (Ev.cm _) rfl ?_
    refine w_ireturn (Ev.cm _) rfl (by first | exact rok_0 | exact rok_1 | exact rok_b) rf0 ?_
    cases q
    exact g
def FO_T_empty (fu : Nat) (I : Nat → Nat → Int32) (L : Nat → Nat → Int64) : Option (Unit × (Nat → Nat → Int32) × (Nat → Nat → Int64)) := (some (va_up (sI (sI I 308 0 0) 308 4 0) 314 (fillF ((sI (sI I 308 0 0) 308 4 0) 314) (-1) 2))).bind (fun I1 => some ((), I1, L))
set_option maxHeartbeats 20000000 in
set_option maxRecDepth 20000 in
theorem eo_T_empty {d fu : Nat} {I : Nat → Nat → Int32} {L : Nat → Nat → Int64} {X : Nat × (Nat → Int32)} {Q : PQ} {res : Unit × (Nat → Nat → Int32) × (Nat → Nat → Int64)}  (g : Q none (HS res.2.1 res.2.2 X)) (q : FO_T_empty fu  I L = some res) : Ev (d + 2) m_T_empty [.ref 308] (HS I L X) Q := by
  unfold FO_T_empty at q
  refine ev_start (d := d + 1) rfl rfl rfl (Nat.le_of_ble_eq_true rfl) ?_
  show Wp (Ev (d + 1)) cd_T_empty (0, 0) none _ _ Q 0 [(0, .ref 308)] [] (HS I L X)
  refine w_aload_n (Ev.cm _) rfl rfl ?_
  refine w_iconst (Ev.cm _) rfl ?_
  refine w_putI (Ev.cm _) rfl (Nat.le_of_ble_eq_true rfl) rfl ?_
  refine w_aload_n (Ev.cm _) rfl rfl ?_
  refine w_iconst (Ev.cm _) rfl ?_
  refine w_putI (Ev.cm _) rfl (Nat.le_of_ble_eq_true rfl) rfl ?_
  refine w_aload_n (Ev.cm _) rfl rfl ?_
  refine w_getR (q := 314) (Ev.cm _) rfl (Nat.le_of_ble_eq_true rfl) rfl rfl ?_
  refine w_iconst (Ev.cm _) rfl ?_
  obtain ⟨I1, e1, q⟩ := obs q
  try dsimp only at q
  refine w_cstat (as := [.ref 314, .int (-1)]) (st := []) (Ev.cm _) rfl rfl rfl (Nat.le_of_ble_eq_true rfl) (Nat.le_of_ble_eq_true rfl) (e_fill_e (Nat.le_of_ble_eq_true rfl) (n := 2) rfl (by decide) e1 ?_)
  show Wp _ _ _ _ _ _ _ 18 [(0, .ref 308)] [] (HS I1 L X)
  refine w_return (Ev.cm _) rfl rfl rf0 ?_
  cases q
  exact g
def FO_T_copyText (fu : Nat) (o : Nat) (I : Nat → Nat → Int32) (L : Nat → Nat → Int64) : Option (Unit × (Nat → Nat → Int32) × (Nat → Nat → Int64)) := (some (va_up (sI I o 0 (I 308 0)) (o + 1) (va_cpy ((sI I o 0 (I 308 0)) 309) ((sI I o 0 (I 308 0)) (o + 1)) 0 0 24))).bind (fun I1 => (some (va_up I1 (o + 2) (va_cpy (I1 310) (I1 (o + 2)) 0 0 24))).bind (fun I2 => (some (va_up I2 (o + 3) (va_cpy (I2 311) (I2 (o + 3)) 0 0 24))).bind (fun I3 => (some (va_up (sI I3 o 4 (I3 308 4)) (o + 4) (va_cpy ((sI I3 o 4 (I3 308 4)) 312) ((sI I3 o 4 (I3 308 4)) (o + 4)) 0 0 300))).bind (fun I4 => (some (va_up I4 (o + 5) (va_cpy (I4 313) (I4 (o + 5)) 0 0 300))).bind (fun I5 => (some (va_up I5 (o + 6) (va_cpy (I5 314) (I5 (o + 6)) 0 0 2))).bind (fun I6 => (some (va_up I6 (o + 7) (va_cpy (I6 315) (I6 (o + 7)) 0 0 2))).bind (fun I7 => some ((), I7, L))))))))
set_option maxHeartbeats 20000000 in
set_option maxRecDepth 20000 in
theorem eo_T_copyText {d fu : Nat} {o : Nat} {I : Nat → Nat → Int32} {L : Nat → Nat → Int64} {X : Nat × (Nat → Int32)} {Q : PQ} {res : Unit × (Nat → Nat → Int32) × (Nat → Nat → Int64)}  (ho : isT o) (g : Q none (HS res.2.1 res.2.2 X)) (q : FO_T_copyText fu o  I L = some res) : Ev (d + 3) m_T_copyText [.ref o, .ref 308] (HS I L X) Q := by
  unfold FO_T_copyText at q
  refine ev_start (d := d + 2) rfl rfl rfl (Nat.le_of_ble_eq_true rfl) ?_
  show Wp (Ev (d + 2)) cd_T_copyText (0, 0) none _ _ Q 0 [(0, .ref o), (1, .ref 308)] [] (HS I L X)
  refine w_aload_n (Ev.cm _) rfl rfl ?_
  refine w_aload_n (Ev.cm _) rfl rfl ?_
  refine w_getI (Ev.cm _) rfl (Nat.le_of_ble_eq_true rfl) rfl ?_
  refine w_putI (Ev.cm _) rfl (isT_lt0 ho) (congrArg Prod.fst (isT_k0 ho)) ?_
  refine w_aload_n (Ev.cm _) rfl rfl ?_
  refine w_getR (q := 309) (Ev.cm _) rfl (Nat.le_of_ble_eq_true rfl) rfl rfl ?_
  refine w_aload_n (Ev.cm _) rfl rfl ?_
  refine w_getR (q := o + 1) (Ev.cm _) rfl (isT_lt0 ho) (congrArg Prod.fst (isT_k0 ho)) (isT_r1 ho) ?_
  obtain ⟨I1, e1, q⟩ := obs q
  try dsimp only at q
  refine w_cnest (as := [.ref 309, .ref (o + 1)]) (st := []) (Ev.cm _) rfl rfl rfl (Nat.le_of_ble_eq_true rfl) (Nat.le_of_ble_eq_true rfl) (e_copyRow_e (Nat.le_of_ble_eq_true rfl) (isT_lt ho 1 (by decide)) (n := 24) rfl (isT_k1 ho) (by decide) e1 ?_)
  show Wp _ _ _ _ _ _ _ 19 [(0, .ref o), (1, .ref 308)] [] (HS I1 L X)
  refine w_aload_n (Ev.cm _) rfl rfl ?_
  refine w_getR (q := 310) (Ev.cm _) rfl (Nat.le_of_ble_eq_true rfl) rfl rfl ?_
  refine w_aload_n (Ev.cm _) rfl rfl ?_
  refine w_getR (q := o + 2) (Ev.cm _) rfl (isT_lt0 ho) (congrArg Prod.fst (isT_k0 ho)) (isT_r2 ho) ?_
  obtain ⟨I2, e2, q⟩ := obs q
  try dsimp only at q
  refine w_cnest (as := [.ref 310, .ref (o + 2)]) (st := []) (Ev.cm _) rfl rfl rfl (Nat.le_of_ble_eq_true rfl) (Nat.le_of_ble_eq_true rfl) (e_copyRow_e (Nat.le_of_ble_eq_true rfl) (isT_lt ho 2 (by decide)) (n := 24) rfl (isT_k2 ho) (by decide) e2 ?_)
  show Wp _ _ _ _ _ _ _ 30 [(0, .ref o), (1, .ref 308)] [] (HS I2 L X)
  refine w_aload_n (Ev.cm _) rfl rfl ?_
  refine w_getR (q := 311) (Ev.cm _) rfl (Nat.le_of_ble_eq_true rfl) rfl rfl ?_
  refine w_aload_n (Ev.cm _) rfl rfl ?_
  refine w_getR (q := o + 3) (Ev.cm _) rfl (isT_lt0 ho) (congrArg Prod.fst (isT_k0 ho)) (isT_r3 ho) ?_
  obtain ⟨I3, e3, q⟩ := obs q
  try dsimp only at q
  refine w_cnest (as := [.ref 311, .ref (o + 3)]) (st := []) (Ev.cm _) rfl rfl rfl (Nat.le_of_ble_eq_true rfl) (Nat.le_of_ble_eq_true rfl) (e_copyRow_e (Nat.le_of_ble_eq_true rfl) (isT_lt ho 3 (by decide)) (n := 24) rfl (isT_k3 ho) (by decide) e3 ?_)
  show Wp _ _ _ _ _ _ _ 41 [(0, .ref o), (1, .ref 308)] [] (HS I3 L X)
  refine w_aload_n (Ev.cm _) rfl rfl ?_
  refine w_aload_n (Ev.cm _) rfl rfl ?_
  refine w_getI (Ev.cm _) rfl (Nat.le_of_ble_eq_true rfl) rfl ?_
  refine w_putI (Ev.cm _) rfl (isT_lt0 ho) (congrArg Prod.fst (isT_k0 ho)) ?_
  refine w_aload_n (Ev.cm _) rfl rfl ?_
  refine w_getR (q := 312) (Ev.cm _) rfl (Nat.le_of_ble_eq_true rfl) rfl rfl ?_
  refine w_aload_n (Ev.cm _) rfl rfl ?_
  refine w_getR (q := o + 4) (Ev.cm _) rfl (isT_lt0 ho) (congrArg Prod.fst (isT_k0 ho)) (isT_r5 ho) ?_
  obtain ⟨I4, e4, q⟩ := obs q
  try dsimp only at q
  refine w_cnest (as := [.ref 312, .ref (o + 4)]) (st := []) (Ev.cm _) rfl rfl rfl (Nat.le_of_ble_eq_true rfl) (Nat.le_of_ble_eq_true rfl) (e_copyRow_e (Nat.le_of_ble_eq_true rfl) (isT_lt ho 4 (by decide)) (n := 300) rfl (isT_k4 ho) (by decide) e4 ?_)
  show Wp _ _ _ _ _ _ _ 60 [(0, .ref o), (1, .ref 308)] [] (HS I4 L X)
  refine w_aload_n (Ev.cm _) rfl rfl ?_
  refine w_getR (q := 313) (Ev.cm _) rfl (Nat.le_of_ble_eq_true rfl) rfl rfl ?_
  refine w_aload_n (Ev.cm _) rfl rfl ?_
  refine w_getR (q := o + 5) (Ev.cm _) rfl (isT_lt0 ho) (congrArg Prod.fst (isT_k0 ho)) (isT_r6 ho) ?_
  obtain ⟨I5, e5, q⟩ := obs q
  try dsimp only at q
  refine w_cnest (as := [.ref 313, .ref (o + 5)]) (st := []) (Ev.cm _) rfl rfl rfl (Nat.le_of_ble_eq_true rfl) (Nat.le_of_ble_eq_true rfl) (e_copyRow_e (Nat.le_of_ble_eq_true rfl) (isT_lt ho 5 (by decide)) (n := 300) rfl (isT_k5 ho) (by decide) e5 ?_)
  show Wp _ _ _ _ _ _ _ 71 [(0, .ref o), (1, .ref 308)] [] (HS I5 L X)
  refine w_aload_n (Ev.cm _) rfl rfl ?_
  refine w_getR (q := 314) (Ev.cm _) rfl (Nat.le_of_ble_eq_true rfl) rfl rfl ?_
  refine w_aload_n (Ev.cm _) rfl rfl ?_
  refine w_getR (q := o + 6) (Ev.cm _) rfl (isT_lt0 ho) (congrArg Prod.fst (isT_k0 ho)) (isT_r7 ho) ?_
  obtain ⟨I6, e6, q⟩ := obs q
  try dsimp only at q
  refine w_cnest (as := [.ref 314, .ref (o + 6)]) (st := []) (Ev.cm _) rfl rfl rfl (Nat.le_of_ble_eq_true rfl) (Nat.le_of_ble_eq_true rfl) (e_copyRow_e (Nat.le_of_ble_eq_true rfl) (isT_lt ho 6 (by decide)) (n := 2) rfl (isT_k6 ho) (by decide) e6 ?_)
  show Wp _ _ _ _ _ _ _ 82 [(0, .ref o), (1, .ref 308)] [] (HS I6 L X)
  refine w_aload_n (Ev.cm _) rfl rfl ?_
  refine w_getR (q := 315) (Ev.cm _) rfl (Nat.le_of_ble_eq_true rfl) rfl rfl ?_
  refine w_aload_n (Ev.cm _) rfl rfl ?_
  refine w_getR (q := o + 7) (Ev.cm _) rfl (isT_lt0 ho) (congrArg Prod.fst (isT_k0 ho)) (isT_r8 ho) ?_
  obtain ⟨I7, e7, q⟩ := obs q
  try dsimp only at q
  refine w_cnest (as := [.ref 315, .ref (o + 7)]) (st := []) (Ev.cm _) rfl rfl rfl (Nat.le_of_ble_eq_true rfl) (Nat.le_of_ble_eq_true rfl) (e_copyRow_e (Nat.le_of_ble_eq_true rfl) (isT_lt ho 7 (by decide)) (n := 2) rfl (isT_k7 ho) (by decide) e7 ?_)
  show Wp _ _ _ _ _ _ _ 93 [(0, .ref o), (1, .ref 308)] [] (HS I7 L X)
  refine w_return (Ev.cm _) rfl rfl rf0 ?_
  cases q
  exact g
def FO_T_rules (fu : Nat) (p0 : Int32) (I : Nat → Nat → Int32) (L : Nat → Nat → Int64) : Option (Int32 × (Nat → Nat → Int32) × (Nat → Nat → Int64)) := if p0 = 38 then (if I 314 0 = (-1) then (some (0, I, L)) else (some (1, I, L))) else (if I 314 1 = (-1) then (some (0, I, L)) else (some (1, I, L)))
set_option maxHeartbeats 20000000 in
set_option maxRecDepth 20000 in
theorem eo_T_rules {d fu : Nat} {p0 : Int32} {I : Nat → Nat → Int32} {L : Nat → Nat → Int64} {X : Nat × (Nat → Int32)} {Q : PQ} {res : Int32 × (Nat → Nat → Int32) × (Nat → Nat → Int64)}  (g : Q (some (.int res.1)) (HS res.2.1 res.2.2 X)) (q : FO_T_rules fu p0 I L = some res) : Ev (d + 1) m_T_rules [.ref 308, .int p0] (HS I L X) Q := by
  unfold FO_T_rules at q
  refine ev_start (d := d + 0) rfl rfl rfl (Nat.le_of_ble_eq_true rfl) ?_
  show Wp (Ev (d + 0)) cd_T_rules (0, 0) (some .boolean) _ _ Q 0 [(0, .ref 308), (1, .int p0)] [] (HS I L X)
  refine w_aload_n (Ev.cm _) rfl rfl ?_
  refine w_getR (q := 314) (Ev.cm _) rfl (Nat.le_of_ble_eq_true rfl) rfl rfl ?_
  refine w_iload_n (Ev.cm _) rfl rfl ?_
  refine w_bipush (Ev.cm _) rfl ?_
  refine w_icmp_ne (Ev.cm _) rfl (fun c1 => ?_) (fun c1 => ?_)
  · have c1 : ¬ (p0 = 38) := c1
    rw [if_neg c1] at q
    refine w_iconst (Ev.cm _) rfl ?_
    refine w_iald (Ev.cm _) rfl (Nat.le_of_ble_eq_true rfl) rfl (show vp_in 1 2 from vpI 2 (by decide) (by decide) (by decide)) ?_
    refine w_iconst (Ev.cm _) rfl ?_
    refine w_icmp_eq (Ev.cm _) rfl (fun c2 => ?_) (fun c2 => ?_)
    · have c2 : I 314 1 = (-1) := c2
      rw [if_pos c2] at q
      refine w_iconst (Ev.cm _) rfl ?_
      refine w_ireturn (Ev.cm _) rfl (by first | exact rok_0 | exact rok_1 | exact rok_b) rf0 ?_
      cases q
      exact g
    · have c2 : ¬ (I 314 1 = (-1)) := c2
      rw [if_neg c2] at q
      refine w_iconst (Ev.cm _) rfl ?_
      refine w_goto (Ev.cm _) rfl ?_
      refine w_ireturn (Ev.cm _) rfl (by first | exact rok_0 | exact rok_1 | exact rok_b) rf0 ?_
      cases q
      exact g
  · have c1 : p0 = 38 := c1
    rw [if_pos c1] at q
    refine w_iconst (Ev.cm _) rfl ?_
    refine w_goto (Ev.cm _) rfl ?_
    refine w_iald (Ev.cm _) rfl (Nat.le_of_ble_eq_true rfl) rfl (show vp_in 0 2 from vpI 2 (by decide) (by decide) (by decide)) ?_
    refine w_iconst (Ev.cm _) rfl ?_
    refine w_icmp_eq (Ev.cm _) rfl (fun c3 => ?_) (fun c3 => ?_)
    · have c3 : I 314 0 = (-1) := c3
      rw [if_pos c3] at q
      refine w_iconst (Ev.cm _) rfl ?_
      refine w_ireturn (Ev.cm _) rfl (by first | exact rok_0 | exact rok_1 | exact rok_b) rf0 ?_
      cases q
      exact g
    · have c3 : ¬ (I 314 0 = (-1)) := c3
      rw [if_neg c3] at q
      refine w_iconst (Ev.cm _) rfl ?_
      refine w_goto (Ev.cm _) rfl ?_
      refine w_ireturn (Ev.cm _) rfl (by first | exact rok_0 | exact rok_1 | exact rok_b) rf0 ?_
      cases q
      exact g
def FO_T_rules_o (fu : Nat) (o : Nat) (p0 : Int32) (I : Nat → Nat → Int32) (L : Nat → Nat → Int64) : Option (Int32 × (Nat → Nat → Int32) × (Nat → Nat → Int64)) := if p0 = 38 then (if I (o + 6) 0 = (-1) then (some (0, I, L)) else (some (1, I, L))) else (if I (o + 6) 1 = (-1) then (some (0, I, L)) else (some (1, I, L)))
set_option maxHeartbeats 20000000 in
set_option maxRecDepth 20000 in
theorem eo_T_rules_o {d fu : Nat} {o : Nat} {p0 : Int32} {I : Nat → Nat → Int32} {L : Nat → Nat → Int64} {X : Nat × (Nat → Int32)} {Q : PQ} {res : Int32 × (Nat → Nat → Int32) × (Nat → Nat → Int64)}  (ho : isT o) (g : Q (some (.int res.1)) (HS res.2.1 res.2.2 X)) (q : FO_T_rules_o fu o p0 I L = some res) : Ev (d + 1) m_T_rules [.ref o, .int p0] (HS I L X) Q := by
  unfold FO_T_rules_o at q
  refine ev_start (d := d + 0) rfl rfl rfl (Nat.le_of_ble_eq_true rfl) ?_
  show Wp (Ev (d + 0)) cd_T_rules (0, 0) (some .boolean) _ _ Q 0 [(0, .ref o), (1, .int p0)] [] (HS I L X)
  refine w_aload_n (Ev.cm _) rfl rfl ?_
  refine w_getR (q := o + 6) (Ev.cm _) rfl (isT_lt0 ho) (congrArg Prod.fst (isT_k0 ho)) (isT_r7 ho) ?_
  refine w_iload_n (Ev.cm _) rfl rfl ?_
  refine w_bipush (Ev.cm _) rfl ?_
  refine w_icmp_ne (Ev.cm _) rfl (fun c1 => ?_) (fun c1 => ?_)
  · have c1 : ¬ (p0 = 38) := c1
    rw [if_neg c1] at q
    refine w_iconst (Ev.cm _) rfl ?_
    refine w_iald (Ev.cm _) rfl (isT_lt ho 6 (by decide)) (congrArg Prod.fst (isT_k6 ho)) (vpK (isT_k6 ho) 2 (by decide) (by decide) (by decide)) ?_
    refine w_iconst (Ev.cm _) rfl ?_
    refine w_icmp_eq (Ev.cm _) rfl (fun c2 => ?_) (fun c2 => ?_)
    · have c2 : I (o + 6) 1 = (-1) := c2
      rw [if_pos c2] at q
      refine w_iconst (Ev.cm _) rfl ?_
      refine w_ireturn (Ev.cm _) rfl (by first | exact rok_0 | exact rok_1 | exact rok_b) rf0 ?_
      cases q
      exact g
    · have c2 : ¬ (I (o + 6) 1 = (-1)) := c2
      rw [if_neg c2] at q
      refine w_iconst (Ev.cm _) rfl ?_
      refine w_goto (Ev.cm _) rfl ?_
      refine w_ireturn (Ev.cm _) rfl (by first | exact rok_0 | exact rok_1 | exact rok_b) rf0 ?_
      cases q
      exact g
  · have c1 : p0 = 38 := c1
    rw [if_pos c1] at q
    refine w_iconst (Ev.cm _) rfl ?_
    refine w_goto (Ev.cm _) rfl ?_
    refine w_iald (Ev.cm _) rfl (isT_lt ho 6 (by decide)) (congrArg Prod.fst (isT_k6 ho)) (vpK (isT_k6 ho) 2 (by decide) (by decide) (by decide)) ?_
    refine w_iconst (Ev.cm _) rfl ?_
    refine w_icmp_eq (Ev.cm _) rfl (fun c3 => ?_) (fun c3 => ?_)
    · have c3 : I (o + 6) 0 = (-1) := c3
      rw [if_pos c3] at q
      refine w_iconst (Ev.cm _) rfl ?_
      refine w_ireturn (Ev.cm _) rfl (by first | exact rok_0 | exact rok_1 | exact rok_b) rf0 ?_
      cases q
      exact g
    · have c3 : ¬ (I (o + 6) 0 = (-1)) := c3
      rw [if_neg c3] at q
      refine w_iconst (Ev.cm _) rfl ?_
      refine w_goto (Ev.cm _) rfl ?_
      refine w_ireturn (Ev.cm _) rfl (by first | exact rok_0 | exact rok_1 | exact rok_b) rf0 ?_
      cases q
      exact g
def FO_T_beginLaw (fu : Nat) (p0 : Int32) (I : Nat → Nat → Int32) (L : Nat → Nat → Int64) : Option (Unit × (Nat → Nat → Int32) × (Nat → Nat → Int64)) := if p0 = 38 then (some ((), sI I 314 0 (I 308 4), L)) else (some ((), sI I 314 1 (I 308 4), L))
set_option maxHeartbeats 20000000 in
set_option maxRecDepth 20000 in
theorem eo_T_beginLaw {d fu : Nat} {p0 : Int32} {I : Nat → Nat → Int32} {L : Nat → Nat → Int64} {X : Nat × (Nat → Int32)} {Q : PQ} {res : Unit × (Nat → Nat → Int32) × (Nat → Nat → Int64)}  (g : Q none (HS res.2.1 res.2.2 X)) (q : FO_T_beginLaw fu p0 I L = some res) : Ev (d + 1) m_T_beginLaw [.ref 308, .int p0] (HS I L X) Q := by
  unfold FO_T_beginLaw at q
  refine ev_start (d := d + 0) rfl rfl rfl (Nat.le_of_ble_eq_true rfl) ?_
  show Wp (Ev (d + 0)) cd_T_beginLaw (0, 0) none _ _ Q 0 [(0, .ref 308), (1, .int p0)] [] (HS I L X)
  refine w_aload_n (Ev.cm _) rfl rfl ?_
  refine w_getR (q := 314) (Ev.cm _) rfl (Nat.le_of_ble_eq_true rfl) rfl rfl ?_
  refine w_iload_n (Ev.cm _) rfl rfl ?_
  refine w_bipush (Ev.cm _) rfl ?_
  refine w_icmp_ne (Ev.cm _) rfl (fun c1 => ?_) (fun c1 => ?_)
  · have c1 : ¬ (p0 = 38) := c1
    rw [if_neg c1] at q
    refine w_iconst (Ev.cm _) rfl ?_
    refine w_aload_n (Ev.cm _) rfl rfl ?_
    refine w_getI (Ev.cm _) rfl (Nat.le_of_ble_eq_true rfl) rfl ?_
    refine w_iast (Ev.cm _) rfl (Nat.le_of_ble_eq_true rfl) rfl (show vp_in 1 2 from vpI 2 (by decide) (by decide) (by decide)) ?_
    refine w_return (Ev.cm _) rfl rfl rf0 ?_
    cases q
    exact g
  · have c1 : p0 = 38 := c1
    rw [if_pos c1] at q
    refine w_iconst (Ev.cm _) rfl ?_
    refine w_goto (Ev.cm _) rfl ?_
    refine w_aload_n (Ev.cm _) rfl rfl ?_
    refine w_getI (Ev.cm _) rfl (Nat.le_of_ble_eq_true rfl) rfl ?_
    refine w_iast (Ev.cm _) rfl (Nat.le_of_ble_eq_true rfl) rfl (show vp_in 0 2 from vpI 2 (by decide) (by decide) (by decide)) ?_
    refine w_return (Ev.cm _) rfl rfl rf0 ?_
    cases q
    exact g
def FO_T_endLaw (fu : Nat) (p0 : Int32) (I : Nat → Nat → Int32) (L : Nat → Nat → Int64) : Option (Unit × (Nat → Nat → Int32) × (Nat → Nat → Int64)) := if p0 = 38 then (some ((), sI I 315 0 (I 308 4), L)) else (some ((), sI I 315 1 (I 308 4), L))
set_option maxHeartbeats 20000000 in
set_option maxRecDepth 20000 in
theorem eo_T_endLaw {d fu : Nat} {p0 : Int32} {I : Nat → Nat → Int32} {L : Nat → Nat → Int64} {X : Nat × (Nat → Int32)} {Q : PQ} {res : Unit × (Nat → Nat → Int32) × (Nat → Nat → Int64)}  (g : Q none (HS res.2.1 res.2.2 X)) (q : FO_T_endLaw fu p0 I L = some res) : Ev (d + 1) m_T_endLaw [.ref 308, .int p0] (HS I L X) Q := by
  unfold FO_T_endLaw at q
  refine ev_start (d := d + 0) rfl rfl rfl (Nat.le_of_ble_eq_true rfl) ?_
  show Wp (Ev (d + 0)) cd_T_endLaw (0, 0) none _ _ Q 0 [(0, .ref 308), (1, .int p0)] [] (HS I L X)
  refine w_aload_n (Ev.cm _) rfl rfl ?_
  refine w_getR (q := 315) (Ev.cm _) rfl (Nat.le_of_ble_eq_true rfl) rfl rfl ?_
  refine w_iload_n (Ev.cm _) rfl rfl ?_
  refine w_bipush (Ev.cm _) rfl ?_
  refine w_icmp_ne (Ev.cm _) rfl (fun c1 => ?_) (fun c1 => ?_)
  · have c1 : ¬ (p0 = 38) := c1
    rw [if_neg c1] at q
    refine w_iconst (Ev.cm _) rfl ?_
    refine w_aload_n (Ev.cm _) rfl rfl ?_
    refine w_getI (Ev.cm _) rfl (Nat.le_of_ble_eq_true rfl) rfl ?_
    refine w_iast (Ev.cm _) rfl (Nat.le_of_ble_eq_true rfl) rfl (show vp_in 1 2 from vpI 2 (by decide) (by decide) (by decide)) ?_
    refine w_return (Ev.cm _) rfl rfl rf0 ?_
    cases q
    exact g
  · have c1 : p0 = 38 := c1
    rw [if_pos c1] at q
    refine w_iconst (Ev.cm _) rfl ?_
    refine w_goto (Ev.cm _) rfl ?_
    refine w_aload_n (Ev.cm _) rfl rfl ?_
    refine w_getI (Ev.cm _) rfl (Nat.le_of_ble_eq_true rfl) rfl ?_
    refine w_iast (Ev.cm _) rfl (Nat.le_of_ble_eq_true rfl) rfl (show vp_in 0 2 from vpI 2 (by decide) (by decide) (by decide)) ?_
    refine w_return (Ev.cm _) rfl rfl rf0 ?_
    cases q
    exact g
def FO_T_addClause (fu : Nat) (p0 : Int32) (p1 : Int32) (p2 : Int32) (I : Nat → Nat → Int32) (L : Nat → Nat → Int64) : Option (Unit × (Nat → Nat → Int32) × (Nat → Nat → Int64)) := if (0 : Int32) ≤ (I 308 0) ∧ (I 308 0) ≤ (23 : Int32) then (if 0 ≤ I 308 0 ∧ I 308 0 < 24 then (if 0 ≤ I 308 0 ∧ I 308 0 < 24 then (if 0 ≤ I 308 0 ∧ I 308 0 < 24 then (some ((), sI (sI (sI (sI I 309 ((I 308 0).toNatClampNeg) p0) 310 ((I 308 0).toNatClampNeg) p1) 311 ((I 308 0).toNatClampNeg) p2) 308 0 ((I 308 0) + 1), L)) else none) else none) else none) else (some ((), I, L))
set_option maxHeartbeats 20000000 in
set_option maxRecDepth 20000 in
theorem eo_T_addClause {d fu : Nat} {p0 : Int32} {p1 : Int32} {p2 : Int32} {I : Nat → Nat → Int32} {L : Nat → Nat → Int64} {X : Nat × (Nat → Int32)} {Q : PQ} {res : Unit × (Nat → Nat → Int32) × (Nat → Nat → Int64)}  (g : Q none (HS res.2.1 res.2.2 X)) (q : FO_T_addClause fu p0 p1 p2 I L = some res) : Ev (d + 2) m_T_addClause [.ref 308, .int p0, .int p1, .int p2] (HS I L X) Q := by
  unfold FO_T_addClause at q
  refine ev_start (d := d + 1) rfl rfl rfl (Nat.le_of_ble_eq_true rfl) ?_
  show Wp (Ev (d + 1)) cd_T_addClause (0, 0) none _ _ Q 0 [(0, .ref 308), (1, .int p0), (2, .int p1), (3, .int p2)] [] (HS I L X)
  refine w_aload_n (Ev.cm _) rfl rfl ?_
  refine w_getI (Ev.cm _) rfl (Nat.le_of_ble_eq_true rfl) rfl ?_
  refine w_iconst (Ev.cm _) rfl ?_
  refine w_bipush (Ev.cm _) rfl ?_
  refine w_cnest (as := [.int (I 308 0), .int 0, .int 23]) (st := []) (Ev.cm _) rfl rfl rfl (Nat.le_of_ble_eq_true rfl) (Nat.le_of_ble_eq_true rfl) (x_within ?_)
  show Wp _ _ _ _ _ _ _ 10 [(0, .ref 308), (1, .int p0), (2, .int p1), (3, .int p2)] [.int (bI ((0 : Int32) ≤ (I 308 0) ∧ (I 308 0) ≤ (23 : Int32)))] (HS I L X)
  refine w_if_eq (Ev.cm _) rfl (fun c1 => ?_) (fun c1 => ?_)
  · have c1 : ¬ ((0 : Int32) ≤ (I 308 0) ∧ (I 308 0) ≤ (23 : Int32)) := bI_0.mp c1
    rw [if_neg c1] at q
    refine w_return (Ev.cm _) rfl rfl rf0 ?_
    cases q
    exact g
  · have c1 : (0 : Int32) ≤ (I 308 0) ∧ (I 308 0) ≤ (23 : Int32) := bI_1.mp c1
    rw [if_pos c1] at q
    refine w_aload_n (Ev.cm _) rfl rfl ?_
    refine w_getR (q := 309) (Ev.cm _) rfl (Nat.le_of_ble_eq_true rfl) rfl rfl ?_
    refine w_aload_n (Ev.cm _) rfl rfl ?_
    refine w_getI (Ev.cm _) rfl (Nat.le_of_ble_eq_true rfl) rfl ?_
    refine w_iload_n (Ev.cm _) rfl rfl ?_
    obtain ⟨b1, q⟩ := ois q
    refine w_iast (Ev.cm _) rfl (Nat.le_of_ble_eq_true rfl) rfl (show vp_in (I 308 0) 24 from vpI 24 (by decide) b1.1 b1.2) ?_
    refine w_aload_n (Ev.cm _) rfl rfl ?_
    refine w_getR (q := 310) (Ev.cm _) rfl (Nat.le_of_ble_eq_true rfl) rfl rfl ?_
    refine w_aload_n (Ev.cm _) rfl rfl ?_
    refine w_getI (Ev.cm _) rfl (Nat.le_of_ble_eq_true rfl) rfl ?_
    refine w_iload_n (Ev.cm _) rfl rfl ?_
    obtain ⟨b2, q⟩ := ois q
    refine w_iast (Ev.cm _) rfl (Nat.le_of_ble_eq_true rfl) rfl (show vp_in (I 308 0) 24 from vpI 24 (by decide) b2.1 b2.2) ?_
    refine w_aload_n (Ev.cm _) rfl rfl ?_
    refine w_getR (q := 311) (Ev.cm _) rfl (Nat.le_of_ble_eq_true rfl) rfl rfl ?_
    refine w_aload_n (Ev.cm _) rfl rfl ?_
    refine w_getI (Ev.cm _) rfl (Nat.le_of_ble_eq_true rfl) rfl ?_
    refine w_iload_n (Ev.cm _) rfl rfl ?_
    obtain ⟨b3, q⟩ := ois q
    refine w_iast (Ev.cm _) rfl (Nat.le_of_ble_eq_true rfl) rfl (show vp_in (I 308 0) 24 from vpI 24 (by decide) b3.1 b3.2) ?_
    refine w_aload_n (Ev.cm _) rfl rfl ?_
    refine w_dup (Ev.cm _) rfl rfl ?_
    refine w_getI (Ev.cm _) rfl (Nat.le_of_ble_eq_true rfl) rfl ?_
    refine w_iconst (Ev.cm _) rfl ?_
    refine w_iadd (Ev.cm _) rfl ?_
    refine w_putI (Ev.cm _) rfl (Nat.le_of_ble_eq_true rfl) rfl ?_
    refine w_return (Ev.cm _) rfl rfl rf0 ?_
    cases q
    exact g
def FO_T_addCode (fu : Nat) (p0 : Int32) (p1 : Int32) (I : Nat → Nat → Int32) (L : Nat → Nat → Int64) : Option (Int32 × (Nat → Nat → Int32) × (Nat → Nat → Int64)) := if (0 : Int32) ≤ (I 308 4) ∧ (I 308 4) ≤ (299 : Int32) then (if 0 ≤ I 308 4 ∧ I 308 4 < 300 then (if 0 ≤ I 308 4 ∧ I 308 4 < 300 then (some (((I 308 4) + 1) - 1, sI (sI (sI I 312 ((I 308 4).toNatClampNeg) p0) 313 ((I 308 4).toNatClampNeg) p1) 308 4 ((I 308 4) + 1), L)) else none) else none) else (some ((-1), I, L))
set_option maxHeartbeats 20000000 in
set_option maxRecDepth 20000 in
theorem eo_T_addCode {d fu : Nat} {p0 : Int32} {p1 : Int32} {I : Nat → Nat → Int32} {L : Nat → Nat → Int64} {X : Nat × (Nat → Int32)} {Q : PQ} {res : Int32 × (Nat → Nat → Int32) × (Nat → Nat → Int64)}  (g : Q (some (.int res.1)) (HS res.2.1 res.2.2 X)) (q : FO_T_addCode fu p0 p1 I L = some res) : Ev (d + 2) m_T_addCode [.ref 308, .int p0, .int p1] (HS I L X) Q := by
  unfold FO_T_addCode at q
  refine ev_start (d := d + 1) rfl rfl rfl (Nat.le_of_ble_eq_true rfl) ?_
  show Wp (Ev (d + 1)) cd_T_addCode (0, 0) (some .int) _ _ Q 0 [(0, .ref 308), (1, .int p0), (2, .int p1)] [] (HS I L X)
  refine w_aload_n (Ev.cm _) rfl rfl ?_
  refine w_getI (Ev.cm _) rfl (Nat.le_of_ble_eq_true rfl) rfl ?_
  refine w_iconst (Ev.cm _) rfl ?_
  refine w_sipush (Ev.cm _) rfl ?_
  refine w_cnest (as := [.int (I 308 4), .int 0, .int 299]) (st := []) (Ev.cm _) rfl rfl rfl (Nat.le_of_ble_eq_true rfl) (Nat.le_of_ble_eq_true rfl) (x_within ?_)
  show Wp _ _ _ _ _ _ _ 11 [(0, .ref 308), (1, .int p0), (2, .int p1)] [.int (bI ((0 : Int32) ≤ (I 308 4) ∧ (I 308 4) ≤ (299 : Int32)))] (HS I L X)
  refine w_if_ne (Ev.cm _) rfl (fun c1 => ?_) (fun c1 => ?_)
  · have c1 : (0 : Int32) ≤ (I 308 4) ∧ (I 308 4) ≤ (299 : Int32) := bI_1.mp c1
    rw [if_pos c1] at q
    refine w_aload_n (Ev.cm _) rfl rfl ?_
    refine w_getR (q := 312) (Ev.cm _) rfl (Nat.le_of_ble_eq_true rfl) rfl rfl ?_
    refine w_aload_n (Ev.cm _) rfl rfl ?_
    refine w_getI (Ev.cm _) rfl (Nat.le_of_ble_eq_true rfl) rfl ?_
    refine w_iload_n (Ev.cm _) rfl rfl ?_
    obtain ⟨b1, q⟩ := ois q
    refine w_iast (Ev.cm _) rfl (Nat.le_of_ble_eq_true rfl) rfl (show vp_in (I 308 4) 300 from vpI 300 (by decide) b1.1 b1.2) ?_
    refine w_aload_n (Ev.cm _) rfl rfl ?_
    refine w_getR (q := 313) (Ev.cm _) rfl (Nat.le_of_ble_eq_true rfl) rfl rfl ?_
    refine w_aload_n (Ev.cm _) rfl rfl ?_
    refine w_getI (Ev.cm _) rfl (Nat.le_of_ble_eq_true rfl) rfl ?_
    refine w_iload_n (Ev.cm _) rfl rfl ?_
    obtain ⟨b2, q⟩ := ois q
    refine w_iast (Ev.cm _) rfl (Nat.le_of_ble_eq_true rfl) rfl (show vp_in (I 308 4) 300 from vpI 300 (by decide) b2.1 b2.2) ?_
    refine w_aload_n (Ev.cm _) rfl rfl ?_
    refine w_dup (Ev.cm _) rfl rfl ?_
    refine w_getI (Ev.cm _) rfl (Nat.le_of_ble_eq_true rfl) rfl ?_
    refine w_iconst (Ev.cm _) rfl ?_
    refine w_iadd (Ev.cm _) rfl ?_
    refine w_putI (Ev.cm _) rfl (Nat.le_of_ble_eq_true rfl) rfl ?_
    refine w_aload_n (Ev.cm _) rfl rfl ?_
    refine w_getI (Ev.cm _) rfl (Nat.le_of_ble_eq_true rfl) rfl ?_
    refine w_iconst (Ev.cm _) rfl ?_
    refine w_isub (Ev.cm _) rfl ?_
    refine w_ireturn (Ev.cm _) rfl trivial rf0 ?_
    cases q
    exact g
  · have c1 : ¬ ((0 : Int32) ≤ (I 308 4) ∧ (I 308 4) ≤ (299 : Int32)) := bI_0.mp c1
    rw [if_neg c1] at q
    refine w_iconst (Ev.cm _) rfl ?_
    refine w_ireturn (Ev.cm _) rfl trivial rf0 ?_
    cases q
    exact g
def FO_T_jumpToHere (fu : Nat) (p0 : Int32) (I : Nat → Nat → Int32) (L : Nat → Nat → Int64) : Option (Unit × (Nat → Nat → Int32) × (Nat → Nat → Int64)) := if (0 : Int32) ≤ p0 ∧ p0 ≤ (299 : Int32) then (if 0 ≤ p0 ∧ p0 < 300 then (some ((), sI I 313 p0.toNatClampNeg (I 308 4), L)) else none) else (some ((), I, L))
set_option maxHeartbeats 20000000 in
set_option maxRecDepth 20000 in
theorem eo_T_jumpToHere {d fu : Nat} {p0 : Int32} {I : Nat → Nat → Int32} {L : Nat → Nat → Int64} {X : Nat × (Nat → Int32)} {Q : PQ} {res : Unit × (Nat → Nat → Int32) × (Nat → Nat → Int64)}  (g : Q none (HS res.2.1 res.2.2 X)) (q : FO_T_jumpToHere fu p0 I L = some res) : Ev (d + 2) m_T_jumpToHere [.ref 308, .int p0] (HS I L X) Q := by
  unfold FO_T_jumpToHere at q
  refine ev_start (d := d + 1) rfl rfl rfl (Nat.le_of_ble_eq_true rfl) ?_
  show Wp (Ev (d + 1)) cd_T_jumpToHere (0, 0) none _ _ Q 0 [(0, .ref 308), (1, .int p0)] [] (HS I L X)
  refine w_iload_n (Ev.cm _) rfl rfl ?_
  refine w_iconst (Ev.cm _) rfl ?_
  refine w_sipush (Ev.cm _) rfl ?_
  refine w_cnest (as := [.int p0, .int 0, .int 299]) (st := []) (Ev.cm _) rfl rfl rfl (Nat.le_of_ble_eq_true rfl) (Nat.le_of_ble_eq_true rfl) (x_within ?_)
  show Wp _ _ _ _ _ _ _ 8 [(0, .ref 308), (1, .int p0)] [.int (bI ((0 : Int32) ≤ p0 ∧ p0 ≤ (299 : Int32)))] (HS I L X)
  refine w_if_eq (Ev.cm _) rfl (fun c1 => ?_) (fun c1 => ?_)
  · have c1 : ¬ ((0 : Int32) ≤ p0 ∧ p0 ≤ (299 : Int32)) := bI_0.mp c1
    rw [if_neg c1] at q
    refine w_return (Ev.cm _) rfl rfl rf0 ?_
    cases q
    exact g
  · have c1 : (0 : Int32) ≤ p0 ∧ p0 ≤ (299 : Int32) := bI_1.mp c1
    rw [if_pos c1] at q
    refine w_aload_n (Ev.cm _) rfl rfl ?_
    refine w_getR (q := 313) (Ev.cm _) rfl (Nat.le_of_ble_eq_true rfl) rfl rfl ?_
    refine w_iload_n (Ev.cm _) rfl rfl ?_
    refine w_aload_n (Ev.cm _) rfl rfl ?_
    refine w_getI (Ev.cm _) rfl (Nat.le_of_ble_eq_true rfl) rfl ?_
    obtain ⟨b1, q⟩ := ois q
    refine w_iast (Ev.cm _) rfl (Nat.le_of_ble_eq_true rfl) rfl (show vp_in p0 300 from vpI 300 (by decide) b1.1 b1.2) ?_
    refine w_return (Ev.cm _) rfl rfl rf0 ?_
    cases q
    exact g
def FO_X_end (fu : Nat) (p0 : Int32) (I : Nat → Nat → Int32) (L : Nat → Nat → Int64) : Option (Int32 × (Nat → Nat → Int32) × (Nat → Nat → Int64)) := if (0 : Int32) ≤ p0 ∧ p0 ≤ (I 0 4) then (some (p0, sI I 0 4 p0, L)) else (some ((-1), I, L))
set_option maxHeartbeats 20000000 in
set_option maxRecDepth 20000 in
theorem eo_X_end {d fu : Nat} {p0 : Int32} {I : Nat → Nat → Int32} {L : Nat → Nat → Int64} {X : Nat × (Nat → Int32)} {Q : PQ} {res : Int32 × (Nat → Nat → Int32) × (Nat → Nat → Int64)}  (g : Q (some (.int res.1)) (HS res.2.1 res.2.2 X)) (q : FO_X_end fu p0 I L = some res) : Ev (d + 2) m_X_end [.ref 0, .int p0] (HS I L X) Q := by
  unfold FO_X_end at q
  refine ev_start (d := d + 1) rfl rfl rfl (Nat.le_of_ble_eq_true rfl) ?_
  show Wp (Ev (d + 1)) cd_X_end (0, 0) (some .int) _ _ Q 0 [(0, .ref 0), (1, .int p0)] [] (HS I L X)
  refine w_iload_n (Ev.cm _) rfl rfl ?_
  refine w_iconst (Ev.cm _) rfl ?_
  refine w_aload_n (Ev.cm _) rfl rfl ?_
  refine w_getI (Ev.cm _) rfl (Nat.le_of_ble_eq_true rfl) rfl ?_
  refine w_cstat (as := [.int p0, .int 0, .int (I 0 4)]) (st := []) (Ev.cm _) rfl rfl rfl (Nat.le_of_ble_eq_true rfl) (Nat.le_of_ble_eq_true rfl) (x_within ?_)
  show Wp _ _ _ _ _ _ _ 9 [(0, .ref 0), (1, .int p0)] [.int (bI ((0 : Int32) ≤ p0 ∧ p0 ≤ (I 0 4)))] (HS I L X)
  refine w_if_ne (Ev.cm _) rfl (fun c1 => ?_) (fun c1 => ?_)
  · have c1 : (0 : Int32) ≤ p0 ∧ p0 ≤ (I 0 4) := bI_1.mp c1
    rw [if_pos c1] at q
    refine w_aload_n (Ev.cm _) rfl rfl ?_
    refine w_iload_n (Ev.cm _) rfl rfl ?_
    refine w_putI (Ev.cm _) rfl (Nat.le_of_ble_eq_true rfl) rfl ?_
    refine w_iload_n (Ev.cm _) rfl rfl ?_
    refine w_ireturn (Ev.cm _) rfl trivial rf0 ?_
    cases q
    exact g
  · have c1 : ¬ ((0 : Int32) ≤ p0 ∧ p0 ≤ (I 0 4)) := bI_0.mp c1
    rw [if_neg c1] at q
    refine w_iconst (Ev.cm _) rfl ?_
    refine w_ireturn (Ev.cm _) rfl trivial rf0 ?_
    cases q
    exact g
def FO_X_fault (fu : Nat) (p0 : Int32) (I : Nat → Nat → Int32) (L : Nat → Nat → Int64) : Option (Int32 × (Nat → Nat → Int32) × (Nat → Nat → Int64)) := if I 307 0 = 0 then (some ((-1), I, L)) else (if p0 = 0 then (some (I 307 1, I, L)) else (if p0 = 1 then (some (I 307 2, I, L)) else (some ((-1), I, L))))
set_option maxHeartbeats 20000000 in
set_option maxRecDepth 20000 in
theorem eo_X_fault {d fu : Nat} {p0 : Int32} {I : Nat → Nat → Int32} {L : Nat → Nat → Int64} {X : Nat × (Nat → Int32)} {Q : PQ} {res : Int32 × (Nat → Nat → Int32) × (Nat → Nat → Int64)}  (g : Q (some (.int res.1)) (HS res.2.1 res.2.2 X)) (q : FO_X_fault fu p0 I L = some res) : Ev (d + 1) m_X_fault [.ref 0, .int p0] (HS I L X) Q := by
  unfold FO_X_fault at q
  refine ev_start (d := d + 0) rfl rfl rfl (Nat.le_of_ble_eq_true rfl) ?_
  show Wp (Ev (d + 0)) cd_X_fault (0, 0) (some .int) _ _ Q 0 [(0, .ref 0), (1, .int p0)] [] (HS I L X)
  refine w_aload_n (Ev.cm _) rfl rfl ?_
  refine w_getR (q := 307) (Ev.cm _) rfl (Nat.le_of_ble_eq_true rfl) rfl rfl ?_
  refine w_getI (Ev.cm _) rfl (Nat.le_of_ble_eq_true rfl) rfl ?_
  refine w_if_ne (Ev.cm _) rfl (fun c1 => ?_) (fun c1 => ?_)
  · have c1 : ¬ (I 307 0 = 0) := c1
    rw [if_neg c1] at q
    refine w_iload_n (Ev.cm _) rfl rfl ?_
    refine w_lsw (Ev.cm _) rfl ?_
    refine ⟨fun c2 => ?_, fun c2_0 => ⟨fun c2 => ?_, fun c2_1 => ?_⟩⟩
    · have c2 : p0 = 0 := sw_v c2 (by decide)
      rw [if_pos c2] at q
      show Wp _ _ _ _ _ _ _ 40 [(0, .ref 0), (1, .int p0)] [] (HS I L X)
      refine w_aload_n (Ev.cm _) rfl rfl ?_
      refine w_getR (q := 307) (Ev.cm _) rfl (Nat.le_of_ble_eq_true rfl) rfl rfl ?_
      refine w_getI (Ev.cm _) rfl (Nat.le_of_ble_eq_true rfl) rfl ?_
      refine w_ireturn (Ev.cm _) rfl trivial rf0 ?_
      cases q
      exact g
    · have c2_0 : ¬ p0 = 0 := sw_w c2_0 (by decide)
      have c2 : p0 = 1 := sw_v c2 (by decide)
      rw [if_neg c2_0, if_pos c2] at q
      show Wp _ _ _ _ _ _ _ 48 [(0, .ref 0), (1, .int p0)] [] (HS I L X)
      refine w_aload_n (Ev.cm _) rfl rfl ?_
      refine w_getR (q := 307) (Ev.cm _) rfl (Nat.le_of_ble_eq_true rfl) rfl rfl ?_
      refine w_getI (Ev.cm _) rfl (Nat.le_of_ble_eq_true rfl) rfl ?_
      refine w_ireturn (Ev.cm _) rfl trivial rf0 ?_
      cases q
      exact g
    · have c2_0 : ¬ p0 = 0 := sw_w c2_0 (by decide)
      have c2_1 : ¬ p0 = 1 := sw_w c2_1 (by decide)
      rw [if_neg c2_0, if_neg c2_1] at q
      show Wp _ _ _ _ _ _ _ 56 [(0, .ref 0), (1, .int p0)] [] (HS I L X)
      refine w_iconst (Ev.cm _) rfl ?_
      refine w_ireturn (Ev.cm _) rfl trivial rf0 ?_
      cases q
      exact g
  · have c1 : I 307 0 = 0 := c1
    rw [if_pos c1] at q
    refine w_iconst (Ev.cm _) rfl ?_
    refine w_ireturn (Ev.cm _) rfl trivial rf0 ?_
    cases q
    exact g
def FO_X_by (fu : Nat) (p0 : Int32) (I : Nat → Nat → Int32) (L : Nat → Nat → Int64) : Option (Int32 × (Nat → Nat → Int32) × (Nat → Nat → Int64)) := if p0 = (-1) then (some (1, sI I 1 7 p0, L)) else (if isLib I p0 then (some (1, sI I 1 7 p0, L)) else (some (0, I, L)))
set_option maxHeartbeats 20000000 in
set_option maxRecDepth 20000 in
theorem eo_X_by {d fu : Nat} {p0 : Int32} {I : Nat → Nat → Int32} {L : Nat → Nat → Int64} {X : Nat × (Nat → Int32)} {Q : PQ} {res : Int32 × (Nat → Nat → Int32) × (Nat → Nat → Int64)}  (g : Q (some (.int res.1)) (HS res.2.1 res.2.2 X)) (q : FO_X_by fu p0 I L = some res) : Ev (d + 2) m_X_by [.ref 0, .int p0] (HS I L X) Q := by
  unfold FO_X_by at q
  refine ev_start (d := d + 1) rfl rfl rfl (Nat.le_of_ble_eq_true rfl) ?_
  show Wp (Ev (d + 1)) cd_X_by (0, 0) (some .boolean) _ _ Q 0 [(0, .ref 0), (1, .int p0)] [] (HS I L X)
  refine w_iload_n (Ev.cm _) rfl rfl ?_
  refine w_iconst (Ev.cm _) rfl ?_
  refine w_icmp_eq (Ev.cm _) rfl (fun c1 => ?_) (fun c1 => ?_)
  · have c1 : p0 = (-1) := c1
    rw [if_pos c1] at q
    refine w_aload_n (Ev.cm _) rfl rfl ?_
    refine w_getR (q := 1) (Ev.cm _) rfl (Nat.le_of_ble_eq_true rfl) rfl rfl ?_
    refine w_iload_n (Ev.cm _) rfl rfl ?_
    refine w_putI (Ev.cm _) rfl (Nat.le_of_ble_eq_true rfl) rfl ?_
    refine w_iconst (Ev.cm _) rfl ?_
    refine w_ireturn (Ev.cm _) rfl (by first | exact rok_0 | exact rok_1 | exact rok_b) rf0 ?_
    cases q
    exact g
  · have c1 : ¬ (p0 = (-1)) := c1
    rw [if_neg c1] at q
    refine w_aload_n (Ev.cm _) rfl rfl ?_
    refine w_iload_n (Ev.cm _) rfl rfl ?_
    rcases Decidable.em (isLib I p0) with c2 | c2
    · rw [if_pos c2] at q
      refine w_cvirt (o := 0) (as := [.int p0]) (st := []) (Ev.cm _) rfl rfl rfl (Nat.le_of_ble_eq_true rfl) (Nat.le_of_ble_eq_true rfl) rfl (Nat.le_of_ble_eq_true rfl) (x_textOf_t c2 ?_)
      show Wp _ _ _ _ _ _ _ 10 [(0, .ref 0), (1, .int p0)] [.ref (274 + 8 * p0.toNatClampNeg)] (HS I L X)
      refine w_ifnonnull (Ev.cm _) rfl ?_
      refine w_aload_n (Ev.cm _) rfl rfl ?_
      refine w_getR (q := 1) (Ev.cm _) rfl (Nat.le_of_ble_eq_true rfl) rfl rfl ?_
      refine w_iload_n (Ev.cm _) rfl rfl ?_
      refine w_putI (Ev.cm _) rfl (Nat.le_of_ble_eq_true rfl) rfl ?_
      refine w_iconst (Ev.cm _) rfl ?_
      refine w_ireturn (Ev.cm _) rfl (by first | exact rok_0 | exact rok_1 | exact rok_b) rf0 ?_
      cases q
      exact g
    · rw [if_neg c2] at q
      refine w_cvirt (o := 0) (as := [.int p0]) (st := []) (Ev.cm _) rfl rfl rfl (Nat.le_of_ble_eq_true rfl) (Nat.le_of_ble_eq_true rfl) rfl (Nat.le_of_ble_eq_true rfl) (x_textOf_n c2 ?_)
      show Wp _ _ _ _ _ _ _ 10 [(0, .ref 0), (1, .int p0)] [.null] (HS I L X)
      refine w_ifnonnullN (Ev.cm _) rfl ?_
      refine w_iconst (Ev.cm _) rfl ?_
      refine w_ireturn (Ev.cm _) rfl (by first | exact rok_0 | exact rok_1 | exact rok_b) rf0 ?_
      cases q
      exact g
def FO_X_undo (fu : Nat) (I : Nat → Nat → Int32) (L : Nat → Nat → Int64) : Option (Int32 × (Nat → Nat → Int32) × (Nat → Nat → Int64)) := (FO_S_takeBack fu  I L).bind (fun u1 => let r1 := u1.1; let I1 := u1.2.1; let L1 := u1.2.2; if r1 = 0 then (some ((-1), I1, L1)) else (some (I1 6 2, I1, L1)))
set_option maxHeartbeats 20000000 in
set_option maxRecDepth 20000 in
theorem eo_X_undo {d fu : Nat} {I : Nat → Nat → Int32} {L : Nat → Nat → Int64} {X : Nat × (Nat → Int32)} {Q : PQ} {res : Int32 × (Nat → Nat → Int32) × (Nat → Nat → Int64)}  (g : Q (some (.int res.1)) (HS res.2.1 res.2.2 X)) (q : FO_X_undo fu  I L = some res) : Ev (d + 5) m_X_undo [.ref 0] (HS I L X) Q := by
  unfold FO_X_undo at q
  refine ev_start (d := d + 4) rfl rfl rfl (Nat.le_of_ble_eq_true rfl) ?_
  show Wp (Ev (d + 4)) cd_X_undo (0, 0) (some .int) _ _ Q 0 [(0, .ref 0)] [] (HS I L X)
  refine w_aload_n (Ev.cm _) rfl rfl ?_
  refine w_getR (q := 1) (Ev.cm _) rfl (Nat.le_of_ble_eq_true rfl) rfl rfl ?_
  refine w_getR (q := 6) (Ev.cm _) rfl (Nat.le_of_ble_eq_true rfl) rfl rfl ?_
  refine w_aload_n (Ev.cm _) rfl rfl ?_
  refine w_getR (q := 1) (Ev.cm _) rfl (Nat.le_of_ble_eq_true rfl) rfl rfl ?_
  refine w_getR (q := 2) (Ev.cm _) rfl (Nat.le_of_ble_eq_true rfl) rfl rfl ?_
  obtain ⟨⟨r1, I1, L1⟩, e1, q⟩ := obs q
  dsimp only at q
  refine w_cvirt (o := 6) (as := [.ref 2]) (st := []) (Ev.cm _) rfl rfl rfl (Nat.le_of_ble_eq_true rfl) (Nat.le_of_ble_eq_true rfl) rfl (Nat.le_of_ble_eq_true rfl) (eo_S_takeBack (g := ?_) e1)
  show Wp _ _ _ _ _ _ _ 17 [(0, .ref 0)] [.int r1] (HS I1 L1 X)
  refine w_if_ne (Ev.cm _) rfl (fun c1 => ?_) (fun c1 => ?_)
  · have c1 : ¬ (r1 = 0) := c1
    rw [if_neg c1] at q
    refine w_aload_n (Ev.cm _) rfl rfl ?_
    refine w_getR (q := 1) (Ev.cm _) rfl (Nat.le_of_ble_eq_true rfl) rfl rfl ?_
    refine w_getR (q := 6) (Ev.cm _) rfl (Nat.le_of_ble_eq_true rfl) rfl rfl ?_
    refine w_getI (Ev.cm _) rfl (Nat.le_of_ble_eq_true rfl) rfl ?_
    refine w_ireturn (Ev.cm _) rfl trivial rf0 ?_
    cases q
    exact g
  · have c1 : r1 = 0 := c1
    rw [if_pos c1] at q
    refine w_iconst (Ev.cm _) rfl ?_
    refine w_ireturn (Ev.cm _) rfl trivial rf0 ?_
    cases q
    exact g
def FO_X_of (fu : Nat) (p0 : Int32) (p1 : Int32) (I : Nat → Nat → Int32) (L : Nat → Nat → Int64) : Option (Int32 × (Nat → Nat → Int32) × (Nat → Nat → Int64)) := if F_X_isLodger I p0 = 0 then (some ((-1), I, L)) else (if p1 = 0 then (if 0 ≤ p0 ∧ p0 < 6 then (some (I 128 p0.toNatClampNeg, I, L)) else none) else (if p1 = 1 then (if 0 ≤ p0 ∧ p0 < 6 then (some (I 129 p0.toNatClampNeg, I, L)) else none) else (if p1 = 2 then (if 0 ≤ p0 ∧ p0 < 6 then (some (I 3 p0.toNatClampNeg, I, L)) else none) else (if p1 = 3 then (if 0 ≤ p0 ∧ p0 < 6 then (some (I 4 p0.toNatClampNeg, I, L)) else none) else (if p1 = 4 then (if 0 ≤ p0 ∧ p0 < 6 then (some (I 130 p0.toNatClampNeg, I, L)) else none) else (some ((-1), I, L)))))))
set_option maxHeartbeats 20000000 in
set_option maxRecDepth 20000 in
theorem eo_X_of {d fu : Nat} {p0 : Int32} {p1 : Int32} {I : Nat → Nat → Int32} {L : Nat → Nat → Int64} {X : Nat × (Nat → Int32)} {Q : PQ} {res : Int32 × (Nat → Nat → Int32) × (Nat → Nat → Int64)}  (g : Q (some (.int res.1)) (HS res.2.1 res.2.2 X)) (q : FO_X_of fu p0 p1 I L = some res) : Ev (d + 4) m_X_of [.ref 0, .int p0, .int p1] (HS I L X) Q := by
  unfold FO_X_of at q
  refine ev_start (d := d + 3) rfl rfl rfl (Nat.le_of_ble_eq_true rfl) ?_
  show Wp (Ev (d + 3)) cd_X_of (0, 0) (some .int) _ _ Q 0 [(0, .ref 0), (1, .int p0), (2, .int p1)] [] (HS I L X)
  refine w_aload_n (Ev.cm _) rfl rfl ?_
  refine w_iload_n (Ev.cm _) rfl rfl ?_
  refine w_cvirt (o := 0) (as := [.int p0]) (st := []) (Ev.cm _) rfl rfl rfl (Nat.le_of_ble_eq_true rfl) (Nat.le_of_ble_eq_true rfl) rfl (Nat.le_of_ble_eq_true rfl) (e_X_isLodger ?_)
  show Wp _ _ _ _ _ _ _ 5 [(0, .ref 0), (1, .int p0), (2, .int p1)] [.int (F_X_isLodger I p0)] (HS I L X)
  refine w_if_ne (Ev.cm _) rfl (fun c1 => ?_) (fun c1 => ?_)
  · have c1 : ¬ (F_X_isLodger I p0 = 0) := c1
    rw [if_neg c1] at q
    refine w_iload_n (Ev.cm _) rfl rfl ?_
    refine w_tswL (Ev.cm _) [(0, 33), (1, 43), (2, 53), (3, 66), (4, 79)] rfl (by decide +kernel) (by decide +kernel) ?_
    refine ⟨fun c2 => ?_, fun c2_0 => ⟨fun c2 => ?_, fun c2_1 => ⟨fun c2 => ?_, fun c2_2 => ⟨fun c2 => ?_, fun c2_3 => ⟨fun c2 => ?_, fun c2_4 => ?_⟩⟩⟩⟩⟩
    · have c2 : p1 = 0 := sw_v c2 (by decide)
      rw [if_pos c2] at q
      show Wp _ _ _ _ _ _ _ 44 [(0, .ref 0), (1, .int p0), (2, .int p1)] [] (HS I L X)
      refine w_aload_n (Ev.cm _) rfl rfl ?_
      refine w_getR (q := 1) (Ev.cm _) rfl (Nat.le_of_ble_eq_true rfl) rfl rfl ?_
      refine w_getR (q := 128) (Ev.cm _) rfl (Nat.le_of_ble_eq_true rfl) rfl rfl ?_
      refine w_iload_n (Ev.cm _) rfl rfl ?_
      obtain ⟨b1, q⟩ := ois q
      refine w_iald (Ev.cm _) rfl (Nat.le_of_ble_eq_true rfl) rfl (show vp_in p0 6 from vpI 6 (by decide) b1.1 b1.2) ?_
      refine w_ireturn (Ev.cm _) rfl trivial rf0 ?_
      cases q
      exact g
    · have c2_0 : ¬ p1 = 0 := sw_w c2_0 (by decide)
      have c2 : p1 = 1 := sw_v c2 (by decide)
      rw [if_neg c2_0, if_pos c2] at q
      show Wp _ _ _ _ _ _ _ 54 [(0, .ref 0), (1, .int p0), (2, .int p1)] [] (HS I L X)
      refine w_aload_n (Ev.cm _) rfl rfl ?_
      refine w_getR (q := 1) (Ev.cm _) rfl (Nat.le_of_ble_eq_true rfl) rfl rfl ?_
      refine w_getR (q := 129) (Ev.cm _) rfl (Nat.le_of_ble_eq_true rfl) rfl rfl ?_
      refine w_iload_n (Ev.cm _) rfl rfl ?_
      obtain ⟨b2, q⟩ := ois q
      refine w_iald (Ev.cm _) rfl (Nat.le_of_ble_eq_true rfl) rfl (show vp_in p0 6 from vpI 6 (by decide) b2.1 b2.2) ?_
      refine w_ireturn (Ev.cm _) rfl trivial rf0 ?_
      cases q
      exact g
    · have c2_0 : ¬ p1 = 0 := sw_w c2_0 (by decide)
      have c2_1 : ¬ p1 = 1 := sw_w c2_1 (by decide)
      have c2 : p1 = 2 := sw_v c2 (by decide)
      rw [if_neg c2_0, if_neg c2_1, if_pos c2] at q
      show Wp _ _ _ _ _ _ _ 64 [(0, .ref 0), (1, .int p0), (2, .int p1)] [] (HS I L X)
      refine w_aload_n (Ev.cm _) rfl rfl ?_
      refine w_getR (q := 1) (Ev.cm _) rfl (Nat.le_of_ble_eq_true rfl) rfl rfl ?_
      refine w_getR (q := 2) (Ev.cm _) rfl (Nat.le_of_ble_eq_true rfl) rfl rfl ?_
      refine w_getR (q := 3) (Ev.cm _) rfl (Nat.le_of_ble_eq_true rfl) rfl rfl ?_
      refine w_iload_n (Ev.cm _) rfl rfl ?_
      obtain ⟨b3, q⟩ := ois q
      refine w_iald (Ev.cm _) rfl (Nat.le_of_ble_eq_true rfl) rfl (show vp_in p0 6 from vpI 6 (by decide) b3.1 b3.2) ?_
      refine w_ireturn (Ev.cm _) rfl trivial rf0 ?_
      cases q
      exact g
    · have c2_0 : ¬ p1 = 0 := sw_w c2_0 (by decide)
      have c2_1 : ¬ p1 = 1 := sw_w c2_1 (by decide)
      have c2_2 : ¬ p1 = 2 := sw_w c2_2 (by decide)
      have c2 : p1 = 3 := sw_v c2 (by decide)
      rw [if_neg c2_0, if_neg c2_1, if_neg c2_2, if_pos c2] at q
      show Wp _ _ _ _ _ _ _ 77 [(0, .ref 0), (1, .int p0), (2, .int p1)] [] (HS I L X)
      refine w_aload_n (Ev.cm _) rfl rfl ?_
      refine w_getR (q := 1) (Ev.cm _) rfl (Nat.le_of_ble_eq_true rfl) rfl rfl ?_
      refine w_getR (q := 2) (Ev.cm _) rfl (Nat.le_of_ble_eq_true rfl) rfl rfl ?_
      refine w_getR (q := 4) (Ev.cm _) rfl (Nat.le_of_ble_eq_true rfl) rfl rfl ?_
      refine w_iload_n (Ev.cm _) rfl rfl ?_
      obtain ⟨b4, q⟩ := ois q
      refine w_iald (Ev.cm _) rfl (Nat.le_of_ble_eq_true rfl) rfl (show vp_in p0 6 from vpI 6 (by decide) b4.1 b4.2) ?_
      refine w_ireturn (Ev.cm _) rfl trivial rf0 ?_
      cases q
      exact g
    · have c2_0 : ¬ p1 = 0 := sw_w c2_0 (by decide)
      have c2_1 : ¬ p1 = 1 := sw_w c2_1 (by decide)
      have c2_2 : ¬ p1 = 2 := sw_w c2_2 (by decide)
      have c2_3 : ¬ p1 = 3 := sw_w c2_3 (by decide)
      have c2 : p1 = 4 := sw_v c2 (by decide)
      rw [if_neg c2_0, if_neg c2_1, if_neg c2_2, if_neg c2_3, if_pos c2] at q
      show Wp _ _ _ _ _ _ _ 90 [(0, .ref 0), (1, .int p0), (2, .int p1)] [] (HS I L X)
      refine w_aload_n (Ev.cm _) rfl rfl ?_
      refine w_getR (q := 1) (Ev.cm _) rfl (Nat.le_of_ble_eq_true rfl) rfl rfl ?_
      refine w_getR (q := 130) (Ev.cm _) rfl (Nat.le_of_ble_eq_true rfl) rfl rfl ?_
      refine w_iload_n (Ev.cm _) rfl rfl ?_
      obtain ⟨b5, q⟩ := ois q
      refine w_iald (Ev.cm _) rfl (Nat.le_of_ble_eq_true rfl) rfl (show vp_in p0 6 from vpI 6 (by decide) b5.1 b5.2) ?_
      refine w_ireturn (Ev.cm _) rfl trivial rf0 ?_
      cases q
      exact g
    · have c2_0 : ¬ p1 = 0 := sw_w c2_0 (by decide)
      have c2_1 : ¬ p1 = 1 := sw_w c2_1 (by decide)
      have c2_2 : ¬ p1 = 2 := sw_w c2_2 (by decide)
      have c2_3 : ¬ p1 = 3 := sw_w c2_3 (by decide)
      have c2_4 : ¬ p1 = 4 := sw_w c2_4 (by decide)
      rw [if_neg c2_0, if_neg c2_1, if_neg c2_2, if_neg c2_3, if_neg c2_4] at q
      show Wp _ _ _ _ _ _ _ 100 [(0, .ref 0), (1, .int p0), (2, .int p1)] [] (HS I L X)
      refine w_iconst (Ev.cm _) rfl ?_
      refine w_ireturn (Ev.cm _) rfl trivial rf0 ?_
      cases q
      exact g
  · have c1 : F_X_isLodger I p0 = 0 := c1
    rw [if_pos c1] at q
    refine w_iconst (Ev.cm _) rfl ?_
    refine w_ireturn (Ev.cm _) rfl trivial rf0 ?_
    cases q
    exact g
def FO_X_book (fu : Nat) (p0 : Int32) (p1 : Int32) (I : Nat → Nat → Int32) (L : Nat → Nat → Int64) : Option (Int32 × (Nat → Nat → Int32) × (Nat → Nat → Int64)) := if p0 = (-1) then (some (I 2 4, I, L)) else (if (0 : Int32) ≤ p0 ∧ p0 ≤ ((I 2 4) - 1) then (if 30 ≤ p0 then (some ((-2), I, L)) else (if (0 : Int32) ≤ p1 ∧ p1 ≤ (2 : Int32) then (if 0 ≤ (p0 * 3) + p1 ∧ (p0 * 3) + p1 < 90 then (some (I 5 (((p0 * 3) + p1).toNatClampNeg), I, L)) else none) else (some ((-2), I, L)))) else (some ((-2), I, L)))
set_option maxHeartbeats 20000000 in
set_option maxRecDepth 20000 in
theorem eo_X_book {d fu : Nat} {p0 : Int32} {p1 : Int32} {I : Nat → Nat → Int32} {L : Nat → Nat → Int64} {X : Nat × (Nat → Int32)} {Q : PQ} {res : Int32 × (Nat → Nat → Int32) × (Nat → Nat → Int64)}  (g : Q (some (.int res.1)) (HS res.2.1 res.2.2 X)) (q : FO_X_book fu p0 p1 I L = some res) : Ev (d + 2) m_X_book [.ref 0, .int p0, .int p1] (HS I L X) Q := by
  unfold FO_X_book at q
  refine ev_start (d := d + 1) rfl rfl rfl (Nat.le_of_ble_eq_true rfl) ?_
  show Wp (Ev (d + 1)) cd_X_book (0, 0) (some .int) _ _ Q 0 [(0, .ref 0), (1, .int p0), (2, .int p1)] [] (HS I L X)
  refine w_aload_n (Ev.cm _) rfl rfl ?_
  refine w_getR (q := 1) (Ev.cm _) rfl (Nat.le_of_ble_eq_true rfl) rfl rfl ?_
  refine w_getR (q := 2) (Ev.cm _) rfl (Nat.le_of_ble_eq_true rfl) rfl rfl ?_
  refine w_astore_n (ls2 := [(0, .ref 0), (1, .int p0), (2, .int p1), (3, .ref 2)]) (Ev.cm _) rfl trivial rfl ?_
  refine w_iload_n (Ev.cm _) rfl rfl ?_
  refine w_iconst (Ev.cm _) rfl ?_
  refine w_icmp_ne (Ev.cm _) rfl (fun c1 => ?_) (fun c1 => ?_)
  · have c1 : ¬ (p0 = (-1)) := c1
    rw [if_neg c1] at q
    refine w_iload_n (Ev.cm _) rfl rfl ?_
    refine w_iconst (Ev.cm _) rfl ?_
    refine w_aload_n (Ev.cm _) rfl rfl ?_
    refine w_getI (Ev.cm _) rfl (Nat.le_of_ble_eq_true rfl) rfl ?_
    refine w_iconst (Ev.cm _) rfl ?_
    refine w_isub (Ev.cm _) rfl ?_
    refine w_cstat (as := [.int p0, .int 0, .int ((I 2 4) - 1)]) (st := []) (Ev.cm _) rfl rfl rfl (Nat.le_of_ble_eq_true rfl) (Nat.le_of_ble_eq_true rfl) (x_within ?_)
    show Wp _ _ _ _ _ _ _ 29 [(0, .ref 0), (1, .int p0), (2, .int p1), (3, .ref 2)] [.int (bI ((0 : Int32) ≤ p0 ∧ p0 ≤ ((I 2 4) - 1)))] (HS I L X)
    refine w_if_eq (Ev.cm _) rfl (fun c2 => ?_) (fun c2 => ?_)
    · have c2 : ¬ ((0 : Int32) ≤ p0 ∧ p0 ≤ ((I 2 4) - 1)) := bI_0.mp c2
      rw [if_neg c2] at q
      refine w_bipush (Ev.cm _) rfl ?_
      refine w_ireturn (Ev.cm _) rfl trivial rf0 ?_
      cases q
      exact g
    · have c2 : (0 : Int32) ≤ p0 ∧ p0 ≤ ((I 2 4) - 1) := bI_1.mp c2
      rw [if_pos c2] at q
      refine w_iload_n (Ev.cm _) rfl rfl ?_
      refine w_bipush (Ev.cm _) rfl ?_
      refine w_icmp_ge (Ev.cm _) rfl (fun c3 => ?_) (fun c3 => ?_)
      · have c3 : 30 ≤ p0 := c3
        rw [if_pos c3] at q
        refine w_bipush (Ev.cm _) rfl ?_
        refine w_ireturn (Ev.cm _) rfl trivial rf0 ?_
        cases q
        exact g
      · have c3 : ¬ (30 ≤ p0) := c3
        rw [if_neg c3] at q
        refine w_iload_n (Ev.cm _) rfl rfl ?_
        refine w_iconst (Ev.cm _) rfl ?_
        refine w_iconst (Ev.cm _) rfl ?_
        refine w_cstat (as := [.int p1, .int 0, .int 2]) (st := []) (Ev.cm _) rfl rfl rfl (Nat.le_of_ble_eq_true rfl) (Nat.le_of_ble_eq_true rfl) (x_within ?_)
        show Wp _ _ _ _ _ _ _ 44 [(0, .ref 0), (1, .int p0), (2, .int p1), (3, .ref 2)] [.int (bI ((0 : Int32) ≤ p1 ∧ p1 ≤ (2 : Int32)))] (HS I L X)
        refine w_if_ne (Ev.cm _) rfl (fun c4 => ?_) (fun c4 => ?_)
        · have c4 : (0 : Int32) ≤ p1 ∧ p1 ≤ (2 : Int32) := bI_1.mp c4
          rw [if_pos c4] at q
          refine w_aload_n (Ev.cm _) rfl rfl ?_
          refine w_getR (q := 5) (Ev.cm _) rfl (Nat.le_of_ble_eq_true rfl) rfl rfl ?_
          refine w_iload_n (Ev.cm _) rfl rfl ?_
          refine w_iconst (Ev.cm _) rfl ?_
          refine w_imul (Ev.cm _) rfl ?_
          refine w_iload_n (Ev.cm _) rfl rfl ?_
          refine w_iadd (Ev.cm _) rfl ?_
          obtain ⟨b1, q⟩ := ois q
          refine w_iald (Ev.cm _) rfl (Nat.le_of_ble_eq_true rfl) rfl (show vp_in ((p0 * 3) + p1) 90 from vpI 90 (by decide) b1.1 b1.2) ?_
          refine w_ireturn (Ev.cm _) rfl trivial rf0 ?_
          cases q
          exact g
        · have c4 : ¬ ((0 : Int32) ≤ p1 ∧ p1 ≤ (2 : Int32)) := bI_0.mp c4
          rw [if_neg c4] at q
          refine w_bipush (Ev.cm _) rfl ?_
          refine w_ireturn (Ev.cm _) rfl trivial rf0 ?_
          cases q
          exact g
  · have c1 : p0 = (-1) := c1
    rw [if_pos c1] at q
    refine w_aload_n (Ev.cm _) rfl rfl ?_
    refine w_getI (Ev.cm _) rfl (Nat.le_of_ble_eq_true rfl) rfl ?_
    refine w_ireturn (Ev.cm _) rfl trivial rf0 ?_
    cases q
    exact g
