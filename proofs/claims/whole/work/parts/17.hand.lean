/-! leaves by hand: rows filled and copied, texts by number, the constant texts -/
theorem ev_prm {d k : Nat} {M : PMr} {as : List Value} {h : PH} {Q : PQ} (hM : mG k = some M) (hk : k = 9 ∨ k = 10) (w : prm k as h Q) : Ev (d + 1) k as h Q := by
  show (match mG k with | some M => _ | none => False)
  rw [hM]
  exact Or.inl ⟨hk, w⟩
theorem e_len1 {d : Nat} {h : PH} {Q : PQ} (q : Q (some (.int 125)) h) : Ev (d + 1) m_J_length [.float 1] h Q := ev_prm rfl (Or.inl rfl) ⟨Or.inl rfl, q⟩
theorem e_len2 {d : Nat} {h : PH} {Q : PQ} (q : Q (some (.int 11)) h) : Ev (d + 1) m_J_length [.float 2] h Q := ev_prm rfl (Or.inl rfl) ⟨Or.inr rfl, q⟩
theorem e_chr1 {d : Nat} {i : Int32} {h : PH} {Q : PQ} (b : 0 ≤ i ∧ i < 125) (q : Q (some (.int ((txt 1).getD i.toNatClampNeg 0))) h) : Ev (d + 1) m_J_charAt [.float 1, .int i] h Q := ev_prm rfl (Or.inr rfl) ⟨Or.inl rfl, vpI 125 (by decide +kernel) b.1 b.2, q⟩
theorem e_chr2 {d : Nat} {i : Int32} {h : PH} {Q : PQ} (b : 0 ≤ i ∧ i < 11) (q : Q (some (.int ((txt 2).getD i.toNatClampNeg 0))) h) : Ev (d + 1) m_J_charAt [.float 2, .int i] h Q := ev_prm rfl (Or.inr rfl) ⟨Or.inr rfl, vpI 11 (by decide +kernel) b.1 b.2, q⟩
def fillF (f : Nat → Int32) (v : Int32) (i : Nat) : Nat → Int32 := fun k => if k < i then v else f k
theorem fillF_s (I : Nat → Nat → Int32) (o : Nat) (v : Int32) (i : Nat) : sI (va_up I o (fillF (I o) v i)) o i v = va_up I o (fillF (I o) v (i + 1)) := by
  funext a k
  unfold sI va_up upd fillF
  by_cases ha : a = o
  · subst ha
    simp only [if_true]
    by_cases hk : k = i
    · subst hk; simp
    · rw [if_neg hk]
      by_cases h2 : k < i
      · rw [if_pos h2, if_pos (by omega)]
      · rw [if_neg h2, if_neg (by omega)]
  · simp only [if_neg ha]
theorem fillF_0 (I : Nat → Nat → Int32) (o : Nat) (v : Int32) : va_up I o (fillF (I o) v 0) = I := by
  funext a k
  unfold va_up fillF
  by_cases ha : a = o
  · subst ha; simp
  · simp [ha]
theorem l_fill {d n0 s0 : Nat} {I : Nat → Nat → Int32} {L : Nat → Nat → Int64} {X : Nat × (Nat → Int32)} {Q : PQ} {o n : Nat} {v : Int32} (ho : o < 349) (hk : K0 o = (10, n)) (hn : n < 2 ^ 31) (q : Q none (HS (va_up I o (fillF (I o) v n)) L X)) :
    ∀ (m i : Nat), i + m = n → Wp (Ev d) cd_J_fill (0, 0) none n0 s0 Q 5 [(0, .ref o), (1, .int v), (2, .int (nI i)), (3, .int (nI n))] [] (HS (va_up I o (fillF (I o) v i)) L X) := by
  intro m
  induction m with
  | zero =>
    intro i hi
    have : i = n := by omega
    subst this
    refine w_iload_n (Ev.cm _) rfl rfl ?_
    refine w_iload_n (Ev.cm _) rfl rfl ?_
    refine w_icmp_ge (Ev.cm _) rfl (fun _ => ?_) (fun c => absurd (Int32.le_refl _) c)
    exact w_return (Ev.cm _) rfl rfl rf0 q
  | succ m ih =>
    intro i hi
    have hlt : i < n := by omega
    refine w_iload_n (Ev.cm _) rfl rfl ?_
    refine w_iload_n (Ev.cm _) rfl rfl ?_
    refine w_icmp_ge (Ev.cm _) rfl (fun c => absurd c (nI_ge hlt hn)) (fun _ => ?_)
    refine w_aload_n (Ev.cm _) rfl rfl ?_
    refine w_iload_n (Ev.cm _) rfl rfl ?_
    refine w_iload_n (Ev.cm _) rfl rfl ?_
    refine w_iast (Ev.cm _) rfl ho (by show (K0 o).1 = 10; rw [hk]) (by show vp_in (nI i) (K0 o).2; rw [hk]; exact vp_in_nI hlt hn) ?_
    rw [nI_clamp (by omega)]
    show Wp _ _ _ _ _ _ _ 14 _ [] (HS (sI (va_up I o (fillF (I o) v i)) o i v) L X)
    rw [fillF_s]
    refine w_iinc (ls2 := [(0, .ref o), (1, .int v), (2, .int (nI i + 1)), (3, .int (nI n))]) (Ev.cm _) rfl rfl rfl ?_
    rw [nI_1]
    refine w_goto (Ev.cm _) rfl ?_
    exact ih (i + 1) (by omega)
theorem e_fill {d : Nat} {I : Nat → Nat → Int32} {L : Nat → Nat → Int64} {X : Nat × (Nat → Int32)} {Q : PQ} {o n : Nat} {v : Int32} (ho : o < 349) (hk : K0 o = (10, n)) (hn : n < 2 ^ 31) (q : Q none (HS (va_up I o (fillF (I o) v n)) L X)) : Ev (d + 1) m_J_fill [.ref o, .int v] (HS I L X) Q := by
  refine ev_start (d := d + 0) rfl rfl rfl (Nat.le_of_ble_eq_true rfl) ?_
  show Wp (Ev (d + 0)) cd_J_fill (0, 0) none _ _ Q 0 [(0, .ref o), (1, .int v)] [] (HS I L X)
  refine w_iconst (Ev.cm _) rfl ?_
  refine w_istore_n (ls2 := [(0, .ref o), (1, .int v), (2, .int 0)]) (Ev.cm _) rfl rfl ?_
  refine w_aload_n (Ev.cm _) rfl rfl ?_
  refine w_alen (Ev.cm _) rfl ho (by show 10 ≤ (K0 o).1; rw [hk]; exact Nat.le_of_ble_eq_true rfl) (by show (K0 o).1 ≤ 14; rw [hk]; exact Nat.le_of_ble_eq_true rfl) ?_
  show Wp _ _ _ _ _ _ _ 4 [(0, .ref o), (1, .int v), (2, .int 0)] [.int (Int32.ofNat (K0 o).2)] (HS I L X)
  rw [hk]
  refine w_istore_n (ls2 := [(0, .ref o), (1, .int v), (2, .int 0), (3, .int (nI n))]) (Ev.cm _) rfl rfl ?_
  have := l_fill (d := d + 0) (n0 := hN (HS I L X)) (s0 := hSl (HS I L X)) (L := L) (X := X) (Q := Q) ho hk hn q n 0 (by omega)
  rw [fillF_0] at this
  exact this
def fillG (f : Nat → Int64) (v : Int64) (i : Nat) : Nat → Int64 := fun k => if k < i then v else f k
theorem fillG_s (L : Nat → Nat → Int64) (o : Nat) (v : Int64) (i : Nat) : sL (va_up L o (fillG (L o) v i)) o i v = va_up L o (fillG (L o) v (i + 1)) := by
  funext a k
  unfold sL va_up vp_updL fillG
  by_cases ha : a = o
  · subst ha
    simp only [if_true]
    by_cases hk : k = i
    · subst hk; simp
    · rw [if_neg hk]
      by_cases h2 : k < i
      · rw [if_pos h2, if_pos (by omega)]
      · rw [if_neg h2, if_neg (by omega)]
  · simp only [if_neg ha]
theorem fillG_0 (L : Nat → Nat → Int64) (o : Nat) (v : Int64) : va_up L o (fillG (L o) v 0) = L := by
  funext a k
  unfold va_up fillG
  by_cases ha : a = o
  · subst ha; simp
  · simp [ha]
theorem l_fillL {d n0 s0 : Nat} {I : Nat → Nat → Int32} {L : Nat → Nat → Int64} {X : Nat × (Nat → Int32)} {Q : PQ} {o n : Nat} {v : Int64} (ho : o < 349) (hk : K0 o = (11, n)) (hn : n < 2 ^ 31) (q : Q none (HS I (va_up L o (fillG (L o) v n)) X)) :
    ∀ (m i : Nat), i + m = n → Wp (Ev d) cd_J_fillL (0, 0) none n0 s0 Q 6 [(0, .ref o), (1, .long v), (3, .int (nI i)), (4, .int (nI n))] [] (HS I (va_up L o (fillG (L o) v i)) X) := by
  intro m
  induction m with
  | zero =>
    intro i hi
    have : i = n := by omega
    subst this
    refine w_iload_n (Ev.cm _) rfl rfl ?_
    refine w_iload (Ev.cm _) rfl rfl ?_
    refine w_icmp_ge (Ev.cm _) rfl (fun _ => ?_) (fun c => absurd (Int32.le_refl _) c)
    exact w_return (Ev.cm _) rfl rfl rf0 q
  | succ m ih =>
    intro i hi
    have hlt : i < n := by omega
    refine w_iload_n (Ev.cm _) rfl rfl ?_
    refine w_iload (Ev.cm _) rfl rfl ?_
    refine w_icmp_ge (Ev.cm _) rfl (fun c => absurd c (nI_ge hlt hn)) (fun _ => ?_)
    refine w_aload_n (Ev.cm _) rfl rfl ?_
    refine w_iload_n (Ev.cm _) rfl rfl ?_
    refine w_lload_n (Ev.cm _) rfl rfl ?_
    refine w_last (Ev.cm _) rfl ho (by show (K0 o).1 = 11; rw [hk]) (by show vp_in (nI i) (K0 o).2; rw [hk]; exact vp_in_nI hlt hn) ?_
    rw [nI_clamp (by omega)]
    show Wp _ _ _ _ _ _ _ 16 _ [] (HS I (sL (va_up L o (fillG (L o) v i)) o i v) X)
    rw [fillG_s]
    refine w_iinc (ls2 := [(0, .ref o), (1, .long v), (3, .int (nI i + 1)), (4, .int (nI n))]) (Ev.cm _) rfl rfl rfl ?_
    rw [nI_1]
    refine w_goto (Ev.cm _) rfl ?_
    exact ih (i + 1) (by omega)
theorem e_fillL {d : Nat} {I : Nat → Nat → Int32} {L : Nat → Nat → Int64} {X : Nat × (Nat → Int32)} {Q : PQ} {o n : Nat} {v : Int64} (ho : o < 349) (hk : K0 o = (11, n)) (hn : n < 2 ^ 31) (q : Q none (HS I (va_up L o (fillG (L o) v n)) X)) : Ev (d + 1) m_J_fillL [.ref o, .long v] (HS I L X) Q := by
  refine ev_start (d := d + 0) rfl rfl rfl (Nat.le_of_ble_eq_true rfl) ?_
  show Wp (Ev (d + 0)) cd_J_fillL (0, 0) none _ _ Q 0 [(0, .ref o), (1, .long v)] [] (HS I L X)
  refine w_iconst (Ev.cm _) rfl ?_
  refine w_istore_n (ls2 := [(0, .ref o), (1, .long v), (3, .int 0)]) (Ev.cm _) rfl rfl ?_
  refine w_aload_n (Ev.cm _) rfl rfl ?_
  refine w_alen (Ev.cm _) rfl ho (by show 10 ≤ (K0 o).1; rw [hk]; exact Nat.le_of_ble_eq_true rfl) (by show (K0 o).1 ≤ 14; rw [hk]; exact Nat.le_of_ble_eq_true rfl) ?_
  show Wp _ _ _ _ _ _ _ 4 [(0, .ref o), (1, .long v), (3, .int 0)] [.int (Int32.ofNat (K0 o).2)] (HS I L X)
  rw [hk]
  refine w_istore (ls2 := [(0, .ref o), (1, .long v), (3, .int 0), (4, .int (nI n))]) (Ev.cm _) rfl rfl ?_
  have := l_fillL (d := d + 0) (n0 := hN (HS I L X)) (s0 := hSl (HS I L X)) (I := I) (X := X) (Q := Q) ho hk hn q n 0 (by omega)
  rw [fillG_0] at this
  exact this
theorem e_copyRow {d : Nat} {I : Nat → Nat → Int32} {L : Nat → Nat → Int64} {X : Nat × (Nat → Int32)} {Q : PQ} {o p n : Nat} (ho : o < 349) (hp : p < 349) (hk : K0 o = (10, n)) (hk2 : K0 p = (10, n)) (hn : n < 2 ^ 31) (q : Q none (HS (va_up I p (va_cpy (I o) (I p) 0 0 n)) L X)) : Ev (d + 2) m_X_copyRow [.ref o, .ref p] (HS I L X) Q := by
  refine ev_start (d := d + 1) rfl rfl rfl (Nat.le_of_ble_eq_true rfl) ?_
  show Wp (Ev (d + 1)) cd_X_copyRow (0, 0) none _ _ Q 0 [(0, .ref o), (1, .ref p)] [] (HS I L X)
  refine w_aload_n (Ev.cm _) rfl rfl ?_
  refine w_iconst (Ev.cm _) rfl ?_
  refine w_aload_n (Ev.cm _) rfl rfl ?_
  refine w_iconst (Ev.cm _) rfl ?_
  refine w_aload_n (Ev.cm _) rfl rfl ?_
  refine w_alen (Ev.cm _) rfl ho (by show 10 ≤ (K0 o).1; rw [hk]; exact Nat.le_of_ble_eq_true rfl) (by show (K0 o).1 ≤ 14; rw [hk]; exact Nat.le_of_ble_eq_true rfl) ?_
  refine w_aload_n (Ev.cm _) rfl rfl ?_
  refine w_alen (Ev.cm _) rfl hp (by show 10 ≤ (K0 p).1; rw [hk2]; exact Nat.le_of_ble_eq_true rfl) (by show (K0 p).1 ≤ 14; rw [hk2]; exact Nat.le_of_ble_eq_true rfl) ?_
  show Wp _ _ _ _ _ _ _ 8 _ [.int (Int32.ofNat (K0 p).2), .int (Int32.ofNat (K0 o).2), .int 0, .ref p, .int 0, .ref o] (HS I L X)
  rw [hk, hk2]
  refine w_cstat (as := [.int (nI n), .int (nI n)]) (st := [.int 0, .ref p, .int 0, .ref o]) (Ev.cm _) rfl rfl rfl (Nat.le_of_ble_eq_true rfl) (Nat.le_of_ble_eq_true rfl) (e_J_min ?_)
  have e : F_J_min I (nI n) (nI n) = nI n := by unfold F_J_min; split <;> rfl
  rw [e]
  show Wp _ _ _ _ _ _ _ 11 _ [.int (nI n), .int 0, .ref p, .int 0, .ref o] (HS I L X)
  have z0 : (0 : Int32).toNatClampNeg = 0 := rfl
  refine w_copy (Ev.cm _) rfl ho hp (by show (K0 o).1 = 10; rw [hk]) (by show (K0 p).1 = 10; rw [hk2]) (by decide) (by decide) (nI_pos hn) (by show _ ≤ (K0 o).2; rw [hk, nI_clamp hn, z0]; simp) (by show _ ≤ (K0 p).2; rw [hk2, nI_clamp hn, z0]; simp) (Nat.le_of_ble_eq_true rfl) ?_
  refine w_return (Ev.cm _) rfl rfl rf0 ?_
  rw [nI_clamp hn, z0]
  exact q
/-- texts of the library, by their number -/
theorem R0_lib {k : Nat} (h : k < 4) : R0 273 k = some (274 + 8 * k) := by
  rcases (show k = 0 ∨ k = 1 ∨ k = 2 ∨ k = 3 by omega) with rfl | rfl | rfl | rfl <;> rfl
abbrev isLib (I : Nat → Nat → Int32) (text : Int32) : Prop := 0 ≤ text ∧ text < 4 ∧ text < I 1 6
