/-! the model's reading, step by step -/
/-- behind a step of the reading -/
def CT (fu f : Nat) (u4 : Int32 × TI × TL) : Option (Int32 × TI × TL) := let r4 := u4.1; let I4 := u4.2.1; let L4 := u4.2.2; if r4 ≤ 0 then (if r4 = 0 then (LO_M_summed_15 fu f I4 L4) else ((FO_M_openNow fu I4 L4).bind (fun u5 => let r5 := u5.1; let I5 := u5.2.1; let L5 := u5.2.2; if r5 < 0 then ((FO_M_settle fu 1 I5 L5).bind (fun u6 => let r6 := u6.1; let I6 := u6.2.1; let L6 := u6.2.2; some (0, I6, L6))) else (some (1, I5, L5))))) else (some (r4, I4, L4))
theorem LO_b {fu f : Nat} {J : TI} {K : TL} (h : J 331 18 = nI 0) : LO_M_summed_15 fu (f + 1) J K = (FO_M_beginOne fu J K).bind (CT fu f) := by
  rw [LO_M_summed_15, if_pos (show J 331 18 = 0 from h)]; rfl
theorem LO_h {fu f : Nat} {J : TI} {K : TL} (h : J 331 18 = nI 1) : LO_M_summed_15 fu (f + 1) J K = (FO_M_behindOne fu J K).bind (CT fu f) := by
  rw [LO_M_summed_15, if_neg (show ¬ J 331 18 = 0 by rw [h]; decide)]; rfl
theorem CT_0 {fu f : Nat} {J : TI} {K : TL} : CT fu f (0, J, K) = LO_M_summed_15 fu f J K := rfl
theorem CT_e {fu f e : Nat} {J : TI} {K : TL} (h : 1 ≤ e) (h6 : e ≤ 6) : CT fu f (nI e, J, K) = some (nI e, J, K) := by
  unfold CT
  simp only []
  rw [if_neg (show ¬ nI e ≤ 0 from nI_ge (a := 0) (by omega) (by omega))]
/-- behind a whole one -/
def EO (fu f : Nat) (J : TI) (K : TL) : Option (Int32 × TI × TL) := (FO_M_endOne fu J K).bind (CT fu f)
def FrM (J J' : TI) : Prop := (∀ o, o ≠ 331 → o ≠ 334 → o ≠ 336 → J' o = J o) ∧ (∀ i, i ≠ 7 → i ≠ 8 → i ≠ 9 → i ≠ 10 → i ≠ 13 → i ≠ 16 → i ≠ 17 → i ≠ 18 → J' 331 i = J 331 i)
theorem FrM.rf {J : TI} : FrM J J := ⟨fun _ _ _ _ => rfl, fun _ _ _ _ _ _ _ _ _ => rfl⟩
theorem FrM.tr {J J' J'' : TI} (a : FrM J J') (b : FrM J' J'') : FrM J J'' := ⟨fun o h1 h2 h3 => (b.1 o h1 h2 h3).trans (a.1 o h1 h2 h3), fun i h1 h2 h3 h4 h5 h6 h7 h8 => (b.2 i h1 h2 h3 h4 h5 h6 h7 h8).trans (a.2 i h1 h2 h3 h4 h5 h6 h7 h8)⟩
theorem NXf.fr {J J' : TI} (h : NXf J J') : FrM J J' := ⟨fun o h1 _ _ => h.1 o h1, fun i h1 h2 h3 h4 _ _ _ _ => h.2 i h1 h2 h3 h4⟩
/-- code and pile below are left -/
def CdM (t0 : Nat) (J J' : TI) (w : Nat) : Prop := ∀ x, x < t0 + 73 + 2 * w → J' 334 x = J 334 x
def PlM (J J' : TI) (m : Nat) : Prop := ∀ i, i < m → J' 336 i = J 336 i
theorem CdM.tr {t0 : Nat} {J J' J'' : TI} {w w' : Nat} (a : CdM t0 J J' w) (b : CdM t0 J' J'' w') (h : w ≤ w') : CdM t0 J J'' w := fun x hx => (b x (by omega)).trans (a x hx)
theorem PlM.tr {J J' J'' : TI} {m m' : Nat} (a : PlM J J' m) (b : PlM J' J'' m') (h : m ≤ m') : PlM J J'' m := fun i hi => (b i (by omega)).trans (a i hi)
theorem CdM.rf {t0 : Nat} {J : TI} {w : Nat} : CdM t0 J J w := fun _ _ => rfl
theorem PlM.rf {J : TI} {m : Nat} : PlM J J m := fun _ _ => rfl
def nm (x : Int32) : Int32 := if x = nI 30 then 0 else if x = nI 31 then 1 else if x = nI 32 then 2 else if x = nI 33 then 3 else if x = nI 34 then 4 else if x = nI 35 then 5 else if x = nI 36 then 6 else if x = nI 37 then 7 else -1
theorem nm_i : ∀ i, i < 8 → nm (nI (30 + i)) = nI i := by decide
theorem nm_n {x : Int32} (h : ∀ i, i < 8 → ¬ x = nI (30 + i)) : nm x = -1 := by
  unfold nm
  rw [if_neg (h 0 (by omega)), if_neg (h 1 (by omega)), if_neg (h 2 (by omega)), if_neg (h 3 (by omega)), if_neg (h 4 (by omega)), if_neg (h 5 (by omega)), if_neg (h 6 (by omega)), if_neg (h 7 (by omega))]
def pk2 (a b : Int32) : Int64 := (a.toInt64 <<< ((8 : Int32).toInt64 &&& 63)) ||| b.toInt64
def pkn (x : Int64) (b : Int32) : Int64 := (x <<< ((8 : Int32).toInt64 &&& 63)) ||| b.toInt64
theorem w2e {fu : Nat} {a b : Int32} {J : TI} {K : TL} : FO_M_w2 fu a b J K = some (pk2 a b, J, K) := rfl
theorem w3e {fu : Nat} {a b c : Int32} {J : TI} {K : TL} : FO_M_w3 fu a b c J K = some (pkn (pk2 a b) c, J, K) := rfl
theorem w4e {fu : Nat} {a b c d : Int32} {J : TI} {K : TL} : FO_M_w4 fu a b c d J K = some (pkn (pkn (pk2 a b) c) d, J, K) := rfl
theorem w5e {fu : Nat} {a b c d e : Int32} {J : TI} {K : TL} : FO_M_w5 fu a b c d e J K = some (pkn (pkn (pkn (pk2 a b) c) d) e, J, K) := rfl
theorem w6e {fu : Nat} {a b c d e f : Int32} {J : TI} {K : TL} : FO_M_w6 fu a b c d e f J K = some (pkn (pkn (pkn (pkn (pk2 a b) c) d) e) f, J, K) := rfl
theorem ww0 {fu : Nat} {J : TI} {K : TL} : FO_M_w4 fu 104 111 117 114 J K = some (wd 0, J, K) := by rw [w4e, show pkn (pkn (pk2 104 111) 117) 114 = wd 0 by decide +kernel]
theorem ww1 {fu : Nat} {J : TI} {K : TL} : FO_M_w4 fu 108 97 116 101 J K = some (wd 1, J, K) := by rw [w4e, show pkn (pkn (pk2 108 97) 116) 101 = wd 1 by decide +kernel]
theorem ww2 {fu : Nat} {J : TI} {K : TL} : FO_M_w5 fu 115 116 97 105 114 J K = some (wd 2, J, K) := by rw [w5e, show pkn (pkn (pkn (pk2 115 116) 97) 105) 114 = wd 2 by decide +kernel]
theorem ww3 {fu : Nat} {J : TI} {K : TL} : FO_M_w6 fu 119 101 105 103 104 116 J K = some (wd 3, J, K) := by rw [w6e, show pkn (pkn (pkn (pkn (pk2 119 101) 105) 103) 104) 116 = wd 3 by decide +kernel]
theorem ww4 {fu : Nat} {J : TI} {K : TL} : FO_M_w5 fu 102 108 111 111 114 J K = some (wd 4, J, K) := by rw [w5e, show pkn (pkn (pkn (pk2 102 108) 111) 111) 114 = wd 4 by decide +kernel]
theorem ww5 {fu : Nat} {J : TI} {K : TL} : FO_M_w3 fu 119 104 111 J K = some (wd 5, J, K) := by rw [w3e, show pkn (pk2 119 104) 111 = wd 5 by decide +kernel]
theorem ww6 {fu : Nat} {J : TI} {K : TL} : FO_M_w4 fu 116 114 111 100 J K = some (wd 6, J, K) := by rw [w4e, show pkn (pkn (pk2 116 114) 111) 100 = wd 6 by decide +kernel]
theorem ww7 {fu : Nat} {J : TI} {K : TL} : FO_M_w3 fu 119 97 121 J K = some (wd 7, J, K) := by rw [w3e, show pkn (pk2 119 97) 121 = wd 7 by decide +kernel]
theorem ww15 {fu : Nat} {J : TI} {K : TL} : FO_M_w4 fu 110 101 97 114 J K = some (wd 15, J, K) := by rw [w4e, show pkn (pkn (pk2 110 101) 97) 114 = wd 15 by decide +kernel]
theorem ww16 {fu : Nat} {J : TI} {K : TL} : FO_M_w4 fu 99 117 112 115 J K = some (wd 16, J, K) := by rw [w4e, show pkn (pkn (pk2 99 117) 112) 115 = wd 16 by decide +kernel]
theorem ww17 {fu : Nat} {J : TI} {K : TL} : FO_M_w2 fu 105 102 J K = some (wd 17, J, K) := by rw [w2e, show pk2 105 102 = wd 17 by decide +kernel]
theorem ww18 {fu : Nat} {J : TI} {K : TL} : FO_M_w4 fu 116 104 101 110 J K = some (wd 18, J, K) := by rw [w4e, show pkn (pkn (pk2 116 104) 101) 110 = wd 18 by decide +kernel]
theorem ww19 {fu : Nat} {J : TI} {K : TL} : FO_M_w4 fu 101 108 115 101 J K = some (wd 19, J, K) := by rw [w4e, show pkn (pkn (pk2 101 108) 115) 101 = wd 19 by decide +kernel]
theorem ww20 {fu : Nat} {J : TI} {K : TL} : FO_M_w3 fu 101 110 100 J K = some (wd 20, J, K) := by rw [w3e, show pkn (pk2 101 110) 100 = wd 20 by decide +kernel]
theorem ww21 {fu : Nat} {J : TI} {K : TL} : FO_M_w2 fu 111 114 J K = some (wd 21, J, K) := by rw [w2e, show pk2 111 114 = wd 21 by decide +kernel]
theorem ww22 {fu : Nat} {J : TI} {K : TL} : FO_M_w3 fu 97 110 100 J K = some (wd 22, J, K) := by rw [w3e, show pkn (pk2 97 110) 100 = wd 22 by decide +kernel]
theorem ww23 {fu : Nat} {J : TI} {K : TL} : FO_M_w3 fu 110 111 116 J K = some (wd 23, J, K) := by rw [w3e, show pkn (pk2 110 111) 116 = wd 23 by decide +kernel]
theorem ww24 {fu : Nat} {J : TI} {K : TL} : FO_M_w2 fu 111 102 J K = some (wd 24, J, K) := by rw [w2e, show pk2 111 102 = wd 24 by decide +kernel]
section
variable {kd vl sp tp : Nat → Int32} {en : Nat → Nat} {len N fu t0 so : Nat}
theorem m_name {k : Nat} {J : TI} {K : TL} (h : MK kd vl sp tp en len J K k) : FO_M_nameOf fu J K = some (nm (kd k), J, K) := by
  have hw := h.2.2.2.2.2.2.2.1
  unfold FO_M_nameOf
  by_cases a : J 331 9 = 2
  · have t : ∀ i, i < 26 → (lg_cmp (K 331 11) (wd i) = 0 ↔ kd k = nI (30 + i)) := fun i hi => ⟨fun z => (hw i hi).mp ⟨a, (lc_eq _ _).mp z⟩, fun z => (lc_eq _ _).mpr ((hw i hi).mpr z).2⟩
    rw [if_pos a, ww0]
    unfold nm
    simp only [Option.bind_some, ww1, ww2, ww3, ww4, ww5, ww6, ww7, t 0 (by omega), t 1 (by omega), t 2 (by omega), t 3 (by omega), t 4 (by omega), t 5 (by omega), t 6 (by omega), t 7 (by omega)]
    repeat' split
    all_goals first | rfl | contradiction
  · rw [if_neg a, nm_n (fun i hi z => a ((hw i (by omega)).mpr z).1)]
/-- where the model's reading stands -/
def MS (kd vl sp tp : Nat → Int32) (en : Nat → Nat) (len t0 so : Nat) (J : TI) (K : TL) (k w m op wh : Nat) : Prop :=
  MK kd vl sp tp en len J K k ∧ J 331 12 = nI t0 ∧ J 331 13 = nI w ∧ J 331 16 = nI m ∧ J 331 17 = nI op ∧ J 331 18 = nI wh ∧ J 331 14 = nI so
theorem MS.st {J J' : TI} {K : TL} {k w m op wh w' m' op' wh' : Nat} (h : MS kd vl sp tp en len t0 so J K k w m op wh) (e : ∀ i, i ≠ 13 → i ≠ 16 → i ≠ 17 → i ≠ 18 → J' 331 i = J 331 i) (e2 : J' 335 = J 335) (h13 : J' 331 13 = nI w') (h16 : J' 331 16 = nI m') (h17 : J' 331 17 = nI op') (h18 : J' 331 18 = nI wh') : MS kd vl sp tp en len t0 so J' K k w' m' op' wh' :=
  ⟨h.1.cg (fun i _ h2 _ h4 h5 h6 => e i h2 h4 h5 h6) e2, (e 12 (by omega) (by omega) (by omega) (by omega)).trans h.2.1, h13, h16, h17, h18, (e 14 (by omega) (by omega) (by omega) (by omega)).trans h.2.2.2.2.2.2⟩
theorem m_nxt (nx : NX kd vl sp tp en len N fu) {J : TI} {K : TL} {k w m op wh : Nat} (h : MS kd vl sp tp en len t0 so J K k w m op wh) (hk : k < N) : ∃ J' K', FO_M_nextToken fu J K = some ((), J', K') ∧ MS kd vl sp tp en len t0 so J' K' (k + 1) w m op wh ∧ NXf J J' := by
  obtain ⟨J', K', a, b, c⟩ := nx J K k hk h.1
  obtain ⟨h0, h12, h13, h16, h17, h18, h14⟩ := h
  have e : ∀ i, i ≠ 7 → i ≠ 8 → i ≠ 9 → i ≠ 10 → J' 331 i = J 331 i := c.2
  exact ⟨J', K', a, ⟨b, (e 12 (by omega) (by omega) (by omega) (by omega)).trans h12, (e 13 (by omega) (by omega) (by omega) (by omega)).trans h13, (e 16 (by omega) (by omega) (by omega) (by omega)).trans h16, (e 17 (by omega) (by omega) (by omega) (by omega)).trans h17, (e 18 (by omega) (by omega) (by omega) (by omega)).trans h18, (e 14 (by omega) (by omega) (by omega) (by omega)).trans h14⟩, c⟩
theorem m_opened (nx : NX kd vl sp tp en len N fu) {J : TI} {K : TL} {k w m op : Nat} {c : Int32} (h : MS kd vl sp tp en len t0 so J K k w m op 0) (hk : k < N) (hop : op < 8) (hm : m < 160) : ∃ J' K', FO_M_opened fu c J K = some (0, J', K') ∧ MS kd vl sp tp en len t0 so J' K' (k + 1) w (m + 1) (op + 1) 0 ∧ FrM J J' ∧ CdM t0 J J' 304 ∧ PlM J J' m ∧ J' 336 m = c := by
  obtain ⟨h0, h12, h13, h16, h17, h18, h14⟩ := h
  have hs : MS kd vl sp tp en len t0 so (sI (sI (sI J 331 17 (nI (op + 1))) 336 m c) 331 16 (nI (m + 1))) K k w (m + 1) (op + 1) 0 := MS.st ⟨h0, h12, h13, h16, h17, h18, h14⟩ (fun i a b c d => by simp [sI_ap, b, c]) (by rw [sJ_ne (by omega), sJ_ne (by omega), sJ_ne (by omega)]) (by simp [sI_ap, h13]) (by simp [sI_ap]) (by simp [sI_ap]) (by simp [sI_ap, h18])
  obtain ⟨J', K', a, b, n⟩ := m_nxt nx hs hk
  refine ⟨J', K', ?_, b, ?_, ?_, ?_, ?_⟩
  · unfold FO_M_opened
    rw [h17, if_neg (show ¬ nI op = 8 from fun z => by have := (nI_eq (b := 8) (by omega) (by omega)).mp z; omega), h16, if_pos (show (0 : Int32) ≤ nI m ∧ nI m < 160 from ib (n := 160) rfl hm (by omega)), nI_clamp (show m < 2 ^ 31 by omega), nI_1, nI_1, a]
    rfl
  · refine FrM.tr ⟨fun o a b c => by rw [sJ_ne a, sJ_ne c, sJ_ne a], fun i a b c d e f g h => by simp [sI_ap, f, g]⟩ n.fr
  · intro x hx
    rw [n.1 334 (by omega), sJ_ne (by omega), sJ_ne (by omega), sJ_ne (by omega)]
  · intro i hi
    rw [n.1 336 (by omega)]
    simp [sI_ap, show ¬ i = m by omega]
  · rw [n.1 336 (by omega)]
    simp [sI_ap]
theorem m_full {J : TI} {K : TL} {k w m : Nat} {c : Int32} (h : MS kd vl sp tp en len t0 so J K k w m 8 0) : FO_M_opened fu c J K = some (3, J, K) := by
  unfold FO_M_opened
  rw [h.2.2.2.2.1, if_pos (show nI 8 = 8 from rfl)]
/-- a number or a name -/
theorem b_emit (nx : NX kd vl sp tp en len N fu) {J : TI} {K : TL} {k w m op : Nat} (c a : Int32) (h : MS kd vl sp tp en len t0 so J K k w m op 0) (hk : k < N) (hw : t0 + 73 + 2 * w + 1 < 2724) : ∃ J' K', ((FO_M_emit fu c a J K).bind fun u => (FO_M_nextToken fu u.2.1 u.2.2).bind fun v => (FO_M_endOne fu v.2.1 v.2.2).bind fun z => some (z.1, z.2.1, z.2.2)) = FO_M_endOne fu J' K' ∧ MS kd vl sp tp en len t0 so J' K' (k + 1) (w + 1) m op 0 ∧ FrM J J' ∧ CdM t0 J J' w ∧ PlM J J' 160 ∧ J' 334 (t0 + 73 + 2 * w) = c ∧ J' 334 (t0 + 73 + 2 * w + 1) = a := by
  obtain ⟨h0, h12, h13, h16, h17, h18, h14⟩ := h
  have hs : MS kd vl sp tp en len t0 so (sI (sI (sI J 334 (t0 + 73 + 2 * w) c) 334 (t0 + 73 + 2 * w + 1) a) 331 13 (nI (w + 1))) K k (w + 1) m op 0 := MS.st ⟨h0, h12, h13, h16, h17, h18, h14⟩ (fun i a b c d => by simp [sI_ap, a]) (by rw [sJ_ne (by omega), sJ_ne (by omega), sJ_ne (by omega)]) (by simp [sI_ap]) (by simp [sI_ap, h16]) (by simp [sI_ap, h17]) (by simp [sI_ap, h18])
  obtain ⟨J', K', e, b, n⟩ := m_nxt nx hs hk
  refine ⟨J', K', ?_, b, ?_, ?_, ?_, ?_, ?_⟩
  · rw [m_emit h12 h13 hw]
    simp only [Option.bind_some]
    rw [e]
    simp only [Option.bind_some]
    exact bind_eta _
  · refine FrM.tr ⟨fun o a b c => by rw [sJ_ne a, sJ_ne b, sJ_ne b], fun i a b c d e f g h => by simp [sI_ap, e]⟩ n.fr
  · intro x hx
    rw [n.1 334 (by omega)]
    simp [sI_ap, show ¬ x = t0 + 73 + 2 * w by omega, show ¬ x = t0 + 73 + 2 * w + 1 by omega]
  · intro i hi
    rw [n.1 336 (by omega), sJ_ne (by omega), sJ_ne (by omega), sJ_ne (by omega)]
  · rw [n.1 334 (by omega)]
    simp [sI_ap]
  · rw [n.1 334 (by omega)]
    simp [sI_ap]
theorem MK.t1 {J : TI} {K : TL} {k : Nat} (h : MK kd vl sp tp en len J K k) : J 331 9 = 1 ↔ kd k = 2 := h.2.2.2.2.2.1
theorem MK.sg {J : TI} {K : TL} {k : Nat} (h : MK kd vl sp tp en len J K k) (a b : Nat) (hs : (a, b) ∈ sgs) : J 331 9 = nI a ↔ kd k = nI b := h.2.2.2.2.2.2.2.2 (a, b) hs
theorem b_num (nx : NX kd vl sp tp en len N fu) {J : TI} {K : TL} {k w m op : Nat} (h : MS kd vl sp tp en len t0 so J K k w m op 0) (hk : k < N) (hw : t0 + 73 + 2 * w + 1 < 2724) (h2 : kd k = 2) : (∃ v J' K', v ≤ 9999 ∧ vl k = nI v ∧ FO_M_beginOne fu J K = FO_M_endOne fu J' K' ∧ MS kd vl sp tp en len t0 so J' K' (k + 1) (w + 1) m op 0 ∧ FrM J J' ∧ CdM t0 J J' w ∧ PlM J J' 160 ∧ J' 334 (t0 + 73 + 2 * w) = 0 ∧ J' 334 (t0 + 73 + 2 * w + 1) = nI v) ∨ (vl k = nI 10000 ∧ FO_M_beginOne fu J K = some (2, J, K)) := by
  have h9 : J 331 9 = 1 := h.1.t1.mpr h2
  obtain ⟨a, b, ha, e1, e2, e3⟩ := h.1.2.2.2.2.2.2.1 h2
  have hn : nm (kd k) = -1 := by rw [h2]; decide
  have mn : FO_M_nameOf fu J K = some (nm (kd k), J, K) := m_name h.1
  unfold FO_M_beginOne
  rw [if_pos h9, e1]
  by_cases c : a ≤ 9999
  · left
    obtain ⟨J', K', r⟩ := b_emit nx (c := 0) (a := nI a) h hk hw
    refine ⟨a, J', K', c, by rw [e2, e3, Nat.min_eq_left (by omega)], ?_, r.2⟩
    rw [if_pos (show nI a ≤ 9999 from nI_le (b := 9999) c (by omega)), mn, hn]
    simp only [Option.bind_some]
    rw [if_pos (by decide), if_pos h9, if_pos h9, if_pos h9, e1]
    exact r.1
  · right
    refine ⟨by rw [e2, e3, Nat.min_eq_right (by omega)], ?_⟩
    rw [if_neg (show ¬ nI a ≤ 9999 from nI_ge (a := 9999) (by omega) (by omega))]
theorem b_name (nx : NX kd vl sp tp en len N fu) {J : TI} {K : TL} {k w m op i : Nat} (h : MS kd vl sp tp en len t0 so J K k w m op 0) (hk : k < N) (hw : t0 + 73 + 2 * w + 1 < 2724) (hso : so ≤ 1) (hi : i < 8) (h2 : kd k = nI (30 + i)) : ((so = 0 ∨ i < 3) → ∃ J' K', FO_M_beginOne fu J K = FO_M_endOne fu J' K' ∧ MS kd vl sp tp en len t0 so J' K' (k + 1) (w + 1) m op 0 ∧ FrM J J' ∧ CdM t0 J J' w ∧ PlM J J' 160 ∧ J' 334 (t0 + 73 + 2 * w) = 1 ∧ J' 334 (t0 + 73 + 2 * w + 1) = nI i) ∧ ((so = 1 ∧ 3 ≤ i) → FO_M_beginOne fu J K = some (5, J, K)) := by
  have h9 : ¬ J 331 9 = 1 := fun z => by
    have := h.1.t1.mp z
    rw [h2] at this
    have := (nI_eq (b := 2) (by omega) (by omega)).mp this
    omega
  have hn : nm (kd k) = nI i := by rw [h2]; exact nm_i i hi
  have h14 : J 331 14 = nI so := h.2.2.2.2.2.2
  have mn : FO_M_nameOf fu J K = some (nm (kd k), J, K) := m_name h.1
  unfold FO_M_beginOne
  rw [if_neg h9, mn, hn]
  simp only [Option.bind_some]
  refine ⟨fun q => ?_, fun q => ?_⟩
  · obtain ⟨J', K', r⟩ := b_emit nx (c := 1) (a := nI i) h hk hw
    refine ⟨J', K', ?_, r.2⟩
    by_cases c : i ≤ 2
    · rw [if_pos (show nI i ≤ 2 from nI_le (b := 2) c (by omega)), if_neg h9, if_neg (show ¬ nI i < 0 from nI_pos (by omega)), if_neg h9, if_neg h9]
      exact r.1
    · have s0 : so = 0 := by omega
      rw [if_neg (show ¬ nI i ≤ 2 from nI_ge (a := 2) (by omega) (by omega)), h14, if_pos (show nI so = 0 by rw [s0]; rfl), if_neg h9, if_neg (show ¬ nI i < 0 from nI_pos (by omega)), if_neg h9, if_neg h9]
      exact r.1
  · rw [if_neg (show ¬ nI i ≤ 2 from nI_ge (a := 2) (by omega) (by omega)), h14, if_neg (show ¬ nI so = 0 by rw [q.1]; decide)]
/-- what opens, by the class's number of the token -/
theorem b_open {J : TI} {K : TL} {k w m op : Nat} (h : MS kd vl sp tp en len t0 so J K k w m op 0) : (kd k = 18 → FO_M_beginOne fu J K = FO_M_opened fu 40 J K) ∧ (kd k = 15 → FO_M_beginOne fu J K = FO_M_opened fu 5 J K) ∧ (kd k = 45 → FO_M_beginOne fu J K = FO_M_opened fu 41 J K) ∧ (kd k = 46 → FO_M_beginOne fu J K = FO_M_opened fu 2 J K) ∧ (kd k = 47 → FO_M_beginOne fu J K = FO_M_opened fu 42 J K) ∧ (kd k = 53 → FO_M_beginOne fu J K = (FO_M_isAskAhead fu J K).bind (fun u22 => let r22 := u22.1; let I22 := u22.2.1; let L22 := u22.2.2; if r22 = 0 then (some (1, I22, L22)) else FO_M_opened fu 20 I22 L22)) ∧ (¬ kd k = 2 → (∀ i, i < 8 → ¬ kd k = nI (30 + i)) → ¬ kd k = 18 → ¬ kd k = 15 → ¬ kd k = 45 → ¬ kd k = 46 → ¬ kd k = 47 → ¬ kd k = 53 → FO_M_beginOne fu J K = some (1, J, K)) := by
  have sp := h.1.sg 40 18 (by decide)
  have sm := h.1.sg 45 15 (by decide)
  have w15 := m_isW (fu := fu) (i := 15) h.1 (by omega) rfl
  have w16 := m_isW (fu := fu) (i := 16) h.1 (by omega) rfl
  have w17 := m_isW (fu := fu) (i := 17) h.1 (by omega) rfl
  have w23 := m_isW (fu := fu) (i := 23) h.1 (by omega) rfl
  have mn : FO_M_nameOf fu J K = some (nm (kd k), J, K) := m_name h.1
  have key : ¬ kd k = 2 → nm (kd k) = -1 → FO_M_beginOne fu J K = if J 331 9 = 40 then FO_M_opened fu 40 J K else (if J 331 9 = 45 then FO_M_opened fu 5 J K else ((FO_M_isWord fu (wd 15) J K).bind (fun u15 => if u15.1 = 0 then ((FO_M_isWord fu (wd 16) u15.2.1 u15.2.2).bind (fun u17 => if u17.1 = 0 then ((FO_M_isWord fu (wd 17) u17.2.1 u17.2.2).bind (fun u19 => if u19.1 = 0 then ((FO_M_isWord fu (wd 23) u19.2.1 u19.2.2).bind (fun u21 => if u21.1 = 0 then (some (1, u21.2.1, u21.2.2)) else ((FO_M_isAskAhead fu u21.2.1 u21.2.2).bind (fun u22 => if u22.1 = 0 then (some (1, u22.2.1, u22.2.2)) else FO_M_opened fu 20 u22.2.1 u22.2.2)))) else FO_M_opened fu 42 u19.2.1 u19.2.2)) else FO_M_opened fu 2 u17.2.1 u17.2.2)) else FO_M_opened fu 41 u15.2.1 u15.2.2))) := by
    intro h2 hn
    have h9 : ¬ J 331 9 = 1 := fun z => h2 (h.1.t1.mp z)
    have be : ∀ x : Option (Int32 × TI × TL), (x.bind fun u => some (u.1, u.2.1, u.2.2)) = x := fun x => bind_eta x
    unfold FO_M_beginOne
    rw [if_neg h9, mn, hn]
    simp only [Option.bind_some]
    rw [if_pos (by decide), if_neg h9, if_pos (by decide)]
    simp only [ww15, ww16, ww17, ww23, Option.bind_some, be]
  have ne : ∀ {a b : Nat}, a < 100 → b < 100 → a ≠ b → ¬ nI a = nI b := fun ha hb hab z => hab ((nI_eq (by omega) (by omega)).mp z)
  refine ⟨fun e => ?_, fun e => ?_, fun e => ?_, fun e => ?_, fun e => ?_, fun e => ?_, fun e1 e2 e3 e4 e5 e6 e7 e8 => ?_⟩
  · rw [key (by rw [e]; decide) (by rw [e]; decide), if_pos (show J 331 9 = 40 from sp.mpr e)]
  · rw [key (by rw [e]; decide) (by rw [e]; decide), if_neg (show ¬ J 331 9 = 40 from fun z => absurd (e.symm.trans (sp.mp z)) (by decide)), if_pos (show J 331 9 = 45 from sm.mpr e)]
  · rw [key (by rw [e]; decide) (by rw [e]; decide), if_neg (show ¬ J 331 9 = 40 from fun z => absurd (e.symm.trans (sp.mp z)) (by decide)), if_neg (show ¬ J 331 9 = 45 from fun z => absurd (e.symm.trans (sm.mp z)) (by decide)), w15.1 e]
    rfl
  · rw [key (by rw [e]; decide) (by rw [e]; decide), if_neg (show ¬ J 331 9 = 40 from fun z => absurd (e.symm.trans (sp.mp z)) (by decide)), if_neg (show ¬ J 331 9 = 45 from fun z => absurd (e.symm.trans (sm.mp z)) (by decide)), w15.2 (by rw [e]; decide)]
    simp only [Option.bind_some]
    rw [if_pos trivial, w16.1 e]
    rfl
  · rw [key (by rw [e]; decide) (by rw [e]; decide), if_neg (show ¬ J 331 9 = 40 from fun z => absurd (e.symm.trans (sp.mp z)) (by decide)), if_neg (show ¬ J 331 9 = 45 from fun z => absurd (e.symm.trans (sm.mp z)) (by decide)), w15.2 (by rw [e]; decide)]
    simp only [Option.bind_some]
    rw [if_pos trivial, w16.2 (by rw [e]; decide)]
    simp only [Option.bind_some]
    rw [if_pos trivial, w17.1 e]
    rfl
  · rw [key (by rw [e]; decide) (by rw [e]; decide), if_neg (show ¬ J 331 9 = 40 from fun z => absurd (e.symm.trans (sp.mp z)) (by decide)), if_neg (show ¬ J 331 9 = 45 from fun z => absurd (e.symm.trans (sm.mp z)) (by decide)), w15.2 (by rw [e]; decide)]
    simp only [Option.bind_some]
    rw [if_pos trivial, w16.2 (by rw [e]; decide)]
    simp only [Option.bind_some]
    rw [if_pos trivial, w17.2 (by rw [e]; decide)]
    simp only [Option.bind_some]
    rw [if_pos trivial, w23.1 e]
    rfl
  · rw [key e1 (nm_n e2), if_neg (show ¬ J 331 9 = 40 from fun z => e3 (sp.mp z)), if_neg (show ¬ J 331 9 = 45 from fun z => e4 (sm.mp z)), w15.2 e5]
    simp only [Option.bind_some]
    rw [if_pos trivial, w16.2 e6]
    simp only [Option.bind_some]
    rw [if_pos trivial, w17.2 e7]
    simp only [Option.bind_some]
    rw [if_pos trivial, w23.2 e8]
    rfl
end
