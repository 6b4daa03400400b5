/-! tokens: the class's rows of them beside the model's one -/
/-- the words, packed -/
def wds : List Nat := [1752135026, 1818326117, 495873780082, 131277443786868, 439905906546, 7825519, 1953656676, 7823737, 499984329587, 448377483891, 119225681667442, 30064, 1685026670, 1751215719, 129117058068071, 1852137842, 1668640883, 26982, 1952998766, 1701606245, 6647396, 28530, 6385252, 7237492, 28518, 25209]
def wd (i : Nat) : Int64 := Int64.ofNat (wds.getD i 0)
/-- the signs: what the model has for them, and the class -/
def sgs : List (Nat × Nat) := [(60, 10), (62, 11), (61, 12), (35, 13), (43, 14), (45, 15), (42, 16), (47, 17), (40, 18), (41, 19), (59, 20), (4, 3), (5, 4)]
/-- the model's token beside the class's -/
def MT (kd vl tok num : Int32) (w : Int64) : Prop :=
  (tok = 0 ↔ kd = 0) ∧ (tok = 1 ↔ kd = 2) ∧ (kd = 2 → ∃ a b : Nat, a < 1000000 ∧ num = nI a ∧ vl = nI b ∧ b = min a 10000) ∧
  (∀ i, i < 26 → ((tok = 2 ∧ w = wd i) ↔ kd = nI (30 + i))) ∧ (∀ s, s ∈ sgs → (tok = nI s.1 ↔ kd = nI s.2))
/-- the class has come to token k, its code has q instructions -/
def XS (kd vl sp : Nat → Int32) (N : Nat) (I : TI) (k q : Nat) : Prop :=
  (I 307 7 = nI (N + 1) ∧ I 307 1 = 0 ∧ I 307 2 = -1) ∧ I 307 8 = nI k ∧ I 307 9 = kd k ∧ I 307 10 = vl k ∧ I 308 4 = nI q ∧ I 316 = kd ∧ I 317 = vl ∧ I 318 = sp ∧ k ≤ N ∧ N ≤ 300
/-- the model has come to token k -/
def MK (kd vl sp tp : Nat → Int32) (en : Nat → Nat) (len : Nat) (J : TI) (K : TL) (k : Nat) : Prop :=
  J 331 4 = nI len ∧ J 335 = tp ∧ J 331 7 = nI (en k) ∧ J 331 8 = sp k ∧ MT (kd k) (vl k) (J 331 9) (J 331 10) (K 331 11)
/-- what the model's next token leaves -/
def NXf (J J' : TI) : Prop := (∀ o, o ≠ 331 → J' o = J o) ∧ (∀ i, i ≠ 7 → i ≠ 8 → i ≠ 9 → i ≠ 10 → J' 331 i = J 331 i)
def NX (kd vl sp tp : Nat → Int32) (en : Nat → Nat) (len N fu : Nat) : Prop :=
  ∀ (J : TI) (K : TL) (k : Nat), k < N → MK kd vl sp tp en len J K k → ∃ J' K', FO_M_nextToken fu J K = some ((), J', K') ∧ MK kd vl sp tp en len J' K' (k + 1) ∧ NXf J J'
theorem MK.cg {kd vl sp tp : Nat → Int32} {en : Nat → Nat} {len k : Nat} {J J' : TI} {K : TL} (h : MK kd vl sp tp en len J K k) (e1 : ∀ i, i ≠ 12 → i ≠ 13 → i ≠ 14 → i ≠ 16 → i ≠ 17 → i ≠ 18 → J' 331 i = J 331 i) (e2 : J' 335 = J 335) : MK kd vl sp tp en len J' K k := by
  unfold MK at *
  rw [e1 4 (by omega) (by omega) (by omega) (by omega) (by omega) (by omega), e1 7 (by omega) (by omega) (by omega) (by omega) (by omega) (by omega), e1 8 (by omega) (by omega) (by omega) (by omega) (by omega) (by omega), e1 9 (by omega) (by omega) (by omega) (by omega) (by omega) (by omega), e1 10 (by omega) (by omega) (by omega) (by omega) (by omega) (by omega), e2]
  exact h
/-- the class leaves all but these -/
def FrX (I I' : TI) : Prop := (∀ o, o ≠ 307 → o ≠ 308 → o ≠ 312 → o ≠ 313 → I' o = I o) ∧ (∀ i, i ≠ 1 → i ≠ 2 → i ≠ 8 → i ≠ 9 → i ≠ 10 → I' 307 i = I 307 i) ∧ (∀ i, i ≠ 4 → I' 308 i = I 308 i)
theorem FrX.rf {I : TI} : FrX I I := ⟨fun _ _ _ _ _ => rfl, fun _ _ _ _ _ _ => rfl, fun _ _ => rfl⟩
theorem FrX.tr {I I' I'' : TI} (a : FrX I I') (b : FrX I' I'') : FrX I I'' := ⟨fun o h1 h2 h3 h4 => (b.1 o h1 h2 h3 h4).trans (a.1 o h1 h2 h3 h4), fun i h1 h2 h3 h4 h5 => (b.2.1 i h1 h2 h3 h4 h5).trans (a.2.1 i h1 h2 h3 h4 h5), fun i h => (b.2.2 i h).trans (a.2.2 i h)⟩
/-- code below is left -/
def CdX (I I' : TI) (q : Nat) : Prop := ∀ j, j < q → I' 312 j = I 312 j ∧ I' 313 j = I 313 j
theorem CdX.tr {I I' I'' : TI} {q q' : Nat} (a : CdX I I' q) (b : CdX I' I'' q') (h : q ≤ q') : CdX I I'' q := fun j hj => ⟨((b j (by omega)).1).trans (a j hj).1, ((b j (by omega)).2).trans (a j hj).2⟩
theorem CdX.rf {I : TI} {q : Nat} : CdX I I q := fun _ _ => ⟨rfl, rfl⟩
/-- a fault of the class -/
def FlX (I I' : TI) (e : Nat) (s : Int32) : Prop := FrX I I' ∧ I' 307 1 = nI e ∧ I' 307 2 = s
section
variable {kd vl sp : Nat → Int32} {N : Nat}
theorem x_come {fu k q : Nat} {I : TI} {L : TL} (h : XS kd vl sp N I k q) (hk : k < N) : ∃ I', FO_R_comeTo fu (I 307 8 + 1) I L = some ((), I', L) ∧ XS kd vl sp N I' (k + 1) q ∧ FrX I I' ∧ CdX I I' 300 := by
  obtain ⟨h7, h8, h9, h10, h4, e1, e2, e3, h5, h6⟩ := h
  have em : F_J_max I 0 (F_J_min I (nI (k + 1)) 300) = nI (k + 1) := by
    unfold F_J_max F_J_min
    rw [if_neg (show ¬ (300 : Int32) < nI (k + 1) from nI_nlt (a := 300) (by omega) (by omega)), if_pos (show (0 : Int32) < nI (k + 1) from nI_lt (a := 0) (by omega) (by omega))]
  refine ⟨sI (sI (sI I 307 8 (nI (k + 1))) 307 9 (kd (k + 1))) 307 10 (vl (k + 1)), ?_, ?_, ?_, ?_⟩
  · unfold FO_R_comeTo
    rw [h8, nI_1, em, h7.1, if_neg (show ¬ nI (N + 1) ≤ nI (k + 1) from nI_ge (by omega) (by omega)), if_pos (show (0 : Int32) ≤ nI (k + 1) ∧ nI (k + 1) < 301 from ib (n := 301) rfl (by omega) (by omega)), if_neg (show ¬ nI (N + 1) ≤ nI (k + 1) from nI_ge (by omega) (by omega)), if_pos (show (0 : Int32) ≤ nI (k + 1) ∧ nI (k + 1) < 301 from ib (n := 301) rfl (by omega) (by omega)), nI_clamp (show k + 1 < 2 ^ 31 by omega), e1, e2]
  · refine ⟨?_, ?_, ?_, ?_, ?_, ?_, ?_, ?_, by omega, h6⟩
    · simp [sI_ap, h7]
    · simp [sI_ap]
    · simp [sI_ap]
    · simp [sI_ap]
    · simp [sI_ap, h4]
    · rw [sJ_ne (by omega), sJ_ne (by omega), sJ_ne (by omega), e1]
    · rw [sJ_ne (by omega), sJ_ne (by omega), sJ_ne (by omega), e2]
    · rw [sJ_ne (by omega), sJ_ne (by omega), sJ_ne (by omega), e3]
  · refine ⟨fun o a b c d => by rw [sJ_ne a, sJ_ne a, sJ_ne a], fun i a b c d e => by simp [sI_ap, c, d, e], fun i a => by simp [sI_ap]⟩
  · exact fun j hj => ⟨by simp [sI_ap], by simp [sI_ap]⟩
theorem x_fail {fu k q e : Nat} {I : TI} {L : TL} (h : XS kd vl sp N I k q) : ∃ I', FO_R_fail fu (nI e) I L = some (0, I', L) ∧ FlX I I' e (sp k) := by
  obtain ⟨h7, h8, h9, h10, h4, e1, e2, e3, h5, h6⟩ := h
  refine ⟨sI (sI I 307 1 (nI e)) 307 2 (sp k), ?_, ⟨fun o a b c d => by rw [sJ_ne a, sJ_ne a], fun i a b c d e => by simp [sI_ap, a, b], fun i a => by simp [sI_ap]⟩, by simp [sI_ap], by simp [sI_ap]⟩
  unfold FO_R_fail
  rw [h8, if_neg (show ¬ nI k < 0 from nI_pos (by omega)), if_neg (show ¬ (301 : Int32) ≤ nI k from nI_ge (b := 301) (by omega) (by omega)), if_pos (show (0 : Int32) ≤ nI k ∧ nI k < 301 from ib (n := 301) rfl (by omega) (by omega)), nI_clamp (show k < 2 ^ 31 by omega), e3]
theorem x_pass {fu k q : Nat} {w : Int32} {I : TI} {L : TL} (h : XS kd vl sp N I k q) : (kd k = w → k < N → ∃ I', FO_R_pass fu w I L = some (1, I', L) ∧ XS kd vl sp N I' (k + 1) q ∧ FrX I I' ∧ CdX I I' 300) ∧ (¬ kd k = w → ∃ I', FO_R_pass fu w I L = some (0, I', L) ∧ FlX I I' 1 (sp k)) := by
  have h9 := h.2.2.1
  unfold FO_R_pass
  refine ⟨fun e hk => ?_, fun e => ?_⟩
  · obtain ⟨I', a, b, c, d⟩ := x_come (fu := fu) (L := L) h hk
    rw [if_pos (h9.trans e), a]
    exact ⟨I', rfl, b, c, d⟩
  · obtain ⟨I', a, b⟩ := x_fail (fu := fu) (e := 1) (L := L) h
    rw [if_neg (by rw [h9]; exact e), show (1 : Int32) = nI 1 from rfl, a]
    exact ⟨I', rfl, b⟩
theorem x_add {fu k q : Nat} {c a : Int32} {I : TI} {L : TL} (h : XS kd vl sp N I k q) (hq : q < 300) : ∃ I', FO_T_addCode fu c a I L = some (nI q, I', L) ∧ XS kd vl sp N I' k (q + 1) ∧ FrX I I' ∧ CdX I I' q ∧ I' 312 q = c ∧ I' 313 q = a := by
  obtain ⟨h7, h8, h9, h10, h4, e1, e2, e3, h5, h6⟩ := h
  refine ⟨sI (sI (sI I 312 q c) 313 q a) 308 4 (nI (q + 1)), ?_, ⟨?_, ?_, ?_, ?_, ?_, ?_, ?_, ?_, h5, h6⟩, ⟨fun o a b c d => by rw [sJ_ne b, sJ_ne d, sJ_ne c], fun i a b c d e => by simp [sI_ap], fun i a => by simp [sI_ap, a]⟩, fun j hj => ⟨by simp [sI_ap, show ¬ j = q by omega], by simp [sI_ap, show ¬ j = q by omega]⟩, by simp [sI_ap], by simp [sI_ap]⟩
  · unfold FO_T_addCode
    rw [h4, if_pos (show (0 : Int32) ≤ nI q ∧ nI q ≤ 299 from ⟨nI_pos' (by omega), nI_le (b := 299) (by omega) (by omega)⟩), if_pos (show (0 : Int32) ≤ nI q ∧ nI q < 300 from ib (n := 300) rfl hq (by omega)), if_pos (show (0 : Int32) ≤ nI q ∧ nI q < 300 from ib (n := 300) rfl hq (by omega)), nI_clamp (show q < 2 ^ 31 by omega), nI_1, nI_pred]
  · simp [sI_ap, h7]
  · simp [sI_ap, h8]
  · simp [sI_ap, h9]
  · simp [sI_ap, h10]
  · simp [sI_ap]
  · rw [sJ_ne (by omega), sJ_ne (by omega), sJ_ne (by omega), e1]
  · rw [sJ_ne (by omega), sJ_ne (by omega), sJ_ne (by omega), e2]
  · rw [sJ_ne (by omega), sJ_ne (by omega), sJ_ne (by omega), e3]
end
/-- code behind a fault does no harm -/
theorem x_addF {fu e : Nat} {c a s : Int32} {I I0 : TI} {L : TL} (h : FlX I0 I e s) : ∃ r I', FO_T_addCode fu c a I L = some (r, I', L) ∧ FlX I0 I' e s := by
  unfold FO_T_addCode
  by_cases h1 : (0 : Int32) ≤ I 308 4 ∧ I 308 4 ≤ 299
  · have h2 : (0 : Int32) ≤ I 308 4 ∧ I 308 4 < 300 := ⟨h1.1, Int32.lt_of_le_of_lt h1.2 (by decide)⟩
    rw [if_pos h1, if_pos h2, if_pos h2]
    refine ⟨_, _, rfl, h.1.tr ⟨fun o a b c d => by rw [sJ_ne b, sJ_ne d, sJ_ne c], fun i a b c d e => by simp [sI_ap], fun i a => by simp [sI_ap, a]⟩, ?_, ?_⟩
    · rw [sJ_ne (by omega), sJ_ne (by omega), sJ_ne (by omega)]; exact h.2.1
    · rw [sJ_ne (by omega), sJ_ne (by omega), sJ_ne (by omega)]; exact h.2.2
  · rw [if_neg h1]
    exact ⟨_, _, rfl, h⟩
theorem FlX.pre {I I1 I' : TI} {e : Nat} {s : Int32} (a : FrX I I1) (h : FlX I1 I' e s) : FlX I I' e s := ⟨a.tr h.1, h.2⟩
theorem XS.cg {kd vl sp : Nat → Int32} {N k q : Nat} {I : TI} (h : XS kd vl sp N I k q) : I 307 9 = kd k ∧ I 307 8 = nI k ∧ I 307 10 = vl k := ⟨h.2.2.1, h.2.1, h.2.2.2.1⟩
/-- the model's words -/
theorem m_isW {fu i : Nat} {v : Int64} {kd vl sp tp : Nat → Int32} {en : Nat → Nat} {len k : Nat} {J : TI} {K : TL} (h : MK kd vl sp tp en len J K k) (hi : i < 26) (hv : v = wd i) : (kd k = nI (30 + i) → FO_M_isWord fu v J K = some (1, J, K)) ∧ (¬ kd k = nI (30 + i) → FO_M_isWord fu v J K = some (0, J, K)) := by
  have hw := h.2.2.2.2.2.2.2.1 i hi
  subst hv
  unfold FO_M_isWord
  refine ⟨fun e => ?_, fun e => ?_⟩
  · obtain ⟨a, b⟩ := hw.mpr e
    rw [if_pos a, if_pos ((lc_eq _ _).mpr b)]
  · by_cases a : J 331 9 = 2
    · rw [if_pos a, if_neg (fun b => e (hw.mp ⟨a, (lc_eq _ _).mp b⟩))]
    · rw [if_neg a]
theorem w_w2 {fu : Nat} {a b : Int32} {J : TI} {K : TL} : ∃ v, FO_M_w2 fu a b J K = some (v, J, K) := ⟨_, rfl⟩
