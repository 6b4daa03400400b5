/-! THE STEP: every instruction -/
theorem okB.dec {y : MethodName} {bytes : ByteArray} {nL : Nat} {rt : Option FieldType} {pc : Nat} {E : PE} (h : okB y bytes nL rt pc E = true) : decode bytes pc = .ok (E.1, E.2.1 - pc) := by
  unfold okB at h
  simp only [Bool.and_eq_true, decide_eq_true_eq] at h
  exact h.1.1.1
theorem okB.ln {y : MethodName} {bytes : ByteArray} {nL : Nat} {rt : Option FieldType} {pc : Nat} {E : PE} (h : okB y bytes nL rt pc E = true) (n : Nat) (hn : lnO E.1 = n + 1) : decode bytes pc = .ok (E.1, n + 1) ∧ E.2.1 = pc + (n + 1) := by
  have hd := okB.dec h
  unfold okB at h
  simp only [Bool.and_eq_true, decide_eq_true_eq] at h
  have h2 := h.1.2
  rw [hn] at h2
  have h3 : E.2.1 = pc + (n + 1) := of_decide_eq_true h2
  refine ⟨?_, h3⟩
  rw [hd, h3, Nat.add_sub_cancel_left]
theorem okB.lk {y : MethodName} {bytes : ByteArray} {nL : Nat} {rt : Option FieldType} {pc : Nat} {E : PE} (h : okB y bytes nL rt pc E = true) : lkB y nL rt pc E = true := by
  unfold okB at h
  simp only [Bool.and_eq_true] at h
  exact h.2
theorem u_good {C : String} {T : u_T} {N : Nat} {w : Cond} (h : w ∈ u_ws C T N) : goodWord w = true := by
  unfold u_ws at h
  obtain ⟨k, -, rfl⟩ := List.mem_map.mp h
  unfold u_lay
  split <;> rfl
theorem cl_in {ci : Nat} (h : ci < 10) : ∃ (C : String) (T : u_T), vwCl[ci]? = some (C, T, fN ci) ∧ (∀ w ∈ u_ws C T (fN ci), w ∈ gd_tbl) ∧ (∀ k, k < fN ci → parseFieldDescriptor (T k).2.2.1 = some (tyO ci k)) ∧ (∀ a, a < fN ci → ∀ b, b < fN ci → a ≠ b → (T a).2.1 ≠ (T b).2.1) ∧ Cond.instantiable C (fN ci) ∈ gd_tbl ∧ Cond.initialized C ∈ gd_tbl := by
  obtain ⟨C, T, h1, h2, h3, h4, h5, h6⟩ := clOK_all h
  exact ⟨C, T, h1, fun w hw => List.mem_filter.mpr ⟨h2 w hw, u_good hw⟩, h3, h4, List.mem_filter.mpr ⟨h5, rfl⟩, List.mem_filter.mpr ⟨h6, rfl⟩⟩
def fkd (v : Value) (ci k : Nat) : Prop := match v with | .int z => (if z = 0 then tyO ci k = .int else tyO ci k = .boolean) | .long _ => tyO ci k = .long | .null => isRT (tyO ci k) = true | _ => False
theorem flB.ex {own : String} {i ci k wi : Nat} {v : Value} (h : flB own i ci k wi v = true) : ci < 10 ∧ k < fN ci ∧ (∀ C T N, vwCl[ci]? = some (C, T, N) → Cond.fieldLink own i (T k).1 (T k).2.1 (T k).2.2.1 ∈ gd_tbl) ∧ fkd v ci k := by
  unfold flB at h
  simp only [Bool.and_eq_true, decide_eq_true_eq] at h
  obtain ⟨⟨⟨h1, h2⟩, h3⟩, h4⟩ := h
  refine ⟨h1, h2, fun C T N e => ?_, ?_⟩
  · rw [e] at h3
    exact twB_in h3
  · cases v with
    | int z =>
      unfold fkd
      dsimp only at h4 ⊢
      by_cases hz : z = 0
      · subst hz
        exact of_decide_eq_true h4
      · rw [if_neg hz]
        have : (z == 0) = false := beq_eq_false_iff_ne.mpr hz
        rw [this] at h4
        exact of_decide_eq_true h4
    | long z => exact (of_decide_eq_true h4 : tyO ci k = .long)
    | null => exact h4
    | float z => cases h4
    | double z => cases h4
    | ref z => cases h4
    | retAddr z => cases h4
theorem fvp_cv {base : Nat} {sp : UInt32 → Nat} {h : PH} {v : Value} {ci o k : Nat} (ht : fkd v ci k) : fval base h ci o k = cv base sp (fvp h v o k) := by
  unfold fkd at ht
  cases v with
  | int z =>
    dsimp only at ht
    by_cases hz : z = 0
    · rw [if_pos hz] at ht
      unfold fval
      rw [ht]
      rfl
    · rw [if_neg hz] at ht
      unfold fval
      rw [ht]
      rfl
  | long z =>
    dsimp only at ht
    unfold fval
    rw [ht]
    rfl
  | null =>
    dsimp only at ht
    rw [fval_ref ht]
    unfold fvp rfp
    dsimp only
    cases hR h o k <;> rfl
  | float z => cases ht
  | double z => cases ht
  | ref z => cases ht
  | retAddr z => cases ht
theorem cv_rfp {base : Nat} {sp : UInt32 → Nat} {r : Option Nat} : va_rf (r.map (base + ·)) = cv base sp (rfp r) := by cases r <;> rfl
theorem tsw.at {K : Nat → Prop} {pc : Nat} {x : Int32} : ∀ {os : List Int} {v : Int}, tsw K pc x os v → ∀ (j : Nat) (o : Int), os[j]? = some o → x.toInt = v + j → K (tgo pc o)
  | [], _, _, j, o, h, _ => by simp at h
  | q :: r, v, w, 0, o, h, e => by
    simp only [List.getElem?_cons_zero, Option.some.injEq] at h
    subst h
    exact w.1 (by simpa using e)
  | q :: r, v, w, j + 1, o, h, e => by
    simp only [List.getElem?_cons_succ] at h
    exact tsw.at w.2 j o h (by omega)
theorem lsw.at {K : Nat → Prop} {pc : Nat} {x : Int32} {d : Int} : ∀ {os : List (Int × Int)}, lsw K pc x d os → K (tgo pc (Op.lookupswitch.offset os d x.toInt))
  | [], w => w
  | (v, o) :: r, w => by
    by_cases e : x.toInt = v
    · have : Op.lookupswitch.offset ((v, o) :: r) d x.toInt = o := by unfold Op.lookupswitch.offset; simp [e]
      rw [this]
      exact w.1 e
    · have : Op.lookupswitch.offset ((v, o) :: r) d x.toInt = Op.lookupswitch.offset r d x.toInt := by
        have e2 : ¬ v = x.toInt := fun z => e z.symm
        first | (unfold Op.lookupswitch.offset; simp [e2]; done) | (rw [Op.lookupswitch.offset]; simp [e, e2]; done)
      rw [this]
      exact lsw.at (w.2 e)
theorem lof_in {d x : Int} : ∀ {os : List (Int × Int)}, Op.lookupswitch.offset os d x = d ∨ ∃ q ∈ os, Op.lookupswitch.offset os d x = q.2
  | [] => Or.inl rfl
  | (v, o) :: r => by
    by_cases e : x = v
    · exact Or.inr ⟨(v, o), List.mem_cons_self, by unfold Op.lookupswitch.offset; simp [e]⟩
    · have e2 : ¬ v = x := fun z => e z.symm
      have : Op.lookupswitch.offset ((v, o) :: r) d x = Op.lookupswitch.offset r d x := by
        first | (unfold Op.lookupswitch.offset; simp [e2]; done) | (rw [Op.lookupswitch.offset]; simp [e, e2]; done)
      rw [this]
      rcases lof_in (os := r) with h | ⟨q, h1, h2⟩
      · exact Or.inl h
      · exact Or.inr ⟨q, List.mem_cons_of_mem _ h1, h2⟩
theorem tgo_eq {pc : Nat} {o : Int} (h : 0 ≤ (pc : Int) + o) : (pc : Int) + o = (tgo pc o : Int) := by unfold tgo; omega
theorem nar_b {x : Int32} (h : x = 0 ∨ x = 1) : narrow .boolean (.int x) = .int x := by rcases h with rfl | rfl <;> rfl
theorem fit_b {x : Int32} (h : x = 0 ∨ x = 1) : fits .boolean (.int x) = true := by rcases h with rfl | rfl <;> rfl
