/-! THE PICTURE: the pure heap's cells lie in the machine's heap from 'base' on, in their order -/
def cv (base : Nat) (sp : UInt32 → Nat) : Value → Value
  | .ref o => .ref (base + o)
  | .float k => .ref (sp k)
  | v => v
theorem cv_cat {base : Nat} {sp : UInt32 → Nat} (v : Value) : (cv base sp v).category = v.category := by cases v <;> rfl
def tyO (ci : Nat) : Nat → FieldType := match ci with
  | 0 => tyX0 | 1 => tyX1 | 2 => tyX2 | 3 => tyX3 | 4 => tyX4 | 5 => tyX5 | 6 => tyX6 | 7 => tyX7 | 8 => tyX8 | _ => tyX9
def fN (ci : Nat) : Nat := match ci with
  | 0 => 2 | 1 => 8 | 2 => 3 | 3 => 2 | 4 => 12 | 5 => 17 | 6 => 3 | 7 => 9 | 8 => 12 | _ => 34
def fval (base : Nat) (h : PH) (ci o j : Nat) : Value := match tyO ci j with
  | .int => .int (hI h o j)
  | .boolean => .int (hI h o j)
  | .long => .long (hL h o j)
  | _ => va_rf ((hR h o j).map (base + ·))
def fvs (base : Nat) (h : PH) (ci o : Nat) : List Value := (List.range (fN ci)).map (fval base h ci o)
def ent (base : Nat) (cA : Nat → ClassId) (h : PH) (o : Nat) : va_E :=
  if (hK h o).1 < 10 then .inr ((hK h o).1, fvs base h (hK h o).1 o)
  else if (hK h o).1 = 10 then .inl (cA 0, (hK h o).2, .inl (hI h o))
  else if (hK h o).1 = 11 then .inl (cA 1, (hK h o).2, .inr (.inl (hL h o)))
  else if (hK h o).1 = 12 then .inl (cA 2, (hK h o).2, .inl (hI h o))
  else if (hK h o).1 = 13 then .inl (cA 3, (hK h o).2, .inr (.inr (.inr (.inr (fun j => (hR h o j).map (base + ·))))))
  else .inl (cA 4, (hK h o).2, .inr (.inr (.inr (.inr (fun j => (hR h o j).map (base + ·))))))
def wsO (base : Nat) (cA : Nat → ClassId) (h : PH) : va_W := (List.range (hN h)).map (fun o => (base + o, ent base cA h o))
def tyA (cA : Nat → ClassId) : List (ClassId × FieldType) := [(cA 0, .int), (cA 1, .long), (cA 2, .boolean), (cA 3, .object "StairRods$Text"), (cA 4, .object "StairRods$House")]
theorem wsO_get {base : Nat} {cA : Nat → ClassId} {h : PH} {o : Nat} (ho : o < hN h) : (wsO base cA h)[o]? = some (base + o, ent base cA h o) := by
  unfold wsO
  rw [List.getElem?_map, List.getElem?_range ho]
  rfl
theorem wsO_len {base : Nat} {cA : Nat → ClassId} {h : PH} : (wsO base cA h).length = hN h := by unfold wsO; simp
theorem wsO_some {base : Nat} {cA : Nat → ClassId} {h : PH} {k : Nat} {q : Nat × va_E} (hk : (wsO base cA h)[k]? = some q) : k < hN h ∧ q = (base + k, ent base cA h k) := by
  have hl : k < hN h := by
    have := (List.getElem?_eq_some_iff.mp hk).1
    rwa [wsO_len] at this
  rw [wsO_get hl] at hk
  exact ⟨hl, (Option.some.inj hk).symm⟩
theorem wsO_D {base : Nat} {cA : Nat → ClassId} {h : PH} : va_D (fun q => base ≤ q) (wsO base cA h) := by
  refine ⟨fun i j x y hi hj hxy => ?_, fun k q hk => ?_⟩
  · obtain ⟨-, rfl⟩ := wsO_some hi
    obtain ⟨-, rfl⟩ := wsO_some hj
    exact Nat.add_left_cancel hxy
  · obtain ⟨-, rfl⟩ := wsO_some hk
    exact Nat.le_add_right _ _
theorem wsO_set {base : Nat} {cA : Nat → ClassId} {h h' : PH} {o : Nat} {e : va_E} (hn : hN h' = hN h) (he : ent base cA h' o = e) (hq : ∀ o', o' ≠ o → ent base cA h' o' = ent base cA h o') : (wsO base cA h).set o (base + o, e) = wsO base cA h' := by
  apply List.ext_getElem?
  intro k
  rw [List.getElem?_set]
  by_cases hk : k < hN h
  · rw [wsO_get (h := h') (by rw [hn]; exact hk)]
    by_cases hko : o = k
    · subst hko
      rw [if_pos rfl, wsO_len, if_pos hk, he]
    · rw [if_neg hko, wsO_get hk, hq k (fun z => hko z.symm)]
  · have h1 : (wsO base cA h')[k]? = none := by rw [List.getElem?_eq_none_iff, wsO_len, hn]; omega
    have h2 : (wsO base cA h)[k]? = none := by rw [List.getElem?_eq_none_iff, wsO_len]; omega
    rw [h1, wsO_len]
    by_cases hko : o = k
    · subst hko
      rw [if_pos rfl, if_neg hk]
    · rw [if_neg hko, h2]
theorem wsO_push {base : Nat} {cA : Nat → ClassId} {h : PH} {k len : Nat} : wsO base cA (puN h k len) = wsO base cA h ++ [(base + hN h, ent base cA (puN h k len) (hN h))] := by
  unfold wsO
  show (List.range (hN h + 1)).map _ = _
  rw [List.range_succ, List.map_append]
  congr 1
  apply List.map_congr_left
  intro o ho
  have ho := List.mem_range.mp ho
  have hne : ¬ o = h.1 := Nat.ne_of_lt ho
  have e1 : hK (puN h k len) o = hK h o := if_neg hne
  have e2 : hI (puN h k len) o = hI h o := if_neg hne
  have e3 : hL (puN h k len) o = hL h o := if_neg hne
  have e4 : hR (puN h k len) o = hR h o := if_neg hne
  unfold ent fvs fval
  simp only [e1, e2, e3, e4]
theorem fvs_get {base : Nat} {h : PH} {ci o j : Nat} (hj : j < fN ci) : (fvs base h ci o)[j]? = some (fval base h ci o j) := by
  unfold fvs
  rw [List.getElem?_map, List.getElem?_range hj]
  rfl
theorem fvs_len {base : Nat} {h : PH} {ci o : Nat} : (fvs base h ci o).length = fN ci := by unfold fvs; simp
theorem fvs_set {base : Nat} {h h' : PH} {ci o k : Nat} {v : Value} (hv : fval base h' ci o k = v) (hq : ∀ j, j ≠ k → fval base h' ci o j = fval base h ci o j) : (fvs base h ci o).set k v = fvs base h' ci o := by
  apply List.ext_getElem?
  intro j
  rw [List.getElem?_set]
  by_cases hj : j < fN ci
  · rw [fvs_get (h := h') hj]
    by_cases hk : k = j
    · subst hk
      rw [if_pos rfl, fvs_len, if_pos hj, hv]
    · rw [if_neg hk, fvs_get hj, hq j (fun z => hk z.symm)]
  · have h1 : (fvs base h' ci o)[j]? = none := by rw [List.getElem?_eq_none_iff, fvs_len]; omega
    have h2 : (fvs base h ci o)[j]? = none := by rw [List.getElem?_eq_none_iff, fvs_len]; omega
    rw [h1, fvs_len]
    by_cases hk : k = j
    · subst hk
      rw [if_pos rfl, if_neg hj]
    · rw [if_neg hk, h2]
theorem ent_obj {base : Nat} {cA : Nat → ClassId} {h : PH} {o ci : Nat} (hk : (hK h o).1 = ci) (hc : ci < 10) : ent base cA h o = .inr (ci, fvs base h ci o) := by
  unfold ent
  rw [hk, if_pos hc]
theorem ent_int {base : Nat} {cA : Nat → ClassId} {h : PH} {o : Nat} (hk : (hK h o).1 = 10) : ent base cA h o = .inl (cA 0, (hK h o).2, .inl (hI h o)) := by
  unfold ent
  rw [hk]
  rfl
theorem ent_long {base : Nat} {cA : Nat → ClassId} {h : PH} {o : Nat} (hk : (hK h o).1 = 11) : ent base cA h o = .inl (cA 1, (hK h o).2, .inr (.inl (hL h o))) := by
  unfold ent
  rw [hk]
  rfl
theorem ent_bool {base : Nat} {cA : Nat → ClassId} {h : PH} {o : Nat} (hk : (hK h o).1 = 12) : ent base cA h o = .inl (cA 2, (hK h o).2, .inl (hI h o)) := by
  unfold ent
  rw [hk]
  rfl
theorem ent_text {base : Nat} {cA : Nat → ClassId} {h : PH} {o : Nat} (hk : (hK h o).1 = 13) : ent base cA h o = .inl (cA 3, (hK h o).2, .inr (.inr (.inr (.inr (fun j => (hR h o j).map (base + ·)))))) := by
  unfold ent
  rw [hk]
  rfl
theorem ent_house {base : Nat} {cA : Nat → ClassId} {h : PH} {o : Nat} (hk : (hK h o).1 = 14) : ent base cA h o = .inl (cA 4, (hK h o).2, .inr (.inr (.inr (.inr (fun j => (hR h o j).map (base + ·)))))) := by
  unfold ent
  rw [hk]
  rfl
/-- a cell whose kind, ints, longs, references are the same is the same -/
theorem ent_same {base : Nat} {cA : Nat → ClassId} {h h' : PH} {o : Nat} (e1 : hK h' o = hK h o) (e2 : hI h' o = hI h o) (e3 : hL h' o = hL h o) (e4 : hR h' o = hR h o) : ent base cA h' o = ent base cA h o := by
  unfold ent fvs fval
  simp only [e1, e2, e3, e4]
theorem vaUpS {α : Type} (f : Nat → α) (k : Nat) (x : α) : va_up f k x k = x := if_pos rfl
theorem vaUpN {α : Type} (f : Nat → α) {k j : Nat} (x : α) (h : j ≠ k) : va_up f k x j = f j := if_neg h
theorem sI_eq (I : Nat → Nat → Int32) (o k : Nat) (v : Int32) : sI I o k v o k = v := by unfold sI; rw [vaUpS]; exact if_pos rfl
theorem sI_ne (I : Nat → Nat → Int32) (o : Nat) {k j : Nat} (v : Int32) (h : j ≠ k) : sI I o k v o j = I o j := by unfold sI; rw [vaUpS]; exact if_neg h
theorem sL_eq (I : Nat → Nat → Int64) (o k : Nat) (v : Int64) : sL I o k v o k = v := by unfold sL; rw [vaUpS]; exact if_pos rfl
theorem sL_ne (I : Nat → Nat → Int64) (o : Nat) {k j : Nat} (v : Int64) (h : j ≠ k) : sL I o k v o j = I o j := by unfold sL; rw [vaUpS]; exact if_neg h
theorem sR_eq (I : Nat → Nat → Option Nat) (o k : Nat) (v : Option Nat) : sR I o k v o k = v := by unfold sR; rw [vaUpS]; exact if_pos rfl
theorem sR_ne (I : Nat → Nat → Option Nat) (o : Nat) {k j : Nat} (v : Option Nat) (h : j ≠ k) : sR I o k v o j = I o j := by unfold sR; rw [vaUpS]; exact if_neg h
theorem puI_ws {base : Nat} {cA : Nat → ClassId} {h : PH} {o k : Nat} {x : Int32} {e : va_E} (he : ent base cA (puI h o k x) o = e) : (wsO base cA h).set o (base + o, e) = wsO base cA (puI h o k x) :=
  wsO_set rfl he (fun _ hn => ent_same rfl (vaUpN _ _ hn) rfl rfl)
theorem puL_ws {base : Nat} {cA : Nat → ClassId} {h : PH} {o k : Nat} {x : Int64} {e : va_E} (he : ent base cA (puL h o k x) o = e) : (wsO base cA h).set o (base + o, e) = wsO base cA (puL h o k x) :=
  wsO_set rfl he (fun _ hn => ent_same rfl rfl (vaUpN _ _ hn) rfl)
theorem puR_ws {base : Nat} {cA : Nat → ClassId} {h : PH} {o k : Nat} {x : Option Nat} {e : va_E} (he : ent base cA (puR h o k x) o = e) : (wsO base cA h).set o (base + o, e) = wsO base cA (puR h o k x) :=
  wsO_set rfl he (fun _ hn => ent_same rfl rfl rfl (vaUpN _ _ hn))
theorem puA_ws {base : Nat} {cA : Nat → ClassId} {h : PH} {o : Nat} {f : Nat → Int32} {e : va_E} (he : ent base cA (puA h o f) o = e) : (wsO base cA h).set o (base + o, e) = wsO base cA (puA h o f) :=
  wsO_set rfl he (fun _ hn => ent_same rfl (vaUpN _ _ hn) rfl rfl)
/-- a field is written: by its type -/
theorem ent_puI {base : Nat} {cA : Nat → ClassId} {h : PH} {o k ci : Nat} {x : Int32} (hk : (hK h o).1 = ci) (hc : ci < 10) (ht : tyO ci k = .int ∨ tyO ci k = .boolean) : ent base cA (puI h o k x) o = .inr (ci, (fvs base h ci o).set k (.int x)) := by
  rw [ent_obj (h := puI h o k x) hk hc]
  congr 2
  refine (fvs_set ?_ ?_).symm
  · have e : hI (puI h o k x) o k = x := sI_eq _ _ _ _
    unfold fval
    rcases ht with ht | ht <;> rw [ht] <;> dsimp only <;> rw [e]
  · intro j hj
    have e : hI (puI h o k x) o j = hI h o j := sI_ne _ _ _ hj
    unfold fval
    rw [e]
theorem ent_puL {base : Nat} {cA : Nat → ClassId} {h : PH} {o k ci : Nat} {x : Int64} (hk : (hK h o).1 = ci) (hc : ci < 10) (ht : tyO ci k = .long) : ent base cA (puL h o k x) o = .inr (ci, (fvs base h ci o).set k (.long x)) := by
  rw [ent_obj (h := puL h o k x) hk hc]
  congr 2
  refine (fvs_set ?_ ?_).symm
  · have e : hL (puL h o k x) o k = x := sL_eq _ _ _ _
    unfold fval
    rw [ht]
    dsimp only
    rw [e]
  · intro j hj
    have e : hL (puL h o k x) o j = hL h o j := sL_ne _ _ _ hj
    unfold fval
    rw [e]
def isRT (t : FieldType) : Bool := match t with | .object _ => true | .array _ => true | _ => false
theorem fval_ref {base : Nat} {h : PH} {ci o k : Nat} (ht : isRT (tyO ci k) = true) : fval base h ci o k = va_rf ((hR h o k).map (base + ·)) := by
  unfold fval
  cases e : tyO ci k <;> rw [e] at ht <;> first | rfl | cases ht
theorem ent_puR {base : Nat} {cA : Nat → ClassId} {h : PH} {o k ci q : Nat} (hk : (hK h o).1 = ci) (hc : ci < 10) (ht : isRT (tyO ci k) = true) : ent base cA (puR h o k (some q)) o = .inr (ci, (fvs base h ci o).set k (.ref (base + q))) := by
  rw [ent_obj (h := puR h o k (some q)) hk hc]
  congr 2
  refine (fvs_set ?_ ?_).symm
  · have e : hR (puR h o k (some q)) o k = some q := sR_eq _ _ _ _
    rw [fval_ref ht, e]
    rfl
  · intro j hj
    have e : hR (puR h o k (some q)) o j = hR h o j := sR_ne _ _ _ hj
    unfold fval
    rw [e]
/-- what the tables say of a class of ours -/
def clOK (ci : Nat) : Prop := ∃ (C : String) (T : u_T), vwCl[ci]? = some (C, T, fN ci) ∧ (∀ w ∈ u_ws C T (fN ci), w ∈ lw_tbl) ∧ (∀ k, k < fN ci → parseFieldDescriptor (T k).2.2.1 = some (tyO ci k)) ∧ (∀ a, a < fN ci → ∀ b, b < fN ci → a ≠ b → (T a).2.1 ≠ (T b).2.1) ∧ Cond.instantiable C (fN ci) ∈ lw_tbl ∧ Cond.initialized C ∈ lw_tbl
theorem clOK_0 : clOK 0 := ⟨RX0, TX0, rfl, fun w hw => (List.all_eq_true.mp (show ((u_ws RX0 TX0 2).zip [2066, 2068]).all (fun q => decide (tw q.2 = some q.1)) = true by decide +kernel)) |> fun H => by
    obtain ⟨k, hk⟩ := List.getElem?_of_mem hw
    have hl : k < 2 := by have := (List.getElem?_eq_some_iff.mp hk).1; simpa [u_ws, fN] using this
    have hz : ((u_ws RX0 TX0 2).zip [2066, 2068])[k]? = some (w, ([2066, 2068] : List Nat)[k]!) := by
      rw [List.getElem?_zip_eq_some]
      refine ⟨hk, ?_⟩
      rw [List.getElem!_eq_getElem?_getD]
      rcases h : ([2066, 2068] : List Nat)[k]? with _ | z
      · rw [List.getElem?_eq_none_iff] at h; simp at h; omega
      · rfl
    exact tw_in (of_decide_eq_true (H _ (List.mem_of_getElem? hz))), tyX0_ok, nmX0, tw_in (i := 2059) (by decide +kernel), tw_in (i := 1010) (by decide +kernel)⟩
theorem clOK_1 : clOK 1 := ⟨RX1, TX1, rfl, fun w hw => (List.all_eq_true.mp (show ((u_ws RX1 TX1 8).zip [1058, 1060, 1062, 1064, 1066, 1068, 1070, 1072]).all (fun q => decide (tw q.2 = some q.1)) = true by decide +kernel)) |> fun H => by
    obtain ⟨k, hk⟩ := List.getElem?_of_mem hw
    have hl : k < 8 := by have := (List.getElem?_eq_some_iff.mp hk).1; simpa [u_ws, fN] using this
    have hz : ((u_ws RX1 TX1 8).zip [1058, 1060, 1062, 1064, 1066, 1068, 1070, 1072])[k]? = some (w, ([1058, 1060, 1062, 1064, 1066, 1068, 1070, 1072] : List Nat)[k]!) := by
      rw [List.getElem?_zip_eq_some]
      refine ⟨hk, ?_⟩
      rw [List.getElem!_eq_getElem?_getD]
      rcases h : ([1058, 1060, 1062, 1064, 1066, 1068, 1070, 1072] : List Nat)[k]? with _ | z
      · rw [List.getElem?_eq_none_iff] at h; simp at h; omega
      · rfl
    exact tw_in (of_decide_eq_true (H _ (List.mem_of_getElem? hz))), tyX1_ok, nmX1, tw_in (i := 1034) (by decide +kernel), tw_in (i := 1003) (by decide +kernel)⟩
theorem clOK_2 : clOK 2 := ⟨RX2, TX2, rfl, fun w hw => (List.all_eq_true.mp (show ((u_ws RX2 TX2 3).zip [2037, 2039, 2041]).all (fun q => decide (tw q.2 = some q.1)) = true by decide +kernel)) |> fun H => by
    obtain ⟨k, hk⟩ := List.getElem?_of_mem hw
    have hl : k < 3 := by have := (List.getElem?_eq_some_iff.mp hk).1; simpa [u_ws, fN] using this
    have hz : ((u_ws RX2 TX2 3).zip [2037, 2039, 2041])[k]? = some (w, ([2037, 2039, 2041] : List Nat)[k]!) := by
      rw [List.getElem?_zip_eq_some]
      refine ⟨hk, ?_⟩
      rw [List.getElem!_eq_getElem?_getD]
      rcases h : ([2037, 2039, 2041] : List Nat)[k]? with _ | z
      · rw [List.getElem?_eq_none_iff] at h; simp at h; omega
      · rfl
    exact tw_in (of_decide_eq_true (H _ (List.mem_of_getElem? hz))), tyX2_ok, nmX2, tw_in (i := 2029) (by decide +kernel), tw_in (i := 1008) (by decide +kernel)⟩
theorem clOK_3 : clOK 3 := ⟨RX3, TX3, rfl, fun w hw => (List.all_eq_true.mp (show ((u_ws RX3 TX3 2).zip [2052, 2054]).all (fun q => decide (tw q.2 = some q.1)) = true by decide +kernel)) |> fun H => by
    obtain ⟨k, hk⟩ := List.getElem?_of_mem hw
    have hl : k < 2 := by have := (List.getElem?_eq_some_iff.mp hk).1; simpa [u_ws, fN] using this
    have hz : ((u_ws RX3 TX3 2).zip [2052, 2054])[k]? = some (w, ([2052, 2054] : List Nat)[k]!) := by
      rw [List.getElem?_zip_eq_some]
      refine ⟨hk, ?_⟩
      rw [List.getElem!_eq_getElem?_getD]
      rcases h : ([2052, 2054] : List Nat)[k]? with _ | z
      · rw [List.getElem?_eq_none_iff] at h; simp at h; omega
      · rfl
    exact tw_in (of_decide_eq_true (H _ (List.mem_of_getElem? hz))), tyX3_ok, nmX3, tw_in (i := 2045) (by decide +kernel), tw_in (i := 1009) (by decide +kernel)⟩
theorem clOK_4 : clOK 4 := ⟨RX4, TX4, rfl, fun w hw => (List.all_eq_true.mp (show ((u_ws RX4 TX4 12).zip [2003, 2005, 2007, 2009, 2011, 2013, 2015, 2017, 2019, 2021, 2023, 2025]).all (fun q => decide (tw q.2 = some q.1)) = true by decide +kernel)) |> fun H => by
    obtain ⟨k, hk⟩ := List.getElem?_of_mem hw
    have hl : k < 12 := by have := (List.getElem?_eq_some_iff.mp hk).1; simpa [u_ws, fN] using this
    have hz : ((u_ws RX4 TX4 12).zip [2003, 2005, 2007, 2009, 2011, 2013, 2015, 2017, 2019, 2021, 2023, 2025])[k]? = some (w, ([2003, 2005, 2007, 2009, 2011, 2013, 2015, 2017, 2019, 2021, 2023, 2025] : List Nat)[k]!) := by
      rw [List.getElem?_zip_eq_some]
      refine ⟨hk, ?_⟩
      rw [List.getElem!_eq_getElem?_getD]
      rcases h : ([2003, 2005, 2007, 2009, 2011, 2013, 2015, 2017, 2019, 2021, 2023, 2025] : List Nat)[k]? with _ | z
      · rw [List.getElem?_eq_none_iff] at h; simp at h; omega
      · rfl
    exact tw_in (of_decide_eq_true (H _ (List.mem_of_getElem? hz))), tyX4_ok, nmX4, tw_in (i := 1220) (by decide +kernel), tw_in (i := 1007) (by decide +kernel)⟩
theorem clOK_5 : clOK 5 := ⟨RX5, TX5, rfl, fun w hw => (List.all_eq_true.mp (show ((u_ws RX5 TX5 17).zip [1139, 1141, 1143, 1145, 1147, 1149, 1151, 1153, 1155, 1157, 1159, 1161, 1163, 1165, 1167, 1169, 1171]).all (fun q => decide (tw q.2 = some q.1)) = true by decide +kernel)) |> fun H => by
    obtain ⟨k, hk⟩ := List.getElem?_of_mem hw
    have hl : k < 17 := by have := (List.getElem?_eq_some_iff.mp hk).1; simpa [u_ws, fN] using this
    have hz : ((u_ws RX5 TX5 17).zip [1139, 1141, 1143, 1145, 1147, 1149, 1151, 1153, 1155, 1157, 1159, 1161, 1163, 1165, 1167, 1169, 1171])[k]? = some (w, ([1139, 1141, 1143, 1145, 1147, 1149, 1151, 1153, 1155, 1157, 1159, 1161, 1163, 1165, 1167, 1169, 1171] : List Nat)[k]!) := by
      rw [List.getElem?_zip_eq_some]
      refine ⟨hk, ?_⟩
      rw [List.getElem!_eq_getElem?_getD]
      rcases h : ([1139, 1141, 1143, 1145, 1147, 1149, 1151, 1153, 1155, 1157, 1159, 1161, 1163, 1165, 1167, 1169, 1171] : List Nat)[k]? with _ | z
      · rw [List.getElem?_eq_none_iff] at h; simp at h; omega
      · rfl
    exact tw_in (of_decide_eq_true (H _ (List.mem_of_getElem? hz))), tyX5_ok, nmX5, tw_in (i := 1028) (by decide +kernel), tw_in (i := 1002) (by decide +kernel)⟩
theorem clOK_6 : clOK 6 := ⟨RX6, TX6, rfl, fun w hw => (List.all_eq_true.mp (show ((u_ws RX6 TX6 3).zip [1089, 1091, 1093]).all (fun q => decide (tw q.2 = some q.1)) = true by decide +kernel)) |> fun H => by
    obtain ⟨k, hk⟩ := List.getElem?_of_mem hw
    have hl : k < 3 := by have := (List.getElem?_eq_some_iff.mp hk).1; simpa [u_ws, fN] using this
    have hz : ((u_ws RX6 TX6 3).zip [1089, 1091, 1093])[k]? = some (w, ([1089, 1091, 1093] : List Nat)[k]!) := by
      rw [List.getElem?_zip_eq_some]
      refine ⟨hk, ?_⟩
      rw [List.getElem!_eq_getElem?_getD]
      rcases h : ([1089, 1091, 1093] : List Nat)[k]? with _ | z
      · rw [List.getElem?_eq_none_iff] at h; simp at h; omega
      · rfl
    exact tw_in (of_decide_eq_true (H _ (List.mem_of_getElem? hz))), tyX6_ok, nmX6, tw_in (i := 1077) (by decide +kernel), tw_in (i := 1004) (by decide +kernel)⟩
theorem clOK_7 : clOK 7 := ⟨RX7, TX7, rfl, fun w hw => (List.all_eq_true.mp (show ((u_ws RX7 TX7 9).zip [1200, 1202, 1204, 1206, 1208, 1210, 1212, 1214, 1216]).all (fun q => decide (tw q.2 = some q.1)) = true by decide +kernel)) |> fun H => by
    obtain ⟨k, hk⟩ := List.getElem?_of_mem hw
    have hl : k < 9 := by have := (List.getElem?_eq_some_iff.mp hk).1; simpa [u_ws, fN] using this
    have hz : ((u_ws RX7 TX7 9).zip [1200, 1202, 1204, 1206, 1208, 1210, 1212, 1214, 1216])[k]? = some (w, ([1200, 1202, 1204, 1206, 1208, 1210, 1212, 1214, 1216] : List Nat)[k]!) := by
      rw [List.getElem?_zip_eq_some]
      refine ⟨hk, ?_⟩
      rw [List.getElem!_eq_getElem?_getD]
      rcases h : ([1200, 1202, 1204, 1206, 1208, 1210, 1212, 1214, 1216] : List Nat)[k]? with _ | z
      · rw [List.getElem?_eq_none_iff] at h; simp at h; omega
      · rfl
    exact tw_in (of_decide_eq_true (H _ (List.mem_of_getElem? hz))), tyX7_ok, nmX7, tw_in (i := 1176) (by decide +kernel), tw_in (i := 1006) (by decide +kernel)⟩
theorem clOK_8 : clOK 8 := ⟨RX8, TX8, rfl, fun w hw => (List.all_eq_true.mp (show ((u_ws RX8 TX8 12).zip [2083, 2085, 2087, 2089, 2091, 2093, 2095, 2097, 2099, 2101, 2103, 2105]).all (fun q => decide (tw q.2 = some q.1)) = true by decide +kernel)) |> fun H => by
    obtain ⟨k, hk⟩ := List.getElem?_of_mem hw
    have hl : k < 12 := by have := (List.getElem?_eq_some_iff.mp hk).1; simpa [u_ws, fN] using this
    have hz : ((u_ws RX8 TX8 12).zip [2083, 2085, 2087, 2089, 2091, 2093, 2095, 2097, 2099, 2101, 2103, 2105])[k]? = some (w, ([2083, 2085, 2087, 2089, 2091, 2093, 2095, 2097, 2099, 2101, 2103, 2105] : List Nat)[k]!) := by
      rw [List.getElem?_zip_eq_some]
      refine ⟨hk, ?_⟩
      rw [List.getElem!_eq_getElem?_getD]
      rcases h : ([2083, 2085, 2087, 2089, 2091, 2093, 2095, 2097, 2099, 2101, 2103, 2105] : List Nat)[k]? with _ | z
      · rw [List.getElem?_eq_none_iff] at h; simp at h; omega
      · rfl
    exact tw_in (of_decide_eq_true (H _ (List.mem_of_getElem? hz))), tyX8_ok, nmX8, tw_in (i := 1020) (by decide +kernel), tw_in (i := 1001) (by decide +kernel)⟩
theorem clOK_9 : clOK 9 := ⟨RX9, TX9, rfl, fun w hw => (List.all_eq_true.mp (show ((u_ws RX9 TX9 34).zip [5151, 5153, 5155, 5157, 5159, 5161, 5163, 5165, 5167, 5169, 5171, 5173, 5175, 5177, 5179, 5181, 5183, 5185, 5187, 5189, 5191, 5193, 5195, 5197, 5199, 5201, 5203, 5205, 5207, 5209, 5211, 5213, 5215, 5217]).all (fun q => decide (tw q.2 = some q.1)) = true by decide +kernel)) |> fun H => by
    obtain ⟨k, hk⟩ := List.getElem?_of_mem hw
    have hl : k < 34 := by have := (List.getElem?_eq_some_iff.mp hk).1; simpa [u_ws, fN] using this
    have hz : ((u_ws RX9 TX9 34).zip [5151, 5153, 5155, 5157, 5159, 5161, 5163, 5165, 5167, 5169, 5171, 5173, 5175, 5177, 5179, 5181, 5183, 5185, 5187, 5189, 5191, 5193, 5195, 5197, 5199, 5201, 5203, 5205, 5207, 5209, 5211, 5213, 5215, 5217])[k]? = some (w, ([5151, 5153, 5155, 5157, 5159, 5161, 5163, 5165, 5167, 5169, 5171, 5173, 5175, 5177, 5179, 5181, 5183, 5185, 5187, 5189, 5191, 5193, 5195, 5197, 5199, 5201, 5203, 5205, 5207, 5209, 5211, 5213, 5215, 5217] : List Nat)[k]!) := by
      rw [List.getElem?_zip_eq_some]
      refine ⟨hk, ?_⟩
      rw [List.getElem!_eq_getElem?_getD]
      rcases h : ([5151, 5153, 5155, 5157, 5159, 5161, 5163, 5165, 5167, 5169, 5171, 5173, 5175, 5177, 5179, 5181, 5183, 5185, 5187, 5189, 5191, 5193, 5195, 5197, 5199, 5201, 5203, 5205, 5207, 5209, 5211, 5213, 5215, 5217] : List Nat)[k]? with _ | z
      · rw [List.getElem?_eq_none_iff] at h; simp at h; omega
      · rfl
    exact tw_in (of_decide_eq_true (H _ (List.mem_of_getElem? hz))), tyX9_ok, nmX9, tw_in (i := 5109) (by decide +kernel), tw_in (i := 1011) (by decide +kernel)⟩
theorem clOK_all {ci : Nat} (h : ci < 10) : clOK ci := by
  match ci, h with
  | 0, _ => exact clOK_0
  | 1, _ => exact clOK_1
  | 2, _ => exact clOK_2
  | 3, _ => exact clOK_3
  | 4, _ => exact clOK_4
  | 5, _ => exact clOK_5
  | 6, _ => exact clOK_6
  | 7, _ => exact clOK_7
  | 8, _ => exact clOK_8
  | 9, _ => exact clOK_9
