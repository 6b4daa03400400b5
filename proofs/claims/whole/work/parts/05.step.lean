/-! ONE INSTRUCTION of the pure machine is one row of the kit -/
noncomputable def gd_tbl : List Cond := lw_tbl.filter goodWord
theorem gd_in {i : Nat} {w : Cond} (h : tw i = some w) (g : goodWord w = true) : w ∈ gd_tbl := List.mem_filter.mpr ⟨tw_in h, g⟩
theorem gd_good : GoodIn gd_tbl gd_tbl := fun w h => ⟨h, good_of_word (List.mem_filter.mp h).2⟩
noncomputable def twB (i : Nat) (w : Cond) : Bool := decide (tw i = some w) && goodWord w
theorem twB_in {i : Nat} {w : Cond} (h : twB i w = true) : w ∈ gd_tbl := by
  simp only [twB, Bool.and_eq_true, decide_eq_true_eq] at h
  exact gd_in h.1 h.2
def WORDS_ : String := "hour late stair weight floor who trod way ticks hears lodger up down hang unhang near cups if then else end or and not of by "
def SIGNS_ : String := "<>=#+-*/();"
def lnO : Instr → Nat
  | .bipush _ | .ldc _ | .iload _ | .lload _ | .aload _ | .istore _ | .lstore _ | .astore _ | .newarray _ => 2
  | .sipush _ | .ldc_w _ | .ldc2_w _ | .goto _ | .if_icmp _ _ | .ifCond _ _ | .ifnull _ | .ifnonnull _ | .iinc _ _ | .getfield _ | .putfield _ | .invokestatic _ | .invokevirtual _ | .invokespecial _ | .new _ | .anewarray _ => 3
  | .tableswitch _ _ _ _ | .lookupswitch _ _ => 0
  | _ => 1
/-- a field's word, and its type -/
noncomputable def flB (own : String) (i ci k wi : Nat) (v : Value) : Bool := decide (ci < 10) && decide (k < fN ci) && (match vwCl[ci]? with | some q => twB wi (.fieldLink own i (q.2.1 k).1 (q.2.1 k).2.1 (q.2.1 k).2.2.1) | none => false) &&
  (match v with | .int z => bif z == 0 then decide (tyO ci k = .int) else decide (tyO ci k = .boolean) | .long _ => decide (tyO ci k = .long) | .null => isRT (tyO ci k) | _ => false)
/-- a final field is written by its class's constructor alone -/
def fnB (y : MethodName) (ci k : Nat) : Bool := match vwCl[ci]? with | some q => !(q.2.1 k).2.2.2 || (decide (y.name = "<init>") && decide ((q.2.1 k).1 = y.cls)) | none => false
/-- a method's own words, once for all its calls -/
noncomputable def mW (M : PMr) : Bool := (match M.2.2.2.2.2.1 with | 0 => twB M.2.2.2.2.2.2.1.2.1 (.static M.1) | 1 => twB M.2.2.2.2.2.2.1.2.1 (.instanceMethod M.1) && twB M.2.2.2.2.2.2.1.2.2.1 (.selects M.1.cls M.1 M.1) | _ => twB M.2.2.2.2.2.2.1.2.1 (.instanceMethod M.1) && decide (M.1.name = "<init>") && decide (M.2.2.2.1 = none)) && twB M.2.2.2.2.2.2.1.2.2.2 (.initialized M.1.cls) &&
    decide (M.1.cls ≠ "java/lang/invoke/MethodHandle") && decide (M.1.cls ≠ "java/lang/invoke/VarHandle") && decide ((parseMethodDescriptor M.1.desc).map (fun d => d.parameters.length) = some M.2.2.2.2.1) && Nat.ble M.2.2.1 40
/-- a called method: its kind, its number of parameters -/
noncomputable def cwB (k : Nat) (kd n : Nat) : Bool := !(Nat.beq k m_L_law) && match mG k with
  | some M => Nat.beq M.2.2.2.2.2.1 kd && Nat.beq M.2.2.2.2.1 n
  | none => false
noncomputable def mkB (k : Nat) (f : MethodName → Bool) : Bool := match mG k with | some M => f M.1 | none => false
noncomputable def lkB (y : MethodName) (nL : Nat) (rt : Option FieldType) (pc : Nat) (E : PE) : Bool := match E.1 with
  | .iconst n => decide (E.2.2.2.2.1 = .int (Int32.ofInt n))
  | .bipush n => decide (E.2.2.2.2.1 = .int (Int8.ofInt n).toInt32)
  | .sipush n => decide (E.2.2.2.2.1 = .int (Int16.ofInt n).toInt32)
  | .lconst n => decide (E.2.2.2.2.1 = .long (Int64.ofNat n))
  | .iinc i n => decide (E.2.2.2.2.1 = .int (Int32.ofInt n)) && decide (i < nL)
  | .ldc i => (match E.2.2.2.2.1 with | .int x => twB E.2.2.2.2.2 (.constant y.cls i x) | .float k => decide (y.cls = "StairRods$Reader") && (decide (k = 1) && decide (i = 104) || decide (k = 2) && decide (i = 116)) | _ => false)
  | .ldc_w i => (match E.2.2.2.2.1 with | .int x => twB E.2.2.2.2.2 (.constant y.cls i x) | _ => false)
  | .ldc2_w i => (match E.2.2.2.2.1 with | .long x => twB E.2.2.2.2.2 (.constantLong y.cls i x) | _ => false)
  | .istore i => decide (i < nL)
  | .istore_n i => decide ((i : Nat) < nL)
  | .astore i => decide (i < nL)
  | .astore_n i => decide ((i : Nat) < nL)
  | .lstore i => decide (i + 1 < nL)
  | .lstore_n i => decide ((i : Nat) + 1 < nL)
  | .goto o => decide ((pc : Int) + o = (E.2.2.1 : Int))
  | .if_icmp _ o => decide ((pc : Int) + o = (E.2.2.1 : Int))
  | .ifCond _ o => decide ((pc : Int) + o = (E.2.2.1 : Int))
  | .ifnull o => decide ((pc : Int) + o = (E.2.2.1 : Int))
  | .ifnonnull o => decide ((pc : Int) + o = (E.2.2.1 : Int))
  | .tableswitch d lo hi os => decide (E.2.2.1 = pc) && decide (0 ≤ (pc : Int) + d) && os.toList.all (fun o => decide (0 ≤ (pc : Int) + o)) && decide ((os.toList.length : Int) = hi - lo + 1)
  | .lookupswitch d ps => decide (E.2.2.1 = pc) && decide (0 ≤ (pc : Int) + d) && ps.toList.all (fun o => decide (0 ≤ (pc : Int) + o.2)) && (ps.toList.zip (ps.toList.drop 1)).all (fun (a, next) => a.1 < next.1)
  | .getfield i => flB y.cls i E.2.2.1 E.2.2.2.1 E.2.2.2.2.2 E.2.2.2.2.1
  | .putfield i => flB y.cls i E.2.2.1 E.2.2.2.1 E.2.2.2.2.2 E.2.2.2.2.1 && fnB y E.2.2.1 E.2.2.2.1
  | .aaload => decide (E.2.2.1 = 13) || decide (E.2.2.1 = 14)
  | .aastore => decide (E.2.2.1 = 13) && decide (E.2.2.2.1 = 7) || decide (E.2.2.1 = 14) && decide (E.2.2.2.1 = 1)
  | .new i => decide (E.2.2.1 < 10) && decide (E.2.2.2.1 = fN E.2.2.1) && (match vwCl[E.2.2.1]? with | some q => twB E.2.2.2.2.2 (.classLink y.cls i q.1) | none => false)
  | .newarray a => (match a with | .int => decide (E.2.2.1 = 10) && twB E.2.2.2.2.2 (.arrayClass .int) | .long => decide (E.2.2.1 = 11) && twB E.2.2.2.2.2 (.arrayClass .long) | .boolean => decide (E.2.2.1 = 12) && twB E.2.2.2.2.2 (.arrayClass .boolean) | _ => false)
  | .anewarray i => decide (E.2.2.1 = 13) && twB E.2.2.2.2.2 (.classLink y.cls i "StairRods$Text") && decide (tw E.2.2.2.1 = some (.arrayOver (.object "StairRods$Text"))) || decide (E.2.2.1 = 14) && twB E.2.2.2.2.2 (.classLink y.cls i "StairRods$House") && decide (tw E.2.2.2.1 = some (.arrayOver (.object "StairRods$House")))
  | .invokestatic i => (match E.2.2.2.2.1 with
    | .float _ => twB E.2.2.2.2.2 (.methodLink y.cls i arraycopyName)
    | .null => decide (mcs E.2.2.1 = (0, 0)) && cwB E.2.2.1 0 E.2.2.2.1 && mkB E.2.2.1 (fun z => twB E.2.2.2.2.2 (.methodLink y.cls i z))
    | .double _ => decide (mcs E.2.2.1 = (0, 0)) && cwB E.2.2.1 0 E.2.2.2.1 && mkB E.2.2.1 (fun z => decide (tw E.2.2.2.2.2 = some (.methodLinkNest y.cls i z "StairRods")))
    | _ => false)
  | .invokevirtual i => (match E.2.2.2.2.1 with
    | .ref ci => decide (mcs E.2.2.1 = (0, 0)) && decide (0 < E.2.2.2.1) && cwB E.2.2.1 1 (E.2.2.2.1 - 1) && mkB E.2.2.1 (fun z => twB E.2.2.2.2.2 (.methodLink y.cls i z) && (match vwCl[ci]? with | some q => decide (q.1 = z.cls) | none => false))
    | .float _ => decide (mcs E.2.2.1 = (0, 0)) && decide (0 < E.2.2.2.1) && cwB E.2.2.1 1 (E.2.2.2.1 - 1) && mkB E.2.2.1 (fun z => twB E.2.2.2.2.2 (.methodLink y.cls i z) && decide (z.cls = "java/lang/String"))
    | _ => false)
  | .invokespecial i => (match E.2.2.2.2.1 with
    | .float _ => twB E.2.2.2.2.2 (.methodLink y.cls i objectInit)
    | .ref _ => decide (0 < E.2.2.2.1) && cwB E.2.2.1 2 (E.2.2.2.1 - 1) && mkB E.2.2.1 (fun z => twB E.2.2.2.2.2 (.methodLink y.cls i z))
    | _ => false)
  | .areturn => (match rt with | some t => isRT t | none => false)
  | _ => true
noncomputable def okB (y : MethodName) (bytes : ByteArray) (nL : Nat) (rt : Option FieldType) (pc : Nat) (E : PE) : Bool :=
  decide (decode bytes pc = .ok (E.1, E.2.1 - pc)) && decide (pc ≤ E.2.1) && (match lnO E.1 with | 0 => true | n + 1 => decide (E.2.1 = pc + (n + 1))) && lkB y nL rt pc E
/-- what the special references are: the script, two constant texts -/
def isN (w : Cond) : Bool := match w with | .methodLinkNest _ _ _ _ => true | .arrayOver (.object _) => true | _ => false
def SPX (base : Nat) (sp : UInt32 → Nat) (X0 : Nat × (Nat → Int32)) (adV : Nat → Nat) (U : State) (H : Heap) : Prop :=
  va_X (sp 0) X0.1 X0.2 U H ∧ sp 0 < base ∧ vk_R "StairRods$Reader" 104 WORDS_ (sp 1) U ∧ vk_R "StairRods$Reader" 116 SIGNS_ (sp 2) U ∧
  vk_S 2 [(txt 1).length, (txt 2).length] [txt 1, txt 2] (fun i => sp (UInt32.ofNat (i + 1))) adV (fun q => base ≤ q) U H ∧ va_Z "java/lang/String" "COMPACT_STRINGS" "Z" (.int 1) (fun q => base ≤ q) U H ∧ va_Zq "jdk/internal/util/Preconditions" "SIOOBE_FORMATTER" "Ljava/util/function/BiFunction;" (fun q => base ≤ q) U H ∧ (∀ q, q < base → q < H.size) ∧ (∀ w ∈ lw_tbl, isN w = true → va_Nw w U)
theorem s1i.ex {st : PS} {f : Int32 → PS → Prop} (h : s1i st f) : ∃ x r, st = .int x :: r ∧ f x r := by unfold s1i at h; split at h <;> first | exact ⟨_, _, rfl, h⟩ | cases h
theorem s2i.ex {st : PS} {f : Int32 → Int32 → PS → Prop} (h : s2i st f) : ∃ x y r, st = .int y :: .int x :: r ∧ f x y r := by unfold s2i at h; split at h <;> first | exact ⟨_, _, _, rfl, h⟩ | cases h
theorem s1l.ex {st : PS} {f : Int64 → PS → Prop} (h : s1l st f) : ∃ x r, st = .long x :: r ∧ f x r := by unfold s1l at h; split at h <;> first | exact ⟨_, _, rfl, h⟩ | cases h
theorem s2l.ex {st : PS} {f : Int64 → Int64 → PS → Prop} (h : s2l st f) : ∃ x y r, st = .long y :: .long x :: r ∧ f x y r := by unfold s2l at h; split at h <;> first | exact ⟨_, _, _, rfl, h⟩ | cases h
theorem s2q.ex {st : PS} {f : Int64 → Int32 → PS → Prop} (h : s2q st f) : ∃ x y r, st = .int y :: .long x :: r ∧ f x y r := by unfold s2q at h; split at h <;> first | exact ⟨_, _, _, rfl, h⟩ | cases h
theorem s1r.ex {st : PS} {f : Nat → PS → Prop} (h : s1r st f) : ∃ x r, st = .ref x :: r ∧ f x r := by unfold s1r at h; split at h <;> first | exact ⟨_, _, rfl, h⟩ | cases h
theorem s1v.ex {st : PS} {f : Value → PS → Prop} (h : s1v st f) : ∃ x r, st = x :: r ∧ f x r := by unfold s1v at h; split at h <;> first | exact ⟨_, _, rfl, h⟩ | cases h
theorem s2v.ex {st : PS} {f : Value → Value → PS → Prop} (h : s2v st f) : ∃ x y r, st = x :: y :: r ∧ f x y r := by unfold s2v at h; split at h <;> first | exact ⟨_, _, _, rfl, h⟩ | cases h
theorem sir.ex {st : PS} {f : Int32 → Nat → PS → Prop} (h : sir st f) : ∃ x y r, st = .int x :: .ref y :: r ∧ f x y r := by unfold sir at h; split at h <;> first | exact ⟨_, _, _, rfl, h⟩ | cases h
theorem slr.ex {st : PS} {f : Int64 → Nat → PS → Prop} (h : slr st f) : ∃ x y r, st = .long x :: .ref y :: r ∧ f x y r := by unfold slr at h; split at h <;> first | exact ⟨_, _, _, rfl, h⟩ | cases h
theorem srr.ex {st : PS} {f : Nat → Nat → PS → Prop} (h : srr st f) : ∃ x y r, st = .ref x :: .ref y :: r ∧ f x y r := by unfold srr at h; split at h <;> first | exact ⟨_, _, _, rfl, h⟩ | cases h
theorem siir.ex {st : PS} {f : Int32 → Int32 → Nat → PS → Prop} (h : siir st f) : ∃ x i y r, st = .int x :: .int i :: .ref y :: r ∧ f x i y r := by unfold siir at h; split at h <;> first | exact ⟨_, _, _, _, rfl, h⟩ | cases h
theorem slir.ex {st : PS} {f : Int64 → Int32 → Nat → PS → Prop} (h : slir st f) : ∃ x i y r, st = .long x :: .int i :: .ref y :: r ∧ f x i y r := by unfold slir at h; split at h <;> first | exact ⟨_, _, _, _, rfl, h⟩ | cases h
theorem srir.ex {st : PS} {f : Nat → Int32 → Nat → PS → Prop} (h : srir st f) : ∃ x i y r, st = .ref x :: .int i :: .ref y :: r ∧ f x i y r := by unfold srir at h; split at h <;> first | exact ⟨_, _, _, _, rfl, h⟩ | cases h
theorem scpy.ex {st : PS} {f : Int32 → Int32 → Nat → Int32 → Nat → PS → Prop} (h : scpy st f) : ∃ n dp q1 sp q0 r, st = .int n :: .int dp :: .ref q1 :: .int sp :: .ref q0 :: r ∧ f n dp q1 sp q0 r := by unfold scpy at h; split at h <;> first | exact ⟨_, _, _, _, _, _, rfl, h⟩ | cases h
theorem lget_mem {ls : PL} {i : Nat} {v : Value} (h : lget ls i = some v) : (i, v) ∈ ls := by
  induction ls with
  | nil => cases h
  | cons q r ih =>
    obtain ⟨k, w⟩ := q
    unfold lget at h
    cases e : Nat.beq k i with
    | true =>
      rw [e] at h
      cases h
      rw [Nat.eq_of_beq_eq_true e]
      exact List.mem_cons_self
    | false =>
      rw [e] at h
      exact List.mem_cons_of_mem _ (ih h)
theorem gLoc.ex {ls : PL} {i : Nat} {P f : Value → Prop} (h : gLoc ls i P f) : ∃ v, (i, v) ∈ ls ∧ P v ∧ f v := by
  unfold gLoc at h
  split at h
  · rename_i v e
    exact ⟨v, lget_mem e, h.1, h.2⟩
  · cases h
theorem lins_mem {i : Nat} {v : Value} : ∀ {ls : PL} {q : Nat × Value}, q ∈ lins i v ls → q = (i, v) ∨ q ∈ ls
  | [], q, h => by
    unfold lins at h
    exact Or.inl (List.mem_singleton.mp h)
  | (k, w) :: r, q, h => by
    unfold lins at h
    cases e : Nat.blt i k with
    | true =>
      rw [e] at h
      rcases List.mem_cons.mp h with h | h
      · exact Or.inl h
      · exact Or.inr h
    | false =>
      rw [e] at h
      rcases List.mem_cons.mp h with h | h
      · exact Or.inr (h ▸ List.mem_cons_self)
      · rcases lins_mem h with h | h
        · exact Or.inl h
        · exact Or.inr (List.mem_cons_of_mem _ h)
abbrev cvl (base : Nat) (sp : UInt32 → Nat) (ls : PL) : PL := ls.map (fun q => (q.1, cv base sp q.2))
theorem lv_to {lsA : Array Slot} {nL : Nat} {l l' : PL} (h : lv_has lsA nL l) (hs : ∀ q ∈ l', q ∈ l) : lv_has lsA nL l' := ⟨h.1, h.2.1, fun q hq => h.2.2 q (hs q hq)⟩
theorem cvl_set1 {base : Nat} {sp : UInt32 → Nat} {ls : PL} {i : Nat} {v : Value} : ∀ q ∈ cvl base sp (lset1 ls i v), q ∈ (i, cv base sp v) :: (cvl base sp ls).filter (fun q => !(q.1 == i) && !(q.1 + 1 == i && q.2.category == 2)) := by
  intro q hq
  obtain ⟨z, hz, rfl⟩ := List.mem_map.mp hq
  rcases lins_mem hz with rfl | hz
  · exact List.mem_cons_self
  · obtain ⟨h1, h2⟩ := List.mem_filter.mp hz
    refine List.mem_cons_of_mem _ (List.mem_filter.mpr ⟨List.mem_map.mpr ⟨z, h1, rfl⟩, ?_⟩)
    dsimp only
    rw [cv_cat]
    exact h2
theorem cvl_set2 {base : Nat} {sp : UInt32 → Nat} {ls : PL} {i : Nat} {v : Value} : ∀ q ∈ cvl base sp (lset2 ls i v), q ∈ (i, cv base sp v) :: (cvl base sp ls).filter (fun q => !(q.1 == i) && (!(q.1 == i + 1) && !(q.1 + 1 == i && q.2.category == 2))) := by
  intro q hq
  obtain ⟨z, hz, rfl⟩ := List.mem_map.mp hq
  rcases lins_mem hz with rfl | hz
  · exact List.mem_cons_self
  · obtain ⟨h1, h2⟩ := List.mem_filter.mp hz
    refine List.mem_cons_of_mem _ (List.mem_filter.mpr ⟨List.mem_map.mpr ⟨z, h1, rfl⟩, ?_⟩)
    dsimp only
    rw [cv_cat]
    exact h2
theorem lv_in {lsA : Array Slot} {nL : Nat} {base : Nat} {sp : UInt32 → Nat} {ls : PL} {i : Nat} {v : Value} (h : lv_has lsA nL (cvl base sp ls)) (hm : (i, v) ∈ ls) : lsA[i]? = some (.val (cv base sp v)) := h.2.2 (i, cv base sp v) (List.mem_map.mpr ⟨(i, v), hm, rfl⟩)
theorem lv_ix {lsA : Array Slot} {nL : Nat} {base : Nat} {sp : UInt32 → Nat} {ls : PL} {i : Nat} {v : Value} (h : lv_has lsA nL (cvl base sp ls)) (hm : (i, v) ∈ ls) : ∃ k : Nat, (cvl base sp ls)[k]? = some (i, cv base sp v) := List.getElem?_of_mem (List.mem_map.mpr ⟨(i, v), hm, rfl⟩)
/-- what holds all through a method's run -/
def Cx (p : Program) (s : State) (m : MethodId) (args : Array Value) (meth : Method) (c : Code) (R : Room) (base : Nat) (sp : UInt32 → Nat) (D : va_G) (cA : Nat → ClassId) (adV : Nat → Nat) (X0 : Nat × (Nat → Int32)) (y : MethodName) (bytes : ByteArray) (nL : Nat) (n0 dd : Nat) (al : Nat × Nat) : Prop :=
  p.tables.exec = Jvm.exec ∧ c.code = bytes ∧ c.maxLocals = nL ∧ s.vm.findClass y.cls = some m.cls ∧ (∀ w ∈ gd_tbl, w.before args s = true) ∧ va_K D vwCl (tyA cA) s ∧ SPX base sp X0 adV s s.heap ∧ s.heap.size = base + n0 ∧ (y.name = "<init>" → meth.name = "<init>") ∧
  al.1 ≤ R.cells ∧ al.2 ≤ R.slots ∧ dd + 1 ≤ R.frames ∧ dd * 80 + 80 ≤ R.locals ∧ (∀ k M, mG k = some M → k ≠ m_L_law → mW M = true ∧ Cond.code M.1 M.2.1 M.2.2.1 M.2.2.2.1 ∈ gd_tbl)
def WW (p : Program) (l : Launch) (e : Env) (R : Room) (s : State) (m : MethodId) (args : Array Value) (below : List Frame) (meth : Method) (c : Code) (base : Nat) (sp : UInt32 → Nat) (D : va_G) (cA : Nat → ClassId) (n0 s0 : Nat) (al : Nat × Nat) (X0 : Nat × (Nat → Int32)) (nL : Nat) (Qz : State → Prop) (pc : Nat) (ls : PL) (st : PS) (h : PH) : Prop :=
  ∀ (H : Heap) (locs : List Loc) (cells slots : Nat) (lsA : Array Slot), hN h = n0 + cells → hSl h = s0 + slots → cells ≤ al.1 → slots ≤ al.2 → hX h = X0 → va_P D vwCl (wsO base cA h) H → va_S (fun q => base ≤ q) s.heap H locs → lv_has lsA nL (cvl base sp ls) →
    W p l e R s m args below meth c H locs cells slots Qz (F0 m pc lsA (st.map (cv base sp)))
/-- a called method's start and end -/
def PU (base : Nat) (sp : UInt32 → Nat) (D : va_G) (cA : Nat → ClassId) (adV : Nat → Nat) (X0 : Nat × (Nat → Int32)) (h : PH) (U : State) : Prop := U.heap.size = base + hN h ∧ va_P D vwCl (wsO base cA h) U.heap ∧ va_K D vwCl (tyA cA) U ∧ SPX base sp X0 adV U U.heap
def QU (base : Nat) (sp : UInt32 → Nat) (D : va_G) (cA : Nat → ClassId) (X0 : Nat × (Nat → Int32)) (mc ms : Nat) (h : PH) (Q : PQ) : Array Value → State → Outcome → State → Prop := fun _ st oc t =>
  (∃ (r : Option Value) (h' : PH), oc = .returned (r.map (cv base sp)) ∧ Q r h' ∧ hN h' = hN h + mc ∧ hSl h' = hSl h + ms ∧ hX h' = X0 ∧ va_P D vwCl (wsO base cA h') t.heap) ∧ va_F (fun q => base ≤ q) st t
def MetOf (l : Launch) (base : Nat) (sp : UInt32 → Nat) (D : va_G) (cA : Nat → ClassId) (adV : Nat → Nat) (X0 : Nat × (Nat → Int32)) (d k : Nat) (M : PMr) (a : List Value) (h : PH) (Q : PQ) : Prop :=
  Met l M.1 (.code M.1 M.2.1 M.2.2.1 M.2.2.2.1 :: gd_tbl) ({ frames := d, cells := (mcs k).1, slots := (mcs k).2, locals := d * 80 }) (va_Pc (a.map (cv base sp)) (PU base sp D cA adV X0 h)) (QU base sp D cA X0 (mcs k).1 (mcs k).2 h Q) (mcs k).1 (mcs k).2 (fun q => base ≤ q)
