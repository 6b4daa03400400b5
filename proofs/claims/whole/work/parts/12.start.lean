/-! THE CLAIM OUT OF ONE WALK OF THE LAW'S BODY. Your part is whole_start (and what it stands on); all else here is the same for every law, but numbers. -/
def R_law : String := "StairRodsLaw"
def lw_P (b : Addr) (xs : List Int32) (args : Array Value) (s : State) : Prop := args = #[.ref b] ∧ s.IntsAt b xs ∧ xs.length ≤ 3072 ∧ (Jvm.Cond.and given_1 narrow_1).before args s = true
def lw_Q (_ : Array Value) (s : State) (o : Outcome) (t : State) : Prop := o = .returned (some (.int 1)) ∧ Framed s o t [] 600000 7302250
def lw_Z (below : List Frame) (a : Array Value) (s : State) : State → Prop := fun t => ∃ o, t.status = .running ∧ Ended t below o ∧ lw_Q a s o t
/-- the law's own end, with 1 on the stack, nothing written that was there before, its room as the claim has it -/
theorem lw_ret {p : Program} {l : Launch} {e : Env} {s : State} {m : MethodId} {below : List Frame} {meth : Method} {c : Code} {b : Nat} (hx : p.tables.exec = Jvm.exec) (hb : c.code = code) (hr : meth.sig.returnType = ret) (hlocks : meth.locks = false) {pc : Nat} {H : Heap} {ls : Array Slot} (hdg : decode code pc = .ok (.ireturn, 1)) : W p l e room_1 s m #[Value.ref b] below meth c H [] 600000 7302250 (lw_Z below #[Value.ref b] s) (F0 m pc ls [.int 1]) := by
  intro T hT X
  obtain ⟨fs, hret, hrun, hended, hW, hframe⟩ := X.leave (v := some (.int 1)) (hlocks := hlocks) (fun h => by rw [hr] at h; cases h)
  have hmeth' : T.vm.method? m = some meth := X.method'
  refine ⟨T.setFrames fs, ?_, .returned (some (.int 1)), hrun, hended, rfl, ⟨_, rfl⟩, hW, hframe⟩
  jvm_step X.here [X.here.top, hx, hb, hdg, hmeth', hr, ret, narrow_b1]
  (try refine ⟨rfl, ?_⟩); (try refine ⟨rfl, ?_⟩)
  first | (intro acts; rw [hret _ acts rfl rfl rfl]) | rw [hret _ _ rfl rfl rfl]
  exact Steps.refl _
/-- what holds at the law's entry: the machine, the code, the tables' words (any of lw_tbl by 'hts w (by decide +kernel)'), the script of L ints xs at the cell b, what the Statement gives of the start (any of its parts by flat_of_before) -/
def lw_At (p : Program) (s : State) (m : MethodId) (meth : Method) (c : Code) (b L : Nat) (xs : Nat → Int32) : Prop :=
  p.tables.exec = Jvm.exec ∧ c.code = code ∧ meth.sig.returnType = ret ∧ c.maxLocals = 4 ∧ s.vm.findClass R_law = some m.cls ∧ (∀ w ∈ lw_tbl, w.before #[Value.ref b] s = true) ∧ va_X b L xs s s.heap ∧ b < s.heap.size ∧ meth.locks = false ∧ (Jvm.Cond.and given_1 narrow_1).before #[Value.ref b] s = true

set_option maxRecDepth 1000000 in
theorem law_tab1 : wkB code code.data.toList 0 cd_L_law = true := by decide +kernel
set_option maxRecDepth 1000000 in
theorem law_tab2 : cd_L_law.all (fun q => okL ⟨"StairRodsLaw", "law", "([I)Z"⟩ 4 (some .boolean) q.1 q.2) = true := by decide +kernel
/-- the heap at the start: no cell yet -/
def h00 (L : Nat) (xs : Nat → Int32) : PH := (0, 0, fun _ => (0, 0), fun _ _ => 0, fun _ _ => 0, fun _ _ => none, L, xs)
def tmS (i : Nat) : Term := if i = 0 then .string "StairRods$Reader" 104 else .string "StairRods$Reader" 116
theorem fl_el : ∀ i, i < 2 → ∀ j, j < ([(txt 1).length, (txt 2).length] : List Nat).getD i 0 → (flatC (Jvm.Cond.and given_1 narrow_1))[if i = 0 then 33 + j else 162 + j]? = some (Cond.eq (.elem (.field (tmS i) "java/lang/String" "value" "[B") (.int (Int32.ofNat j))) (.int ((([txt 1, txt 2] : List (List Int32)).getD i []).getD j 0))) := by decide +kernel
theorem fl_ex : ∀ i, i < 2 → (flatC (Jvm.Cond.and given_1 narrow_1))[if i = 0 then 29 else 158]? = some (Cond.exactly (tmS i) "java/lang/String") := by decide +kernel
theorem fl_co : ∀ i, i < 2 → (flatC (Jvm.Cond.and given_1 narrow_1))[if i = 0 then 30 else 159]? = some (Cond.eq (.field (tmS i) "java/lang/String" "coder" "B") (.int 0)) := by decide +kernel
theorem fl_ar : ∀ i, i < 2 → (flatC (Jvm.Cond.and given_1 narrow_1))[if i = 0 then 31 else 160]? = some (Cond.arrayOf (.field (tmS i) "java/lang/String" "value" "[B") .byte) := by decide +kernel
theorem fl_le : ∀ i, i < 2 → (flatC (Jvm.Cond.and given_1 narrow_1))[if i = 0 then 32 else 161]? = some (Cond.eq (.length (.field (tmS i) "java/lang/String" "value" "[B")) (.int (Int32.ofNat (([(txt 1).length, (txt 2).length] : List Nat).getD i 0)))) := by decide +kernel
theorem fl_ne : (flatC (Jvm.Cond.and given_1 narrow_1))[173]? = some (Cond.not (Cond.eq (tmS 0) (tmS 1))) := by decide +kernel
theorem fl_cs : (flatC (Jvm.Cond.and given_1 narrow_1))[4]? = some (Cond.eq (.static "java/lang/String" "COMPACT_STRINGS" "Z") (.int 1)) := by decide +kernel
theorem fl_sf : (flatC (Jvm.Cond.and given_1 narrow_1))[5]? = some (Cond.isRef (.static "jdk/internal/util/Preconditions" "SIOOBE_FORMATTER" "Ljava/util/function/BiFunction;")) := by decide +kernel
theorem arr_of {s : State} {args : Array Value} {ty : FieldType} (h : (Cond.arrayClass ty).before args s = true) : ∃ cA : ClassId, ArrOfT s cA ty ∧ s.vm.findClass ("[" ++ ty.toString) = some cA := by
  obtain ⟨c, k, comp, h1, h2, h3⟩ := Cond.arrayClass_spec h
  exact ⟨c, fun n z => ⟨fun k h => (by cases h), k, h2, comp, h3⟩, h1⟩
theorem arr_over {s : State} {args : Array Value} {C : String} (h : (Cond.arrayOver (.object C)).before args s = true) : ∃ cA : ClassId, ArrOfT s cA (.object C) ∧ va_RA s cA (.object C) := by
  obtain ⟨comp, c, k, h1, -, h3, h4, h5⟩ := Cond.arrayOver_spec h
  exact ⟨c, fun n z => ⟨fun k h => (by cases h), k, h3, comp, h4⟩, k, comp, h3, h4, h1, h5⟩
/-- FROM A RUN OF THE PURE MACHINE: the law, from its entry -/
theorem whole_from {p : Program} {e : Env} {s : State} {m : MethodId} {below : List Frame} {meth : Method} {c : Code} (l : Launch) {b L : Nat} {xs : Nat → Int32} (C0 : lw_At p s m meth c b L xs)
    (hprm : ∀ {base : Nat} {sp : UInt32 → Nat} {D : va_G} {cA : Nat → ClassId} {adV : Nat → Nat} {X0 : Nat × (Nat → Int32)} (d k : Nat) (M : PMr) (a : List Value) (h : PH) (Q : PQ), mG k = some M → (k = 9 ∨ k = 10) → prm k a h Q → hX h = X0 → MetOf l base sp D cA adV X0 (d + 1) k M a h Q)
    (hpure : Wp (Ev 200) cd_L_law (mcs m_L_law) (some .boolean) 0 0 (fun r _ => r = some (.int 1)) 0 [(0, .float 0)] [] (h00 L xs)) : W p l e room_1 s m #[Value.ref b] below meth c s.heap [] 0 0 (lw_Z below #[Value.ref b] s) (entryFrame m ([Value.ref b] : List Value).toArray 4) := by
  obtain ⟨hx, hb, hr, hml, hown, hts, hX0, hbl, hlocks, hgv⟩ := id C0
  have hA : ∀ a : Nat, a < s.heap.size → ¬ (fun q : Nat => s.heap.size ≤ q) a := fun a h => Nat.not_le.mpr h
  have hfl := flat_of_before _ hgv
  have hin : ∀ {i : Nat} {w : Cond}, (flatC (Jvm.Cond.and given_1 narrow_1))[i]? = some w → w.before #[Value.ref b] s = true := fun h => hfl _ (List.mem_of_getElem? h)
  obtain ⟨adK, adV, hVS, had⟩ := vk_Sof (args := #[Value.ref b]) (s := s) (N := 2) (tm := tmS) (len := [(txt 1).length, (txt 2).length]) (byt := [txt 1, txt 2]) (A := fun q : Nat => s.heap.size ≤ q)
    (by decide +kernel) (fun i hi => hin (fl_ex i hi)) (fun i hi => hin (fl_co i hi)) (fun i hi => hin (fl_ar i hi)) (fun i hi => hin (fl_le i hi)) (fun i hi j hj => hin (fl_el i hi j hj))
    (fun i j hi hj hij => by
      rcases (show (i = 0 ∧ j = 1) ∨ (i = 1 ∧ j = 0) by omega) with ⟨rfl, rfl⟩ | ⟨rfl, rfl⟩
      · exact Or.inl (hin fl_ne)
      · exact Or.inr (hin fl_ne)) hA
  have hcl : ∀ ci : Nat, ∃ q : ClassId × (Nat → Nat), ∀ r : vw_C, vwCl[ci]? = some r → u_Kn s r.1 r.2.1 r.2.2 q.1 q.2 := by
    intro ci
    by_cases hc : ci < 10
    · obtain ⟨C', T, g1, g2, g3, g4, g5, g6⟩ := clOK_all hc
      obtain ⟨cC, iS, hKn⟩ := u_known (C := C') (T := T) (N := fN ci) (n := fN ci) hts g2 (hts _ g5)
      refine ⟨(cC, iS), fun r hr => ?_⟩
      rw [g1] at hr
      cases hr
      exact hKn
    · exact ⟨(0, fun _ => 0), fun r hr => absurd (List.getElem?_eq_some_iff.mp hr).1 (by show ¬ ci < 10; exact hc)⟩
  obtain ⟨dd, hdd⟩ := Classical.axiomOfChoice hcl
  obtain ⟨c0, q0a, q0b⟩ := arr_of (hts (.arrayClass .int) (tw_in (i := 1075) rfl))
  obtain ⟨c1, q1a, q1b⟩ := arr_of (hts (.arrayClass .long) (tw_in (i := 2057) rfl))
  obtain ⟨c2, q2a, q2b⟩ := arr_of (hts (.arrayClass .boolean) (tw_in (i := 5220) rfl))
  obtain ⟨c3, q3⟩ := arr_over (hts (.arrayOver (.object "StairRods$Text")) (tw_in (i := 1175) rfl))
  obtain ⟨c4, q4⟩ := arr_over (hts (.arrayOver (.object "StairRods$House")) (tw_in (i := 1083) rfl))
  have hKK : va_K (fun k => (dd k).1, fun k => (dd k).2) vwCl (tyA (fun k => if k = 0 then c0 else if k = 1 then c1 else if k = 2 then c2 else if k = 3 then c3 else c4)) s := by
    refine ⟨fun ci q hq => hdd ci q hq, fun k q hq => ?_⟩
    match k, hq with
    | 0, hq => cases hq; exact ⟨q0a, q0b⟩
    | 1, hq => cases hq; exact ⟨q1a, q1b⟩
    | 2, hq => cases hq; exact ⟨q2a, q2b⟩
    | 3, hq => cases hq; exact q3
    | 4, hq => cases hq; exact q4
    | k + 5, hq => simp [tyA] at hq
  have hSP : SPX s.heap.size (fun k => if k = 0 then b else if k = 1 then adK 0 else adK 1) (L, xs) adV s s.heap := by
    refine ⟨hX0, hbl, vk_R.of (hts _ (tw_in (i := 2166) rfl)) (had 0 (by decide)), vk_R.of (hts _ (tw_in (i := 2225) rfl)) (had 1 (by decide)), ?_, va_Zof (hts _ (tw_in (i := 2176) rfl)) (hts _ (tw_in (i := 1013) rfl)) (va_eqt (hin fl_cs)) hA, va_Zqof (hts _ (tw_in (i := 2192) rfl)) (hts _ (tw_in (i := 1015) rfl)) (hin fl_sf) hA, fun q hq => hq, fun w hw hn => ?_⟩
    · have e : ∀ i : Nat, i < 2 → (fun i : Nat => (if UInt32.ofNat (i + 1) = 0 then b else if UInt32.ofNat (i + 1) = 1 then adK 0 else adK 1)) i = adK i := by
        intro i hi
        rcases (show i = 0 ∨ i = 1 by omega) with rfl | rfl <;> rfl
      refine ⟨fun i hi => ?_, fun i j hi hj h => ?_⟩
      · have := hVS.1 i hi
        rw [← e i hi] at this
        exact this
      · have h1 : adK i = adK j := by rw [← e i hi, ← e j hj]; exact h
        exact hVS.2 i j hi hj h1
    · have h := hts w hw
      unfold isN at hn
      split at hn
      · exact va_Nw.of rfl h
      · exact va_AO.of h
      · cases hn
  have cx : Cx p s m #[Value.ref b] meth c room_1 s.heap.size (fun k => if k = 0 then b else if k = 1 then adK 0 else adK 1) (fun k => (dd k).1, fun k => (dd k).2) (fun k => if k = 0 then c0 else if k = 1 then c1 else if k = 2 then c2 else if k = 3 then c3 else c4) adV (L, xs) ⟨"StairRodsLaw", "law", "([I)Z"⟩ code 4 0 200 (mcs m_L_law) :=
    ⟨hx, hb, hml, hown, fun w hw => hts w (List.mem_filter.mp hw).1, hKK, hSP, rfl, fun e => absurd e (by decide), by show 349 ≤ 600000; decide, by show 19117 ≤ 7302250; decide, by show 201 ≤ 2048; decide, by show 200 * 80 + 80 ≤ 84000; decide, fun k M q1 q2 => ⟨by have := mb_all k M q1 q2; unfold mB at this; simp only [Bool.and_eq_true] at this; exact this.2, cw_all k M q1 q2⟩⟩
  have hl := lv_entry ([.ref b]) (n := 4) (Nat.le_of_ble_eq_true rfl)
  rw [lg_entry_eq]
  refine walk (Qz := lw_Z below #[Value.ref b] s) cx (fun k' M' a' h' Q' q1 q2 q3 => met_ev mb_all cw_all law_not hprm 200 k' M' a' h' Q' q1 q2 q3) ?_ ?_ (okL.ok law_tab1 law_tab2) hpure s.heap [] 0 0 _ rfl rfl (Nat.zero_le _) (Nat.zero_le _) rfl (fun k q h => by simp [wsO, h00, hN] at h) va_S.rf hl
  · intro k' M' a' h' Q' q1 q2 q3 o r e
    exact spk mb_all law_not q1 q2 q3 e
  · intro pc i v h1 H locs cells slots lsA hi hd hf hq j1 j2 j3 j4 j5 hP1 hS1
    subst hq
    rcases hi with ⟨rfl, x, hx1, hrk⟩ | ⟨rfl, x, hx1, hrt⟩ | ⟨rfl, x, hx1, hrv, t, hrt, hrt2⟩ | ⟨rfl, hx1, hrt⟩
    · refine va_forget (fun q hq => hS1.2.2 q hq) ?_
      have e1 : (mcs m_L_law).1 = 349 := rfl
      have e2 : (mcs m_L_law).2 = 19117 := rfl
      refine W.widen (k := 600000) (n := 7302250) (by omega) (by omega) ?_
      exact lw_ret hx hb hr hlocks hd
    · cases hx1
    · cases hrt; cases hrt2
    · cases hx1
