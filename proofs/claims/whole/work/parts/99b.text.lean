/-! the two methods of a text, over the machine: length and charAt -/
abbrev yS_coder : MethodName := ⟨"java/lang/String", "coder", "()B"⟩
abbrev yS_latin : MethodName := ⟨"java/lang/String", "isLatin1", "()Z"⟩
abbrev yS_check : MethodName := ⟨"java/lang/String", "checkIndex", "(II)V"⟩
abbrev yP_check : MethodName := ⟨"jdk/internal/util/Preconditions", "checkIndex", "(IILjava/util/function/BiFunction;)I"⟩
abbrev yL_charAt : MethodName := ⟨"java/lang/StringLatin1", "charAt", "([BI)C"⟩
theorem dt_co0 : decode prog_14_method_152_code 0 = .ok (.getstatic 38, 3) := by decide +kernel
theorem dt_co3 : decode prog_14_method_152_code 3 = .ok (.ifCond .eq 10, 3) := by decide +kernel
theorem dt_co6 : decode prog_14_method_152_code 6 = .ok (.aload_n 0, 1) := by decide +kernel
theorem dt_co7 : decode prog_14_method_152_code 7 = .ok (.getfield 15, 3) := by decide +kernel
theorem dt_co10 : decode prog_14_method_152_code 10 = .ok (.goto 4, 3) := by decide +kernel
theorem dt_co14 : decode prog_14_method_152_code 14 = .ok (.ireturn, 1) := by decide +kernel
theorem dt_la0 : decode prog_14_method_154_code 0 = .ok (.getstatic 38, 3) := by decide +kernel
theorem dt_la3 : decode prog_14_method_154_code 3 = .ok (.ifCond .eq 14, 3) := by decide +kernel
theorem dt_la6 : decode prog_14_method_154_code 6 = .ok (.aload_n 0, 1) := by decide +kernel
theorem dt_la7 : decode prog_14_method_154_code 7 = .ok (.getfield 15, 3) := by decide +kernel
theorem dt_la10 : decode prog_14_method_154_code 10 = .ok (.ifCond .ne 7, 3) := by decide +kernel
theorem dt_la13 : decode prog_14_method_154_code 13 = .ok (.iconst 1, 1) := by decide +kernel
theorem dt_la14 : decode prog_14_method_154_code 14 = .ok (.goto 4, 3) := by decide +kernel
theorem dt_la18 : decode prog_14_method_154_code 18 = .ok (.ireturn, 1) := by decide +kernel
theorem dt_pc0 : decode prog_19_method_11_code 0 = .ok (.iload_n 0, 1) := by decide +kernel
theorem dt_pc1 : decode prog_19_method_11_code 1 = .ok (.ifCond .lt 8, 3) := by decide +kernel
theorem dt_pc4 : decode prog_19_method_11_code 4 = .ok (.iload_n 0, 1) := by decide +kernel
theorem dt_pc5 : decode prog_19_method_11_code 5 = .ok (.iload_n 1, 1) := by decide +kernel
theorem dt_pc6 : decode prog_19_method_11_code 6 = .ok (.if_icmp .lt 10, 3) := by decide +kernel
theorem dt_pc16 : decode prog_19_method_11_code 16 = .ok (.iload_n 0, 1) := by decide +kernel
theorem dt_pc17 : decode prog_19_method_11_code 17 = .ok (.ireturn, 1) := by decide +kernel
theorem dt_sc0 : decode prog_14_method_155_code 0 = .ok (.iload_n 0, 1) := by decide +kernel
theorem dt_sc1 : decode prog_14_method_155_code 1 = .ok (.iload_n 1, 1) := by decide +kernel
theorem dt_sc2 : decode prog_14_method_155_code 2 = .ok (.getstatic 1053, 3) := by decide +kernel
theorem dt_sc5 : decode prog_14_method_155_code 5 = .ok (.invokestatic 1059, 3) := by decide +kernel
theorem dt_sc8 : decode prog_14_method_155_code 8 = .ok (.pop, 1) := by decide +kernel
theorem dt_sc9 : decode prog_14_method_155_code 9 = .ok (.return_, 1) := by decide +kernel
theorem dt_lc0 : decode prog_15_method_2_code 0 = .ok (.iload_n 1, 1) := by decide +kernel
theorem dt_lc1 : decode prog_15_method_2_code 1 = .ok (.aload_n 0, 1) := by decide +kernel
theorem dt_lc2 : decode prog_15_method_2_code 2 = .ok (.arraylength, 1) := by decide +kernel
theorem dt_lc3 : decode prog_15_method_2_code 3 = .ok (.invokestatic 9, 3) := by decide +kernel
theorem dt_lc6 : decode prog_15_method_2_code 6 = .ok (.aload_n 0, 1) := by decide +kernel
theorem dt_lc7 : decode prog_15_method_2_code 7 = .ok (.iload_n 1, 1) := by decide +kernel
theorem dt_lc8 : decode prog_15_method_2_code 8 = .ok (.baload, 1) := by decide +kernel
theorem dt_lc9 : decode prog_15_method_2_code 9 = .ok (.sipush 255, 3) := by decide +kernel
theorem dt_lc12 : decode prog_15_method_2_code 12 = .ok (.iand, 1) := by decide +kernel
theorem dt_lc13 : decode prog_15_method_2_code 13 = .ok (.i2c, 1) := by decide +kernel
theorem dt_lc14 : decode prog_15_method_2_code 14 = .ok (.ireturn, 1) := by decide +kernel
theorem dt_le0 : decode prog_14_method_54_code 0 = .ok (.aload_n 0, 1) := by decide +kernel
theorem dt_le1 : decode prog_14_method_54_code 1 = .ok (.getfield 9, 3) := by decide +kernel
theorem dt_le4 : decode prog_14_method_54_code 4 = .ok (.arraylength, 1) := by decide +kernel
theorem dt_le5 : decode prog_14_method_54_code 5 = .ok (.aload_n 0, 1) := by decide +kernel
theorem dt_le6 : decode prog_14_method_54_code 6 = .ok (.invokevirtual 335, 3) := by decide +kernel
theorem dt_le9 : decode prog_14_method_54_code 9 = .ok (.ishr, 1) := by decide +kernel
theorem dt_le10 : decode prog_14_method_54_code 10 = .ok (.ireturn, 1) := by decide +kernel
theorem dt_ch0 : decode prog_14_method_56_code 0 = .ok (.aload_n 0, 1) := by decide +kernel
theorem dt_ch1 : decode prog_14_method_56_code 1 = .ok (.invokevirtual 492, 3) := by decide +kernel
theorem dt_ch4 : decode prog_14_method_56_code 4 = .ok (.ifCond .eq 12, 3) := by decide +kernel
theorem dt_ch7 : decode prog_14_method_56_code 7 = .ok (.aload_n 0, 1) := by decide +kernel
theorem dt_ch8 : decode prog_14_method_56_code 8 = .ok (.getfield 9, 3) := by decide +kernel
theorem dt_ch11 : decode prog_14_method_56_code 11 = .ok (.iload_n 1, 1) := by decide +kernel
theorem dt_ch12 : decode prog_14_method_56_code 12 = .ok (.invokestatic 495, 3) := by decide +kernel
theorem dt_ch15 : decode prog_14_method_56_code 15 = .ok (.ireturn, 1) := by decide +kernel
theorem cd_good {y : MethodName} {bytes : ByteArray} {maxL : Nat} {ret : Option FieldType} (h : Cond.code y bytes maxL ret ∈ gd_tbl) : GoodIn gd_tbl (Cond.code y bytes maxL ret :: gd_tbl) := fun w hw => (List.mem_cons.mp hw).elim (fun e => e ▸ gd_good _ h) (gd_good w)
theorem sS {A : Nat → Prop} {H0 H : Heap} {locs : List Loc} (h : va_S (fun _ => False) H0 H locs) : va_S A H0 H locs := ⟨h.1, fun q h1 _ => h.2.1 q h1 id, fun l hl => (h.2.2 l hl).elim⟩
/-- a method that writes nothing, and its answer -/
def HM (l : Launch) (y : MethodName) (cc : ByteArray) (maxL : Nat) (ret : Option FieldType) (d : Nat) (av : List Value) (P : State → Prop) (r : Option Value) : Prop :=
  Met l y (.code y cc maxL ret :: gd_tbl) ({ frames := d, cells := 0, slots := 0, locals := d * 80 }) (va_Pc av P) (fun _ st oc t => oc = .returned r ∧ va_F (fun _ => False) st t) 0 0 (fun _ => False)
def SU (base : Nat) (sp : UInt32 → Nat) (X0 : Nat × (Nat → Int32)) (adV : Nat → Nat) (U : State) : Prop := base ≤ U.heap.size ∧ SPX base sp X0 adV U U.heap
section TXT
variable {p : Program} {l : Launch} {e : Env} {R : Room} {s : State} {m : MethodId} {args : Array Value} {below : List Frame} {meth : Method} {c : Code} {H : Heap} {locs : List Loc} {cells slots : Nat} {Qz : State → Prop}
variable {base : Nat} {sp : UInt32 → Nat} {adV : Nat → Nat} {X0 : Nat × (Nat → Int32)}
theorem hm_after {pc : Nat} {ls : Array Slot} {st0 rest : List Value} {r : Option Value} (hr : va_Run p l e R s m args below meth c H locs cells slots 0 0 (F0 m pc ls st0) rest (fun st oc t => oc = .returned r ∧ va_F (fun _ => False) st t) (fun _ => False)) (hS : va_S (fun _ => False) s.heap H locs)
    (kk : ∀ (H1 : Heap) (locs1 : List Loc), va_S (fun _ => False) s.heap H1 locs1 → W p l e R s m args below meth c H1 locs1 cells slots Qz (F0 m (pc + 3) ls (r.toList ++ rest))) : W p l e R s m args below meth c H locs cells slots Qz (F0 m pc ls st0) := by
  intro T hT X
  obtain ⟨v, st₀, t, T', L, h0, X', hL, e1, e2, ⟨hv, hz, hk⟩, st⟩ := hr T hT X
  cases hv
  rw [h0] at hz hk
  obtain ⟨t2, a1, b1⟩ := kk T'.heap (locs ++ L)
    ⟨Nat.le_trans hS.1 (by rw [e1]; exact hz), fun q h1 h2 => by rw [e1, hk q (Nat.lt_of_lt_of_le h1 hS.1) id]; exact hS.2.1 q h1 h2, fun q hq => by
      rcases List.mem_append.mp hq with h | h
      · exact hS.2.2 q h
      · exact hL q h⟩ T' rfl X'
  exact ⟨t2, st t2 a1, b1⟩
theorem SU.blind {av : List Value} : FrameBlind (va_Pc av (SU base sp X0 adV)) := fun _ _ _ _ q => ⟨q.1, q.2.1, q.2.2.calling⟩
theorem su_at (hbs : base ≤ s.heap.size) (hSP : SPX base sp X0 adV s s.heap) (hS : va_S (fun _ => False) s.heap H locs) {U : State} (hU : U.heap = H) (hW : s.WarmedH U.vm) : SU base sp X0 adV U :=
  ⟨by rw [hU]; exact Nat.le_trans hbs hS.1, by rw [hU]; exact hSP.to hW hbs (sS hS)⟩
theorem sp_text {U : State} (h : SPX base sp X0 adV U H) {t : UInt32} (ht : t = 1 ∨ t = 2) : ∃ q, va_O "java/lang/String" (sp t) (fun q => base ≤ q) U H ∧ va_OF "java/lang/String" "coder" "B" (.int 0) (sp t) (fun q => base ≤ q) U H ∧ va_OF "java/lang/String" "value" "[B" (.ref q) (sp t) (fun q => base ≤ q) U H ∧ va_T .byte q (txt t).length (fun j => .int ((txt t).getD j 0)) (fun q => base ≤ q) U H := by
  have h5 := h.2.2.2.2.1.1
  rcases ht with rfl | rfl
  · exact ⟨adV 0, h5 0 (by decide)⟩
  · exact ⟨adV 1, h5 1 (by decide)⟩
theorem c_coder {d : Nat} {t : UInt32} (ht : t = 1 ∨ t = 2) : HM l yS_coder prog_14_method_152_code 1 (some .byte) d [.ref (sp t)] (SU base sp X0 adV) (some (.int 0)) := by
  unfold HM
  refine Met.ofWF (cc := prog_14_method_152_code) (maxL := 1) (ret := some .byte) (by decide) rfl ?_
  intro p e s m args below meth c s₁ B hml hv
  obtain ⟨rfl, hbs, hSP⟩ := hv
  have hts0 := atoms_spec (ws := .code yS_coder prog_14_method_152_code 1 (some .byte) :: gd_tbl) B.pre
  have hts : ∀ w ∈ gd_tbl, w.before _ s = true := fun w hw => hts0 w (List.mem_cons_of_mem _ hw)
  have hx := B.exec
  have hb := B.bytes
  have hr := B.returns
  have hlocks := B.notSynchronized
  have hown : s.vm.findClass "java/lang/String" = some m.cls := findClass_of_methodNamed B.named
  have hl := lv_entry ([.ref (sp t)]) (n := 1) (Nat.le_of_ble_eq_true rfl)
  rw [lg_entry_eq]
  generalize (lg_sl ([.ref (sp t)]) ++ List.replicate (1 - (lg_sl ([.ref (sp t)])).length) Slot.unset).toArray = ls at hl ⊢
  have hl : lv_has ls 1 [(0, .ref (sp t))] := hl
  have hS : va_S (fun _ => False) s.heap s.heap [] := va_S.rf
  obtain ⟨q, o1, o2, o3, o4⟩ := sp_text hSP ht
  refine va_gets hx hb hSP.2.2.2.2.2.1 (sS hS) hown (hts _ (gd_in (i := 2175) rfl rfl)) (fun _ h => h) dt_co0 ?_
  refine lv_if_eq hx hb (tgt := 13) dt_co3 rfl (fun h => absurd h (by decide)) (fun _ => ?_)
  refine lv_aload_n hx hb dt_co6 rfl (lv_at hl 0 rfl) ?_
  refine vk_getf hx hb o2 (sS hS) hown (hts _ (gd_in (i := 8091) rfl rfl)) (fun _ h => h) dt_co7 ?_
  refine lv_goto hx hb (tgt := 14) dt_co10 rfl ?_
  exact W.zret (ty := .byte) hx hb hr (by decide) (fun t ht _ => ⟨rfl, hS.F ht⟩) hS.2.2 dt_co14 hlocks
theorem c_latin {d : Nat} {t : UInt32} (ht : t = 1 ∨ t = 2) : HM l yS_latin prog_14_method_154_code 1 (some .boolean) d [.ref (sp t)] (SU base sp X0 adV) (some (.int 1)) := by
  unfold HM
  refine Met.ofWF (cc := prog_14_method_154_code) (maxL := 1) (ret := some .boolean) (by decide) rfl ?_
  intro p e s m args below meth c s₁ B hml hv
  obtain ⟨rfl, hbs, hSP⟩ := hv
  have hts0 := atoms_spec (ws := .code yS_latin prog_14_method_154_code 1 (some .boolean) :: gd_tbl) B.pre
  have hts : ∀ w ∈ gd_tbl, w.before _ s = true := fun w hw => hts0 w (List.mem_cons_of_mem _ hw)
  have hx := B.exec
  have hb := B.bytes
  have hr := B.returns
  have hlocks := B.notSynchronized
  have hown : s.vm.findClass "java/lang/String" = some m.cls := findClass_of_methodNamed B.named
  have hl := lv_entry ([.ref (sp t)]) (n := 1) (Nat.le_of_ble_eq_true rfl)
  rw [lg_entry_eq]
  generalize (lg_sl ([.ref (sp t)]) ++ List.replicate (1 - (lg_sl ([.ref (sp t)])).length) Slot.unset).toArray = ls at hl ⊢
  have hl : lv_has ls 1 [(0, .ref (sp t))] := hl
  have hS : va_S (fun _ => False) s.heap s.heap [] := va_S.rf
  obtain ⟨q, o1, o2, o3, o4⟩ := sp_text hSP ht
  refine va_gets hx hb hSP.2.2.2.2.2.1 (sS hS) hown (hts _ (gd_in (i := 2175) rfl rfl)) (fun _ h => h) dt_la0 ?_
  refine lv_if_eq hx hb (tgt := 17) dt_la3 rfl (fun h => absurd h (by decide)) (fun _ => ?_)
  refine lv_aload_n hx hb dt_la6 rfl (lv_at hl 0 rfl) ?_
  refine vk_getf hx hb o2 (sS hS) hown (hts _ (gd_in (i := 8091) rfl rfl)) (fun _ h => h) dt_la7 ?_
  refine lv_if_ne hx hb (tgt := 17) dt_la10 rfl (fun h => absurd rfl h) (fun _ => ?_)
  refine lv_iconst hx hb (v := 1) dt_la13 rfl ?_
  refine lv_goto hx hb (tgt := 18) dt_la14 rfl ?_
  exact W.zret (ty := .boolean) hx hb hr (by decide) (fun t ht _ => ⟨rfl, hS.F ht⟩) hS.2.2 dt_la18 hlocks
theorem c_pcheck {d : Nat} {i n : Int32} {v : Value} {P : State → Prop} (h0 : ¬ i < 0) (h1 : i < n) (hv : v = .null ∨ ∃ q : Nat, v = .ref q) : HM l yP_check prog_19_method_11_code 3 (some .int) d [.int i, .int n, v] P (some (.int i)) := by
  unfold HM
  refine Met.ofWF (cc := prog_19_method_11_code) (maxL := 3) (ret := some .int) (by decide) rfl ?_
  intro p e s m args below meth c s₁ B hml hw
  obtain ⟨rfl, hPs⟩ := hw
  have hx := B.exec
  have hb := B.bytes
  have hr := B.returns
  have hlocks := B.notSynchronized
  have hl := lv_entry ([.int i, .int n, v]) (n := 3) (by rcases hv with rfl | ⟨q, rfl⟩ <;> exact Nat.le_of_ble_eq_true rfl)
  rw [lg_entry_eq]
  generalize (lg_sl ([.int i, .int n, v]) ++ List.replicate (3 - (lg_sl ([.int i, .int n, v])).length) Slot.unset).toArray = ls at hl ⊢
  have hl : lv_has ls 3 [(0, .int i), (1, .int n), (2, v)] := hl
  have hS : va_S (fun _ => False) s.heap s.heap [] := va_S.rf
  refine lv_iload_n hx hb dt_pc0 rfl (lv_at hl 0 rfl) ?_
  refine lv_if_lt hx hb (tgt := 9) dt_pc1 rfl (fun h => absurd h h0) (fun _ => ?_)
  refine lv_iload_n hx hb dt_pc4 rfl (lv_at hl 0 rfl) ?_
  refine lv_iload_n hx hb dt_pc5 rfl (lv_at hl 1 rfl) ?_
  refine lv_icmp_lt hx hb (tgt := 16) dt_pc6 rfl (fun _ => ?_) (fun h => absurd h1 h)
  refine lv_iload_n hx hb dt_pc16 rfl (lv_at hl 0 rfl) ?_
  exact W.iret hx hb hr (fun t ht _ => ⟨rfl, hS.F ht⟩) hS.2.2 dt_pc17 hlocks
theorem c_scheck {d : Nat} {i n : Int32} (h0 : ¬ i < 0) (h1 : i < n) : HM l yS_check prog_14_method_155_code 2 none (d + 1) [.int i, .int n] (SU base sp X0 adV) none := by
  unfold HM
  refine Met.ofWF (cc := prog_14_method_155_code) (maxL := 2) (ret := none) (by decide) rfl ?_
  intro p e s m args below meth c s₁ B hml hv
  obtain ⟨rfl, hbs, hSP⟩ := hv
  have hts0 := atoms_spec (ws := .code yS_check prog_14_method_155_code 2 none :: gd_tbl) B.pre
  have hts : ∀ w ∈ gd_tbl, w.before _ s = true := fun w hw => hts0 w (List.mem_cons_of_mem _ hw)
  have hx := B.exec
  have hb := B.bytes
  have hr := B.returns
  have hlocks := B.notSynchronized
  have hown : s.vm.findClass "java/lang/String" = some m.cls := findClass_of_methodNamed B.named
  have hl := lv_entry ([.int i, .int n]) (n := 2) (Nat.le_of_ble_eq_true rfl)
  rw [lg_entry_eq]
  generalize (lg_sl ([.int i, .int n]) ++ List.replicate (2 - (lg_sl ([.int i, .int n])).length) Slot.unset).toArray = ls at hl ⊢
  have hl : lv_has ls 2 [(0, .int i), (1, .int n)] := hl
  have hS : va_S (fun _ => False) s.heap s.heap [] := va_S.rf
  refine lv_iload_n hx hb dt_sc0 rfl (lv_at hl 0 rfl) ?_
  refine lv_iload_n hx hb dt_sc1 rfl (lv_at hl 1 rfl) ?_
  obtain ⟨v, hv, hZ⟩ : ∃ v : Value, (v = .null ∨ ∃ q : Nat, v = .ref q) ∧ va_Z "jdk/internal/util/Preconditions" "SIOOBE_FORMATTER" "Ljava/util/function/BiFunction;" v (fun q => base ≤ q) s s.heap := by
    rcases hSP.2.2.2.2.2.2.1 with hZ | ⟨q, hZ⟩
    · exact ⟨_, Or.inl rfl, hZ⟩
    · exact ⟨_, Or.inr ⟨q, rfl⟩, hZ⟩
  refine va_gets hx hb hZ (sS hS) hown (hts _ (gd_in (i := 2191) rfl rfl)) (fun _ h => h) dt_sc2 ?_
  have hpre : PreS s s.heap (va_Pc [.int i, .int n, v] (fun _ => True)) [.int i, .int n, v] := ⟨fun _ _ _ _ q => ⟨q.1, trivial⟩, fun U hU hW => ⟨rfl, trivial⟩⟩
  refine hm_after (r := some (.int i)) (rest := []) (va_runS (As := [.int i, .int n, v]) ⟨hx, hb, hml, hown, hts⟩ (c_pcheck (d := d) (P := fun _ => True) h0 h1 hv) ⟨callB_of 3 hts (cd_good (gd_in (i := 2195) rfl rfl)) rfl rfl rfl (hts _ (gd_in (i := 1015) rfl rfl)) (hts _ (gd_in (i := 2193) rfl rfl)) ⟨by decide, by decide, by decide +kernel⟩ ⟨Nat.le_refl _, by show 8 + (3 + 11) + d * 80 ≤ (d + 1) * 80; omega⟩, hts _ (gd_in (i := 2194) rfl rfl)⟩ hpre rfl rfl hl.1 rfl (lv_room (Nat.le_of_ble_eq_true rfl)) dt_sc5 ⟨Nat.le_refl _, Nat.le_refl _⟩) hS (fun H1 locs1 hS1 => ?_)
  refine lv_pop hx hb dt_sc8 rfl ?_
  exact W.vret hx hb hr (fun t ht _ => ⟨rfl, hS1.F ht⟩) hS1.2.2 dt_sc9 hlocks
/-- a sign of a text is its own byte -/
theorem tx_all : ∀ t : UInt32, (t = 1 ∨ t = 2) → (txt t).length < 2 ^ 31 ∧ ∀ x ∈ txt t, ((x &&& 255).toUInt32 % 65536).toInt32 = x ∧ narrow .char (.int x) = .int x := by
  intro t ht
  rcases ht with rfl | rfl
  · decide +kernel
  · decide +kernel
theorem c_lchar {d : Nat} {t : UInt32} {q : Nat} {i : Int32} (ht : t = 1 ∨ t = 2) (hi : vp_in i (txt t).length) : HM l yL_charAt prog_15_method_2_code 2 (some .char) (d + 2) [.ref q, .int i] (fun U => SU base sp X0 adV U ∧ va_T .byte q (txt t).length (fun j => .int ((txt t).getD j 0)) (fun q => base ≤ q) U U.heap) (some (.int ((txt t).getD i.toNatClampNeg 0))) := by
  unfold HM
  refine Met.ofWF (cc := prog_15_method_2_code) (maxL := 2) (ret := some .char) (by decide) rfl ?_
  intro p e s m args below meth c s₁ B hml hv
  obtain ⟨rfl, ⟨hbs, hSP⟩, hT⟩ := hv
  have hts0 := atoms_spec (ws := .code yL_charAt prog_15_method_2_code 2 (some .char) :: gd_tbl) B.pre
  have hts : ∀ w ∈ gd_tbl, w.before _ s = true := fun w hw => hts0 w (List.mem_cons_of_mem _ hw)
  have hx := B.exec
  have hb := B.bytes
  have hr := B.returns
  have hlocks := B.notSynchronized
  have hown : s.vm.findClass "java/lang/StringLatin1" = some m.cls := findClass_of_methodNamed B.named
  have hl := lv_entry ([.ref q, .int i]) (n := 2) (Nat.le_of_ble_eq_true rfl)
  rw [lg_entry_eq]
  generalize (lg_sl ([.ref q, .int i]) ++ List.replicate (2 - (lg_sl ([.ref q, .int i])).length) Slot.unset).toArray = ls at hl ⊢
  have hl : lv_has ls 2 [(0, .ref q), (1, .int i)] := hl
  have hS : va_S (fun _ => False) s.heap s.heap [] := va_S.rf
  obtain ⟨hL, hC⟩ := tx_all t ht
  have h0 : ¬ i < 0 := fun h => hi (Or.inl h)
  have h1 : i < nI (txt t).length := by
    obtain ⟨j, hj, rfl⟩ := nI_of h0
    have h2 : ¬ (txt t).length ≤ (nI j).toNatClampNeg := fun h => hi (Or.inr h)
    rw [nI_clamp hj] at h2
    exact nI_lt (by omega) hL
  have hmem : (txt t).getD i.toNatClampNeg 0 ∈ txt t := by
    have h2 : i.toNatClampNeg < (txt t).length := Nat.not_le.mp (fun h => hi (Or.inr h))
    rw [List.getD_eq_getElem?_getD, List.getElem?_eq_getElem h2]
    exact List.getElem_mem h2
  obtain ⟨z1, z2⟩ := hC _ hmem
  refine lv_iload_n hx hb dt_lc0 rfl (lv_at hl 1 rfl) ?_
  refine lv_aload_n hx hb dt_lc1 rfl (lv_at hl 0 rfl) ?_
  refine va_tlen hx hb hT (sS hS) (v := nI (txt t).length) rfl dt_lc2 ?_
  have hpre : PreS s s.heap (va_Pc [.int i, .int (nI (txt t).length)] (SU base sp X0 adV)) [.int i, .int (nI (txt t).length)] := ⟨SU.blind, fun U hU hW => ⟨rfl, su_at hbs hSP hS hU hW⟩⟩
  refine hm_after (r := none) (rest := []) (va_runS (As := [.int i, .int (nI (txt t).length)]) ⟨hx, hb, hml, hown, hts⟩ (c_scheck (d := d) h0 h1) ⟨callB_of 2 hts (cd_good (gd_in (i := 2190) rfl rfl)) rfl rfl rfl (hts _ (gd_in (i := 1013) rfl rfl)) (hts _ (gd_in (i := 2188) rfl rfl)) ⟨by decide, by decide, by decide +kernel⟩ ⟨Nat.le_refl _, by show 8 + (2 + 11) + (d + 1) * 80 ≤ (d + 2) * 80; omega⟩, hts _ (gd_in (i := 2189) rfl rfl)⟩ hpre rfl rfl hl.1 rfl (lv_room (Nat.le_of_ble_eq_true rfl)) dt_lc3 ⟨Nat.le_refl _, Nat.le_refl _⟩) hS (fun H1 locs1 hS1 => ?_)
  refine lv_aload_n hx hb dt_lc6 rfl (lv_at hl 0 rfl) ?_
  refine lv_iload_n hx hb dt_lc7 rfl (lv_at hl 1 rfl) ?_
  refine va_tb hx hb hT (sS hS1) hi (v := .int ((txt t).getD i.toNatClampNeg 0)) rfl dt_lc8 ?_
  refine lv_sipush hx hb (v := 255) dt_lc9 (by decide) ?_
  refine lv_iand hx hb dt_lc12 ?_
  refine lv_i2c hx hb (v := (txt t).getD i.toNatClampNeg 0) dt_lc13 z1 ?_
  exact W.zret (ty := .char) hx hb hr z2 (fun t ht _ => ⟨rfl, hS1.F ht⟩) hS1.2.2 dt_lc14 hlocks
variable {D : va_G} {cA : Nat → ClassId}
theorem prm9 {a : List Value} {h : PH} {Q : PQ} (w : prm 9 a h Q) : ∃ t, a = [.float t] ∧ (t = 1 ∨ t = 2) ∧ Q (some (.int (Int32.ofNat (txt t).length))) h := by
  unfold prm at w
  split at w
  · exact ⟨_, rfl, w⟩
  · rename_i e; cases e
  · cases w
theorem prm10 {a : List Value} {h : PH} {Q : PQ} (w : prm 10 a h Q) : ∃ t i, a = [.float t, .int i] ∧ (t = 1 ∨ t = 2) ∧ vp_in i (txt t).length ∧ Q (some (.int ((txt t).getD i.toNatClampNeg 0))) h := by
  unfold prm at w
  split at w
  · rename_i e; cases e
  · exact ⟨_, _, rfl, w⟩
  · cases w
theorem shr0 : ∀ t : UInt32, (t = 1 ∨ t = 2) → Int32.ofNat (txt t).length >>> ((0 : Int32) &&& 31) = Int32.ofNat (txt t).length := by
  intro t ht
  rcases ht with rfl | rfl
  · decide +kernel
  · decide +kernel
theorem prm_len {d : Nat} {h : PH} {Q : PQ} {t : UInt32} {w : Nat × Nat × Nat × Nat} (ht : t = 1 ∨ t = 2) (hQ : Q (some (.int (Int32.ofNat (txt t).length))) h) (hX0 : hX h = X0) : MetOf l base sp D cA adV X0 (d + 4) 9 (⟨"java/lang/String", "length", "()I"⟩, prog_14_method_54_code, 1, some .int, 0, 1, w, []) [.float t] h Q := by
  unfold MetOf
  rw [show mcs 9 = (0, 0) from rfl]
  refine Met.ofWF (cc := prog_14_method_54_code) (maxL := 1) (ret := some .int) (show plainFor (⟨"java/lang/String", "length", "()I"⟩ : MethodName) = true by decide) rfl ?_
  intro p e s m args below meth c s₁ B hml hv
  obtain ⟨rfl, hsz, hP, hKK, hSP⟩ := hv
  have hts0 := atoms_spec (ws := .code ⟨"java/lang/String", "length", "()I"⟩ prog_14_method_54_code 1 (some .int) :: gd_tbl) B.pre
  have hts : ∀ w ∈ gd_tbl, w.before _ s = true := fun w hw => hts0 w (List.mem_cons_of_mem _ hw)
  have hx := B.exec
  have hb := B.bytes
  have hr := B.returns
  have hlocks := B.notSynchronized
  have hown : s.vm.findClass "java/lang/String" = some m.cls := findClass_of_methodNamed B.named
  have hl := lv_entry ([.ref (sp t)]) (n := 1) (Nat.le_of_ble_eq_true rfl)
  rw [lg_entry_eq]
  show W _ _ _ _ _ _ _ _ _ _ _ _ _ _ _ (F0 m 0 ((lg_sl ([.ref (sp t)]) ++ List.replicate (1 - (lg_sl ([.ref (sp t)])).length) Slot.unset).toArray) [])
  generalize (lg_sl ([.ref (sp t)]) ++ List.replicate (1 - (lg_sl ([.ref (sp t)])).length) Slot.unset).toArray = ls at hl ⊢
  have hl : lv_has ls 1 [(0, .ref (sp t))] := hl
  have hS : va_S (fun _ => False) s.heap s.heap [] := va_S.rf
  have hbs : base ≤ s.heap.size := by omega
  obtain ⟨q, o1, o2, o3, o4⟩ := sp_text hSP ht
  refine lv_aload_n hx hb dt_le0 rfl (lv_at hl 0 rfl) ?_
  refine vk_getf hx hb o3 (sS hS) hown (hts _ (gd_in (i := 8090) rfl rfl)) (fun _ h => h) dt_le1 ?_
  refine va_tlen hx hb o4 (sS hS) (v := Int32.ofNat (txt t).length) rfl dt_le4 ?_
  refine lv_aload_n hx hb dt_le5 rfl (lv_at hl 0 rfl) ?_
  have hrec : ∃ cellB : Cell, s.heap[sp t]? = some cellB ∧ cellB.vm.isStatics = false ∧ s.vm.findClass "java/lang/String" = some cellB.cls := by
    obtain ⟨cell, g1, g2, g3, -⟩ := o1
    exact ⟨cell, g1, g2, g3⟩
  have hpre : PreV s s.heap "java/lang/String" (sp t) (va_Pc [.ref (sp t)] (SU base sp X0 adV)) [] := ⟨SU.blind, hrec, fun U hU hW => ⟨rfl, su_at hbs hSP hS hU hW⟩⟩
  refine hm_after (r := some (.int 0)) (rest := [.int (Int32.ofNat (txt t).length)]) (va_runV (As := []) ⟨hx, hb, hml, hown, hts⟩ (c_coder (d := d + 3) ht) ⟨callB_of 0 hts (cd_good (gd_in (i := 2174) rfl rfl)) rfl rfl rfl (hts _ (gd_in (i := 1013) rfl rfl)) (hts _ (gd_in (i := 2171) rfl rfl)) ⟨by decide, by decide, by decide +kernel⟩ ⟨Nat.le_refl _, by show 8 + (1 + 11) + (d + 3) * 80 ≤ (d + 4) * 80; omega⟩, hts _ (gd_in (i := 2172) rfl rfl), hts _ (gd_in (i := 2173) rfl rfl)⟩ hpre rfl rfl hl.1 rfl (lv_room (Nat.le_of_ble_eq_true rfl)) dt_le6 ⟨Nat.le_refl _, Nat.le_refl _⟩) hS (fun H1 locs1 hS1 => ?_)
  refine lv_ishr hx hb dt_le9 ?_
  rw [shr0 t ht]
  refine W.iret hx hb hr (fun u hu _ => ?_) (fun q hq => (hS1.2.2 q hq).elim) dt_le10 hlocks
  refine ⟨⟨some (.int (Int32.ofNat (txt t).length)), h, rfl, hQ, rfl, rfl, hX0, ?_⟩, (sS hS1).F hu⟩
  rw [hu]
  exact hP.kept (fun k x hx => hS1.2.1 x.1 (hP k x hx).lt id)
theorem prm_char {d : Nat} {h : PH} {Q : PQ} {t : UInt32} {i : Int32} {w : Nat × Nat × Nat × Nat} (ht : t = 1 ∨ t = 2) (hi : vp_in i (txt t).length) (hQ : Q (some (.int ((txt t).getD i.toNatClampNeg 0))) h) (hX0 : hX h = X0) : MetOf l base sp D cA adV X0 (d + 4) 10 (⟨"java/lang/String", "charAt", "(I)C"⟩, prog_14_method_56_code, 2, some .char, 1, 1, w, []) [.float t, .int i] h Q := by
  unfold MetOf
  rw [show mcs 10 = (0, 0) from rfl]
  refine Met.ofWF (cc := prog_14_method_56_code) (maxL := 2) (ret := some .char) (show plainFor (⟨"java/lang/String", "charAt", "(I)C"⟩ : MethodName) = true by decide) rfl ?_
  intro p e s m args below meth c s₁ B hml hv
  obtain ⟨rfl, hsz, hP, hKK, hSP⟩ := hv
  have hts0 := atoms_spec (ws := .code ⟨"java/lang/String", "charAt", "(I)C"⟩ prog_14_method_56_code 2 (some .char) :: gd_tbl) B.pre
  have hts : ∀ w ∈ gd_tbl, w.before _ s = true := fun w hw => hts0 w (List.mem_cons_of_mem _ hw)
  have hx := B.exec
  have hb := B.bytes
  have hr := B.returns
  have hlocks := B.notSynchronized
  have hown : s.vm.findClass "java/lang/String" = some m.cls := findClass_of_methodNamed B.named
  have hl := lv_entry ([.ref (sp t), .int i]) (n := 2) (Nat.le_of_ble_eq_true rfl)
  rw [lg_entry_eq]
  show W _ _ _ _ _ _ _ _ _ _ _ _ _ _ _ (F0 m 0 ((lg_sl ([.ref (sp t), .int i]) ++ List.replicate (2 - (lg_sl ([.ref (sp t), .int i])).length) Slot.unset).toArray) [])
  generalize (lg_sl ([.ref (sp t), .int i]) ++ List.replicate (2 - (lg_sl ([.ref (sp t), .int i])).length) Slot.unset).toArray = ls at hl ⊢
  have hl : lv_has ls 2 [(0, .ref (sp t)), (1, .int i)] := hl
  have hS : va_S (fun _ => False) s.heap s.heap [] := va_S.rf
  have hbs : base ≤ s.heap.size := by omega
  obtain ⟨hL, hC⟩ := tx_all t ht
  have hmem : (txt t).getD i.toNatClampNeg 0 ∈ txt t := by
    have h2 : i.toNatClampNeg < (txt t).length := Nat.not_le.mp (fun h => hi (Or.inr h))
    rw [List.getD_eq_getElem?_getD, List.getElem?_eq_getElem h2]
    exact List.getElem_mem h2
  obtain ⟨z1, z2⟩ := hC _ hmem
  obtain ⟨q, o1, o2, o3, o4⟩ := sp_text hSP ht
  refine lv_aload_n hx hb dt_ch0 rfl (lv_at hl 0 rfl) ?_
  have hrec : ∃ cellB : Cell, s.heap[sp t]? = some cellB ∧ cellB.vm.isStatics = false ∧ s.vm.findClass "java/lang/String" = some cellB.cls := by
    obtain ⟨cell, g1, g2, g3, -⟩ := o1
    exact ⟨cell, g1, g2, g3⟩
  have hpre : PreV s s.heap "java/lang/String" (sp t) (va_Pc [.ref (sp t)] (SU base sp X0 adV)) [] := ⟨SU.blind, hrec, fun U hU hW => ⟨rfl, su_at hbs hSP hS hU hW⟩⟩
  refine hm_after (r := some (.int 1)) (rest := []) (va_runV (As := []) ⟨hx, hb, hml, hown, hts⟩ (c_latin (d := d + 3) ht) ⟨callB_of 0 hts (cd_good (gd_in (i := 2184) rfl rfl)) rfl rfl rfl (hts _ (gd_in (i := 1013) rfl rfl)) (hts _ (gd_in (i := 2181) rfl rfl)) ⟨by decide, by decide, by decide +kernel⟩ ⟨Nat.le_refl _, by show 8 + (1 + 11) + (d + 3) * 80 ≤ (d + 4) * 80; omega⟩, hts _ (gd_in (i := 2182) rfl rfl), hts _ (gd_in (i := 2183) rfl rfl)⟩ hpre rfl rfl hl.1 rfl (lv_room (Nat.le_of_ble_eq_true rfl)) dt_ch1 ⟨Nat.le_refl _, Nat.le_refl _⟩) hS (fun H1 locs1 hS1 => ?_)
  refine lv_if_eq hx hb (tgt := 16) dt_ch4 rfl (fun h => absurd h (by decide)) (fun _ => ?_)
  refine lv_aload_n hx hb dt_ch7 rfl (lv_at hl 0 rfl) ?_
  refine vk_getf hx hb o3 (sS hS1) hown (hts _ (gd_in (i := 8090) rfl rfl)) (fun _ h => h) dt_ch8 ?_
  refine lv_iload_n hx hb dt_ch11 rfl (lv_at hl 1 rfl) ?_
  have hpre2 : PreS s H1 (va_Pc [.ref q, .int i] (fun U => SU base sp X0 adV U ∧ va_T .byte q (txt t).length (fun j => .int ((txt t).getD j 0)) (fun q => base ≤ q) U U.heap)) [.ref q, .int i] :=
    ⟨fun _ U _ _ z => ⟨z.1, ⟨z.2.1.1, z.2.1.2.calling⟩, va_T.moved (u := U) (Vm.Alike.refl U.vm) z.2.2⟩, fun U hU hW => ⟨rfl, su_at hbs hSP hS1 hU hW, by rw [hU]; exact (o4.moved hW.alike).kept (sS hS1).2.1⟩⟩
  refine hm_after (r := some (.int ((txt t).getD i.toNatClampNeg 0))) (rest := []) (va_runS (As := [.ref q, .int i]) ⟨hx, hb, hml, hown, hts⟩ (c_lchar (d := d + 1) (base := base) (sp := sp) (X0 := X0) (adV := adV) ht hi) ⟨callB_of 2 hts (cd_good (gd_in (i := 2187) rfl rfl)) rfl rfl rfl (hts _ (gd_in (i := 1014) rfl rfl)) (hts _ (gd_in (i := 2185) rfl rfl)) ⟨by decide, by decide, by decide +kernel⟩ ⟨Nat.le_refl _, by show 8 + (2 + 11) + (d + 3) * 80 ≤ (d + 4) * 80; omega⟩, hts _ (gd_in (i := 2186) rfl rfl)⟩ hpre2 rfl rfl hl.1 rfl (lv_room (Nat.le_of_ble_eq_true rfl)) dt_ch12 ⟨Nat.le_refl _, Nat.le_refl _⟩) hS1 (fun H2 locs2 hS2 => ?_)
  refine W.zret (ty := .char) hx hb hr z2 (fun u hu _ => ?_) (fun q hq => (hS2.2.2 q hq).elim) dt_ch15 hlocks
  refine ⟨⟨some (.int ((txt t).getD i.toNatClampNeg 0)), h, rfl, hQ, rfl, rfl, hX0, ?_⟩, (sS hS2).F hu⟩
  rw [hu]
  exact hP.kept (fun k x hx => hS2.2.1 x.1 (hP k x hx).lt id)
theorem prm_ok (d k : Nat) (M : PMr) (a : List Value) (h : PH) (Q : PQ) (hM : mG k = some M) (hk : k = 9 ∨ k = 10) (w : prm k a h Q) (hX0 : hX h = X0) : MetOf l base sp D cA adV X0 (d + 4) k M a h Q := by
  rcases hk with rfl | rfl
  · obtain ⟨t, rfl, ht, hQ⟩ := prm9 w
    have e : mG 9 = some (⟨"java/lang/String", "length", "()I"⟩, prog_14_method_54_code, 1, some .int, 0, 1, (2170, 2168, 2169, 1013), []) := rfl
    rw [e] at hM
    cases hM
    exact prm_len ht hQ hX0
  · obtain ⟨t, i, rfl, ht, hi, hQ⟩ := prm10 w
    have e : mG 10 = some (⟨"java/lang/String", "charAt", "(I)C"⟩, prog_14_method_56_code, 2, some .char, 1, 1, (2180, 2178, 2179, 1013), []) := rfl
    rw [e] at hM
    cases hM
    exact prm_char ht hi hQ hX0
end TXT
