/-! a method that the pure machine ends meets its contract -/
theorem lkp_mem {pc : Nat} {E : PE} : ∀ {cd : PC}, lkp cd pc = some E → (pc, E) ∈ cd
  | [], h => by cases h
  | (q, F) :: r, h => by
    unfold lkp at h
    cases e : Nat.beq q pc with
    | true =>
      rw [e] at h
      cases h
      rw [Nat.eq_of_beq_eq_true e]
      exact List.mem_cons_self
    | false =>
      rw [e] at h
      exact List.mem_cons_of_mem _ (lkp_mem h)
theorem lv_args_cv {base : Nat} {sp : UInt32 → Nat} : ∀ (a : List Value) (i : Nat), lv_args i (a.map (cv base sp)) = cvl base sp (lv_args i a)
  | [], _ => rfl
  | v :: vs, i => by
    show (i, cv base sp v) :: lv_args _ _ = (i, cv base sp v) :: cvl base sp (lv_args _ vs)
    rw [cv_cat, lv_args_cv vs]
theorem lg_sl_len : ∀ (a : List Value), (lg_sl a).length = csum a
  | [] => rfl
  | v :: vs => by
    have ih := lg_sl_len vs
    unfold lg_sl csum at *
    rw [List.flatMap_cons, List.length_append, ih, List.map_cons, List.sum_cons]
    congr 1
    rcases lv_cat v with h | h <;> simp [h]
theorem csum_map {base : Nat} {sp : UInt32 → Nat} (a : List Value) : csum (a.map (cv base sp)) = csum a := csum_cv
section EV
variable {l : Launch} {base : Nat} {sp : UInt32 → Nat} {D : va_G} {cA : Nat → ClassId} {adV : Nat → Nat} {X0 : Nat × (Nat → Int32)}
/-- a walk of the pure machine is a walk of the machine -/
theorem walk {p : Program} {e : Env} {R : Room} {s : State} {m : MethodId} {args : Array Value} {below : List Frame} {meth : Method} {c : Code} {y : MethodName} {bytes : ByteArray} {nL n0 s0 dd : Nat} {al : Nat × Nat} {C : PCall} {rt : Option FieldType} {Q : PQ} {Qz : State → Prop} {cd : PC}
    (cx : Cx p s m args meth c R base sp D cA adV X0 y bytes nL n0 dd al) (hcalls : ∀ k M a h Q', mG k = some M → C k a h Q' → hX h = X0 → MetOf l base sp D cA adV X0 dd k M a h Q') (hspk : ∀ k M a h Q', mG k = some M → M.1.cls = "java/lang/String" → C k a h Q' → ∀ o r, a = .float o :: r → o = 1 ∨ o = 2)
    (hret : ∀ (pc : Nat) (i : Instr) (v : Option Value) (h : PH) (H : Heap) (locs : List Loc) (cells slots : Nat) (lsA : Array Slot), ((i = .ireturn ∧ ∃ x, v = some (.int x) ∧ rok rt x) ∨ (i = .lreturn ∧ ∃ x, v = some (.long x) ∧ rt = some .long) ∨ (i = .areturn ∧ ∃ x, v = some x ∧ isRV x ∧ ∃ t, rt = some t ∧ isRT t = true) ∨ (i = .return_ ∧ v = none ∧ rt = none)) → decode bytes pc = .ok (i, 1) → rfit al n0 s0 h → Q v h → hN h = n0 + cells → hSl h = s0 + slots → cells ≤ al.1 → slots ≤ al.2 → hX h = X0 → va_P D vwCl (wsO base cA h) H → va_S (fun q => base ≤ q) s.heap H locs → W p l e R s m args below meth c H locs cells slots Qz (F0 m pc lsA (v.toList.map (cv base sp))))
    (hok : ∀ q ∈ cd, okB y bytes nL rt q.1 q.2 = true) {pc : Nat} {ls : PL} {st : PS} {h : PH} (w : Wp C cd al rt n0 s0 Q pc ls st h) : WW p l e R s m args below meth c base sp D cA n0 s0 al X0 nL Qz pc ls st h :=
  w _ (fun pc ls st h q => q.elim (fun ⟨E, hE, q⟩ => step_ok cx hcalls hspk hret (hok _ (lkp_mem hE)) q) (fun ⟨ls2, hs, q⟩ => fun H locs cells slots lsA i1 i2 i3 i4 i5 hP hS hl => q H locs cells slots lsA i1 i2 i3 i4 i5 hP hS (lv_to hl (fun z hz => by
    obtain ⟨y, hy, rfl⟩ := List.mem_map.mp hz
    exact List.mem_map.mpr ⟨y, hs y hy, rfl⟩))))
/-- what is to be checked of every method: its instructions, its class's name, that none but the two prims is a String's -/
noncomputable def okL (y : MethodName) (nL : Nat) (rt : Option FieldType) (pc : Nat) (E : PE) : Bool := decide (pc ≤ E.2.1) && (match lnO E.1 with | 0 => true | n + 1 => decide (E.2.1 = pc + (n + 1))) && lkB y nL rt pc E
noncomputable def mB (k : Nat) (M : PMr) : Bool := wkB M.2.1 M.2.1.data.toList 0 M.2.2.2.2.2.2.2 && M.2.2.2.2.2.2.2.all (fun q => okL M.1 M.2.2.1 M.2.2.2.1 q.1 q.2) && plainFor M.1 && (decide (k = 9) || decide (k = 10) || decide (M.1.cls ≠ "java/lang/String")) && decide (M.1.cls ≠ "StairRodsLaw") && mW M
theorem okL.ok {y : MethodName} {bytes : ByteArray} {nL : Nat} {rt : Option FieldType} {cd : PC} (h1 : wkB bytes bytes.data.toList 0 cd = true) (h2 : cd.all (fun q => okL y nL rt q.1 q.2) = true) : ∀ q ∈ cd, okB y bytes nL rt q.1 q.2 = true := by
  intro q hq
  have hd : decode bytes q.1 = .ok (q.2.1, q.2.2.1 - q.1) := wkB.ok (all := bytes.data.toList) (bs := bytes.data.toList) (pos := 0) (List.drop_zero).symm h1 q hq
  have hl := List.all_eq_true.mp h2 q hq
  unfold okL at hl
  simp only [Bool.and_eq_true] at hl
  unfold okB
  simp only [Bool.and_eq_true]
  exact ⟨⟨⟨decide_eq_true hd, hl.1.1⟩, hl.1.2⟩, hl.2⟩
theorem Met.ofWF {l : Launch} {y : MethodName} {ws ws' : List Cond} {rm : Room} {Pc : Array Value → State → Prop} {Qc : Array Value → State → Outcome → State → Prop} {mc ms : Nat} {free : Addr → Prop} {cc : ByteArray} {maxL : Nat} {ret : Option FieldType}
    (hy : plainFor y = true) (hw : ws = Cond.code y cc maxL ret :: ws')
    (body : ∀ p e s m args below meth c s₁, BodyLoose p l y (headSpec ws rm) cc maxL ret e s m args below meth c s₁ → c.maxLocals = maxL → Pc args s →
      W p l e (headSpec ws rm).room s m args below meth c s.heap [] 0 0 (MQ below Qc args s mc ms free) (entryFrame m args maxL)) : Met l y ws rm Pc Qc mc ms free := by
  refine MetFree.of_bodySF (code := cc) (maxLocals := maxL) (ret := ret) hy ?_ ?_
  · intro args s m h hn
    obtain ⟨meth, c, h1, h2, h3, h4, h5, h6, -, -⟩ := Cond.code_spec hn (atoms_spec (ws := ws) h _ (by rw [hw]; exact List.mem_cons_self))
    exact ⟨meth, c, h1, h2, h3, h4, h5, h6⟩
  · intro p e s m args below meth c s₁ B hml hP _
    have hh0 : s₁.heap = s.heap := by rw [B.state]; rfl
    obtain ⟨t, a1, o, b1, b2, b3⟩ := body p e s m args below meth c s₁ B hml hP s₁ hh0 (Stand.of_body B)
    exact ⟨t, o, a1, b1, b2, ⟨b3.1, b3.2⟩⟩
theorem spk (hall : ∀ k M, mG k = some M → k ≠ m_L_law → mB k M = true) (hlaw : ∀ d a h Q, ¬ Ev d m_L_law a h Q) {d k : Nat} {M : PMr} {a : List Value} {h : PH} {Q : PQ} (q1 : mG k = some M) (q2 : M.1.cls = "java/lang/String") (q3 : Ev d k a h Q) {o : UInt32} {r : List Value} (e : a = .float o :: r) : o = 1 ∨ o = 2 := by
  have hk' : k = 9 ∨ k = 10 := by
    by_cases hz : k = m_L_law
    · exact absurd (hz ▸ q3) (hlaw d a h Q)
    · have hb' := hall k M q1 hz
      unfold mB at hb'
      simp only [Bool.and_eq_true, Bool.or_eq_true, decide_eq_true_eq] at hb'
      rcases hb'.1.1.2 with (q | q) | q
      · exact Or.inl q
      · exact Or.inr q
      · exact absurd q2 q
  cases d with
  | zero => exact False.elim q3
  | succ d =>
    unfold Ev at q3
    rw [q1] at q3
    dsimp only at q3
    rcases q3 with ⟨-, q3⟩ | ⟨q3, -⟩
    · subst e
      unfold prm at q3
      split at q3
      · rename_i e2; cases e2; exact q3.1
      · rename_i e2; cases e2; exact q3.1
      · cases q3
    · exact absurd hk' q3
theorem met_ev (hall : ∀ k M, mG k = some M → k ≠ m_L_law → mB k M = true) (hcw : ∀ k M, mG k = some M → k ≠ m_L_law → Cond.code M.1 M.2.1 M.2.2.1 M.2.2.2.1 ∈ gd_tbl) (hlaw : ∀ d a h Q, ¬ Ev d m_L_law a h Q)
    (hprm : ∀ (d k : Nat) (M : PMr) (a : List Value) (h : PH) (Q : PQ), mG k = some M → (k = 9 ∨ k = 10) → prm k a h Q → hX h = X0 → MetOf l base sp D cA adV X0 (d + 1) k M a h Q) :
    ∀ (d k : Nat) (M : PMr) (a : List Value) (h : PH) (Q : PQ), mG k = some M → Ev d k a h Q → hX h = X0 → MetOf l base sp D cA adV X0 d k M a h Q
  | 0, _, _, _, _, _, _, w, _ => False.elim w
  | d + 1, k, M, a, h, Q, hM, w, hX0 => by
    have hkl : k ≠ m_L_law := fun e => hlaw (d + 1) a h Q (e ▸ w)
    have ih := met_ev hall hcw hlaw hprm d
    have w0 := w
    unfold Ev at w
    rw [hM] at w
    dsimp only at w
    rcases w with ⟨hk, w⟩ | ⟨hk, hcs, w⟩
    · exact hprm d k M a h Q hM hk w hX0
    have hb := hall k M hM hkl
    unfold mB at hb
    simp only [Bool.and_eq_true] at hb
    obtain ⟨⟨⟨⟨⟨b0, b1⟩, b2⟩, b3⟩, b3'⟩, b4⟩ := hb
    unfold MetOf
    refine Met.ofWF (cc := M.2.1) (maxL := M.2.2.1) (ret := M.2.2.2.1) b2 rfl ?_
    intro p e s m args below meth c s₁ B hml hv
    obtain ⟨rfl, hsz, hP, hKK, hSP⟩ := hv
    have hts0 := atoms_spec (ws := .code M.1 M.2.1 M.2.2.1 M.2.2.2.1 :: gd_tbl) B.pre
    have hlocks := B.notSynchronized
    have hr := B.returns
    have hx := B.exec
    have hbs := B.bytes
    have cx : Cx p s m ((a.map (cv base sp)).toArray) meth c ({ frames := d + 1, cells := (mcs k).1, slots := (mcs k).2, locals := (d + 1) * 80 }) base sp D cA adV X0 M.1 M.2.1 M.2.2.1 (hN h) d (mcs k) :=
      ⟨B.exec, B.bytes, hml, findClass_of_methodNamed B.named, fun w hw => hts0 w (List.mem_cons_of_mem _ hw), hKK, hSP, hsz, fun e => (name_of_methodNamed B.named B.method).1.trans e, Nat.le_refl _, Nat.le_refl _, Nat.le_refl _, by show d * 80 + 80 ≤ (d + 1) * 80; omega, fun k M q1 q2 => by have := hall k M q1 q2; unfold mB at this; simp only [Bool.and_eq_true] at this; exact ⟨this.2, hcw k M q1 q2⟩⟩
    have hl := lv_entry (a.map (cv base sp)) (n := M.2.2.1) (by rw [lg_sl_len, csum_map]; exact hcs)
    rw [lv_args_cv] at hl
    rw [lg_entry_eq]
    refine walk (Qz := MQ below (QU base sp D cA X0 (mcs k).1 (mcs k).2 h Q) ((a.map (cv base sp)).toArray) s (mcs k).1 (mcs k).2 (fun q => base ≤ q)) cx (fun k' M' a' h' Q' q1 q2 q3 => ih k' M' a' h' Q' q1 q2 q3) ?_ ?_ (okL.ok b0 b1) w s.heap [] 0 0 _ rfl rfl (Nat.zero_le _) (Nat.zero_le _) hX0 hP va_S.rf hl
    · intro k' M' a' h' Q' q1 q2 q3 o r e
      exact spk hall hlaw q1 q2 q3 e
    · intro pc i v h1 H locs cells slots lsA hi hd hf hq j1 j2 j3 j4 j5 hP1 hS1
      have hc : cells = (mcs k).1 ∧ slots = (mcs k).2 := by
        rcases hf with hf | hf
        · omega
        · omega
      obtain ⟨rfl, rfl⟩ := hc
      have hend : ∀ (t : State), t.heap = H → s.WarmedH t.vm → QU base sp D cA X0 (mcs k).1 (mcs k).2 h Q ((a.map (cv base sp)).toArray) s (.returned (v.map (cv base sp))) t := fun t ht _ =>
        ⟨⟨v, h1, rfl, hq, j1, j2, j5, by rw [ht]; exact hP1⟩, hS1.F ht⟩
      rcases hi with ⟨rfl, x, rfl, hrk⟩ | ⟨rfl, x, rfl, hrt⟩ | ⟨rfl, x, rfl, hrv, t, hrt, hrt2⟩ | ⟨rfl, rfl, hrt⟩
      · unfold rok at hrk
        split at hrk
        · rename_i e
          exact W.iret hx hbs (by rw [hr, e]) hend hS1.2.2 hd hlocks
        · rename_i e
          exact W.zret (ty := .boolean) hx hbs (by rw [hr, e]) (nar_b hrk) hend hS1.2.2 hd hlocks
        · cases hrk
      · exact W.lret hx hbs (by rw [hr, hrt]) hend hS1.2.2 hd hlocks
      · refine W.aret (rt := t) hx hbs (by rw [hr, hrt]) ?_ ?_ hend hS1.2.2 hd hlocks
        · cases t with
          | object n => exact Or.inl ⟨n, rfl⟩
          | array t => exact Or.inr ⟨t, rfl⟩
          | int => cases hrt2
          | long => cases hrt2
          | boolean => cases hrt2
          | byte => cases hrt2
          | char => cases hrt2
          | short => cases hrt2
          | float => cases hrt2
          | double => cases hrt2
        · cases x with
          | ref o => exact Or.inr ⟨_, rfl⟩
          | float o => exact Or.inr ⟨_, rfl⟩
          | null => exact Or.inl rfl
          | int z => cases hrv
          | long z => cases hrv
          | double z => cases hrv
          | retAddr z => cases hrv
      · exact W.vret hx hbs (by rw [hr, hrt]) hend hS1.2.2 hd hlocks
end EV
