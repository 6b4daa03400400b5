/-! new cells, then EVERY INSTRUCTION -/
def tyK (t : FieldType) : Bool := match t with | .int => true | .boolean => true | .long => true | .object _ => true | .array _ => true | _ => false
theorem tyK_all : ∀ a, a < 10 → ∀ j, j < fN a → tyK (tyO a j) = true := by decide +kernel
theorem fval_new {base : Nat} {h : PH} {k len ci j : Nat} (ht : tyK (tyO ci j) = true) : fval base (puN h k len) ci (hN h) j = defaultValue (tyO ci j) := by
  have e2 : hI (puN h k len) (hN h) j = 0 := congrFun (vaUpS (hI h) (hN h) (fun _ => 0)) j
  have e3 : hL (puN h k len) (hN h) j = 0 := congrFun (vaUpS (hL h) (hN h) (fun _ => 0)) j
  have e4 : hR (puN h k len) (hN h) j = none := congrFun (vaUpS (hR h) (hN h) (fun _ => none)) j
  unfold fval
  rw [e2, e3, e4]
  cases e : tyO ci j <;> rw [e] at ht <;> first | rfl | cases ht
section PM
variable {p : Program} {l : Launch} {e : Env} {R : Room} {s : State} {m : MethodId} {args : Array Value} {below : List Frame} {meth : Method} {c : Code} {Qz : State → Prop}
variable {base : Nat} {sp : UInt32 → Nat} {D : va_G} {cA : Nat → ClassId} {adV : Nat → Nat} {X0 : Nat × (Nat → Int32)}
variable {y : MethodName} {bytes : ByteArray} {nL n0 s0 dd : Nat} {al : Nat × Nat} {C : PCall}
theorem size_eq (cx : Cx p s m args meth c R base sp D cA adV X0 y bytes nL n0 dd al) {h : PH} {H : Heap} {locs : List Loc} {cells : Nat} (i1 : hN h = n0 + cells) (hP : va_P D vwCl (wsO base cA h) H) (hS : va_S (fun q => base ≤ q) s.heap H locs) (hsz : H.size ≤ s.heap.size + cells) : H.size = base + hN h := by
  obtain ⟨hx, hb, hml, hown, hts, hKK, hSP, hs, hnm, hRc, hRs, hRf, hRl, hMW⟩ := id cx
  have := pic_le hP (Nat.le_trans (by omega) hS.1)
  omega
/-- the picture grows by a cell at the heap's end -/
theorem pic_push {h : PH} {H H1 : Heap} {k len : Nat} (hP : va_P D vwCl (wsO base cA h) H) (hH : H.size = base + hN h) (o1 : ∀ q, q < base + hN h → H1[q]? = H[q]?) (hc : va_at D vwCl (base + hN h, ent base cA (puN h k len) (hN h)) H1) : va_P D vwCl (wsO base cA (puN h k len)) H1 := by
  rw [wsO_push]
  refine (hP.kept (fun k x hx => o1 x.1 (by rw [← hH]; exact (hP k x hx).lt))).app (fun k x hx => ?_)
  have hz : k < 1 := (List.getElem?_eq_some_iff.mp hx).1
  rw [show k = 0 by omega] at hx
  cases hx
  exact hc
theorem frame_push {h : PH} {H H1 : Heap} {locs : List Loc} (hH : H.size = base + hN h) (z1 : H1.size = base + hN h + 1) (o1 : ∀ q, q < base + hN h → H1[q]? = H[q]?) (hS : va_S (fun q => base ≤ q) s.heap H locs) : va_S (fun q => base ≤ q) s.heap H1 locs :=
  ⟨Nat.le_trans hS.1 (by omega), fun q h1 h2 => (o1 q (by have := hS.1; omega)).trans (hS.2.1 q h1 h2), hS.2.2⟩
theorem new_obj (cx : Cx p s m args meth c R base sp D cA adV X0 y bytes nL n0 dd al) {rt : Option FieldType} {pc i nx a b wi : Nat} {v : Value} {ls : PL} {st : PS} {h : PH} (hE : okB y bytes nL rt pc (.new i, nx, a, b, v, wi) = true) (w1 : alk 1 b al n0 s0 h)
    (w : WW p l e R s m args below meth c base sp D cA n0 s0 al X0 nL Qz nx ls (.ref (hN h) :: st) (puN h a b)) : WW p l e R s m args below meth c base sp D cA n0 s0 al X0 nL Qz pc ls st h := by
  obtain ⟨hd, hn⟩ := okB.ln hE 2 rfl
  have hn : nx = pc + 3 := hn
  subst hn
  have hk := okB.lk hE
  simp only [lkB, Bool.and_eq_true, decide_eq_true_eq] at hk
  obtain ⟨⟨k1, k2⟩, k3⟩ := hk
  subst k2
  obtain ⟨C', T, g1, g2, g3, g4, g5, g6⟩ := cl_in k1
  rw [g1] at k3
  obtain ⟨hx, hb, hml, hown, hts, hKK, hSP, hs, hnm, hRc, hRs, hRf, hRl, hMW⟩ := id cx
  intro H locs cells slots lsA i1 i2 i3 i4 i5 hP hS hl
  refine W_size fun hsz => ?_
  have hH := size_eq cx i1 hP hS hsz
  have hKn := hKK.1 a _ g1
  obtain ⟨w1, w2⟩ := w1
  refine W.newcK (g := F0 m pc lsA (st.map (cv base sp))) hx hb hown (hts _ (twB_in k3)) (hts _ g5) (hts _ g6) rfl hd (by omega) (by omega) hKn.2.1 hH fun H1 kC hkC e1 z1 o1 => ?_
  refine w H1 locs (cells + 1) (slots + fN a) lsA ?_ ?_ ?_ ?_ i5 (pic_push hP hH o1 ?_) (frame_push hH z1 o1 hS) hl
  · show hN h + 1 = _; omega
  · show hSl h + fN a = _; omega
  · omega
  · omega
  · have e1' : (hK (puN h a (fN a)) (hN h)).1 = a := congrArg Prod.fst (vaUpS (hK h) (hN h) (a, fN a))
    rw [ent_obj e1' k1]
    refine ⟨_, g1, (u_born (tyO a) hts g2 hKn hkC e1 g3).to fun j hj => ?_⟩
    unfold vp_V
    rw [List.getD_eq_getElem?_getD, fvs_get hj, fval_new (tyK_all a k1 j hj)]
    rfl
theorem new_arr (cx : Cx p s m args meth c R base sp D cA adV X0 y bytes nL n0 dd al) {rt : Option FieldType} {pc nx a b wi : Nat} {aty : ArrayType} {v : Value} {ls : PL} {r : PS} {h : PH} {n : Int32} (hE : okB y bytes nL rt pc (.newarray aty, nx, a, b, v, wi) = true) (w1 : ¬ n < 0) (w2 : n.toNatClampNeg ≤ 10000) (w3 : alk 1 n.toNatClampNeg al n0 s0 h)
    (w : WW p l e R s m args below meth c base sp D cA n0 s0 al X0 nL Qz nx ls (.ref (hN h) :: r) (puN h a n.toNatClampNeg)) : WW p l e R s m args below meth c base sp D cA n0 s0 al X0 nL Qz pc ls (.int n :: r) h := by
  obtain ⟨hd, hn⟩ := okB.ln hE 1 rfl
  have hn : nx = pc + 2 := hn
  subst hn
  have hk := okB.lk hE
  obtain ⟨hx, hb, hml, hown, hts, hKK, hSP, hs, hnm, hRc, hRs, hRf, hRl, hMW⟩ := id cx
  intro H locs cells slots lsA i1 i2 i3 i4 i5 hP hS hl
  refine W_size fun hsz => ?_
  have hH := size_eq cx i1 hP hS hsz
  obtain ⟨w3, w4⟩ := w3
  have eK : hK (puN h a n.toNatClampNeg) (hN h) = (a, n.toNatClampNeg) := vaUpS (hK h) (hN h) (a, n.toNatClampNeg)
  have eI : hI (puN h a n.toNatClampNeg) (hN h) = fun _ => 0 := vaUpS (hI h) (hN h) (fun _ => 0)
  have eL : hL (puN h a n.toNatClampNeg) (hN h) = fun _ => 0 := vaUpS (hL h) (hN h) (fun _ => 0)
  have fin : ∀ (H1 : Heap), H1.size = base + hN h + 1 → (∀ q, q < base + hN h → H1[q]? = H[q]?) → va_at D vwCl (base + hN h, ent base cA (puN h a n.toNatClampNeg) (hN h)) H1 → W p l e R s m args below meth c H1 locs (cells + 1) (slots + n.toNatClampNeg) Qz (F0 m (pc + 2) lsA (.ref (base + hN h) :: r.map (cv base sp))) := fun H1 z1 o1 hc =>
    w H1 locs (cells + 1) (slots + n.toNatClampNeg) lsA (by show hN h + 1 = _; omega) (by show hSl h + _ = _; omega) (by omega) (by omega) i5 (pic_push hP hH o1 hc) (frame_push hH z1 o1 hS) hl
  cases aty with
  | int =>
    simp only [lkB, Bool.and_eq_true, decide_eq_true_eq] at hk
    obtain ⟨k1, k2⟩ := hk
    subst k1
    refine va_newaK (atype := .int) hx hb (hts _ (twB_in k2)) (g := F0 m pc lsA ((Value.int n :: r).map (cv base sp))) rfl hd rfl w1 rfl (by show n.toNatClampNeg * 4 ≤ _; omega) (by omega) (by omega) hH fun H1 cB e1 z1 o1 hAr hf => fin H1 z1 o1 ?_
    have hr : s.vm.findClass ("[" ++ FieldType.int.toString) = some (cA 0) := (hKK.2 0 (cA 0, .int) rfl).2
    cases hr.symm.trans hf
    rw [ent_int (by rw [eK]), eK, eI]
    exact e1
  | long =>
    simp only [lkB, Bool.and_eq_true, decide_eq_true_eq] at hk
    obtain ⟨k1, k2⟩ := hk
    subst k1
    refine va_newaK (atype := .long) hx hb (hts _ (twB_in k2)) (g := F0 m pc lsA ((Value.int n :: r).map (cv base sp))) rfl hd rfl w1 rfl (by show n.toNatClampNeg * 8 ≤ _; omega) (by omega) (by omega) hH fun H1 cB e1 z1 o1 hAr hf => fin H1 z1 o1 ?_
    have hr : s.vm.findClass ("[" ++ FieldType.long.toString) = some (cA 1) := (hKK.2 1 (cA 1, .long) rfl).2
    cases hr.symm.trans hf
    rw [ent_long (by rw [eK]), eK, eL]
    exact e1
  | boolean =>
    simp only [lkB, Bool.and_eq_true, decide_eq_true_eq] at hk
    obtain ⟨k1, k2⟩ := hk
    subst k1
    refine va_newaK (atype := .boolean) hx hb (hts _ (twB_in k2)) (g := F0 m pc lsA ((Value.int n :: r).map (cv base sp))) rfl hd rfl w1 rfl (by show n.toNatClampNeg * 1 ≤ _; omega) (by omega) (by omega) hH fun H1 cB e1 z1 o1 hAr hf => fin H1 z1 o1 ?_
    have hr : s.vm.findClass ("[" ++ FieldType.boolean.toString) = some (cA 2) := (hKK.2 2 (cA 2, .boolean) rfl).2
    cases hr.symm.trans hf
    rw [ent_bool (by rw [eK]), eK, eI]
    exact e1
  | char => cases hk
  | float => cases hk
  | double => cases hk
  | byte => cases hk
  | short => cases hk
theorem new_refs (cx : Cx p s m args meth c R base sp D cA adV X0 y bytes nL n0 dd al) {rt : Option FieldType} {pc i nx a b wi : Nat} {v : Value} {ls : PL} {r : PS} {h : PH} {n : Int32} (hE : okB y bytes nL rt pc (.anewarray i, nx, a, b, v, wi) = true) (w1 : ¬ n < 0) (w2 : n.toNatClampNeg ≤ 10000) (w3 : alk 1 n.toNatClampNeg al n0 s0 h)
    (w : WW p l e R s m args below meth c base sp D cA n0 s0 al X0 nL Qz nx ls (.ref (hN h) :: r) (puN h a n.toNatClampNeg)) : WW p l e R s m args below meth c base sp D cA n0 s0 al X0 nL Qz pc ls (.int n :: r) h := by
  obtain ⟨hd, hn⟩ := okB.ln hE 2 rfl
  have hn : nx = pc + 3 := hn
  subst hn
  have hk := okB.lk hE
  simp only [lkB, Bool.or_eq_true, Bool.and_eq_true, decide_eq_true_eq] at hk
  obtain ⟨hx, hb, hml, hown, hts, hKK, hSP, hs, hnm, hRc, hRs, hRf, hRl, hMW⟩ := id cx
  intro H locs cells slots lsA i1 i2 i3 i4 i5 hP hS hl
  refine W_size fun hsz => ?_
  have hH := size_eq cx i1 hP hS hsz
  obtain ⟨w3, w4⟩ := w3
  have eK : hK (puN h a n.toNatClampNeg) (hN h) = (a, n.toNatClampNeg) := vaUpS (hK h) (hN h) (a, n.toNatClampNeg)
  have eR : hR (puN h a n.toNatClampNeg) (hN h) = fun _ => none := vaUpS (hR h) (hN h) (fun _ => none)
  have fin : ∀ (cB : ClassId), va_at D vwCl (base + hN h, ent base cA (puN h a n.toNatClampNeg) (hN h)) (H.push ({ cls := cB, slots := Array.replicate n.toNatClampNeg .null, vm := .none } : Cell)) → W p l e R s m args below meth c (H.push ({ cls := cB, slots := Array.replicate n.toNatClampNeg .null, vm := .none } : Cell)) locs (cells + 1) (slots + n.toNatClampNeg) Qz (F0 m (pc + 3) lsA (.ref H.size :: r.map (cv base sp))) := fun cB hc => by
    rw [hH]
    have o1 : ∀ q : Nat, q < base + hN h → (H.push ({ cls := cB, slots := Array.replicate n.toNatClampNeg .null, vm := .none } : Cell))[q]? = H[q]? := fun q hq => by rw [Array.getElem?_push, if_neg (Nat.ne_of_lt (by rw [hH]; exact hq))]
    exact w _ locs (cells + 1) (slots + n.toNatClampNeg) lsA (by show hN h + 1 = _; omega) (by show hSl h + _ = _; omega) (by omega) (by omega) i5 (pic_push hP hH o1 hc) (frame_push hH (by rw [Array.size_push, hH]) o1 hS) hl
  rcases hk with ⟨⟨rfl, k2⟩, k3⟩ | ⟨⟨rfl, k2⟩, k3⟩
  · refine W.anew hx hb hown (hts _ (twB_in k2)) (va_AO.use (hSP.2.2.2.2.2.2.2.2 _ (tw_in k3) rfl)) (g := F0 m pc lsA ((Value.int n :: r).map (cv base sp))) rfl hd rfl w1 (by omega) (by omega) (by omega) fun cB kA comp f1 f2 f3 f4 => fin cB ?_
    obtain ⟨_, _, -, -, -, hr⟩ := (hKK.2 3 (cA 3, .object "StairRods$Text") rfl).2
    cases hr.symm.trans f1
    rw [ent_text (by rw [eK]), eK, eR]
    show (H.push _)[base + hN h]? = some (vp_cell _ _)
    rw [← hH, Array.getElem?_push_size]
    exact congrArg some (arrV_new _ _ _)
  · refine W.anew hx hb hown (hts _ (twB_in k2)) (va_AO.use (hSP.2.2.2.2.2.2.2.2 _ (tw_in k3) rfl)) (g := F0 m pc lsA ((Value.int n :: r).map (cv base sp))) rfl hd rfl w1 (by omega) (by omega) (by omega) fun cB kA comp f1 f2 f3 f4 => fin cB ?_
    obtain ⟨_, _, -, -, -, hr⟩ := (hKK.2 4 (cA 4, .object "StairRods$House") rfl).2
    cases hr.symm.trans f1
    rw [ent_house (by rw [eK]), eK, eR]
    show (H.push _)[base + hN h]? = some (vp_cell _ _)
    rw [← hH, Array.getElem?_push_size]
    exact congrArg some (arrV_new _ _ _)
set_option maxHeartbeats 8000000 in
set_option maxRecDepth 10000 in
theorem step_ok (cx : Cx p s m args meth c R base sp D cA adV X0 y bytes nL n0 dd al) {rt : Option FieldType} {Q : PQ} (hcalls : ∀ k M a h Q', mG k = some M → C k a h Q' → hX h = X0 → MetOf l base sp D cA adV X0 dd k M a h Q') (hspk : ∀ k M a h Q', mG k = some M → M.1.cls = "java/lang/String" → C k a h Q' → ∀ o r, a = .float o :: r → o = 1 ∨ o = 2)
    (hret : ∀ (pc : Nat) (i : Instr) (v : Option Value) (h : PH) (H : Heap) (locs : List Loc) (cells slots : Nat) (lsA : Array Slot), ((i = .ireturn ∧ ∃ x, v = some (.int x) ∧ rok rt x) ∨ (i = .lreturn ∧ ∃ x, v = some (.long x) ∧ rt = some .long) ∨ (i = .areturn ∧ ∃ x, v = some x ∧ isRV x ∧ ∃ t, rt = some t ∧ isRT t = true) ∨ (i = .return_ ∧ v = none ∧ rt = none)) → decode bytes pc = .ok (i, 1) → rfit al n0 s0 h → Q v h → hN h = n0 + cells → hSl h = s0 + slots → cells ≤ al.1 → slots ≤ al.2 → hX h = X0 → va_P D vwCl (wsO base cA h) H → va_S (fun q => base ≤ q) s.heap H locs → W p l e R s m args below meth c H locs cells slots Qz (F0 m pc lsA (v.toList.map (cv base sp))))
    {pc : Nat} {E : PE} (hE : okB y bytes nL rt pc E = true) {ls : PL} {st : PS} {h : PH} (w : wpi C al rt n0 s0 Q (WW p l e R s m args below meth c base sp D cA n0 s0 al X0 nL Qz) E ls st h) : WW p l e R s m args below meth c base sp D cA n0 s0 al X0 nL Qz pc ls st h := by
  obtain ⟨hx, hb, hml, hown, hts, hKK, hSP, hs, hnm, hRc, hRs, hRf, hRl, hMW⟩ := id cx
  have hb0 : sp 0 < s.heap.size := by have := hSP.2.1; omega
  obtain ⟨i, nx, a, b, v, wi⟩ := E
  unfold wpi at w
  dsimp only at w
  split at w
  · -- aconst_null
    obtain ⟨hd, hn⟩ := okB.ln hE 0 rfl
    subst hn
    intro H locs cells slots lsA i1 i2 i3 i4 i5 hP hS hl
    exact lv_null hx hb hd (w H locs cells slots lsA i1 i2 i3 i4 i5 hP hS hl)
  · -- iconst
    obtain ⟨hd, hn⟩ := okB.ln hE 0 rfl
    subst hn
    have hv := of_decide_eq_true (okB.lk hE)
    subst hv
    intro H locs cells slots lsA i1 i2 i3 i4 i5 hP hS hl
    exact lv_iconst hx hb hd rfl (w H locs cells slots lsA i1 i2 i3 i4 i5 hP hS hl)
  · -- bipush
    obtain ⟨hd, hn⟩ := okB.ln hE 1 rfl
    subst hn
    have hv := of_decide_eq_true (okB.lk hE)
    subst hv
    intro H locs cells slots lsA i1 i2 i3 i4 i5 hP hS hl
    exact lv_bipush hx hb hd rfl (w H locs cells slots lsA i1 i2 i3 i4 i5 hP hS hl)
  · -- sipush
    obtain ⟨hd, hn⟩ := okB.ln hE 2 rfl
    subst hn
    have hv := of_decide_eq_true (okB.lk hE)
    subst hv
    intro H locs cells slots lsA i1 i2 i3 i4 i5 hP hS hl
    exact lv_sipush hx hb hd rfl (w H locs cells slots lsA i1 i2 i3 i4 i5 hP hS hl)
  · -- lconst
    obtain ⟨hd, hn⟩ := okB.ln hE 0 rfl
    subst hn
    have hv := of_decide_eq_true (okB.lk hE)
    subst hv
    intro H locs cells slots lsA i1 i2 i3 i4 i5 hP hS hl
    exact lv_lconst hx hb hd rfl (w H locs cells slots lsA i1 i2 i3 i4 i5 hP hS hl)
  · -- ldc
    obtain ⟨hd, hn⟩ := okB.ln hE 1 rfl
    subst hn
    have hk := okB.lk hE
    intro H locs cells slots lsA i1 i2 i3 i4 i5 hP hS hl
    cases v with
    | int x => exact lv_ldc hx hb hown (hts _ (twB_in hk)) hd (w H locs cells slots lsA i1 i2 i3 i4 i5 hP hS hl)
    | float k =>
      have hk : (decide (y.cls = "StairRods$Reader") && (decide (k = 1) && decide (_ = 104) || decide (k = 2) && decide (_ = 116))) = true := hk
      simp only [Bool.and_eq_true, Bool.or_eq_true, decide_eq_true_eq] at hk
      obtain ⟨hy, hk⟩ := hk
      rw [hy] at hown
      rcases hk with ⟨rfl, rfl⟩ | ⟨rfl, rfl⟩
      · exact va_ldcS hx hb hown hSP.2.2.1 hd (w H locs cells slots lsA i1 i2 i3 i4 i5 hP hS hl)
      · exact va_ldcS hx hb hown hSP.2.2.2.1 hd (w H locs cells slots lsA i1 i2 i3 i4 i5 hP hS hl)
    | long z => cases hk
    | null => cases hk
    | double z => cases hk
    | ref z => cases hk
    | retAddr z => cases hk
  · -- ldc_w
    obtain ⟨hd, hn⟩ := okB.ln hE 2 rfl
    subst hn
    have hk := okB.lk hE
    intro H locs cells slots lsA i1 i2 i3 i4 i5 hP hS hl
    cases v with
    | int x => exact lv_ldcw hx hb hown (hts _ (twB_in hk)) hd (w H locs cells slots lsA i1 i2 i3 i4 i5 hP hS hl)
    | long z => cases hk
    | null => cases hk
    | double z => cases hk
    | ref z => cases hk
    | retAddr z => cases hk
    | float z => cases hk
  · -- ldc2_w
    obtain ⟨hd, hn⟩ := okB.ln hE 2 rfl
    subst hn
    have hk := okB.lk hE
    intro H locs cells slots lsA i1 i2 i3 i4 i5 hP hS hl
    cases v with
    | long x => exact lv_ldc2 hx hb hown (hts _ (twB_in hk)) hd (w H locs cells slots lsA i1 i2 i3 i4 i5 hP hS hl)
    | int z => cases hk
    | null => cases hk
    | double z => cases hk
    | ref z => cases hk
    | retAddr z => cases hk
    | float z => cases hk
  · -- iload
    obtain ⟨hd, hn⟩ := okB.ln hE 1 rfl
    subst hn
    replace w := gLoc.ex w
    obtain ⟨u, hm, hp, w⟩ := w
    intro H locs cells slots lsA i1 i2 i3 i4 i5 hP hS hl
    cases u with
    | int x => exact lv_iload hx hb hd (lv_in hl hm) (w H locs cells slots lsA i1 i2 i3 i4 i5 hP hS hl)
    | long z => cases hp
    | null => cases hp
    | double z => cases hp
    | ref z => cases hp
    | retAddr z => cases hp
    | float z => cases hp
  · -- iload_n
    obtain ⟨hd, hn⟩ := okB.ln hE 0 rfl
    subst hn
    replace w := gLoc.ex w
    obtain ⟨u, hm, hp, w⟩ := w
    intro H locs cells slots lsA i1 i2 i3 i4 i5 hP hS hl
    cases u with
    | int x => exact lv_iload_n hx hb hd rfl (lv_in hl hm) (w H locs cells slots lsA i1 i2 i3 i4 i5 hP hS hl)
    | long z => cases hp
    | null => cases hp
    | double z => cases hp
    | ref z => cases hp
    | retAddr z => cases hp
    | float z => cases hp
  · -- lload
    obtain ⟨hd, hn⟩ := okB.ln hE 1 rfl
    subst hn
    replace w := gLoc.ex w
    obtain ⟨u, hm, hp, w⟩ := w
    intro H locs cells slots lsA i1 i2 i3 i4 i5 hP hS hl
    cases u with
    | long x => exact lv_lload hx hb hd (lv_in hl hm) (w H locs cells slots lsA i1 i2 i3 i4 i5 hP hS hl)
    | int z => cases hp
    | null => cases hp
    | double z => cases hp
    | ref z => cases hp
    | retAddr z => cases hp
    | float z => cases hp
  · -- lload_n
    obtain ⟨hd, hn⟩ := okB.ln hE 0 rfl
    subst hn
    replace w := gLoc.ex w
    obtain ⟨u, hm, hp, w⟩ := w
    intro H locs cells slots lsA i1 i2 i3 i4 i5 hP hS hl
    cases u with
    | long x => exact lv_lload_n hx hb hd rfl (lv_in hl hm) (w H locs cells slots lsA i1 i2 i3 i4 i5 hP hS hl)
    | int z => cases hp
    | null => cases hp
    | double z => cases hp
    | ref z => cases hp
    | retAddr z => cases hp
    | float z => cases hp
  · -- aload
    obtain ⟨hd, hn⟩ := okB.ln hE 1 rfl
    subst hn
    replace w := gLoc.ex w
    obtain ⟨u, hm, hp, w⟩ := w
    intro H locs cells slots lsA i1 i2 i3 i4 i5 hP hS hl
    cases u with
    | ref x => exact lv_aload hx hb hd (lv_in hl hm) (w H locs cells slots lsA i1 i2 i3 i4 i5 hP hS hl)
    | float x => exact lv_aload hx hb hd (lv_in hl hm) (w H locs cells slots lsA i1 i2 i3 i4 i5 hP hS hl)
    | null => exact lv_aloadN hx hb hd (lv_in hl hm) (w H locs cells slots lsA i1 i2 i3 i4 i5 hP hS hl)
    | int z => cases hp
    | long z => cases hp
    | double z => cases hp
    | retAddr z => cases hp
  · -- aload_n
    obtain ⟨hd, hn⟩ := okB.ln hE 0 rfl
    subst hn
    replace w := gLoc.ex w
    obtain ⟨u, hm, hp, w⟩ := w
    intro H locs cells slots lsA i1 i2 i3 i4 i5 hP hS hl
    cases u with
    | ref x => exact lv_aload_n hx hb hd rfl (lv_in hl hm) (w H locs cells slots lsA i1 i2 i3 i4 i5 hP hS hl)
    | float x => exact lv_aload_n hx hb hd rfl (lv_in hl hm) (w H locs cells slots lsA i1 i2 i3 i4 i5 hP hS hl)
    | null => exact lv_aload_nN hx hb hd rfl (lv_in hl hm) (w H locs cells slots lsA i1 i2 i3 i4 i5 hP hS hl)
    | int z => cases hp
    | long z => cases hp
    | double z => cases hp
    | retAddr z => cases hp
  · -- istore
    obtain ⟨hd, hn⟩ := okB.ln hE 1 rfl
    subst hn
    replace w := s1i.ex w
    obtain ⟨x, r, rfl, w⟩ := w
    have hi := of_decide_eq_true (okB.lk hE)
    intro H locs cells slots lsA i1 i2 i3 i4 i5 hP hS hl
    exact lv_istore hx hb hd hl hi rfl (fun lsA' hl' => w H locs cells slots lsA' i1 i2 i3 i4 i5 hP hS (lv_to hl' cvl_set1))
  · -- istore_n
    obtain ⟨hd, hn⟩ := okB.ln hE 0 rfl
    subst hn
    replace w := s1i.ex w
    obtain ⟨x, r, rfl, w⟩ := w
    have hi := of_decide_eq_true (okB.lk hE)
    intro H locs cells slots lsA i1 i2 i3 i4 i5 hP hS hl
    exact lv_istore_n hx hb hd rfl hl hi rfl (fun lsA' hl' => w H locs cells slots lsA' i1 i2 i3 i4 i5 hP hS (lv_to hl' cvl_set1))
  · -- lstore
    obtain ⟨hd, hn⟩ := okB.ln hE 1 rfl
    subst hn
    replace w := s1l.ex w
    obtain ⟨x, r, rfl, w⟩ := w
    have hi := of_decide_eq_true (okB.lk hE)
    intro H locs cells slots lsA i1 i2 i3 i4 i5 hP hS hl
    exact lv_lstore hx hb hd hl hi rfl (fun lsA' hl' => w H locs cells slots lsA' i1 i2 i3 i4 i5 hP hS (lv_to hl' cvl_set2))
  · -- lstore_n
    obtain ⟨hd, hn⟩ := okB.ln hE 0 rfl
    subst hn
    replace w := s1l.ex w
    obtain ⟨x, r, rfl, w⟩ := w
    have hi := of_decide_eq_true (okB.lk hE)
    intro H locs cells slots lsA i1 i2 i3 i4 i5 hP hS hl
    exact lv_lstore_n hx hb hd rfl hl hi rfl (fun lsA' hl' => w H locs cells slots lsA' i1 i2 i3 i4 i5 hP hS (lv_to hl' cvl_set2))
  · -- astore
    obtain ⟨hd, hn⟩ := okB.ln hE 1 rfl
    subst hn
    replace w := s1v.ex w
    obtain ⟨u, r, rfl, hp, w⟩ := w
    have hi := of_decide_eq_true (okB.lk hE)
    intro H locs cells slots lsA i1 i2 i3 i4 i5 hP hS hl
    cases u with
    | ref x => exact lv_astore hx hb hd hl hi rfl (fun lsA' hl' => w H locs cells slots lsA' i1 i2 i3 i4 i5 hP hS (lv_to hl' cvl_set1))
    | float x => exact lv_astore hx hb hd hl hi rfl (fun lsA' hl' => w H locs cells slots lsA' i1 i2 i3 i4 i5 hP hS (lv_to hl' cvl_set1))
    | null => exact lv_astoreN hx hb hd hl hi rfl (fun lsA' hl' => w H locs cells slots lsA' i1 i2 i3 i4 i5 hP hS (lv_to hl' cvl_set1))
    | int z => cases hp
    | long z => cases hp
    | double z => cases hp
    | retAddr z => cases hp
  · -- astore_n
    obtain ⟨hd, hn⟩ := okB.ln hE 0 rfl
    subst hn
    replace w := s1v.ex w
    obtain ⟨u, r, rfl, hp, w⟩ := w
    have hi := of_decide_eq_true (okB.lk hE)
    intro H locs cells slots lsA i1 i2 i3 i4 i5 hP hS hl
    cases u with
    | ref x => exact lv_astore_n hx hb hd rfl hl hi rfl (fun lsA' hl' => w H locs cells slots lsA' i1 i2 i3 i4 i5 hP hS (lv_to hl' cvl_set1))
    | float x => exact lv_astore_n hx hb hd rfl hl hi rfl (fun lsA' hl' => w H locs cells slots lsA' i1 i2 i3 i4 i5 hP hS (lv_to hl' cvl_set1))
    | null => exact lv_astore_nN hx hb hd rfl hl hi rfl (fun lsA' hl' => w H locs cells slots lsA' i1 i2 i3 i4 i5 hP hS (lv_to hl' cvl_set1))
    | int z => cases hp
    | long z => cases hp
    | double z => cases hp
    | retAddr z => cases hp
  · -- iinc
    obtain ⟨hd, hn⟩ := okB.ln hE 2 rfl
    subst hn
    replace w := gLoc.ex w
    obtain ⟨u, hm, hp, w⟩ := w
    have hk := okB.lk hE
    simp only [lkB, Bool.and_eq_true, decide_eq_true_eq] at hk
    obtain ⟨hv, hi⟩ := hk
    subst hv
    intro H locs cells slots lsA i1 i2 i3 i4 i5 hP hS hl
    cases u with
    | int x =>
      obtain ⟨kx, hkx⟩ := lv_ix hl hm
      exact lv_iinc hx hb hd hl hkx rfl hi rfl (fun lsA' hl' => w H locs cells slots lsA' i1 i2 i3 i4 i5 hP hS (lv_to hl' cvl_set1))
    | long z => cases hp
    | null => cases hp
    | double z => cases hp
    | ref z => cases hp
    | retAddr z => cases hp
    | float z => cases hp
  · -- iadd
    obtain ⟨hd, hn⟩ := okB.ln hE 0 rfl
    subst hn
    replace w := s2i.ex w
    obtain ⟨x, z, r, rfl, w⟩ := w
    intro H locs cells slots lsA i1 i2 i3 i4 i5 hP hS hl
    exact lv_iadd hx hb hd (w H locs cells slots lsA i1 i2 i3 i4 i5 hP hS hl)
  · -- isub
    obtain ⟨hd, hn⟩ := okB.ln hE 0 rfl
    subst hn
    replace w := s2i.ex w
    obtain ⟨x, z, r, rfl, w⟩ := w
    intro H locs cells slots lsA i1 i2 i3 i4 i5 hP hS hl
    exact lv_isub hx hb hd (w H locs cells slots lsA i1 i2 i3 i4 i5 hP hS hl)
  · -- imul
    obtain ⟨hd, hn⟩ := okB.ln hE 0 rfl
    subst hn
    replace w := s2i.ex w
    obtain ⟨x, z, r, rfl, w⟩ := w
    intro H locs cells slots lsA i1 i2 i3 i4 i5 hP hS hl
    exact lv_imul hx hb hd (w H locs cells slots lsA i1 i2 i3 i4 i5 hP hS hl)
  · -- iand
    obtain ⟨hd, hn⟩ := okB.ln hE 0 rfl
    subst hn
    replace w := s2i.ex w
    obtain ⟨x, z, r, rfl, w⟩ := w
    intro H locs cells slots lsA i1 i2 i3 i4 i5 hP hS hl
    exact lv_iand hx hb hd (w H locs cells slots lsA i1 i2 i3 i4 i5 hP hS hl)
  · -- ior
    obtain ⟨hd, hn⟩ := okB.ln hE 0 rfl
    subst hn
    replace w := s2i.ex w
    obtain ⟨x, z, r, rfl, w⟩ := w
    intro H locs cells slots lsA i1 i2 i3 i4 i5 hP hS hl
    exact lv_ior hx hb hd (w H locs cells slots lsA i1 i2 i3 i4 i5 hP hS hl)
  · -- ixor
    obtain ⟨hd, hn⟩ := okB.ln hE 0 rfl
    subst hn
    replace w := s2i.ex w
    obtain ⟨x, z, r, rfl, w⟩ := w
    intro H locs cells slots lsA i1 i2 i3 i4 i5 hP hS hl
    exact lv_ixor hx hb hd (w H locs cells slots lsA i1 i2 i3 i4 i5 hP hS hl)
  · -- ishl
    obtain ⟨hd, hn⟩ := okB.ln hE 0 rfl
    subst hn
    replace w := s2i.ex w
    obtain ⟨x, z, r, rfl, w⟩ := w
    intro H locs cells slots lsA i1 i2 i3 i4 i5 hP hS hl
    exact lv_ishl hx hb hd (w H locs cells slots lsA i1 i2 i3 i4 i5 hP hS hl)
  · -- ishr
    obtain ⟨hd, hn⟩ := okB.ln hE 0 rfl
    subst hn
    replace w := s2i.ex w
    obtain ⟨x, z, r, rfl, w⟩ := w
    intro H locs cells slots lsA i1 i2 i3 i4 i5 hP hS hl
    exact lv_ishr hx hb hd (w H locs cells slots lsA i1 i2 i3 i4 i5 hP hS hl)
  · -- iushr
    obtain ⟨hd, hn⟩ := okB.ln hE 0 rfl
    subst hn
    replace w := s2i.ex w
    obtain ⟨x, z, r, rfl, w⟩ := w
    intro H locs cells slots lsA i1 i2 i3 i4 i5 hP hS hl
    exact lv_iushr hx hb hd rfl (w H locs cells slots lsA i1 i2 i3 i4 i5 hP hS hl)
  · -- idiv
    obtain ⟨hd, hn⟩ := okB.ln hE 0 rfl
    subst hn
    replace w := s2i.ex w
    obtain ⟨x, z, r, rfl, hz, w⟩ := w
    intro H locs cells slots lsA i1 i2 i3 i4 i5 hP hS hl
    exact lv_idiv hx hb hd hz (w H locs cells slots lsA i1 i2 i3 i4 i5 hP hS hl)
  · -- irem
    obtain ⟨hd, hn⟩ := okB.ln hE 0 rfl
    subst hn
    replace w := s2i.ex w
    obtain ⟨x, z, r, rfl, hz, w⟩ := w
    intro H locs cells slots lsA i1 i2 i3 i4 i5 hP hS hl
    exact lv_irem hx hb hd hz (w H locs cells slots lsA i1 i2 i3 i4 i5 hP hS hl)
  · -- ineg
    obtain ⟨hd, hn⟩ := okB.ln hE 0 rfl
    subst hn
    replace w := s1i.ex w
    obtain ⟨x, r, rfl, w⟩ := w
    intro H locs cells slots lsA i1 i2 i3 i4 i5 hP hS hl
    exact lv_ineg hx hb hd (w H locs cells slots lsA i1 i2 i3 i4 i5 hP hS hl)
  · -- ladd
    obtain ⟨hd, hn⟩ := okB.ln hE 0 rfl
    subst hn
    replace w := s2l.ex w
    obtain ⟨x, z, r, rfl, w⟩ := w
    intro H locs cells slots lsA i1 i2 i3 i4 i5 hP hS hl
    exact lv_ladd hx hb hd (w H locs cells slots lsA i1 i2 i3 i4 i5 hP hS hl)
  · -- lsub
    obtain ⟨hd, hn⟩ := okB.ln hE 0 rfl
    subst hn
    replace w := s2l.ex w
    obtain ⟨x, z, r, rfl, w⟩ := w
    intro H locs cells slots lsA i1 i2 i3 i4 i5 hP hS hl
    exact lv_lsub hx hb hd (w H locs cells slots lsA i1 i2 i3 i4 i5 hP hS hl)
  · -- lmul
    obtain ⟨hd, hn⟩ := okB.ln hE 0 rfl
    subst hn
    replace w := s2l.ex w
    obtain ⟨x, z, r, rfl, w⟩ := w
    intro H locs cells slots lsA i1 i2 i3 i4 i5 hP hS hl
    exact lv_lmul hx hb hd (w H locs cells slots lsA i1 i2 i3 i4 i5 hP hS hl)
  · -- lor
    obtain ⟨hd, hn⟩ := okB.ln hE 0 rfl
    subst hn
    replace w := s2l.ex w
    obtain ⟨x, z, r, rfl, w⟩ := w
    intro H locs cells slots lsA i1 i2 i3 i4 i5 hP hS hl
    exact lv_lor hx hb hd (w H locs cells slots lsA i1 i2 i3 i4 i5 hP hS hl)
  · -- ldiv
    obtain ⟨hd, hn⟩ := okB.ln hE 0 rfl
    subst hn
    replace w := s2l.ex w
    obtain ⟨x, z, r, rfl, hz, w⟩ := w
    intro H locs cells slots lsA i1 i2 i3 i4 i5 hP hS hl
    exact lv_ldiv hx hb hd hz (w H locs cells slots lsA i1 i2 i3 i4 i5 hP hS hl)
  · -- lrem
    obtain ⟨hd, hn⟩ := okB.ln hE 0 rfl
    subst hn
    replace w := s2l.ex w
    obtain ⟨x, z, r, rfl, hz, w⟩ := w
    intro H locs cells slots lsA i1 i2 i3 i4 i5 hP hS hl
    exact lv_lrem hx hb hd hz (w H locs cells slots lsA i1 i2 i3 i4 i5 hP hS hl)
  · -- lneg
    obtain ⟨hd, hn⟩ := okB.ln hE 0 rfl
    subst hn
    replace w := s1l.ex w
    obtain ⟨x, r, rfl, w⟩ := w
    intro H locs cells slots lsA i1 i2 i3 i4 i5 hP hS hl
    exact lv_lneg hx hb hd (w H locs cells slots lsA i1 i2 i3 i4 i5 hP hS hl)
  · -- lshl
    obtain ⟨hd, hn⟩ := okB.ln hE 0 rfl
    subst hn
    replace w := s2q.ex w
    obtain ⟨x, z, r, rfl, w⟩ := w
    intro H locs cells slots lsA i1 i2 i3 i4 i5 hP hS hl
    exact lv_lshl hx hb hd rfl (w H locs cells slots lsA i1 i2 i3 i4 i5 hP hS hl)
  · -- lshr
    obtain ⟨hd, hn⟩ := okB.ln hE 0 rfl
    subst hn
    replace w := s2q.ex w
    obtain ⟨x, z, r, rfl, w⟩ := w
    intro H locs cells slots lsA i1 i2 i3 i4 i5 hP hS hl
    exact lv_lshr hx hb hd rfl (w H locs cells slots lsA i1 i2 i3 i4 i5 hP hS hl)
  · -- lcmp
    obtain ⟨hd, hn⟩ := okB.ln hE 0 rfl
    subst hn
    replace w := s2l.ex w
    obtain ⟨x, z, r, rfl, w⟩ := w
    intro H locs cells slots lsA i1 i2 i3 i4 i5 hP hS hl
    exact W.lcmp hx hb hd (w H locs cells slots lsA i1 i2 i3 i4 i5 hP hS hl)
  · -- i2l
    obtain ⟨hd, hn⟩ := okB.ln hE 0 rfl
    subst hn
    replace w := s1i.ex w
    obtain ⟨x, r, rfl, w⟩ := w
    intro H locs cells slots lsA i1 i2 i3 i4 i5 hP hS hl
    exact lv_i2l hx hb hd rfl (w H locs cells slots lsA i1 i2 i3 i4 i5 hP hS hl)
  · -- l2i
    obtain ⟨hd, hn⟩ := okB.ln hE 0 rfl
    subst hn
    replace w := s1l.ex w
    obtain ⟨x, r, rfl, w⟩ := w
    intro H locs cells slots lsA i1 i2 i3 i4 i5 hP hS hl
    exact lv_l2i hx hb hd rfl (w H locs cells slots lsA i1 i2 i3 i4 i5 hP hS hl)
  · -- dup
    obtain ⟨hd, hn⟩ := okB.ln hE 0 rfl
    subst hn
    replace w := s1v.ex w
    obtain ⟨u, r, rfl, hc, w⟩ := w
    intro H locs cells slots lsA i1 i2 i3 i4 i5 hP hS hl
    exact lv_dup hx hb hd (by rw [cv_cat]; exact hc) (w H locs cells slots lsA i1 i2 i3 i4 i5 hP hS hl)
  · -- dup2
    obtain ⟨hd, hn⟩ := okB.ln hE 0 rfl
    subst hn
    replace w := s2v.ex w
    obtain ⟨u, u2, r, rfl, hc, hc2, w⟩ := w
    intro H locs cells slots lsA i1 i2 i3 i4 i5 hP hS hl
    exact lv_dup2_11 hx hb hd (by rw [cv_cat]; exact hc) (by rw [cv_cat]; exact hc2) (w H locs cells slots lsA i1 i2 i3 i4 i5 hP hS hl)
  · -- pop
    obtain ⟨hd, hn⟩ := okB.ln hE 0 rfl
    subst hn
    replace w := s1v.ex w
    obtain ⟨u, r, rfl, hc, w⟩ := w
    intro H locs cells slots lsA i1 i2 i3 i4 i5 hP hS hl
    exact lv_pop hx hb hd (by rw [cv_cat]; exact hc) (w H locs cells slots lsA i1 i2 i3 i4 i5 hP hS hl)
  · -- goto
    obtain ⟨hd, hn⟩ := okB.ln hE 2 rfl
    subst hn
    have ht := of_decide_eq_true (okB.lk hE)
    intro H locs cells slots lsA i1 i2 i3 i4 i5 hP hS hl
    exact lv_goto hx hb hd ht (w H locs cells slots lsA i1 i2 i3 i4 i5 hP hS hl)
  · -- if_icmp
    rename_i cnd off
    obtain ⟨hd, hn⟩ := okB.ln hE 2 rfl
    subst hn
    replace w := s2i.ex w
    obtain ⟨x, z, r, rfl, w1, w2⟩ := w
    have ht := of_decide_eq_true (okB.lk hE)
    intro H locs cells slots lsA i1 i2 i3 i4 i5 hP hS hl
    cases cnd with
    | eq => exact lv_icmp_eq hx hb hd ht (fun q => w1 q H locs cells slots lsA i1 i2 i3 i4 i5 hP hS hl) (fun q => w2 q H locs cells slots lsA i1 i2 i3 i4 i5 hP hS hl)
    | ne => exact lv_icmp_ne hx hb hd ht (fun q => w1 q H locs cells slots lsA i1 i2 i3 i4 i5 hP hS hl) (fun q => w2 (fun z => z q) H locs cells slots lsA i1 i2 i3 i4 i5 hP hS hl)
    | lt => exact lv_icmp_lt hx hb hd ht (fun q => w1 q H locs cells slots lsA i1 i2 i3 i4 i5 hP hS hl) (fun q => w2 q H locs cells slots lsA i1 i2 i3 i4 i5 hP hS hl)
    | ge => exact lv_icmp_ge hx hb hd ht (fun q => w1 q H locs cells slots lsA i1 i2 i3 i4 i5 hP hS hl) (fun q => w2 q H locs cells slots lsA i1 i2 i3 i4 i5 hP hS hl)
    | gt => exact lv_icmp_gt hx hb hd ht (fun q => w1 q H locs cells slots lsA i1 i2 i3 i4 i5 hP hS hl) (fun q => w2 q H locs cells slots lsA i1 i2 i3 i4 i5 hP hS hl)
    | le => exact lv_icmp_le hx hb hd ht (fun q => w1 q H locs cells slots lsA i1 i2 i3 i4 i5 hP hS hl) (fun q => w2 q H locs cells slots lsA i1 i2 i3 i4 i5 hP hS hl)
  · -- ifCond
    rename_i cnd off
    obtain ⟨hd, hn⟩ := okB.ln hE 2 rfl
    subst hn
    replace w := s1i.ex w
    obtain ⟨x, r, rfl, w1, w2⟩ := w
    have ht := of_decide_eq_true (okB.lk hE)
    intro H locs cells slots lsA i1 i2 i3 i4 i5 hP hS hl
    cases cnd with
    | eq => exact lv_if_eq hx hb hd ht (fun q => w1 q H locs cells slots lsA i1 i2 i3 i4 i5 hP hS hl) (fun q => w2 q H locs cells slots lsA i1 i2 i3 i4 i5 hP hS hl)
    | ne => exact lv_if_ne hx hb hd ht (fun q => w1 q H locs cells slots lsA i1 i2 i3 i4 i5 hP hS hl) (fun q => w2 (fun z => z q) H locs cells slots lsA i1 i2 i3 i4 i5 hP hS hl)
    | lt => exact lv_if_lt hx hb hd ht (fun q => w1 q H locs cells slots lsA i1 i2 i3 i4 i5 hP hS hl) (fun q => w2 q H locs cells slots lsA i1 i2 i3 i4 i5 hP hS hl)
    | ge => exact lv_if_ge hx hb hd ht (fun q => w1 q H locs cells slots lsA i1 i2 i3 i4 i5 hP hS hl) (fun q => w2 q H locs cells slots lsA i1 i2 i3 i4 i5 hP hS hl)
    | gt => exact lv_if_gt hx hb hd ht (fun q => w1 q H locs cells slots lsA i1 i2 i3 i4 i5 hP hS hl) (fun q => w2 q H locs cells slots lsA i1 i2 i3 i4 i5 hP hS hl)
    | le => exact lv_if_le hx hb hd ht (fun q => w1 q H locs cells slots lsA i1 i2 i3 i4 i5 hP hS hl) (fun q => w2 q H locs cells slots lsA i1 i2 i3 i4 i5 hP hS hl)
  · -- ifnull
    obtain ⟨hd, hn⟩ := okB.ln hE 2 rfl
    subst hn
    replace w := s1v.ex w
    obtain ⟨u, r, rfl, w⟩ := w
    have ht := of_decide_eq_true (okB.lk hE)
    intro H locs cells slots lsA i1 i2 i3 i4 i5 hP hS hl
    cases u with
    | ref x => exact lv_ifnull hx hb hd (w H locs cells slots lsA i1 i2 i3 i4 i5 hP hS hl)
    | null => exact lv_ifnullN hx hb hd ht (w H locs cells slots lsA i1 i2 i3 i4 i5 hP hS hl)
    | int z => cases w
    | long z => cases w
    | double z => cases w
    | retAddr z => cases w
    | float z => cases w
  · -- ifnonnull
    obtain ⟨hd, hn⟩ := okB.ln hE 2 rfl
    subst hn
    replace w := s1v.ex w
    obtain ⟨u, r, rfl, w⟩ := w
    have ht := of_decide_eq_true (okB.lk hE)
    intro H locs cells slots lsA i1 i2 i3 i4 i5 hP hS hl
    cases u with
    | ref x => exact lv_ifnonnull hx hb hd ht (w H locs cells slots lsA i1 i2 i3 i4 i5 hP hS hl)
    | null => exact lv_ifnonnullN hx hb hd (w H locs cells slots lsA i1 i2 i3 i4 i5 hP hS hl)
    | int z => cases w
    | long z => cases w
    | double z => cases w
    | retAddr z => cases w
    | float z => cases w
  · -- tableswitch
    rename_i d lo hi os
    replace w := s1i.ex w
    obtain ⟨x, r, rfl, w1, w2⟩ := w
    have hk := okB.lk hE
    have hd := okB.dec hE
    simp only [lkB, Bool.and_eq_true, decide_eq_true_eq, List.all_eq_true] at hk
    obtain ⟨⟨⟨ha, h0⟩, hall⟩, hlen⟩ := hk
    try dsimp only at ha
    subst ha
    intro H locs cells slots lsA i1 i2 i3 i4 i5 hP hS hl
    by_cases q : x.toInt < lo ∨ hi < x.toInt
    · exact lv_tableOut hx hb hd q (tgo_eq h0) (w1 q H locs cells slots lsA i1 i2 i3 i4 i5 hP hS hl)
    · have q1 : ¬ x.toInt < lo := fun z => q (Or.inl z)
      have q2 : ¬ hi < x.toInt := fun z => q (Or.inr z)
      have hj : (x.toInt - lo).toNat < os.toList.length := by omega
      have ho : os.toList[(x.toInt - lo).toNat]? = some (os.toList[(x.toInt - lo).toNat]'hj) := List.getElem?_eq_getElem hj
      have hp := hall _ (List.getElem_mem hj)
      exact lv_tableIn hx hb hd q1 q2 (by rw [← Array.getElem?_toList]; exact ho) (tgo_eq hp) (tsw.at w2 _ _ ho (by omega) H locs cells slots lsA i1 i2 i3 i4 i5 hP hS hl)
  · -- lookupswitch
    rename_i d ps
    replace w := s1i.ex w
    obtain ⟨x, r, rfl, w⟩ := w
    have hk := okB.lk hE
    have hd := okB.dec hE
    simp only [lkB, Bool.and_eq_true, decide_eq_true_eq] at hk
    obtain ⟨⟨⟨ha, h0⟩, hall⟩, hso⟩ := hk
    try dsimp only at ha
    subst ha
    simp only [List.all_eq_true, decide_eq_true_eq] at hall
    intro H locs cells slots lsA i1 i2 i3 i4 i5 hP hS hl
    refine lv_lookup hx hb hd hso rfl (tgo_eq ?_) (lsw.at w H locs cells slots lsA i1 i2 i3 i4 i5 hP hS hl)
    rcases lof_in (os := ps.toList) (d := d) (x := x.toInt) with q | ⟨z, q1, q2⟩
    · rw [q]; exact h0
    · rw [q2]; exact hall z q1
  · -- getfield
    obtain ⟨hd, hn⟩ := okB.ln hE 2 rfl
    subst hn
    replace w := s1r.ex w
    obtain ⟨o, r, rfl, ho, hk, w⟩ := w
    obtain ⟨f1, f2, f3, f4⟩ := flB.ex (okB.lk hE)
    obtain ⟨C', T, g1, g2, g3, g4, -, -⟩ := cl_in f1
    intro H locs cells slots lsA i1 i2 i3 i4 i5 hP hS hl
    exact va_get (C := C') (T := T) (N := fN a) hx hb hts g2 hown hKK hP o ((wsO_get ho).trans (by rw [ent_obj hk f1])) g1 b f2 (hts _ (f3 _ _ _ g1)) (fun _ h => h) (fvs_get f2) hd (by rw [fvp_cv f4]; exact w H locs cells slots lsA i1 i2 i3 i4 i5 hP hS hl)
  · -- putfield
    obtain ⟨hd, hn⟩ := okB.ln hE 2 rfl
    subst hn
    have hk := okB.lk hE
    simp only [lkB, Bool.and_eq_true] at hk
    obtain ⟨hk1, hk2⟩ := hk
    try dsimp only at w
    cases v with
    | int z =>
      replace w := sir.ex w
      obtain ⟨x, o, r, rfl, ho, hk, hz, w⟩ := w
      obtain ⟨f1, f2, f3, f4⟩ := flB.ex hk1
      obtain ⟨C', T, g1, g2, g3, g4, -, -⟩ := cl_in f1
      have hty : tyO a b = .int ∨ tyO a b = .boolean := by
        unfold fkd at f4
        try dsimp only at f4
        by_cases q : z = 0
        · rw [if_pos q] at f4; exact Or.inl f4
        · rw [if_neg q] at f4; exact Or.inr f4
      have ht1 : narrow (tyO a b) (.int x) = .int x := by
        unfold fkd at f4
        try dsimp only at f4
        by_cases q : z = 0
        · rw [if_pos q] at f4; rw [f4]; rfl
        · rw [if_neg q] at f4; rw [f4]; exact nar_b (hz.resolve_left q)
      have ht2 : fits (tyO a b) (.int x) = true := by
        unfold fkd at f4
        try dsimp only at f4
        by_cases q : z = 0
        · rw [if_pos q] at f4; rw [f4]; rfl
        · rw [if_neg q] at f4; rw [f4]; exact fit_b (hz.resolve_left q)
      intro H locs cells slots lsA i1 i2 i3 i4 i5 hP hS hl
      by_cases hfn : (T b).2.2.2 = true
      · have hf := hk2
        unfold fnB at hf
        rw [g1] at hf
        simp only [hfn, Bool.not_true, Bool.false_or, Bool.and_eq_true, decide_eq_true_eq] at hf
        refine va_putF (C := C') (T := T) (N := fN a) hx hb hts g2 (tyO a) g3 g4 hown hKK hP wsO_D hS o ((wsO_get ho).trans (by rw [ent_obj hk f1])) g1 b f2 (hts _ (f3 _ _ _ g1)) (fun _ h => h) hfn (hnm hf.1) hf.2 (g3 b f2) ht1 ht2 (by rw [fvs_len]; exact f2) hd (fun H1 locs1 hP1 hD1 hS1 => ?_)
        have hP2 : va_P D vwCl ((wsO base cA h).set o (base + o, .inr (a, (fvs base h a o).set b (.int x)))) H1 := hP1
        rw [puI_ws (base := base) (cA := cA) (h := h) (ent_puI hk f1 hty)] at hP2
        exact w H1 locs1 cells slots lsA i1 i2 i3 i4 i5 hP2 hS1 hl
      · refine va_put (C := C') (T := T) (N := fN a) hx hb hts g2 (tyO a) g3 g4 hown hKK hP wsO_D hS o ((wsO_get ho).trans (by rw [ent_obj hk f1])) g1 b f2 (hts _ (f3 _ _ _ g1)) (fun _ h => h) (by simpa using hfn) (g3 b f2) ht1 ht2 (by rw [fvs_len]; exact f2) hd (fun H1 locs1 hP1 hD1 hS1 => ?_)
        have hP2 : va_P D vwCl ((wsO base cA h).set o (base + o, .inr (a, (fvs base h a o).set b (.int x)))) H1 := hP1
        rw [puI_ws (base := base) (cA := cA) (h := h) (ent_puI hk f1 hty)] at hP2
        exact w H1 locs1 cells slots lsA i1 i2 i3 i4 i5 hP2 hS1 hl
    | long z =>
      replace w := slr.ex w
      obtain ⟨x, o, r, rfl, ho, hk, w⟩ := w
      obtain ⟨f1, f2, f3, f4⟩ := flB.ex hk1
      obtain ⟨C', T, g1, g2, g3, g4, -, -⟩ := cl_in f1
      have ht1 : narrow (tyO a b) (.long x) = .long x := by rw [f4]; rfl
      have ht2 : fits (tyO a b) (.long x) = true := by rw [f4]; rfl
      intro H locs cells slots lsA i1 i2 i3 i4 i5 hP hS hl
      by_cases hfn : (T b).2.2.2 = true
      · have hf := hk2
        unfold fnB at hf
        rw [g1] at hf
        simp only [hfn, Bool.not_true, Bool.false_or, Bool.and_eq_true, decide_eq_true_eq] at hf
        refine va_putF (C := C') (T := T) (N := fN a) hx hb hts g2 (tyO a) g3 g4 hown hKK hP wsO_D hS o ((wsO_get ho).trans (by rw [ent_obj hk f1])) g1 b f2 (hts _ (f3 _ _ _ g1)) (fun _ h => h) hfn (hnm hf.1) hf.2 (g3 b f2) ht1 ht2 (by rw [fvs_len]; exact f2) hd (fun H1 locs1 hP1 hD1 hS1 => ?_)
        have hP2 : va_P D vwCl ((wsO base cA h).set o (base + o, .inr (a, (fvs base h a o).set b (.long x)))) H1 := hP1
        rw [puL_ws (base := base) (cA := cA) (h := h) (ent_puL hk f1 f4)] at hP2
        exact w H1 locs1 cells slots lsA i1 i2 i3 i4 i5 hP2 hS1 hl
      · refine va_put (C := C') (T := T) (N := fN a) hx hb hts g2 (tyO a) g3 g4 hown hKK hP wsO_D hS o ((wsO_get ho).trans (by rw [ent_obj hk f1])) g1 b f2 (hts _ (f3 _ _ _ g1)) (fun _ h => h) (by simpa using hfn) (g3 b f2) ht1 ht2 (by rw [fvs_len]; exact f2) hd (fun H1 locs1 hP1 hD1 hS1 => ?_)
        have hP2 : va_P D vwCl ((wsO base cA h).set o (base + o, .inr (a, (fvs base h a o).set b (.long x)))) H1 := hP1
        rw [puL_ws (base := base) (cA := cA) (h := h) (ent_puL hk f1 f4)] at hP2
        exact w H1 locs1 cells slots lsA i1 i2 i3 i4 i5 hP2 hS1 hl
    | null =>
      replace w := srr.ex w
      obtain ⟨x, o, r, rfl, ho, hk, w⟩ := w
      obtain ⟨f1, f2, f3, f4⟩ := flB.ex hk1
      obtain ⟨C', T, g1, g2, g3, g4, -, -⟩ := cl_in f1
      have ht1 : narrow (tyO a b) (.ref (base + x)) = .ref (base + x) := by cases e : tyO a b <;> rfl
      have ht2 : fits (tyO a b) (.ref (base + x)) = true := by
        unfold fkd at f4
        try dsimp only at f4
        cases e : tyO a b <;> rw [e] at f4 <;> first | rfl | cases f4
      intro H locs cells slots lsA i1 i2 i3 i4 i5 hP hS hl
      by_cases hfn : (T b).2.2.2 = true
      · have hf := hk2
        unfold fnB at hf
        rw [g1] at hf
        simp only [hfn, Bool.not_true, Bool.false_or, Bool.and_eq_true, decide_eq_true_eq] at hf
        refine va_putF (C := C') (T := T) (N := fN a) hx hb hts g2 (tyO a) g3 g4 hown hKK hP wsO_D hS o ((wsO_get ho).trans (by rw [ent_obj hk f1])) g1 b f2 (hts _ (f3 _ _ _ g1)) (fun _ h => h) hfn (hnm hf.1) hf.2 (g3 b f2) ht1 ht2 (by rw [fvs_len]; exact f2) hd (fun H1 locs1 hP1 hD1 hS1 => ?_)
        have hP2 : va_P D vwCl ((wsO base cA h).set o (base + o, .inr (a, (fvs base h a o).set b (.ref (base + x))))) H1 := hP1
        rw [puR_ws (base := base) (cA := cA) (h := h) (ent_puR hk f1 f4)] at hP2
        exact w H1 locs1 cells slots lsA i1 i2 i3 i4 i5 hP2 hS1 hl
      · refine va_put (C := C') (T := T) (N := fN a) hx hb hts g2 (tyO a) g3 g4 hown hKK hP wsO_D hS o ((wsO_get ho).trans (by rw [ent_obj hk f1])) g1 b f2 (hts _ (f3 _ _ _ g1)) (fun _ h => h) (by simpa using hfn) (g3 b f2) ht1 ht2 (by rw [fvs_len]; exact f2) hd (fun H1 locs1 hP1 hD1 hS1 => ?_)
        have hP2 : va_P D vwCl ((wsO base cA h).set o (base + o, .inr (a, (fvs base h a o).set b (.ref (base + x))))) H1 := hP1
        rw [puR_ws (base := base) (cA := cA) (h := h) (ent_puR hk f1 f4)] at hP2
        exact w H1 locs1 cells slots lsA i1 i2 i3 i4 i5 hP2 hS1 hl
    | float z => cases (flB.ex hk1).2.2.2
    | double z => cases (flB.ex hk1).2.2.2
    | ref z => cases (flB.ex hk1).2.2.2
    | retAddr z => cases (flB.ex hk1).2.2.2
  · -- iaload
    obtain ⟨hd, hn⟩ := okB.ln hE 0 rfl
    subst hn
    replace w := s2v.ex w
    obtain ⟨u, u2, r, rfl, w⟩ := w
    intro H locs cells slots lsA i1 i2 i3 i4 i5 hP hS hl
    split at w
    · rename_i j o
      obtain ⟨ho, hk, hj, w⟩ := w
      exact va_iald hx hb hKK hP o 0 ((wsO_get ho).trans (by rw [ent_int hk])) rfl hj hd (w H locs cells slots lsA i1 i2 i3 i4 i5 hP hS hl)
    · rename_i j f
      obtain ⟨hf, hj, w⟩ := w
      subst hf
      rw [i5] at hj w
      exact va_sld hx hb hSP.1 hb0 (Nat.not_le.mpr hSP.2.1) hS hj hd (w H locs cells slots lsA i1 i2 i3 i4 i5 hP hS hl)
    · cases w
  · -- laload
    obtain ⟨hd, hn⟩ := okB.ln hE 0 rfl
    subst hn
    replace w := sir.ex w
    obtain ⟨j, o, r, rfl, ho, hk, hj, w⟩ := w
    intro H locs cells slots lsA i1 i2 i3 i4 i5 hP hS hl
    exact va_lald hx hb hKK hP o 1 ((wsO_get ho).trans (by rw [ent_long hk])) rfl hj hd (w H locs cells slots lsA i1 i2 i3 i4 i5 hP hS hl)
  · -- baload
    obtain ⟨hd, hn⟩ := okB.ln hE 0 rfl
    subst hn
    replace w := sir.ex w
    obtain ⟨j, o, r, rfl, ho, hk, hj, w⟩ := w
    intro H locs cells slots lsA i1 i2 i3 i4 i5 hP hS hl
    exact va_zald hx hb hKK hP o 2 ((wsO_get ho).trans (by rw [ent_bool hk])) rfl hj hd (w H locs cells slots lsA i1 i2 i3 i4 i5 hP hS hl)
  · -- aaload
    obtain ⟨hd, hn⟩ := okB.ln hE 0 rfl
    subst hn
    replace w := sir.ex w
    obtain ⟨j, o, r, rfl, ho, hk, hj, w⟩ := w
    have hq := okB.lk hE
    simp only [lkB, Bool.or_eq_true, decide_eq_true_eq] at hq
    intro H locs cells slots lsA i1 i2 i3 i4 i5 hP hS hl
    try dsimp only at hk
    rcases hq with rfl | rfl
    · exact va_aldq hx hb hKK hP o 3 ((wsO_get ho).trans (by rw [ent_text hk])) rfl hj hd (by rw [cv_rfp (sp := sp)]; exact w H locs cells slots lsA i1 i2 i3 i4 i5 hP hS hl)
    · exact va_aldq hx hb hKK hP o 4 ((wsO_get ho).trans (by rw [ent_house hk])) rfl hj hd (by rw [cv_rfp (sp := sp)]; exact w H locs cells slots lsA i1 i2 i3 i4 i5 hP hS hl)
  · -- iastore
    obtain ⟨hd, hn⟩ := okB.ln hE 0 rfl
    subst hn
    replace w := siir.ex w
    obtain ⟨x, j, o, r, rfl, ho, hk, hj, w⟩ := w
    intro H locs cells slots lsA i1 i2 i3 i4 i5 hP hS hl
    refine va_iast hx hb hKK hP wsO_D hS o 0 ((wsO_get ho).trans (by rw [ent_int hk])) rfl hj hd (fun H1 locs1 hP1 hD1 hS1 => ?_)
    rw [puI_ws (o := o) (k := j.toNatClampNeg) (x := x) (by refine (ent_int (h := puI h o j.toNatClampNeg x) hk).trans ?_; show Sum.inl (_, _, Sum.inl (va_up (hI h) o (upd (hI h o) j.toNatClampNeg x) o)) = _; rw [vaUpS])] at hP1
    exact w H1 locs1 cells slots lsA i1 i2 i3 i4 i5 hP1 hS1 hl
  · -- lastore
    obtain ⟨hd, hn⟩ := okB.ln hE 0 rfl
    subst hn
    replace w := slir.ex w
    obtain ⟨x, j, o, r, rfl, ho, hk, hj, w⟩ := w
    intro H locs cells slots lsA i1 i2 i3 i4 i5 hP hS hl
    refine va_last hx hb hKK hP wsO_D hS o 1 ((wsO_get ho).trans (by rw [ent_long hk])) rfl hj hd (fun H1 locs1 hP1 hD1 hS1 => ?_)
    rw [puL_ws (o := o) (k := j.toNatClampNeg) (x := x) (by refine (ent_long (h := puL h o j.toNatClampNeg x) hk).trans ?_; show Sum.inl (_, _, Sum.inr (Sum.inl (va_up (hL h) o (vp_updL (hL h o) j.toNatClampNeg x) o))) = _; rw [vaUpS])] at hP1
    exact w H1 locs1 cells slots lsA i1 i2 i3 i4 i5 hP1 hS1 hl
  · -- bastore
    obtain ⟨hd, hn⟩ := okB.ln hE 0 rfl
    subst hn
    replace w := siir.ex w
    obtain ⟨x, j, o, r, rfl, ho, hk, hj, hb1, w⟩ := w
    intro H locs cells slots lsA i1 i2 i3 i4 i5 hP hS hl
    refine va_zast hx hb hKK hP wsO_D hS o 2 ((wsO_get ho).trans (by rw [ent_bool hk])) rfl hj hd (fun H1 locs1 hP1 hD1 hS1 => ?_)
    have hnb : vp_nar .boolean x = x := by rcases hb1 with rfl | rfl <;> rfl
    rw [hnb, puI_ws (o := o) (k := j.toNatClampNeg) (x := x) (by refine (ent_bool (h := puI h o j.toNatClampNeg x) hk).trans ?_; show Sum.inl (_, _, Sum.inl (va_up (hI h) o (upd (hI h o) j.toNatClampNeg x) o)) = _; rw [vaUpS])] at hP1
    exact w H1 locs1 cells slots lsA i1 i2 i3 i4 i5 hP1 hS1 hl
  · -- aastore
    obtain ⟨hd, hn⟩ := okB.ln hE 0 rfl
    subst hn
    replace w := srir.ex w
    obtain ⟨x, j, o, r, rfl, ho, hk, hj, hx1, hx2, w⟩ := w
    have hq := okB.lk hE
    simp only [lkB, Bool.or_eq_true, Bool.and_eq_true, decide_eq_true_eq] at hq
    intro H locs cells slots lsA i1 i2 i3 i4 i5 hP hS hl
    try dsimp only at hk hx2
    rcases hq with ⟨rfl, rfl⟩ | ⟨rfl, rfl⟩
    · refine va_astq (r := (RX7, TX7, 9)) hx hb hKK hP wsO_D hS o 3 x 7 ((wsO_get ho).trans (by rw [ent_text hk])) rfl ((wsO_get hx1).trans (by rw [ent_obj hx2 (by decide)])) rfl hj hd (fun H1 locs1 hP1 hD1 hS1 => ?_)
      rw [puR_ws (o := o) (k := j.toNatClampNeg) (x := some x) (by
        refine (ent_text (h := puR h o j.toNatClampNeg (some x)) hk).trans ?_
        congr 7
        funext z
        show Option.map (base + ·) (sR (hR h) o j.toNatClampNeg (some x) o z) = _
        by_cases e : z = j.toNatClampNeg
        · rw [e, sR_eq, vaUpS]; rfl
        · rw [sR_ne _ _ _ e, vaUpN _ _ e])] at hP1
      exact w H1 locs1 cells slots lsA i1 i2 i3 i4 i5 hP1 hS1 hl
    · refine va_astq (r := (RX1, TX1, 8)) hx hb hKK hP wsO_D hS o 4 x 1 ((wsO_get ho).trans (by rw [ent_house hk])) rfl ((wsO_get hx1).trans (by rw [ent_obj hx2 (by decide)])) rfl hj hd (fun H1 locs1 hP1 hD1 hS1 => ?_)
      rw [puR_ws (o := o) (k := j.toNatClampNeg) (x := some x) (by
        refine (ent_house (h := puR h o j.toNatClampNeg (some x)) hk).trans ?_
        congr 7
        funext z
        show Option.map (base + ·) (sR (hR h) o j.toNatClampNeg (some x) o z) = _
        by_cases e : z = j.toNatClampNeg
        · rw [e, sR_eq, vaUpS]; rfl
        · rw [sR_ne _ _ _ e, vaUpN _ _ e])] at hP1
      exact w H1 locs1 cells slots lsA i1 i2 i3 i4 i5 hP1 hS1 hl
  · -- arraylength
    obtain ⟨hd, hn⟩ := okB.ln hE 0 rfl
    subst hn
    replace w := s1v.ex w
    obtain ⟨u, r, rfl, w⟩ := w
    intro H locs cells slots lsA i1 i2 i3 i4 i5 hP hS hl
    split at w
    · rename_i o
      obtain ⟨ho, hk, hk2, w⟩ := w
      rcases (show (hK h o).1 = 10 ∨ (hK h o).1 = 11 ∨ (hK h o).1 = 12 ∨ (hK h o).1 = 13 ∨ (hK h o).1 = 14 by omega) with q | q | q | q | q
      · exact va_alen (v := Int32.ofNat (hK h o).2) hx hb hKK hP o 0 ((wsO_get ho).trans (by rw [ent_int q])) rfl rfl hd (w H locs cells slots lsA i1 i2 i3 i4 i5 hP hS hl)
      · exact va_alen (v := Int32.ofNat (hK h o).2) hx hb hKK hP o 1 ((wsO_get ho).trans (by rw [ent_long q])) rfl rfl hd (w H locs cells slots lsA i1 i2 i3 i4 i5 hP hS hl)
      · exact va_alen (v := Int32.ofNat (hK h o).2) hx hb hKK hP o 2 ((wsO_get ho).trans (by rw [ent_bool q])) rfl rfl hd (w H locs cells slots lsA i1 i2 i3 i4 i5 hP hS hl)
      · exact va_alen (v := Int32.ofNat (hK h o).2) hx hb hKK hP o 3 ((wsO_get ho).trans (by rw [ent_text q])) rfl rfl hd (w H locs cells slots lsA i1 i2 i3 i4 i5 hP hS hl)
      · exact va_alen (v := Int32.ofNat (hK h o).2) hx hb hKK hP o 4 ((wsO_get ho).trans (by rw [ent_house q])) rfl rfl hd (w H locs cells slots lsA i1 i2 i3 i4 i5 hP hS hl)
    · rename_i f
      obtain ⟨hf, w⟩ := w
      subst hf
      rw [i5] at w
      exact va_slen hx hb hSP.1 hb0 (Nat.not_le.mpr hSP.2.1) hS hd (w H locs cells slots lsA i1 i2 i3 i4 i5 hP hS hl)
    · cases w
  · -- new
    exact new_obj cx hE w.1 w.2
  · -- newarray
    replace w := s1i.ex w
    obtain ⟨n, r, rfl, w1, w2, w3, w⟩ := w
    exact new_arr cx hE w1 w2 w3 w
  · -- anewarray
    replace w := s1i.ex w
    obtain ⟨n, r, rfl, w1, w2, w3, w⟩ := w
    exact new_refs cx hE w1 w2 w3 w
  · -- invokestatic
    obtain ⟨hd, hn⟩ := okB.ln hE 2 rfl
    subst hn
    have hk := okB.lk hE
    try dsimp only at w
    cases v with
    | float z =>
      replace w := scpy.ex w
      obtain ⟨n, dp, q1, sq, q0, r, rfl, h1, h2, h3, h4, h5, h6, h7, h8, h9, h10, w⟩ := w
      intro H locs cells slots lsA i1 i2 i3 i4 i5 hP hS hl
      refine va_copyi hx hb (by rw [hml]; exact hl.1.symm) hown (hts _ (twB_in hk)) (hts _ (gd_in (i := 3092) (by decide +kernel) rfl)) (hts _ (gd_in (i := 3091) (by decide +kernel) rfl)) (hts _ (gd_in (i := 1017) (by decide +kernel) rfl)) hKK hP wsO_D hS q0 q1 0 0 ((wsO_get h1).trans (by rw [ent_int h3])) ((wsO_get h2).trans (by rw [ent_int h4])) rfl rfl rfl h5 h6 h7 h8 h9 (fun _ _ => rfl) (by omega) (by rw [csum_cv]; show csum r + (7 + 11) ≤ R.locals; omega) hd (fun H1 locs1 hP1 hD1 hS1 => ?_)
      rw [puA_ws (o := q1) (f := va_cpy (hI h q0) (hI h q1) sq.toNatClampNeg dp.toNatClampNeg n.toNatClampNeg) (by refine (ent_int (h := puA h q1 (va_cpy (hI h q0) (hI h q1) sq.toNatClampNeg dp.toNatClampNeg n.toNatClampNeg)) h4).trans ?_; show Sum.inl (_, _, Sum.inl (va_up (hI h) q1 _ q1)) = _; rw [vaUpS])] at hP1
      exact w H1 locs1 cells slots lsA i1 i2 i3 i4 i5 hP1 hS1 hl
    | null =>
      simp only [lkB, Bool.and_eq_true, decide_eq_true_eq] at hk
      exact call_static cx hcalls hk.1.1 hk.1.2 (fun M hM => Or.inl (by have := hk.2; unfold mkB at this; rw [hM] at this; exact twB_in this)) hd w
    | double z =>
      simp only [lkB, Bool.and_eq_true, decide_eq_true_eq] at hk
      exact call_static cx hcalls hk.1.1 hk.1.2 (fun M hM => Or.inr (by have := hk.2; unfold mkB at this; rw [hM] at this; exact tw_in (of_decide_eq_true this))) hd w
    | int z => cases hk
    | long z => cases hk
    | ref z => cases hk
    | retAddr z => cases hk
  · -- invokevirtual
    obtain ⟨hd, hn⟩ := okB.ln hE 2 rfl
    subst hn
    have hk := okB.lk hE
    try dsimp only at w
    cases v with
    | ref ci =>
      simp only [lkB, Bool.and_eq_true, decide_eq_true_eq] at hk
      obtain ⟨⟨⟨k1, k2⟩, k3⟩, k4⟩ := hk
      have hci : ci < 10 := by
        unfold mkB at k4
        split at k4
        · simp only [Bool.and_eq_true] at k4
          have k5 := k4.2
          split at k5
          · rename_i q hq
            exact (List.getElem?_eq_some_iff.mp hq).1
          · cases k5
        · cases k4
      refine call_virtual cx hcalls k1 k3 (fun M hM => ?_) hci hd w.1 w.2
      unfold mkB at k4
      rw [hM] at k4
      simp only [Bool.and_eq_true] at k4
      refine ⟨twB_in k4.1, ?_⟩
      have k5 := k4.2
      split at k5
      · rename_i q hq
        exact ⟨q, hq, of_decide_eq_true k5⟩
      · cases k5
    | float z =>
      simp only [lkB, Bool.and_eq_true, decide_eq_true_eq] at hk
      obtain ⟨⟨⟨k1, k2⟩, k3⟩, k4⟩ := hk
      have k5 : ∀ M, mG a = some M → Cond.methodLink y.cls _ M.1 ∈ gd_tbl ∧ M.1.cls = "java/lang/String" := fun M hM => by
        have k4 := k4
        unfold mkB at k4
        rw [hM] at k4
        simp only [Bool.and_eq_true, decide_eq_true_eq] at k4
        exact ⟨twB_in k4.1, k4.2⟩
      obtain ⟨M, hM, -⟩ := cwB.ex hMW k3
      exact call_text cx hcalls k1 k3 k5 (fun a h Q' q o r e => hspk _ _ _ _ _ hM (k5 M hM).2 q o r e) hd w.1 w.2
    | int z => cases hk
    | long z => cases hk
    | double z => cases hk
    | null => cases hk
    | retAddr z => cases hk
  · -- invokespecial
    obtain ⟨hd, hn⟩ := okB.ln hE 2 rfl
    subst hn
    have hk := okB.lk hE
    try dsimp only at w
    cases v with
    | float z =>
      replace w := s1r.ex w
      obtain ⟨o, r, rfl, hcs, w⟩ := w
      intro H locs cells slots lsA i1 i2 i3 i4 i5 hP hS hl
      exact W.objInit hx hb hown (hts _ (twB_in hk)) (hts _ (gd_in (i := 1025) (by decide +kernel) rfl)) (hts _ (gd_in (i := 1026) (by decide +kernel) (by decide +kernel))) rfl (by rw [hml]; exact hl.1) rfl hd (by omega) (by have := lv_room (m := m) (pc := pc) (ls := lsA) (rest := (Value.ref o :: r).map (cv base sp)) (st := r.map (cv base sp)) (by rw [csum_cv]; exact hcs); omega) (w H locs cells slots lsA i1 i2 i3 i4 i5 hP hS hl)
    | ref z =>
      simp only [lkB, Bool.and_eq_true, decide_eq_true_eq] at hk
      obtain ⟨⟨k2, k3⟩, k4⟩ := hk
      exact call_init cx hcalls w.2.1 k3 (fun M hM => (by have := k4; unfold mkB at this; rw [hM] at this; exact twB_in this)) hd w.1 w.2.2
    | int z => cases hk
    | long z => cases hk
    | double z => cases hk
    | null => cases hk
    | retAddr z => cases hk
  · -- ireturn
    obtain ⟨hd, hn⟩ := okB.ln hE 0 rfl
    subst hn
    split at w
    · rename_i z
      intro H locs cells slots lsA i1 i2 i3 i4 i5 hP hS hl
      exact hret pc .ireturn (some (.int z)) h H locs cells slots lsA (Or.inl ⟨rfl, z, rfl, w.1⟩) hd w.2.1 w.2.2 i1 i2 i3 i4 i5 hP hS
    · cases w
  · -- lreturn
    obtain ⟨hd, hn⟩ := okB.ln hE 0 rfl
    subst hn
    split at w
    · rename_i z
      intro H locs cells slots lsA i1 i2 i3 i4 i5 hP hS hl
      exact hret pc .lreturn (some (.long z)) h H locs cells slots lsA (Or.inr (Or.inl ⟨rfl, z, rfl, w.1⟩)) hd w.2.1 w.2.2 i1 i2 i3 i4 i5 hP hS
    · cases w
  · -- areturn
    obtain ⟨hd, hn⟩ := okB.ln hE 0 rfl
    subst hn
    have hk := okB.lk hE
    split at w
    · rename_i z
      intro H locs cells slots lsA i1 i2 i3 i4 i5 hP hS hl
      refine hret pc .areturn (some z) h H locs cells slots lsA (Or.inr (Or.inr (Or.inl ⟨rfl, z, rfl, w.1, ?_⟩))) hd w.2.1 w.2.2 i1 i2 i3 i4 i5 hP hS
      cases rt with
      | none => cases hk
      | some t => exact ⟨t, rfl, hk⟩
    · cases w
  · -- return_
    obtain ⟨hd, hn⟩ := okB.ln hE 0 rfl
    subst hn
    split at w
    · intro H locs cells slots lsA i1 i2 i3 i4 i5 hP hS hl
      exact hret pc .return_ none h H locs cells slots lsA (Or.inr (Or.inr (Or.inr ⟨rfl, rfl, w.1⟩))) hd w.2.1 w.2.2 i1 i2 i3 i4 i5 hP hS
    · cases w
  · cases w
end PM
