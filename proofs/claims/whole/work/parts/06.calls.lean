/-! calls: what comes before and behind one -/
theorem isN_warm {w : Cond} (hn : isN w = true) {s U : State} (hW : s.WarmedH U.vm) (h : va_Nw w s) : va_Nw w U := by
  unfold isN at hn
  split at hn
  · exact h.warmM hW
  · exact va_AO.moved hW.alike h
  · cases hn
theorem isN_same {w : Cond} (hn : isN w = true) {U : State} {g : JFrame} {mk : MethodId} {a : Array Value} (h : va_Nw w U) : va_Nw w (U.calling g mk a) := by
  unfold isN at hn
  split at hn
  · exact h.same rfl rfl
  · exact va_AO.moved (u := U) (Vm.Alike.refl U.vm) h
  · cases hn
theorem SPX.to {base : Nat} {sp : UInt32 → Nat} {X0 : Nat × (Nat → Int32)} {adV : Nat → Nat} {s U : State} {H : Heap} {locs : List Loc} (h : SPX base sp X0 adV s s.heap) (hW : s.WarmedH U.vm) (hb : base ≤ s.heap.size) (hS : va_S (fun q => base ≤ q) s.heap H locs) : SPX base sp X0 adV U H := by
  obtain ⟨h1, h2, h3, h4, h5, h6, h7, h8, h9⟩ := h
  refine ⟨(h1.moved hW.alike).kept (hS.2.1 _ (Nat.lt_of_lt_of_le h2 hb) (Nat.not_le.mpr h2)), h2, h3.warm hW, h4.warm hW, (h5.moved hW.alike).kept hS.2.1, (h6.moved hW.alike).kept hS.2.1, (h7.moved hW.alike).kept hS.2.1, fun q hq => Nat.lt_of_lt_of_le (h8 q hq) hS.1, fun w hw hn => isN_warm hn hW (h9 w hw hn)⟩
theorem SPX.calling {base : Nat} {sp : UInt32 → Nat} {X0 : Nat × (Nat → Int32)} {adV : Nat → Nat} {U : State} {g : JFrame} {mk : MethodId} {a : Array Value} (h : SPX base sp X0 adV U U.heap) : SPX base sp X0 adV (U.calling g mk a) (U.calling g mk a).heap := by
  obtain ⟨h1, h2, h3, h4, h5, h6, h7, h8, h9⟩ := h
  exact ⟨va_X.moved (u := U) (Vm.Alike.refl U.vm) h1, h2, vk_R.same (u := U) rfl h3, vk_R.same (u := U) rfl h4, vk_S.moved (u := U) (Vm.Alike.refl U.vm) h5, va_Z.moved (u := U) (Vm.Alike.refl U.vm) h6, va_Zq.moved (u := U) (Vm.Alike.refl U.vm) h7, h8, fun w hw hn => isN_same hn (h9 w hw hn)⟩
theorem PU.blind {base : Nat} {sp : UInt32 → Nat} {D : va_G} {cA : Nat → ClassId} {X0 : Nat × (Nat → Int32)} {adV : Nat → Nat} {h : PH} {av : List Value} : FrameBlind (va_Pc av (PU base sp D cA adV X0 h)) :=
  fun a U g mk q => ⟨q.1, q.2.1, q.2.2.1, va_K.moved (u := U) (U := U.calling g mk a) (Vm.Alike.refl U.vm) q.2.2.2.1, q.2.2.2.2.calling⟩
section PM
variable {p : Program} {l : Launch} {e : Env} {R : Room} {s : State} {m : MethodId} {args : Array Value} {below : List Frame} {meth : Method} {c : Code} {H : Heap} {locs : List Loc} {cells slots : Nat} {Qz : State → Prop}
variable {base : Nat} {sp : UInt32 → Nat} {D : va_G} {cA : Nat → ClassId} {adV : Nat → Nat} {X0 : Nat × (Nat → Int32)}
theorem W_size {g : JFrame} (kk : H.size ≤ s.heap.size + cells → W p l e R s m args below meth c H locs cells slots Qz g) : W p l e R s m args below meth c H locs cells slots Qz g := by
  intro T hT X
  exact kk (by have := X.heapSize; rw [hT] at this; exact this) T hT X
theorem pic_le {h : PH} (hP : va_P D vwCl (wsO base cA h) H) (hb : base ≤ H.size) : base + hN h ≤ H.size := by
  rcases Nat.eq_zero_or_pos (hN h) with h0 | h0
  · omega
  · have := (hP (hN h - 1) _ (wsO_get (by omega))).lt
    dsimp only at this
    omega
theorem pm_after {mc ms pc : Nat} {lsA : Array Slot} {st0 rest : List Value} {h : PH} {Q : PQ} {a : Array Value} (hr : va_Run p l e R s m args below meth c H locs cells slots mc ms (F0 m pc lsA st0) rest (QU base sp D cA X0 mc ms h Q a) (fun q => base ≤ q)) (hS : va_S (fun q => base ≤ q) s.heap H locs)
    (kk : ∀ (r : Option Value) (h' : PH) (H1 : Heap) (locs1 : List Loc), Q r h' → hN h' = hN h + mc → hSl h' = hSl h + ms → hX h' = X0 → va_P D vwCl (wsO base cA h') H1 → va_S (fun q => base ≤ q) s.heap H1 locs1 → W p l e R s m args below meth c H1 locs1 (cells + mc) (slots + ms) Qz (F0 m (pc + 3) lsA ((r.map (cv base sp)).toList ++ rest))) :
    W p l e R s m args below meth c H locs cells slots Qz (F0 m pc lsA st0) := by
  intro T hT X
  obtain ⟨v, st₀, t, T', L, h0, X', hL, e1, e2, ⟨⟨r, h', hv, hq, q1, q2, q3, q4⟩, hz, hk⟩, st⟩ := hr T hT X
  cases hv
  rw [h0] at hz hk
  obtain ⟨t2, a1, b1⟩ := kk r h' T'.heap (locs ++ L) hq q1 q2 q3 (by rw [e1]; exact q4)
    ⟨Nat.le_trans hS.1 (by rw [e1]; exact hz), fun q h1 h2 => by rw [e1, hk q (Nat.lt_of_lt_of_le h1 hS.1) h2]; exact hS.2.1 q h1 h2, fun q hq => by
      rcases List.mem_append.mp hq with h | h
      · exact hS.2.2 q h
      · exact hL q h⟩ T' rfl X'
  exact ⟨t2, st t2 a1, b1⟩
/-- the facts of a called method -/
theorem cwB.ex (hall : ∀ k M, mG k = some M → k ≠ m_L_law → mW M = true ∧ Cond.code M.1 M.2.1 M.2.2.1 M.2.2.2.1 ∈ gd_tbl) {k kd n : Nat} (h : cwB k kd n = true) : ∃ M, mG k = some M ∧ M.2.2.2.2.2.1 = kd ∧ Cond.code M.1 M.2.1 M.2.2.1 M.2.2.2.1 ∈ gd_tbl ∧ (kd = 0 → Cond.static M.1 ∈ gd_tbl) ∧ (kd = 1 → Cond.instanceMethod M.1 ∈ gd_tbl ∧ Cond.selects M.1.cls M.1 M.1 ∈ gd_tbl) ∧ (kd = 2 → Cond.instanceMethod M.1 ∈ gd_tbl ∧ M.1.name = "<init>" ∧ M.2.2.2.1 = none) ∧ Cond.initialized M.1.cls ∈ gd_tbl ∧
    (M.1.cls ≠ "java/lang/invoke/MethodHandle" ∧ M.1.cls ≠ "java/lang/invoke/VarHandle" ∧ (parseMethodDescriptor M.1.desc).map (fun d => d.parameters.length) = some n) ∧ M.2.2.1 ≤ 40 := by
  unfold cwB at h
  rw [Bool.and_eq_true] at h
  obtain ⟨hl, h⟩ := h
  have hl : k ≠ m_L_law := by
    intro e
    rw [e] at hl
    revert hl
    decide
  split at h
  · rename_i M hM
    simp only [Bool.and_eq_true] at h
    obtain ⟨h1, h2⟩ := h
    have h1 := Nat.eq_of_beq_eq_true h1
    have h2 := Nat.eq_of_beq_eq_true h2
    obtain ⟨hw, h3⟩ := hall k M hM hl
    unfold mW at hw
    simp only [Bool.and_eq_true, decide_eq_true_eq] at hw
    obtain ⟨⟨⟨⟨⟨h4, h5⟩, h6⟩, h7⟩, h8⟩, h9⟩ := hw
    rw [h1] at h4
    refine ⟨M, hM, h1, h3, ?_, ?_, ?_, twB_in h5, ⟨h6, h7, by rw [← h2]; exact h8⟩, Nat.le_of_ble_eq_true h9⟩
    · rintro rfl
      exact twB_in h4
    · rintro rfl
      simp only [Bool.and_eq_true] at h4
      exact ⟨twB_in h4.1, twB_in h4.2⟩
    · rintro rfl
      simp only [Bool.and_eq_true, decide_eq_true_eq] at h4
      exact ⟨twB_in h4.1.1, h4.1.2, h4.2⟩
  · cases h
theorem stk {st : PS} {b : Nat} : st.map (cv base sp) = ((st.take b).reverse.map (cv base sp)).reverse ++ (st.drop b).map (cv base sp) := by
  rw [← List.map_reverse, List.reverse_reverse, ← List.map_append, List.take_append_drop]
theorem csum_cv {st : PS} : ((st.map (cv base sp)).map fun v => v.category).sum = csum st := by
  unfold csum
  rw [List.map_map]
  congr 1
  apply List.map_congr_left
  intro v _
  exact cv_cat v
theorem toL {r : Option Value} {rest : PS} : (r.map (cv base sp)).toList ++ rest.map (cv base sp) = (r.toList ++ rest).map (cv base sp) := by
  cases r <;> simp
variable {y : MethodName} {bytes : ByteArray} {nL n0 s0 dd : Nat} {al : Nat × Nat} {C : PCall}
/-- behind a call -/
theorem call_end {mc ms pc b : Nat} {lsA : Array Slot} {ls : PL} {st : PS} {h : PH} {a : Array Value} (hr : va_Run p l e R s m args below meth c H locs cells slots mc ms (F0 m pc lsA (st.map (cv base sp))) ((st.drop b).map (cv base sp)) (QU base sp D cA X0 mc ms h (fun r h1 => WW p l e R s m args below meth c base sp D cA n0 s0 al X0 nL Qz (pc + 3) ls (r.toList ++ st.drop b) h1) a) (fun q => base ≤ q)) (hS : va_S (fun q => base ≤ q) s.heap H locs)
    (i1 : hN h = n0 + cells) (i2 : hSl h = s0 + slots) (i3 : cells + mc ≤ al.1) (i4 : slots + ms ≤ al.2) (hl : lv_has lsA nL (cvl base sp ls)) : W p l e R s m args below meth c H locs cells slots Qz (F0 m pc lsA (st.map (cv base sp))) := by
  refine pm_after hr hS fun r h' H1 locs1 hq q1 q2 q3 hP1 hS1 => ?_
  rw [toL]
  exact hq H1 locs1 (cells + mc) (slots + ms) lsA (by omega) (by omega) i3 i4 q3 hP1 hS1 hl
theorem code_good {M : PMr} (hcode : Cond.code M.1 M.2.1 M.2.2.1 M.2.2.2.1 ∈ gd_tbl) : GoodIn gd_tbl (Cond.code M.1 M.2.1 M.2.2.1 M.2.2.2.1 :: gd_tbl) := fun w hw => (List.mem_cons.mp hw).elim (fun e => e ▸ gd_good _ hcode) (gd_good w)
theorem stk_len {st : PS} {b : Nat} (h : b ≤ st.length) : (((st.take b).reverse).map (cv base sp)).length = b := by rw [List.length_map, List.length_reverse, List.length_take]; omega
/-- the world at a call is what the callee asks -/
theorem pu_at (cx : Cx p s m args meth c R base sp D cA adV X0 y bytes nL n0 dd al) {h : PH} (i1 : hN h = n0 + cells) (hP : va_P D vwCl (wsO base cA h) H) (hS : va_S (fun q => base ≤ q) s.heap H locs) (hsz : H.size ≤ s.heap.size + cells) {U : State} (hU : U.heap = H) (hW : s.WarmedH U.vm) : PU base sp D cA adV X0 h U := by
  obtain ⟨hx, hb, hml, hown, hts, hK, hSP, hs, hnm, hRc, hRs, hRf, hRl, hMW⟩ := cx
  have hbs : base ≤ s.heap.size := by omega
  refine ⟨?_, by rw [hU]; exact hP, va_K.moved hW.alike hK, by rw [hU]; exact hSP.to hW hbs hS⟩
  rw [hU]
  have := pic_le hP (Nat.le_trans hbs hS.1)
  omega
theorem call_static (cx : Cx p s m args meth c R base sp D cA adV X0 y bytes nL n0 dd al) {k i b : Nat} (hcalls : ∀ k M a h Q', mG k = some M → C k a h Q' → hX h = X0 → MetOf l base sp D cA adV X0 dd k M a h Q') {pc : Nat} {ls : PL} {st : PS} {h : PH}
    (hmc : mcs k = (0, 0)) (hcw : cwB k 0 b = true) (hlk : ∀ M, mG k = some M → Cond.methodLink y.cls i M.1 ∈ gd_tbl ∨ Cond.methodLinkNest y.cls i M.1 "StairRods" ∈ lw_tbl) (hd : decode bytes pc = .ok (.invokestatic i, 3))
    (w : cal C (WW p l e R s m args below meth c base sp D cA n0 s0 al X0 nL Qz) k b (pc + 3) ls st h) : WW p l e R s m args below meth c base sp D cA n0 s0 al X0 nL Qz pc ls st h := by
  intro H locs cells slots lsA i1 i2 i3 i4 i5 hP hS hl
  obtain ⟨wl, wc, w⟩ := w
  obtain ⟨M, hM, hkd, hcode, hst, hvi, hsi, hini, hds, hmL⟩ := cwB.ex cx.2.2.2.2.2.2.2.2.2.2.2.2.2 hcw
  refine W_size fun hsz => ?_
  have hMet := hcalls k M _ h _ hM w i5
  unfold MetOf at hMet
  rw [hmc] at hMet
  obtain ⟨hx, hb, hml, hown, hts, hK, hSP, hs, hnm, hRc, hRs, hRf, hRl, hMW⟩ := id cx
  have hRm : dd + 1 ≤ R.frames ∧ 8 + (M.2.2.1 + 11) + dd * 80 ≤ R.locals := ⟨hRf, by omega⟩
  have hpre : PreS s H (va_Pc (((st.take b).reverse).map (cv base sp)) (PU base sp D cA adV X0 h)) (((st.take b).reverse).map (cv base sp)) := ⟨PU.blind, fun U hU hW => ⟨rfl, pu_at cx i1 hP hS hsz hU hW⟩⟩
  rcases hlk M hM with hlink | hlink
  · exact call_end (va_runS ⟨hx, hb, hml, hown, hts⟩ hMet ⟨callB_of b hts (code_good hcode) rfl rfl rfl (hts _ hini) (hts _ hlink) hds hRm, hts _ (hst rfl)⟩ hpre rfl (stk_len wl) hl.1 stk (lv_room (by rw [csum_cv]; exact wc)) hd ⟨by omega, by omega⟩) hS i1 i2 i3 i4 hl
  · exact call_end (va_runSN ⟨hx, hb, hml, hown, hts⟩ hMet ⟨va_cnB b hts (code_good hcode) rfl rfl rfl (hSP.2.2.2.2.2.2.2.2 _ hlink rfl) (hts _ hini) hds hRm, hts _ (hst rfl), trivial⟩ hpre rfl (stk_len wl) hl.1 stk (lv_room (by rw [csum_cv]; exact wc)) hd ⟨by omega, by omega⟩) hS i1 i2 i3 i4 hl
theorem rcv.ex {st : PS} {b ci : Nat} {h : PH} (w : rcv st b ci h) : ∃ o r, (st.take b).reverse = .ref o :: r ∧ o < hN h ∧ (hK h o).1 = ci := by
  unfold rcv at w
  split at w
  · rename_i o r e
    exact ⟨o, r, e, w⟩
  · cases w
theorem rrf.ex {st : PS} {b : Nat} (w : rrf st b) : ∃ o r, (st.take b).reverse = .ref o :: r := by
  unfold rrf at w
  split at w
  · rename_i o r e
    exact ⟨o, r, e⟩
  · cases w
theorem rsp.ex {st : PS} {b : Nat} (w : rsp st b) : ∃ o r, (st.take b).reverse = .float o :: r := by
  unfold rsp at w
  split at w
  · rename_i o r e
    exact ⟨o, r, e⟩
  · cases w
theorem stk1 {st : PS} {b : Nat} {v : Value} {r : List Value} (e : (st.take b).reverse = v :: r) : st.map (cv base sp) = (r.map (cv base sp)).reverse ++ cv base sp v :: (st.drop b).map (cv base sp) := by
  rw [stk (b := b), e]
  simp
theorem stk1_len {st : PS} {b : Nat} {v : Value} {r : List Value} (e : (st.take b).reverse = v :: r) (h : b ≤ st.length) : (r.map (cv base sp)).length = b - 1 := by
  have h1 := congrArg List.length e
  rw [List.length_reverse, List.length_take, List.length_cons] at h1
  rw [List.length_map]
  omega
theorem call_virtual (cx : Cx p s m args meth c R base sp D cA adV X0 y bytes nL n0 dd al) {k i b ci : Nat} (hcalls : ∀ k M a h Q', mG k = some M → C k a h Q' → hX h = X0 → MetOf l base sp D cA adV X0 dd k M a h Q') {pc : Nat} {ls : PL} {st : PS} {h : PH}
    (hmc : mcs k = (0, 0)) (hcw : cwB k 1 (b - 1) = true) (hlk : ∀ M, mG k = some M → Cond.methodLink y.cls i M.1 ∈ gd_tbl ∧ ∃ q, vwCl[ci]? = some q ∧ q.1 = M.1.cls) (hci : ci < 10) (hd : decode bytes pc = .ok (.invokevirtual i, 3))
    (hv : rcv st b ci h) (w : cal C (WW p l e R s m args below meth c base sp D cA n0 s0 al X0 nL Qz) k b (pc + 3) ls st h) : WW p l e R s m args below meth c base sp D cA n0 s0 al X0 nL Qz pc ls st h := by
  obtain ⟨o, r, hrv, ho, hk⟩ := rcv.ex hv
  intro H locs cells slots lsA i1 i2 i3 i4 i5 hP hS hl
  obtain ⟨wl, wc, w⟩ := w
  obtain ⟨M, hM, hkd, hcode, hst, hvi, hsi, hini, hds, hmL⟩ := cwB.ex cx.2.2.2.2.2.2.2.2.2.2.2.2.2 hcw
  refine W_size fun hsz => ?_
  have hMet := hcalls k M _ h _ hM w i5
  unfold MetOf at hMet
  rw [hmc, hrv] at hMet
  obtain ⟨hx, hb, hml, hown, hts, hK, hSP, hs, hnm, hRc, hRs, hRf, hRl, hMW⟩ := id cx
  have hRm : dd + 1 ≤ R.frames ∧ 8 + (M.2.2.1 + 11) + dd * 80 ≤ R.locals := ⟨hRf, by omega⟩
  obtain ⟨hlink, q, hq, hqc⟩ := hlk M hM
  have hrec := va_recv hK hP hq ((wsO_get ho).trans (by rw [ent_obj hk hci]))
  rw [hqc] at hrec
  have hpre : PreV s H M.1.cls (base + o) (va_Pc ((Value.ref o :: r).map (cv base sp)) (PU base sp D cA adV X0 h)) (r.map (cv base sp)) := ⟨PU.blind, hrec, fun U hU hW => ⟨rfl, pu_at cx i1 hP hS hsz hU hW⟩⟩
  exact call_end (va_runV ⟨hx, hb, hml, hown, hts⟩ hMet ⟨callB_of (b - 1) hts (code_good hcode) rfl rfl rfl (hts _ hini) (hts _ hlink) hds hRm, hts _ (hvi rfl).1, hts _ (hvi rfl).2⟩ hpre rfl (stk1_len hrv wl) hl.1 (stk1 hrv) (lv_room (by rw [csum_cv]; exact wc)) hd ⟨by omega, by omega⟩) hS i1 i2 i3 i4 hl
theorem call_text (cx : Cx p s m args meth c R base sp D cA adV X0 y bytes nL n0 dd al) {k i b : Nat} (hcalls : ∀ k M a h Q', mG k = some M → C k a h Q' → hX h = X0 → MetOf l base sp D cA adV X0 dd k M a h Q') {pc : Nat} {ls : PL} {st : PS} {h : PH}
    (hmc : mcs k = (0, 0)) (hcw : cwB k 1 (b - 1) = true) (hlk : ∀ M, mG k = some M → Cond.methodLink y.cls i M.1 ∈ gd_tbl ∧ M.1.cls = "java/lang/String") (hspk : ∀ a h Q', C k a h Q' → ∀ o r, a = .float o :: r → o = 1 ∨ o = 2) (hd : decode bytes pc = .ok (.invokevirtual i, 3))
    (hv : rsp st b) (w : cal C (WW p l e R s m args below meth c base sp D cA n0 s0 al X0 nL Qz) k b (pc + 3) ls st h) : WW p l e R s m args below meth c base sp D cA n0 s0 al X0 nL Qz pc ls st h := by
  obtain ⟨o, r, hrv⟩ := rsp.ex hv
  have ho := hspk _ _ _ w.2.2 o r hrv
  intro H locs cells slots lsA i1 i2 i3 i4 i5 hP hS hl
  obtain ⟨wl, wc, w⟩ := w
  obtain ⟨M, hM, hkd, hcode, hst, hvi, hsi, hini, hds, hmL⟩ := cwB.ex cx.2.2.2.2.2.2.2.2.2.2.2.2.2 hcw
  refine W_size fun hsz => ?_
  have hMet := hcalls k M _ h _ hM w i5
  unfold MetOf at hMet
  rw [hmc, hrv] at hMet
  obtain ⟨hx, hb, hml, hown, hts, hK, hSP, hs, hnm, hRc, hRs, hRf, hRl, hMW⟩ := id cx
  have hRm : dd + 1 ≤ R.frames ∧ 8 + (M.2.2.1 + 11) + dd * 80 ≤ R.locals := ⟨hRf, by omega⟩
  obtain ⟨hlink, hqc⟩ := hlk M hM
  have hrec : ∃ cellB : Cell, H[sp o]? = some cellB ∧ cellB.vm.isStatics = false ∧ s.vm.findClass M.1.cls = some cellB.cls := by
    rw [hqc]
    rcases ho with rfl | rfl
    · exact vk_recv (i := 0) hSP.2.2.2.2.1 (by decide) hS
    · exact vk_recv (i := 1) hSP.2.2.2.2.1 (by decide) hS
  have hpre : PreV s H M.1.cls (sp o) (va_Pc ((Value.float o :: r).map (cv base sp)) (PU base sp D cA adV X0 h)) (r.map (cv base sp)) := ⟨PU.blind, hrec, fun U hU hW => ⟨rfl, pu_at cx i1 hP hS hsz hU hW⟩⟩
  exact call_end (va_runV ⟨hx, hb, hml, hown, hts⟩ hMet ⟨callB_of (b - 1) hts (code_good hcode) rfl rfl rfl (hts _ hini) (hts _ hlink) hds hRm, hts _ (hvi rfl).1, hts _ (hvi rfl).2⟩ hpre rfl (stk1_len hrv wl) hl.1 (stk1 hrv) (lv_room (by rw [csum_cv]; exact wc)) hd ⟨by omega, by omega⟩) hS i1 i2 i3 i4 hl
theorem call_init (cx : Cx p s m args meth c R base sp D cA adV X0 y bytes nL n0 dd al) {k i b : Nat} (hcalls : ∀ k M a h Q', mG k = some M → C k a h Q' → hX h = X0 → MetOf l base sp D cA adV X0 dd k M a h Q') {pc : Nat} {ls : PL} {st : PS} {h : PH}
    (hmc : alk (mcs k).1 (mcs k).2 al n0 s0 h) (hcw : cwB k 2 (b - 1) = true) (hlk : ∀ M, mG k = some M → Cond.methodLink y.cls i M.1 ∈ gd_tbl) (hd : decode bytes pc = .ok (.invokespecial i, 3))
    (hv : rrf st b) (w : cal C (WW p l e R s m args below meth c base sp D cA n0 s0 al X0 nL Qz) k b (pc + 3) ls st h) : WW p l e R s m args below meth c base sp D cA n0 s0 al X0 nL Qz pc ls st h := by
  obtain ⟨o, r, hrv⟩ := rrf.ex hv
  intro H locs cells slots lsA i1 i2 i3 i4 i5 hP hS hl
  obtain ⟨wl, wc, w⟩ := w
  obtain ⟨M, hM, hkd, hcode, hst, hvi, hsi, hini, hds, hmL⟩ := cwB.ex cx.2.2.2.2.2.2.2.2.2.2.2.2.2 hcw
  refine W_size fun hsz => ?_
  have hMet := hcalls k M _ h _ hM w i5
  unfold MetOf at hMet
  rw [hrv] at hMet
  obtain ⟨hx, hb, hml, hown, hts, hK, hSP, hs, hnm, hRc, hRs, hRf, hRl, hMW⟩ := id cx
  have hRm : dd + 1 ≤ R.frames ∧ 8 + (M.2.2.1 + 11) + dd * 80 ≤ R.locals := ⟨hRf, by omega⟩
  have hlink := hlk M hM
  have hrn := (hsi rfl).2.2
  obtain ⟨hm1, hm2⟩ := hmc
  have hpre : PreS s H (va_Pc ((Value.ref o :: r).map (cv base sp)) (PU base sp D cA adV X0 h)) (.ref (base + o) :: r.map (cv base sp)) := ⟨PU.blind, fun U hU hW => ⟨rfl, pu_at cx i1 hP hS hsz hU hW⟩⟩
  have hcode' : GoodIn gd_tbl (Cond.code M.1 M.2.1 M.2.2.1 none :: gd_tbl) := by have := code_good hcode; rw [hrn] at this; exact this
  rw [hrn] at hMet
  exact call_end (va_runI ⟨hx, hb, hml, hown, hts⟩ hMet ⟨callB_of (b - 1) hts hcode' rfl rfl rfl (hts _ hini) (hts _ hlink) hds hRm, (hsi rfl).2.1, hts _ (hsi rfl).1⟩ hpre rfl (stk1_len hrv wl) hl.1 (stk1 hrv) (lv_room (by rw [csum_cv]; exact wc)) hd ⟨by omega, by omega⟩) hS i1 i2 (by omega) (by omega) hl
end PM
