/-! code of a law: what a piece of it does, class and model -/
def XRun (op ar : Nat → Int32) (nn : Nat) (z : Nat → Nat) (cu : Int32) (p q d : Nat) (v : Int32) : Prop :=
  ∀ (fu o : Nat) (x2 x3 : Int32) (to t s : Nat) (I : TI) (L : TL), o + 5 < 319 → (∀ k, p ≤ k → k < q → I (o + 4) k = op k ∧ I (o + 5) k = ar k) → (∀ k, k < nn → I 321 k = nI (z k)) → I 319 2 = cu → q ≤ to → to ≤ 300 → t + d < 80 → s + (q - p) ≤ 300 →
  ∃ (c : Nat) (I' : TI), c ≤ q - p ∧ (∀ o', o' ≠ 320 → I' o' = I o') ∧ (∀ k, k < t → I' 320 k = I 320 k) ∧ I' 320 t = v ∧
    ∀ f, LO_W_says_40 fu o (f + c) x2 x3 (nI p) (nI to) (nI t) (nI s) I L = LO_W_says_40 fu o f x2 x3 (nI q) (nI to) (nI (t + 1)) (nI (s + c)) I' L
def MRun (mc : Nat → Int32) (nn : Nat) (z : Nat → Nat) (cu : Int32) (i j : Nat) (v : Int64) : Prop :=
  ∀ (fu : Nat) (x1 x2 : Int32) (xx b e n m : Nat) (I : TI) (L : TL), MC I xx b e → (∀ k, i ≤ k → k < j → I 334 (b + 2 * k) = mc (2 * k) ∧ I 334 (b + 2 * k + 1) = mc (2 * k + 1)) → (∀ k, k < nn → I 337 k = nI (z k)) → I 332 10 = cu → j ≤ e → n + (j - i) ≤ 330 → m + (j - i) ≤ 330 →
  ∃ (I' : TI) (L' : TL), (∀ o, o ≠ 339 → I' o = I o) ∧ (∀ k, k < m → I' 339 k = I 339 k) ∧ (∀ o, o ≠ 338 → L' o = L o) ∧ (∀ k, k < n → L' 338 k = L 338 k) ∧ L' 338 n = v ∧
    ∀ f, LO_M_summedUp_38 fu (f + (j - i)) x1 x2 (nI xx) (nI b) (nI n) (nI m) (nI i) I L = LO_M_summedUp_38 fu f x1 x2 (nI xx) (nI b) (nI (n + 1)) (nI m) (nI j) I' L'
def MRunB (mc : Nat → Int32) (nn : Nat) (z : Nat → Nat) (cu : Int32) (i j : Nat) (v : Bool) : Prop :=
  ∀ (fu : Nat) (x1 x2 : Int32) (xx b e n m : Nat) (I : TI) (L : TL), MC I xx b e → (∀ k, i ≤ k → k < j → I 334 (b + 2 * k) = mc (2 * k) ∧ I 334 (b + 2 * k + 1) = mc (2 * k + 1)) → (∀ k, k < nn → I 337 k = nI (z k)) → I 332 10 = cu → j ≤ e → n + (j - i) ≤ 330 → m + (j - i) ≤ 330 →
  ∃ (I' : TI) (L' : TL), (∀ o, o ≠ 339 → I' o = I o) ∧ (∀ k, k < m → I' 339 k = I 339 k) ∧ (∀ o, o ≠ 338 → L' o = L o) ∧ (∀ k, k < n → L' 338 k = L 338 k) ∧ I' 339 m = tB v ∧
    ∀ f, LO_M_summedUp_38 fu (f + (j - i)) x1 x2 (nI xx) (nI b) (nI n) (nI m) (nI i) I L = LO_M_summedUp_38 fu f x1 x2 (nI xx) (nI b) (nI n) (nI (m + 1)) (nI j) I' L'
/-- a piece that counts a number -/
def Seg (nn : Nat) (op ar mc : Nat → Int32) (p q i j d : Nat) : Prop :=
  p < q ∧ i < j ∧ ∀ (z : Nat → Nat) (cu : Int32), (∀ k, k < nn → z k ≤ 9999) → ∃ v, bz v ∧ XRun op ar nn z cu p q d (iZ v) ∧ MRun mc nn z cu i j (lZ v)
/-- a piece that asks -/
def SegB (nn : Nat) (op ar mc : Nat → Int32) (p q i j d : Nat) : Prop :=
  p < q ∧ i < j ∧ ∀ (z : Nat → Nat) (cu : Int32), (∀ k, k < nn → z k ≤ 9999) → ∃ v, XRun op ar nn z cu p q d (tB v) ∧ MRunB mc nn z cu i j v
theorem XRun.cg {op ar op' ar' : Nat → Int32} {nn : Nat} {z : Nat → Nat} {cu : Int32} {p q d d' : Nat} {v : Int32} (h : XRun op ar nn z cu p q d v) (e : ∀ k, p ≤ k → k < q → op' k = op k ∧ ar' k = ar k) (hd : d ≤ d') : XRun op' ar' nn z cu p q d' v := by
  intro fu o x2 x3 to t s I L ho hc hz hu h1 h2 h3 h4
  exact h fu o x2 x3 to t s I L ho (fun k a b => ⟨(hc k a b).1.trans (e k a b).1, (hc k a b).2.trans (e k a b).2⟩) hz hu h1 h2 (by omega) h4
theorem MRun.cg {mc mc' : Nat → Int32} {nn : Nat} {z : Nat → Nat} {cu : Int32} {i j : Nat} {v : Int64} (h : MRun mc nn z cu i j v) (e : ∀ k, 2 * i ≤ k → k < 2 * j → mc' k = mc k) : MRun mc' nn z cu i j v := by
  intro fu x1 x2 xx b e' n m I L hM hc hz hu h1 h2 h3
  exact h fu x1 x2 xx b e' n m I L hM (fun k a b => ⟨(hc k a b).1.trans (e _ (by omega) (by omega)), (hc k a b).2.trans (e _ (by omega) (by omega))⟩) hz hu h1 h2 h3
theorem MRunB.cg {mc mc' : Nat → Int32} {nn : Nat} {z : Nat → Nat} {cu : Int32} {i j : Nat} {v : Bool} (h : MRunB mc nn z cu i j v) (e : ∀ k, 2 * i ≤ k → k < 2 * j → mc' k = mc k) : MRunB mc' nn z cu i j v := by
  intro fu x1 x2 xx b e' n m I L hM hc hz hu h1 h2 h3
  exact h fu x1 x2 xx b e' n m I L hM (fun k a b => ⟨(hc k a b).1.trans (e _ (by omega) (by omega)), (hc k a b).2.trans (e _ (by omega) (by omega))⟩) hz hu h1 h2 h3
theorem Seg.cg {nn : Nat} {op ar mc op' ar' mc' : Nat → Int32} {p q i j d d' : Nat} (h : Seg nn op ar mc p q i j d) (e : ∀ k, p ≤ k → k < q → op' k = op k ∧ ar' k = ar k) (e2 : ∀ k, 2 * i ≤ k → k < 2 * j → mc' k = mc k) (hd : d ≤ d') : Seg nn op' ar' mc' p q i j d' := by
  obtain ⟨h1, h2, h3⟩ := h
  refine ⟨h1, h2, fun z cu hz => ?_⟩
  obtain ⟨v, a, b, c⟩ := h3 z cu hz
  exact ⟨v, a, b.cg e hd, c.cg e2⟩
theorem SegB.cg {nn : Nat} {op ar mc op' ar' mc' : Nat → Int32} {p q i j d d' : Nat} (h : SegB nn op ar mc p q i j d) (e : ∀ k, p ≤ k → k < q → op' k = op k ∧ ar' k = ar k) (e2 : ∀ k, 2 * i ≤ k → k < 2 * j → mc' k = mc k) (hd : d ≤ d') : SegB nn op' ar' mc' p q i j d' := by
  obtain ⟨h1, h2, h3⟩ := h
  refine ⟨h1, h2, fun z cu hz => ?_⟩
  obtain ⟨v, b, c⟩ := h3 z cu hz
  exact ⟨v, b.cg e hd, c.cg e2⟩
theorem MC.cg {I I' : TI} {xx b e : Nat} (h : MC I xx b e) (q : I' 334 = I 334) : MC I' xx b e := by
  unfold MC at *
  rw [q]; exact h
theorem up_s {f : Nat → Int32} {k : Nat} {v : Int32} : upd f k v k = v := pk_us
theorem Seg.num {nn : Nat} {op ar mc : Nat → Int32} {p i x : Nat} (hx : x ≤ 9999) (h1 : op p = 2) (h2 : ar p = nI x) (h3 : mc (2 * i) = 0) (h4 : mc (2 * i + 1) = nI x) : Seg nn op ar mc p (p + 1) i (i + 1) 1 := by
  refine ⟨by omega, by omega, fun z cu hz => ⟨(x : Int), by unfold bz; omega, ?_, ?_⟩⟩
  · intro fu o x2 x3 to t s I L ho hc hz hu h5 h6 h7 h8
    refine ⟨1, sI I 320 t (nI x), by omega, fun o' h => sJ_ne h, fun k hk => by rw [sJ_at]; exact pk_un (by omega), by rw [sJ_at, pk_us, nI_Z], fun f => ?_⟩
    rw [ws_num (by omega) h6 (by omega) (by omega) ((hc p (by omega) (by omega)).1.trans h1), (hc p (by omega) (by omega)).2, h2]
  · intro fu x1 x2 xx b e n m I L hM hc hz hu h5 h6 h7
    refine ⟨I, sL L 338 n (nI x).toInt64, fun _ _ => rfl, fun _ _ => rfl, fun o h => sM_ne h, fun k hk => by rw [sM_at]; exact pk_uLn (by omega), by rw [sM_at, pk_uLs, nI_Z, iZ_64 (by unfold bq; omega)], fun f => ?_⟩
    rw [show i + 1 - i = 1 by omega, ms_num hM (by omega) (by omega) ((hc i (by omega) (by omega)).1.trans h3), (hc i (by omega) (by omega)).2, h4]
theorem Seg.name {nn : Nat} {op ar mc : Nat → Int32} {p i x : Nat} (hx : x < nn) (hn : nn ≤ 8) (h1 : op p = 60) (h2 : ar p = nI x) (h3 : mc (2 * i) = 1) (h4 : mc (2 * i + 1) = nI x) : Seg nn op ar mc p (p + 1) i (i + 1) 1 := by
  refine ⟨by omega, by omega, fun z cu hz => ⟨(z x : Int), by have := hz x hx; unfold bz; omega, ?_, ?_⟩⟩
  · intro fu o x2 x3 to t s I L ho hc hz hu h5 h6 h7 h8
    refine ⟨1, sI I 320 t (nI (z x)), by omega, fun o' h => sJ_ne h, fun k hk => by rw [sJ_at]; exact pk_un (by omega), by rw [sJ_at, pk_us, nI_Z], fun f => ?_⟩
    rw [ws_name (by omega) h6 (by omega) (by omega) ((hc p (by omega) (by omega)).1.trans h1) ((hc p (by omega) (by omega)).2.trans h2) (by omega), hz x hx]
  · have hzx := hz x hx
    intro fu x1 x2 xx b e n m I L hM hc hz hu h5 h6 h7
    refine ⟨I, sL L 338 n (nI (z x)).toInt64, fun _ _ => rfl, fun _ _ => rfl, fun o h => sM_ne h, fun k hk => by rw [sM_at]; exact pk_uLn (by omega), by rw [sM_at, pk_uLs, nI_Z, iZ_64 (by unfold bq; omega)], fun f => ?_⟩
    rw [show i + 1 - i = 1 by omega, ms_name hM (by omega) (by omega) ((hc i (by omega) (by omega)).1.trans h3) ((hc i (by omega) (by omega)).2.trans h4) (by omega), hz x hx]
/-- one that turns a number -/
theorem XRun.un {op ar : Nat → Int32} {nn : Nat} {z : Nat → Nat} {cu : Int32} {p q d : Nat} {v r w : Int32} (h : XRun op ar nn z cu p q d v) (hpq : p < q) (hd : 1 ≤ d) (h1 : op q = w) (ht : ∀ fu I L, FO_W_takenBy fu w I L = some (1, I, L)) (h63 : ¬ w = 63) (h62 : ¬ w = 62) (hj : ∀ fu I L, I 319 2 = cu → FO_W_turn fu w v I L = some (r, I, L)) : XRun op ar nn z cu p (q + 1) d r := by
  intro fu o x2 x3 to t s I L ho hc hz hu h5 h6 h7 h8
  obtain ⟨c, I1, c1, c2, c3, c4, c5⟩ := h fu o x2 x3 to t s I L ho (fun k a b => hc k a (by omega)) hz hu (by omega) h6 h7 (by omega)
  refine ⟨c + 1, sI I1 320 t r, by omega, fun o' h => by rw [sJ_ne h, c2 o' h], fun k hk => by rw [sJ_at, pk_un (by omega), c3 k hk], by rw [sJ_at, pk_us], fun f => ?_⟩
  rw [show s + (c + 1) = s + c + 1 by omega, show f + (c + 1) = (f + 1) + c by omega, c5, ws_un (w := w) (r := r) (by omega) h6 (by omega) (by omega) (by rw [c2 (o + 4) (by omega)]; exact (hc q (by omega) (by omega)).1.trans h1) (ht _ _ _) h63 h62 (by rw [c4]; exact hj _ _ _ (by rw [c2 319 (by omega)]; exact hu))]
theorem XRun.bin {op ar : Nat → Int32} {nn : Nat} {z : Nat → Nat} {cu : Int32} {p q r d d' : Nat} {v1 v2 v w : Int32} (h : XRun op ar nn z cu p q d v1) (g : XRun op ar nn z cu q r d' v2) (hpq : p < q) (hqr : q < r) (hd : d' + 1 ≤ d) (h2 : 2 ≤ d) (h1 : op r = w) (ht : ∀ fu I L, FO_W_takenBy fu w I L = some (2, I, L)) (hj : ∀ fu I L, FO_W_join fu w v1 v2 I L = some (v, I, L)) : XRun op ar nn z cu p (r + 1) d v := by
  intro fu o x2 x3 to t s I L ho hc hz hu h5 h6 h7 h8
  obtain ⟨c, I1, c1, c2, c3, c4, c5⟩ := h fu o x2 x3 to t s I L ho (fun k a b => hc k a (by omega)) hz hu (by omega) h6 h7 (by omega)
  obtain ⟨c', I2, e1, e2, e3, e4, e5⟩ := g fu o x2 x3 to (t + 1) (s + c) I1 L ho (fun k a b => by rw [c2 _ (by omega), c2 _ (by omega)]; exact hc k (by omega) (by omega)) (fun k hk => by rw [c2 _ (by omega)]; exact hz k hk) (by rw [c2 _ (by omega)]; exact hu) (by omega) h6 (by omega) (by omega)
  refine ⟨c + c' + 1, sI I2 320 t v, by omega, fun o' h => by rw [sJ_ne h, e2 o' h, c2 o' h], fun k hk => by rw [sJ_at, pk_un (by omega), e3 k (by omega), c3 k hk], by rw [sJ_at, pk_us], fun f => ?_⟩
  rw [show s + (c + c' + 1) = s + c + c' + 1 by omega, show f + (c + c' + 1) = (f + 1 + c') + c by omega, c5, e5, ws_bin (w := w) (r := v) (by omega) h6 (by omega) (by omega) (by rw [e2 (o + 4) (by omega), c2 (o + 4) (by omega)]; exact (hc r (by omega) (by omega)).1.trans h1) (ht _ _ _) (by rw [e4, e3 t (by omega), c4]; exact hj _ _ _)]
theorem tk1 {fu : Nat} {w : Int32} {I : TI} {L : TL} (h : w = 46 ∨ w = 53 ∨ w = 61) : FO_W_takenBy fu w I L = some (1, I, L) := by
  rcases h with rfl | rfl | rfl <;> rfl
theorem Seg.neg {nn : Nat} {op ar mc : Nat → Int32} {p q i j d : Nat} (h : Seg nn op ar mc p q i j d) (hd : 1 ≤ d) (h1 : op q = 61) (h2 : mc (2 * j) = 5) : Seg nn op ar mc p (q + 1) i (j + 1) d := by
  obtain ⟨a, b, h⟩ := h
  refine ⟨by omega, by omega, fun z cu hz => ?_⟩
  obtain ⟨v, bv, X, M⟩ := h z cu hz
  refine ⟨-v, by unfold bz at *; omega, X.un a hd h1 (fun _ _ _ => rfl) (by decide) (by decide) (fun fu I L _ => ?_), ?_⟩
  · unfold FO_W_turn
    rw [if_neg (by decide), if_pos rfl, iZ_neg]
  · intro fu x1 x2 xx b' e n m I L hM hc hz hu h5 h6 h7
    obtain ⟨I1, L1, c1, c2, c3, c4, c5, c6⟩ := M fu x1 x2 xx b' e n m I L hM (fun k a b => hc k a (by omega)) hz hu (by omega) (by omega) (by omega)
    refine ⟨I1, sL L1 338 n (lZ (-v)), c1, c2, fun o h => by rw [sM_ne h, c3 o h], fun k hk => by rw [sM_at, pk_uLn (by omega), c4 k hk], by rw [sM_at, pk_uLs], fun f => ?_⟩
    rw [show f + (j + 1 - i) = (f + 1) + (j - i) by omega, c6, ms_neg (hM.cg (c1 334 (by omega))) (by omega) (by omega) (by rw [c1 334 (by omega)]; exact (hc j (by omega) (by omega)).1.trans h2), c5, lZ_neg]
theorem Seg.cup {nn : Nat} {op ar mc : Nat → Int32} {p q i j d : Nat} (h : Seg nn op ar mc p q i j d) (hd : 1 ≤ d) (h1 : op q = 46) (h2 : mc (2 * j) = 2) : Seg nn op ar mc p (q + 1) i (j + 1) d := by
  obtain ⟨a, b, h⟩ := h
  refine ⟨by omega, by omega, fun z cu hz => ?_⟩
  obtain ⟨v, bv, X, M⟩ := h z cu hz
  refine ⟨cuv cu v, cuv_b _ _, X.un a hd h1 (fun _ _ _ => rfl) (by decide) (by decide) (fun fu I L hc => wt_cup bv hc), ?_⟩
  intro fu x1 x2 xx b' e n m I L hM hc hz hu h5 h6 h7
  obtain ⟨I1, L1, c1, c2, c3, c4, c5, c6⟩ := M fu x1 x2 xx b' e n m I L hM (fun k a b => hc k a (by omega)) hz hu (by omega) (by omega) (by omega)
  refine ⟨I1, sL L1 338 n (lZ (cuv cu v)), c1, c2, fun o h => by rw [sM_ne h, c3 o h], fun k hk => by rw [sM_at, pk_uLn (by omega), c4 k hk], by rw [sM_at, pk_uLs], fun f => ?_⟩
  rw [show f + (j + 1 - i) = (f + 1) + (j - i) by omega, c6, ms_cup (r := lZ (cuv cu v)) (hM.cg (c1 334 (by omega))) (by omega) (by omega) (by rw [c1 334 (by omega)]; exact (hc j (by omega) (by omega)).1.trans h2) (by rw [c5]; exact mt_cup bv (by rw [c1 332 (by omega)]; exact hu))]
theorem wj {fu w : Nat} {a b : Int} {I : TI} {L : TL} (hw : w = 14 ∨ w = 15 ∨ w = 16 ∨ w = 17 ∨ w = 45) (ha : bz a) (hb : bz b) : FO_W_join fu (nI w) (iZ a) (iZ b) I L = some (iZ (jn w a b), I, L) := by
  rcases hw with rfl | rfl | rfl | rfl | rfl
  · exact wj_14 ha hb
  · exact wj_15 ha hb
  · exact wj_16 ha hb
  · exact wj_17 ha hb
  · exact wj_45 ha hb
theorem ms_op {fu f xx b e n m i w : Nat} {x1 x2 : Int32} {v1 v2 : Int} {I : TI} {L : TL} (h : MC I xx b e) (hi : i < e) (hn : n + 2 ≤ 330) (hw : w = 14 ∨ w = 15 ∨ w = 16 ∨ w = 17 ∨ w = 45) (hop : I 334 (b + 2 * i) = nI (mop w)) (e1 : L 338 n = lZ v1) (e2 : L 338 (n + 1) = lZ v2) (b1 : bz v1) (b2 : bz v2) :
    LO_M_summedUp_38 fu (f + 1) x1 x2 (nI xx) (nI b) (nI (n + 2)) (nI m) (nI i) I L = LO_M_summedUp_38 fu f x1 x2 (nI xx) (nI b) (nI (n + 1)) (nI m) (nI (i + 1)) I (sL L 338 n (lZ (jn w v1 v2))) := by
  rcases hw with rfl | rfl | rfl | rfl | rfl
  · exact ms_two (w := 6) h hi hn hop (by decide) (by rw [e1, e2]; exact mt_14 b1 b2)
  · exact ms_two (w := 7) h hi hn hop (by decide) (by rw [e1, e2]; exact mt_15 b1 b2)
  · exact ms_two (w := 8) h hi hn hop (by decide) (by rw [e1, e2]; exact mt_16 b1 b2)
  · exact ms_two (w := 9) h hi hn hop (by decide) (by rw [e1, e2]; exact mt_17 b1 b2)
  · exact ms_near h hi hn hop (by rw [e1, e2]; exact mt_45 b1 b2)
theorem Seg.bin {nn : Nat} {op ar mc : Nat → Int32} {p q r i j k d d' w : Nat} (h : Seg nn op ar mc p q i j d) (g : Seg nn op ar mc q r j k d') (hd : d' + 1 ≤ d) (h2 : 2 ≤ d) (hw : w = 14 ∨ w = 15 ∨ w = 16 ∨ w = 17 ∨ w = 45) (h1 : op r = nI w) (h3 : mc (2 * k) = nI (mop w)) : Seg nn op ar mc p (r + 1) i (k + 1) d := by
  obtain ⟨a, b, h⟩ := h
  obtain ⟨a', b', g⟩ := g
  refine ⟨by omega, by omega, fun z cu hz => ?_⟩
  obtain ⟨v, bv, X, M⟩ := h z cu hz
  obtain ⟨v', bv', X', M'⟩ := g z cu hz
  refine ⟨jn w v v', jn_b bv bv', X.bin X' a a' hd h2 h1 (fun _ _ _ => by rcases hw with rfl | rfl | rfl | rfl | rfl <;> rfl) (fun fu I L => wj hw bv bv'), ?_⟩
  intro fu x1 x2 xx b0 e n m I L hM hc hz hu h5 h6 h7
  obtain ⟨I1, L1, c1, c2, c3, c4, c5, c6⟩ := M fu x1 x2 xx b0 e n m I L hM (fun k a b => hc k a (by omega)) hz hu (by omega) (by omega) (by omega)
  obtain ⟨I2, L2, e1, e2, e3, e4, e5, e6⟩ := M' fu x1 x2 xx b0 e (n + 1) m I1 L1 (hM.cg (c1 334 (by omega))) (fun k a b => by rw [c1 334 (by omega)]; exact hc k (by omega) (by omega)) (fun k hk => by rw [c1 337 (by omega)]; exact hz k hk) (by rw [c1 332 (by omega)]; exact hu) (by omega) (by omega) (by omega)
  refine ⟨I2, sL L2 338 n (lZ (jn w v v')), fun o h => by rw [e1 o h, c1 o h], fun k hk => by rw [e2 k hk, c2 k hk], fun o h => by rw [sM_ne h, e3 o h, c3 o h], fun k hk => by rw [sM_at, pk_uLn (by omega), e4 k (by omega), c4 k hk], by rw [sM_at, pk_uLs], fun f => ?_⟩
  rw [show f + (k + 1 - i) = (f + 1 + (k - j)) + (j - i) by omega, c6, e6, ms_op ((hM.cg (c1 334 (by omega))).cg (e1 334 (by omega))) (by omega) (by omega) hw (by rw [e1 334 (by omega), c1 334 (by omega)]; exact (hc k (by omega) (by omega)).1.trans h3) (by rw [e4 n (by omega), c5]) e5 bv bv']
theorem tB2 (v : Bool) : tB v = 0 ∨ tB v = 1 := by cases v <;> simp [tB]
theorem Seg.cmp {nn : Nat} {op ar mc : Nat → Int32} {p q r i j k d d' w : Nat} (h : Seg nn op ar mc p q i j d) (g : Seg nn op ar mc q r j k d') (hd : d' + 1 ≤ d) (h2 : 2 ≤ d) (hw : w = 3 ∨ w = 4 ∨ w = 10 ∨ w = 11 ∨ w = 12 ∨ w = 13) (h1 : op r = nI w) (h3 : mc (2 * k) = nI (mcq w)) : SegB nn op ar mc p (r + 1) i (k + 1) d := by
  obtain ⟨a, b, h⟩ := h
  obtain ⟨a', b', g⟩ := g
  refine ⟨by omega, by omega, fun z cu hz => ?_⟩
  obtain ⟨v, bv, X, M⟩ := h z cu hz
  obtain ⟨v', bv', X', M'⟩ := g z cu hz
  refine ⟨cq w v v', X.bin X' a a' hd h2 h1 (fun _ _ _ => by rcases hw with rfl | rfl | rfl | rfl | rfl | rfl <;> rfl) (fun fu I L => wc hw bv bv'), ?_⟩
  intro fu x1 x2 xx b0 e n m I L hM hc hz hu h5 h6 h7
  obtain ⟨I1, L1, c1, c2, c3, c4, c5, c6⟩ := M fu x1 x2 xx b0 e n m I L hM (fun k a b => hc k a (by omega)) hz hu (by omega) (by omega) (by omega)
  obtain ⟨I2, L2, e1, e2, e3, e4, e5, e6⟩ := M' fu x1 x2 xx b0 e (n + 1) m I1 L1 (hM.cg (c1 334 (by omega))) (fun k a b => by rw [c1 334 (by omega)]; exact hc k (by omega) (by omega)) (fun k hk => by rw [c1 337 (by omega)]; exact hz k hk) (by rw [c1 332 (by omega)]; exact hu) (by omega) (by omega) (by omega)
  refine ⟨sI I2 339 m (tB (cq w v v')), L2, fun o h => by rw [sJ_ne h, e1 o h, c1 o h], fun k hk => by rw [sJ_at, pk_un (by omega), e2 k hk, c2 k hk], fun o h => by rw [e3 o h, c3 o h], fun k hk => by rw [e4 k (by omega), c4 k hk], by rw [sJ_at, pk_us], fun f => ?_⟩
  rw [show f + (k + 1 - i) = (f + 1 + (k - j)) + (j - i) by omega, c6, e6, ms_cmp (w := nI (mcq w)) (r := tB (cq w v v')) ((hM.cg (c1 334 (by omega))).cg (e1 334 (by omega))) (by omega) (by omega) (by omega) (by rw [e1 334 (by omega), c1 334 (by omega)]; exact (hc k (by omega) (by omega)).1.trans h3) (by rcases hw with rfl | rfl | rfl | rfl | rfl | rfl <;> decide) (by rw [e4 n (by omega), c5, e5]; exact mcmp hw bv bv') (tB2 _)]
theorem SegB.not {nn : Nat} {op ar mc : Nat → Int32} {p q i j d : Nat} (h : SegB nn op ar mc p q i j d) (hd : 1 ≤ d) (h1 : op q = 53) (h2 : mc (2 * j) = 20) : SegB nn op ar mc p (q + 1) i (j + 1) d := by
  obtain ⟨a, b, h⟩ := h
  refine ⟨by omega, by omega, fun z cu hz => ?_⟩
  obtain ⟨v, X, M⟩ := h z cu hz
  refine ⟨!v, X.un a hd h1 (fun _ _ _ => rfl) (by decide) (by decide) (fun fu I L _ => ?_), ?_⟩
  · unfold FO_W_turn
    rw [if_pos rfl]
    cases v <;> rfl
  · intro fu x1 x2 xx b' e n m I L hM hc hz hu h5 h6 h7
    obtain ⟨I1, L1, c1, c2, c3, c4, c5, c6⟩ := M fu x1 x2 xx b' e n m I L hM (fun k a b => hc k a (by omega)) hz hu (by omega) (by omega) (by omega)
    refine ⟨sI I1 339 m (tB (!v)), L1, fun o h => by rw [sJ_ne h, c1 o h], fun k hk => by rw [sJ_at, pk_un (by omega), c2 k hk], c3, c4, by rw [sJ_at, pk_us], fun f => ?_⟩
    rw [show f + (j + 1 - i) = (f + 1) + (j - i) by omega, c6, ms_not (hM.cg (c1 334 (by omega))) (by omega) (by omega) (by rw [c1 334 (by omega)]; exact (hc j (by omega) (by omega)).1.trans h2), c5]
    cases v <;> rfl
/-- and, or -/
theorem SegB.join {nn : Nat} {op ar mc : Nat → Int32} {p q r i j k d d' w : Nat} (h : SegB nn op ar mc p q i j d) (g : SegB nn op ar mc q r j k d') (hd : d' + 1 ≤ d) (h2 : 2 ≤ d) (hw : w = 51 ∨ w = 52) (h1 : op r = nI w) (h3 : mc (2 * k) = nI (73 - w)) : SegB nn op ar mc p (r + 1) i (k + 1) d := by
  obtain ⟨a, b, h⟩ := h
  obtain ⟨a', b', g⟩ := g
  refine ⟨by omega, by omega, fun z cu hz => ?_⟩
  obtain ⟨v, X, M⟩ := h z cu hz
  obtain ⟨v', X', M'⟩ := g z cu hz
  have hj : ∀ (fu : Nat) (I : TI) (L : TL), FO_M_joined fu (nI (73 - w)) (tB v) (tB v') I L = some (tB (if w = 51 then v || v' else v && v'), I, L) := by
    intro fu I L
    rcases hw with rfl | rfl <;> cases v <;> cases v' <;> rfl
  refine ⟨if w = 51 then v || v' else v && v', X.bin X' a a' hd h2 h1 (fun _ _ _ => by rcases hw with rfl | rfl <;> rfl) (fun fu I L => by rcases hw with rfl | rfl <;> cases v <;> cases v' <;> rfl), ?_⟩
  intro fu x1 x2 xx b0 e n m I L hM hc hz hu h5 h6 h7
  obtain ⟨I1, L1, c1, c2, c3, c4, c5, c6⟩ := M fu x1 x2 xx b0 e n m I L hM (fun k a b => hc k a (by omega)) hz hu (by omega) (by omega) (by omega)
  obtain ⟨I2, L2, e1, e2, e3, e4, e5, e6⟩ := M' fu x1 x2 xx b0 e n (m + 1) I1 L1 (hM.cg (c1 334 (by omega))) (fun k a b => by rw [c1 334 (by omega)]; exact hc k (by omega) (by omega)) (fun k hk => by rw [c1 337 (by omega)]; exact hz k hk) (by rw [c1 332 (by omega)]; exact hu) (by omega) (by omega) (by omega)
  refine ⟨sI I2 339 m (tB (if w = 51 then v || v' else v && v')), L2, fun o h => by rw [sJ_ne h, e1 o h, c1 o h], fun k hk => by rw [sJ_at, pk_un (by omega), e2 k (by omega), c2 k hk], fun o h => by rw [e3 o h, c3 o h], fun k hk => by rw [e4 k hk, c4 k hk], by rw [sJ_at, pk_us], fun f => ?_⟩
  rw [show f + (k + 1 - i) = (f + 1 + (k - j)) + (j - i) by omega, c6, e6, ms_join (w := nI (73 - w)) (r := tB (if w = 51 then v || v' else v && v')) ((hM.cg (c1 334 (by omega))).cg (e1 334 (by omega))) (by omega) (by omega) (by rw [e1 334 (by omega), c1 334 (by omega)]; exact (hc k (by omega) (by omega)).1.trans h3) (by rcases hw with rfl | rfl <;> decide) (by rw [e2 m (by omega), c5, e5]; exact hj _ _ _) (tB2 _)]
/-- if then else -/
theorem Seg.iff {nn : Nat} {op ar mc : Nat → Int32} {p q r e i j k l d : Nat} (h : SegB nn op ar mc p q i j d) (g1 : Seg nn op ar mc (q + 1) r j k d) (g2 : Seg nn op ar mc (r + 1) e k l d) (hd : 1 ≤ d) (h1 : op q = 63) (h2 : ar q = nI (r + 1)) (h3 : op r = 62) (h4 : ar r = nI e) (h5 : mc (2 * l) = 3) : Seg nn op ar mc p e i (l + 1) d := by
  obtain ⟨a, b, h⟩ := h
  obtain ⟨a1, b1, g1⟩ := g1
  obtain ⟨a2, b2, g2⟩ := g2
  refine ⟨by omega, by omega, fun z cu hz => ?_⟩
  obtain ⟨v, X, M⟩ := h z cu hz
  obtain ⟨v1, bv1, X1, M1⟩ := g1 z cu hz
  obtain ⟨v2, bv2, X2, M2⟩ := g2 z cu hz
  refine ⟨if v then v1 else v2, by cases v <;> assumption, ?_, ?_⟩
  · intro fu o x2 x3 to t s I L ho hc hz hu h5 h6 h7 h8
    obtain ⟨c, I1, c1, c2, c3, c4, c5⟩ := X fu o x2 x3 to t s I L ho (fun k a b => hc k a (by omega)) hz hu (by omega) h6 h7 (by omega)
    have ha : ∀ f, LO_W_says_40 fu o (f + 1) x2 x3 (nI q) (nI to) (nI (t + 1)) (nI (s + c)) I1 L = if I1 320 t = 0 then LO_W_says_40 fu o f x2 x3 (nI (r + 1)) (nI to) (nI t) (nI (s + c + 1)) I1 L else LO_W_says_40 fu o f x2 x3 (nI (q + 1)) (nI to) (nI t) (nI (s + c + 1)) I1 L := fun f => ws_unl (by omega) h6 (by omega) (by omega) (by rw [c2 (o + 4) (by omega)]; exact (hc q (by omega) (by omega)).1.trans h1) (by rw [c2 (o + 5) (by omega)]; exact (hc q (by omega) (by omega)).2.trans h2)
    cases v with
    | true =>
      obtain ⟨c', I2, e1, e2, e3, e4, e5⟩ := X1 fu o x2 x3 to t (s + c + 1) I1 L ho (fun k a b => by rw [c2 _ (by omega), c2 _ (by omega)]; exact hc k (by omega) (by omega)) (fun k hk => by rw [c2 _ (by omega)]; exact hz k hk) (by rw [c2 _ (by omega)]; exact hu) (by omega) h6 (by omega) (by omega)
      refine ⟨c + 1 + c' + 1, I2, by omega, fun o' h => by rw [e2 o' h, c2 o' h], fun k hk => by rw [e3 k hk, c3 k hk], e4, fun f => ?_⟩
      rw [show s + (c + 1 + c' + 1) = s + c + 1 + c' + 1 by omega, show f + (c + 1 + c' + 1) = (f + 1 + c' + 1) + c by omega, c5, ha, c4, if_neg (by decide), e5, ws_jmp (g := e) (by omega) h6 (by omega) (by omega) (by rw [e2 (o + 4) (by omega), c2 (o + 4) (by omega)]; exact (hc r (by omega) (by omega)).1.trans h3) (by rw [e2 (o + 5) (by omega), c2 (o + 5) (by omega)]; exact (hc r (by omega) (by omega)).2.trans h4)]
    | false =>
      obtain ⟨c', I2, e1, e2, e3, e4, e5⟩ := X2 fu o x2 x3 to t (s + c + 1) I1 L ho (fun k a b => by rw [c2 _ (by omega), c2 _ (by omega)]; exact hc k (by omega) (by omega)) (fun k hk => by rw [c2 _ (by omega)]; exact hz k hk) (by rw [c2 _ (by omega)]; exact hu) (by omega) h6 (by omega) (by omega)
      refine ⟨c + 1 + c', I2, by omega, fun o' h => by rw [e2 o' h, c2 o' h], fun k hk => by rw [e3 k hk, c3 k hk], e4, fun f => ?_⟩
      rw [show s + (c + 1 + c') = s + c + 1 + c' by omega, show f + (c + 1 + c') = (f + c' + 1) + c by omega, c5, ha, c4, if_pos (by decide), e5]
  · intro fu x1 x2 xx b0 e' n m I L hM hc hz hu hq h6 h7
    obtain ⟨I1, L1, c1, c2, c3, c4, c5, c6⟩ := M fu x1 x2 xx b0 e' n m I L hM (fun k a b => hc k a (by omega)) hz hu (by omega) (by omega) (by omega)
    obtain ⟨I2, L2, e1, e2, e3, e4, e5, e6⟩ := M1 fu x1 x2 xx b0 e' n (m + 1) I1 L1 (hM.cg (c1 334 (by omega))) (fun k a b => by rw [c1 334 (by omega)]; exact hc k (by omega) (by omega)) (fun k hk => by rw [c1 337 (by omega)]; exact hz k hk) (by rw [c1 332 (by omega)]; exact hu) (by omega) (by omega) (by omega)
    obtain ⟨I3, L3, g1, g2, g3, g4, g5, g6⟩ := M2 fu x1 x2 xx b0 e' (n + 1) (m + 1) I2 L2 ((hM.cg (c1 334 (by omega))).cg (e1 334 (by omega))) (fun k a b => by rw [e1 334 (by omega), c1 334 (by omega)]; exact hc k (by omega) (by omega)) (fun k hk => by rw [e1 337 (by omega), c1 337 (by omega)]; exact hz k hk) (by rw [e1 332 (by omega), c1 332 (by omega)]; exact hu) (by omega) (by omega) (by omega)
    have ht : I3 339 m = tB v := by rw [g2 m (by omega), e2 m (by omega), c5]
    have fin : ∀ f, LO_M_summedUp_38 fu (f + (l + 1 - i)) x1 x2 (nI xx) (nI b0) (nI n) (nI m) (nI i) I L = if tB v = 0 then LO_M_summedUp_38 fu f x1 x2 (nI xx) (nI b0) (nI (n + 1)) (nI m) (nI (l + 1)) I3 (sL L3 338 n (L3 338 (n + 1))) else LO_M_summedUp_38 fu f x1 x2 (nI xx) (nI b0) (nI (n + 1)) (nI m) (nI (l + 1)) I3 L3 := fun f => by
      rw [show f + (l + 1 - i) = (f + 1 + (l - k) + (k - j)) + (j - i) by omega, c6, e6, g6, ms_sel (((hM.cg (c1 334 (by omega))).cg (e1 334 (by omega))).cg (g1 334 (by omega))) (by omega) (by omega) (by omega) (by rw [g1 334 (by omega), e1 334 (by omega), c1 334 (by omega)]; exact (hc l (by omega) (by omega)).1.trans h5), ht]
    cases v with
    | true =>
      refine ⟨I3, L3, fun o h => by rw [g1 o h, e1 o h, c1 o h], fun k hk => by rw [g2 k (by omega), e2 k (by omega), c2 k hk], fun o h => by rw [g3 o h, e3 o h, c3 o h], fun k hk => by rw [g4 k (by omega), e4 k hk, c4 k hk], by rw [g4 n (by omega), e5]; rfl, fun f => ?_⟩
      rw [fin f, if_neg (by decide)]
    | false =>
      refine ⟨I3, sL L3 338 n (lZ v2), fun o h => by rw [g1 o h, e1 o h, c1 o h], fun k hk => by rw [g2 k (by omega), e2 k (by omega), c2 k hk], fun o h => by rw [sM_ne h, g3 o h, e3 o h, c3 o h], fun k hk => by rw [sM_at, pk_uLn (by omega), g4 k (by omega), e4 k hk, c4 k hk], by rw [sM_at, pk_uLs]; rfl, fun f => ?_⟩
      rw [fin f, if_pos (by decide), g5]
