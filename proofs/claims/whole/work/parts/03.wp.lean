/-! the least fixed point of wpi, and calls by depth -/
theorem s1i.mono {st : PS} {f g : Int32 → PS → Prop} (h : ∀ x r, f x r → g x r) (k : s1i st f) : s1i st g := by unfold s1i at *; split at k <;> first | exact h _ _ k | exact k
theorem s2i.mono {st : PS} {f g : Int32 → Int32 → PS → Prop} (h : ∀ x y r, f x y r → g x y r) (k : s2i st f) : s2i st g := by unfold s2i at *; split at k <;> first | exact h _ _ _ k | exact k
theorem s1l.mono {st : PS} {f g : Int64 → PS → Prop} (h : ∀ x r, f x r → g x r) (k : s1l st f) : s1l st g := by unfold s1l at *; split at k <;> first | exact h _ _ k | exact k
theorem s2l.mono {st : PS} {f g : Int64 → Int64 → PS → Prop} (h : ∀ x y r, f x y r → g x y r) (k : s2l st f) : s2l st g := by unfold s2l at *; split at k <;> first | exact h _ _ _ k | exact k
theorem s2q.mono {st : PS} {f g : Int64 → Int32 → PS → Prop} (h : ∀ x y r, f x y r → g x y r) (k : s2q st f) : s2q st g := by unfold s2q at *; split at k <;> first | exact h _ _ _ k | exact k
theorem s1r.mono {st : PS} {f g : Nat → PS → Prop} (h : ∀ x r, f x r → g x r) (k : s1r st f) : s1r st g := by unfold s1r at *; split at k <;> first | exact h _ _ k | exact k
theorem s1v.mono {st : PS} {f g : Value → PS → Prop} (h : ∀ x r, f x r → g x r) (k : s1v st f) : s1v st g := by unfold s1v at *; split at k <;> first | exact h _ _ k | exact k
theorem s2v.mono {st : PS} {f g : Value → Value → PS → Prop} (h : ∀ x y r, f x y r → g x y r) (k : s2v st f) : s2v st g := by unfold s2v at *; split at k <;> first | exact h _ _ _ k | exact k
theorem sir.mono {st : PS} {f g : Int32 → Nat → PS → Prop} (h : ∀ x y r, f x y r → g x y r) (k : sir st f) : sir st g := by unfold sir at *; split at k <;> first | exact h _ _ _ k | exact k
theorem slr.mono {st : PS} {f g : Int64 → Nat → PS → Prop} (h : ∀ x y r, f x y r → g x y r) (k : slr st f) : slr st g := by unfold slr at *; split at k <;> first | exact h _ _ _ k | exact k
theorem srr.mono {st : PS} {f g : Nat → Nat → PS → Prop} (h : ∀ x y r, f x y r → g x y r) (k : srr st f) : srr st g := by unfold srr at *; split at k <;> first | exact h _ _ _ k | exact k
theorem siir.mono {st : PS} {f g : Int32 → Int32 → Nat → PS → Prop} (h : ∀ x y z r, f x y z r → g x y z r) (k : siir st f) : siir st g := by unfold siir at *; split at k <;> first | exact h _ _ _ _ k | exact k
theorem slir.mono {st : PS} {f g : Int64 → Int32 → Nat → PS → Prop} (h : ∀ x y z r, f x y z r → g x y z r) (k : slir st f) : slir st g := by unfold slir at *; split at k <;> first | exact h _ _ _ _ k | exact k
theorem srir.mono {st : PS} {f g : Nat → Int32 → Nat → PS → Prop} (h : ∀ x y z r, f x y z r → g x y z r) (k : srir st f) : srir st g := by unfold srir at *; split at k <;> first | exact h _ _ _ _ k | exact k
theorem scpy.mono {st : PS} {f g : Int32 → Int32 → Nat → Int32 → Nat → PS → Prop} (h : ∀ a b c d e r, f a b c d e r → g a b c d e r) (k : scpy st f) : scpy st g := by unfold scpy at *; split at k <;> first | exact h _ _ _ _ _ _ k | exact k
theorem gLoc.mono {ls : PL} {i : Nat} {P f g : Value → Prop} (h : ∀ v, f v → g v) (k : gLoc ls i P f) : gLoc ls i P g := by unfold gLoc at *; split at k <;> first | exact ⟨k.1, h _ k.2⟩ | exact k
theorem tsw.mono {K1 K2 : Nat → Prop} (h : ∀ q, K1 q → K2 q) {pc : Nat} {x : Int32} : ∀ {os : List Int} {v : Int}, tsw K1 pc x os v → tsw K2 pc x os v
  | [], _, _ => trivial
  | _ :: _, _, k => ⟨fun e => h _ (k.1 e), tsw.mono h k.2⟩
theorem lsw.mono {K1 K2 : Nat → Prop} (h : ∀ q, K1 q → K2 q) {pc : Nat} {x : Int32} {d : Int} : ∀ {os : List (Int × Int)}, lsw K1 pc x d os → lsw K2 pc x d os
  | [], k => h _ k
  | (_, _) :: _, k => ⟨fun e => h _ (k.1 e), fun e => lsw.mono h (k.2 e)⟩
def CMono (C1 C2 : PCall) : Prop := ∀ (k : Nat) (a : List Value) (h : PH) (Q1 Q2 : PQ), (∀ r h, Q1 r h → Q2 r h) → C1 k a h Q1 → C2 k a h Q2
theorem cal.mono {C1 C2 : PCall} (hC : CMono C1 C2) {K1 K2 : Nat → PL → PS → PH → Prop} (hk : ∀ pc ls st h, K1 pc ls st h → K2 pc ls st h) {k b nx : Nat} {ls : PL} {st : PS} {h : PH} (w : cal C1 K1 k b nx ls st h) : cal C2 K2 k b nx ls st h :=
  ⟨w.1, w.2.1, hC _ _ _ _ _ (fun _ _ q => hk _ _ _ _ q) w.2.2⟩
set_option maxHeartbeats 4000000 in
theorem wpi.mono {C1 C2 : PCall} (hC : CMono C1 C2) {al : Nat × Nat} {rt : Option FieldType} {n0 s0 : Nat} {Q1 Q2 : PQ} (hQ : ∀ r h, Q1 r h → Q2 r h) {K1 K2 : Nat → PL → PS → PH → Prop} (hk : ∀ pc ls st h, K1 pc ls st h → K2 pc ls st h) {E : PE} {ls : PL} {st : PS} {h : PH}
    (w : wpi C1 al rt n0 s0 Q1 K1 E ls st h) : wpi C2 al rt n0 s0 Q2 K2 E ls st h := by
  obtain ⟨i, nx, a, b, v, wi⟩ := E
  unfold wpi at *
  dsimp only at *
  split at w
  all_goals first
    | exact hk _ _ _ _ w
    | exact gLoc.mono (fun _ q => hk _ _ _ _ q) w
    | exact s1i.mono (fun _ _ q => hk _ _ _ _ q) w
    | exact s1l.mono (fun _ _ q => hk _ _ _ _ q) w
    | exact s2i.mono (fun _ _ _ q => hk _ _ _ _ q) w
    | exact s2l.mono (fun _ _ _ q => hk _ _ _ _ q) w
    | exact s2q.mono (fun _ _ _ q => hk _ _ _ _ q) w
    | exact s2i.mono (fun _ _ _ q => ⟨q.1, hk _ _ _ _ q.2⟩) w
    | exact s2l.mono (fun _ _ _ q => ⟨q.1, hk _ _ _ _ q.2⟩) w
    | exact s1v.mono (fun _ _ q => ⟨q.1, hk _ _ _ _ q.2⟩) w
    | exact s2v.mono (fun _ _ _ q => ⟨q.1, q.2.1, hk _ _ _ _ q.2.2⟩) w
    | exact s2i.mono (fun _ _ _ q => ⟨fun e => hk _ _ _ _ (q.1 e), fun e => hk _ _ _ _ (q.2 e)⟩) w
    | exact s1i.mono (fun _ _ q => ⟨fun e => hk _ _ _ _ (q.1 e), fun e => hk _ _ _ _ (q.2 e)⟩) w
    | exact s1i.mono (fun _ _ q => ⟨fun e => hk _ _ _ _ (q.1 e), tsw.mono (fun _ q => hk _ _ _ _ q) q.2⟩) w
    | exact s1i.mono (fun _ _ q => lsw.mono (fun _ q => hk _ _ _ _ q) q) w
    | exact s1r.mono (fun _ _ q => ⟨q.1, q.2.1, hk _ _ _ _ q.2.2⟩) w
    | exact sir.mono (fun _ _ _ q => ⟨q.1, q.2.1, q.2.2.1, hk _ _ _ _ q.2.2.2⟩) w
    | exact siir.mono (fun _ _ _ _ q => ⟨q.1, q.2.1, q.2.2.1, hk _ _ _ _ q.2.2.2⟩) w
    | exact slir.mono (fun _ _ _ _ q => ⟨q.1, q.2.1, q.2.2.1, hk _ _ _ _ q.2.2.2⟩) w
    | exact siir.mono (fun _ _ _ _ q => ⟨q.1, q.2.1, q.2.2.1, q.2.2.2.1, hk _ _ _ _ q.2.2.2.2⟩) w
    | exact srir.mono (fun _ _ _ _ q => ⟨q.1, q.2.1, q.2.2.1, q.2.2.2.1, q.2.2.2.2.1, hk _ _ _ _ q.2.2.2.2.2⟩) w
    | exact ⟨w.1, hk _ _ _ _ w.2⟩
    | exact s1i.mono (fun _ _ q => ⟨q.1, q.2.1, q.2.2.1, hk _ _ _ _ q.2.2.2⟩) w
    | exact gLoc.mono (fun v q => by split at q <;> first | exact hk _ _ _ _ q | exact q) w
    | exact s1v.mono (fun v r q => by split at q <;> first | exact ⟨q.1, q.2.1, q.2.2.1, hk _ _ _ _ q.2.2.2⟩ | exact ⟨q.1, hk _ _ _ _ q.2⟩ | exact hk _ _ _ _ q | exact q) w
    | exact s2v.mono (fun v u r q => by split at q <;> first | exact ⟨q.1, q.2.1, q.2.2.1, hk _ _ _ _ q.2.2.2⟩ | exact ⟨q.1, q.2.1, hk _ _ _ _ q.2.2⟩ | exact q) w
    | (split at w <;> first
        | exact sir.mono (fun _ _ _ q => ⟨q.1, q.2.1, q.2.2.1, hk _ _ _ _ q.2.2.2⟩) w
        | exact slr.mono (fun _ _ _ q => ⟨q.1, q.2.1, hk _ _ _ _ q.2.2⟩) w
        | exact srr.mono (fun _ _ _ q => ⟨q.1, q.2.1, hk _ _ _ _ q.2.2⟩) w
        | exact scpy.mono (fun _ _ _ _ _ _ q => ⟨q.1, q.2.1, q.2.2.1, q.2.2.2.1, q.2.2.2.2.1, q.2.2.2.2.2.1, q.2.2.2.2.2.2.1, q.2.2.2.2.2.2.2.1, q.2.2.2.2.2.2.2.2.1, q.2.2.2.2.2.2.2.2.2.1, hk _ _ _ _ q.2.2.2.2.2.2.2.2.2.2⟩) w
        | exact cal.mono hC hk w
        | exact ⟨w.1, cal.mono hC hk w.2⟩
        | exact s1r.mono (fun _ _ q => ⟨q.1, hk _ _ _ _ q.2⟩) w
        | exact ⟨w.1, w.2.1, cal.mono hC hk w.2.2⟩
        | exact ⟨w.1, w.2.1, hQ _ _ w.2.2⟩
        | exact w)
    | exact w
/-- from here the method comes to its end, with Q; some of the locals may be forgotten at any time -/
def Wp (C : PCall) (cd : PC) (al : Nat × Nat) (rt : Option FieldType) (n0 s0 : Nat) (Q : PQ) (pc : Nat) (ls : PL) (st : PS) (h : PH) : Prop :=
  ∀ P : Nat → PL → PS → PH → Prop, (∀ pc ls st h, ((∃ E, lkp cd pc = some E ∧ wpi C al rt n0 s0 Q P E ls st h) ∨ ∃ ls2, (∀ q ∈ ls2, q ∈ ls) ∧ P pc ls2 st h) → P pc ls st h) → P pc ls st h
theorem Wp.fold {C : PCall} (hC : CMono C C) {cd : PC} {al : Nat × Nat} {rt : Option FieldType} {n0 s0 : Nat} {Q : PQ} {pc : Nat} {ls : PL} {st : PS} {h : PH} {E : PE} (hE : lkp cd pc = some E)
    (w : wpi C al rt n0 s0 Q (Wp C cd al rt n0 s0 Q) E ls st h) : Wp C cd al rt n0 s0 Q pc ls st h :=
  fun P hP => hP _ _ _ _ (Or.inl ⟨E, hE, wpi.mono hC (fun _ _ q => q) (fun _ _ _ _ q => q P hP) w⟩)
theorem Wp.sub {C : PCall} {cd : PC} {al : Nat × Nat} {rt : Option FieldType} {n0 s0 : Nat} {Q : PQ} {pc : Nat} {ls ls2 : PL} {st : PS} {h : PH} (ks : List Nat) (hl : lv_pick ls ks = ls2) (w : Wp C cd al rt n0 s0 Q pc ls2 st h) : Wp C cd al rt n0 s0 Q pc ls st h :=
  fun P hP => hP _ _ _ _ (Or.inr ⟨ls2, fun q hq => by
    rw [← hl] at hq
    obtain ⟨k, -, hk⟩ := List.mem_filterMap.mp hq
    exact List.mem_of_getElem? hk, w P hP⟩)
theorem Wp.mono {C1 C2 : PCall} (hC : CMono C1 C2) {cd : PC} {al : Nat × Nat} {rt : Option FieldType} {n0 s0 : Nat} {Q1 Q2 : PQ} (hQ : ∀ r h, Q1 r h → Q2 r h) {pc : Nat} {ls : PL} {st : PS} {h : PH}
    (w : Wp C1 cd al rt n0 s0 Q1 pc ls st h) : Wp C2 cd al rt n0 s0 Q2 pc ls st h := by
  intro P hP
  refine w P (fun pc ls st h q => ?_)
  rcases q with ⟨E, hE, q⟩ | q
  · exact hP _ _ _ _ (Or.inl ⟨E, hE, wpi.mono hC hQ (fun _ _ _ _ q => q) q⟩)
  · exact hP _ _ _ _ (Or.inr q)
/-- a constant text: its length, its signs -/
def txt (k : UInt32) : List Int32 := if k = 1 then [104,111,117,114,32,108,97,116,101,32,115,116,97,105,114,32,119,101,105,103,104,116,32,102,108,111,111,114,32,119,104,111,32,116,114,111,100,32,119,97,121,32,116,105,99,107,115,32,104,101,97,114,115,32,108,111,100,103,101,114,32,117,112,32,100,111,119,110,32,104,97,110,103,32,117,110,104,97,110,103,32,110,101,97,114,32,99,117,112,115,32,105,102,32,116,104,101,110,32,101,108,115,101,32,101,110,100,32,111,114,32,97,110,100,32,110,111,116,32,111,102,32,98,121,32] else [60,62,61,35,43,45,42,47,40,41,59]
def prm (k : Nat) (a : List Value) (h : PH) (Q : PQ) : Prop :=
  match k, a with
  | 9, [.float t] => (t = 1 ∨ t = 2) ∧ Q (some (.int (Int32.ofNat (txt t).length))) h
  | 10, [.float t, .int i] => (t = 1 ∨ t = 2) ∧ vp_in i (txt t).length ∧ Q (some (.int ((txt t).getD i.toNatClampNeg 0))) h
  | _, _ => False
/-- a method, called with these arguments, ends with Q; its calls go d deep -/
noncomputable def Ev : Nat → PCall
  | 0, _, _, _, _ => False
  | d + 1, k, a, h, Q => match mG k with
    | some M => (k = 9 ∨ k = 10) ∧ prm k a h Q ∨ ¬ (k = 9 ∨ k = 10) ∧ csum a ≤ M.2.2.1 ∧ Wp (Ev d) M.2.2.2.2.2.2.2 (mcs k) M.2.2.2.1 (hN h) (hSl h) Q 0 (lv_args 0 a) [] h
    | none => False
theorem prm.mono {k : Nat} {a : List Value} {h : PH} {Q1 Q2 : PQ} (hQ : ∀ r h, Q1 r h → Q2 r h) (w : prm k a h Q1) : prm k a h Q2 := by
  unfold prm at *
  split at w
  · exact ⟨w.1, hQ _ _ w.2⟩
  · exact ⟨w.1, w.2.1, hQ _ _ w.2.2⟩
  · exact w
theorem Ev.up : ∀ (d : Nat), CMono (Ev d) (Ev (d + 1)) ∧ CMono (Ev d) (Ev d)
  | 0 => ⟨fun _ _ _ _ _ _ w => False.elim w, fun _ _ _ _ _ _ w => w⟩
  | d + 1 => by
    have ih := Ev.up d
    constructor
    · intro k a h Q1 Q2 hQ w
      unfold Ev at *
      split at w
      · rcases w with w | w
        · exact Or.inl ⟨w.1, prm.mono hQ w.2⟩
        · exact Or.inr ⟨w.1, w.2.1, Wp.mono ih.1 hQ w.2.2⟩
      · exact w
    · intro k a h Q1 Q2 hQ w
      unfold Ev at *
      split at w
      · rcases w with w | w
        · exact Or.inl ⟨w.1, prm.mono hQ w.2⟩
        · exact Or.inr ⟨w.1, w.2.1, Wp.mono ih.2 hQ w.2.2⟩
      · exact w
theorem Ev.cm (d : Nat) : CMono (Ev d) (Ev d) := (Ev.up d).2
theorem Ev.le {d e : Nat} (h : d ≤ e) : CMono (Ev d) (Ev e) := by
  induction h with
  | refl => exact Ev.cm d
  | step _ ih => exact fun k a h Q1 Q2 hQ w => (Ev.up _).1 k a h Q2 Q2 (fun _ _ q => q) (ih k a h Q1 Q2 hQ w)
