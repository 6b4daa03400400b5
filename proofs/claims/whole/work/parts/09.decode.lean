/-! DECODING IS LOCAL: the bytes from the instruction on decide what it is, but for the two switches -/
def Lo {α : Type} (P : α → Prop) (r : Decoder α) : Prop := ∀ (A B : ByteArray) (p q : Nat), (∀ (k : Nat) (h : q + k < B.size), ∃ h' : p + k < A.size, A[p + k] = B[q + k]) → ∀ (v : α) (q' : Nat), Reader.runAt r B q = .ok (v, q') → P v → q ≤ q' ∧ Reader.runAt r A p = .ok (v, p + (q' - q))
theorem Lo.pure {α : Type} {P : α → Prop} (v : α) : Lo P (Pure.pure v : Decoder α) := by
  intro A B p q _ v' q' h _
  have h : (Except.ok (v, q) : Except DecodeError (α × Nat)) = .ok (v', q') := h
  cases h
  exact ⟨Nat.le_refl _, by rw [Nat.sub_self]; rfl⟩
theorem Lo.u1 {P : Nat → Prop} : Lo P (Reader.u1 : Decoder Nat) := by
  intro A B p q hag v q' h _
  have hB : ∀ (C : ByteArray) (x : Nat), Reader.runAt (Reader.u1 : Decoder Nat) C x = if h : x < C.size then .ok (C[x].toNat, x + 1) else .error (HasTruncated.truncated x) := by
    intro C x
    show (if h : x < C.size then (do MonadStateOf.set (x + 1); Pure.pure C[x].toNat : Decoder Nat) else MonadExcept.throw (HasTruncated.truncated x)) C x = _
    by_cases hx : x < C.size
    · rw [dif_pos hx, dif_pos hx]
      rfl
    · rw [dif_neg hx, dif_neg hx]
      rfl
  rw [hB] at h ⊢
  by_cases hx : q < B.size
  · rw [dif_pos hx] at h
    cases h
    obtain ⟨h', e⟩ := hag 0 hx
    have h2 : p < A.size := h'
    refine ⟨by omega, ?_⟩
    rw [dif_pos h2]
    have e : A[p] = B[q] := e
    rw [e, show q + 1 - q = 1 by omega]
  · rw [dif_neg hx] at h
    cases h
theorem Lo.bind {α β : Type} {P : β → Prop} {r : Decoder α} {f : α → Decoder β} (hr : Lo (fun _ => True) r) (hf : ∀ a, Lo P (f a)) : Lo P (r >>= f) := by
  intro A B p q hag v q' h hP
  have hB : ∀ (C : ByteArray) (x : Nat), Reader.runAt (r >>= f) C x = match Reader.runAt r C x with | .ok (a, y) => Reader.runAt (f a) C y | .error e => .error e := by
    intro C x
    unfold Reader.runAt
    show Except.bind (r C x) _ = match (r C x) with | .ok (a, y) => (f a) C y | .error e => .error e
    cases r C x <;> rfl
  rw [hB] at h ⊢
  cases e : Reader.runAt r B q with
  | error z => rw [e] at h; cases h
  | ok z =>
    obtain ⟨a, y⟩ := z
    rw [e] at h
    obtain ⟨h1, h2⟩ := hr A B p q hag a y e trivial
    rw [h2]
    obtain ⟨h3, h4⟩ := hf a A B (p + (y - q)) y (fun k hk => by
      obtain ⟨h', e'⟩ := hag (y - q + k) (by omega)
      refine ⟨by omega, ?_⟩
      have t1 : p + (y - q) + k = p + (y - q + k) := by omega
      have t2 : y + k = q + (y - q + k) := by omega
      simp only [t1, t2]
      exact e') v q' h hP
    refine ⟨by omega, ?_⟩
    dsimp only
    rw [h4, show p + (y - q) + (q' - y) = p + (q' - q) by omega]
theorem Lo.map {α β : Type} {P : β → Prop} {r : Decoder α} {f : α → β} (hr : Lo (fun _ => True) r) : Lo P (f <$> r) := by
  have e : f <$> r = r >>= fun a => Pure.pure (f a) := by
    first | rfl | simp only [bind_pure_comp] | exact map_eq_pure_bind f r
  rw [e]
  exact Lo.bind hr (fun a => Lo.pure _)
theorem Lo.never {α : Type} {P : α → Prop} {r : Decoder α} (h : ∀ (B : ByteArray) (q : Nat) (v : α) (q' : Nat), Reader.runAt r B q = .ok (v, q') → ¬ P v) : Lo P r := fun A B p q _ v q' e hP => absurd hP (h B q v q' e)
theorem Lo.u2 {P : Nat → Prop} : Lo P (Reader.u2 : Decoder Nat) := Lo.bind Lo.u1 (fun _ => Lo.bind Lo.u1 (fun _ => Lo.pure _))
theorem Lo.u4 {P : Nat → Prop} : Lo P (Reader.u4 : Decoder Nat) := Lo.bind Lo.u2 (fun _ => Lo.bind Lo.u2 (fun _ => Lo.pure _))
theorem Lo.s1 {P : Int → Prop} : Lo P (Reader.s1 : Decoder Int) := Lo.map Lo.u1
theorem Lo.s2 {P : Int → Prop} : Lo P (Reader.s2 : Decoder Int) := Lo.map Lo.u2
theorem Lo.s4 {P : Int → Prop} : Lo P (Reader.s4 : Decoder Int) := Lo.map Lo.u4
def plainI : Instr → Bool
  | .tableswitch _ _ _ _ | .lookupswitch _ _ | .invokeinterface _ _ | .invokedynamic _ | .multianewarray _ _ | .goto_w _ | .jsr_w _ => false
  | _ => true
def Re {α : Type} (P : α → Prop) (r : Decoder α) : Prop := ∀ (B : ByteArray) (q : Nat) (v : α) (q' : Nat), Reader.runAt r B q = .ok (v, q') → P v
theorem Re.pure {α : Type} {P : α → Prop} {v : α} (h : P v) : Re P (Pure.pure v : Decoder α) := by
  intro B q v' q' e
  have e : (Except.ok (v, q) : Except DecodeError (α × Nat)) = .ok (v', q') := e
  cases e
  exact h
theorem Re.throw {α : Type} {P : α → Prop} {e : DecodeError} : Re P (MonadExcept.throw e : Decoder α) := by
  intro B q v' q' h
  have h : (Except.error e : Except DecodeError (α × Nat)) = .ok (v', q') := h
  cases h
theorem Re.bind {α β : Type} {P : β → Prop} {r : Decoder α} {f : α → Decoder β} (hf : ∀ a, Re P (f a)) : Re P (r >>= f) := by
  intro B q v q' h
  have hB : Reader.runAt (r >>= f) B q = match Reader.runAt r B q with | .ok (a, y) => Reader.runAt (f a) B y | .error e => .error e := by
    unfold Reader.runAt
    show Except.bind (r B q) _ = match (r B q) with | .ok (a, y) => (f a) B y | .error e => .error e
    cases r B q <;> rfl
  rw [hB] at h
  cases e : Reader.runAt r B q with
  | error z => rw [e] at h; cases h
  | ok z => rw [e] at h; exact hf z.1 B z.2 v q' h
theorem Re.lo {α : Type} {P : α → Prop} {r : Decoder α} (h : Re (fun v => ¬ P v) r) : Lo P r := Lo.never h
theorem plain_no {i : Instr} (h : plainI i = false) : ¬ plainI i = true := by rw [h]; exact Bool.false_ne_true
theorem lo_ts (pc : Nat) : Lo (fun i => plainI i = true) (Decoder.tableswitch pc) := by
  refine Re.lo ?_
  unfold Decoder.tableswitch
  repeat (first | (refine Re.bind fun _ => ?_) | exact Re.pure (plain_no rfl) | exact Re.throw | split)
theorem lo_ls (pc : Nat) : Lo (fun i => plainI i = true) (Decoder.lookupswitch pc) := by
  refine Re.lo ?_
  unfold Decoder.lookupswitch
  repeat (first | (refine Re.bind fun _ => ?_) | exact Re.pure (plain_no rfl) | exact Re.throw | split)
theorem lo_ii (pc : Nat) : Lo (fun i => plainI i = true) (Decoder.invokeinterface pc) := by
  refine Re.lo ?_
  unfold Decoder.invokeinterface
  repeat (first | (refine Re.bind fun _ => ?_) | exact Re.pure (plain_no rfl) | exact Re.throw | split)
theorem lo_id (pc : Nat) : Lo (fun i => plainI i = true) (Decoder.invokedynamic pc) := by
  refine Re.lo ?_
  unfold Decoder.invokedynamic
  repeat (first | (refine Re.bind fun _ => ?_) | exact Re.pure (plain_no rfl) | exact Re.throw | split)
theorem lo_ma (pc : Nat) : Lo (fun i => plainI i = true) (Decoder.multianewarray pc) := by
  refine Re.lo ?_
  unfold Decoder.multianewarray
  repeat (first | (refine Re.bind fun _ => ?_) | exact Re.pure (plain_no rfl) | exact Re.throw | split)
theorem lo_na (pc : Nat) : Lo (fun i => plainI i = true) (Decoder.newarray pc) := by
  unfold Decoder.newarray
  refine Lo.bind Lo.u1 (fun _ => ?_)
  split <;> first | exact Lo.pure _ | exact Re.lo Re.throw
theorem lo_wi (pc : Nat) : Lo (fun i => plainI i = true) (Decoder.wide pc) := by
  unfold Decoder.wide
  refine Lo.bind Lo.u1 (fun _ => ?_)
  split <;> first | exact Lo.bind Lo.u2 (fun _ => Lo.pure _) | exact Lo.bind Lo.u2 (fun _ => Lo.bind Lo.s2 (fun _ => Lo.pure _)) | exact Re.lo Re.throw
set_option maxHeartbeats 8000000 in
set_option maxRecDepth 20000 in
theorem instr_lo (pc : Nat) : Lo (fun i => plainI i = true) (Decoder.instr pc) := by
  unfold Decoder.instr
  refine Lo.bind Lo.u1 (fun op => ?_)
  split
  all_goals first
    | exact Lo.pure _
    | exact Lo.bind Lo.u1 (fun _ => Lo.pure _)
    | exact Lo.bind Lo.u2 (fun _ => Lo.pure _)
    | exact Lo.bind Lo.s1 (fun _ => Lo.pure _)
    | exact Lo.bind Lo.s2 (fun _ => Lo.pure _)
    | exact Lo.bind Lo.u1 (fun _ => Lo.bind Lo.s1 (fun _ => Lo.pure _))
    | exact Re.lo Re.throw
    | exact Re.lo (Re.bind fun _ => Re.pure (plain_no rfl))
    | exact lo_ts _
    | exact lo_ls _
    | exact lo_ii _
    | exact lo_id _
    | exact lo_ma _
    | exact lo_na _
    | exact lo_wi _
