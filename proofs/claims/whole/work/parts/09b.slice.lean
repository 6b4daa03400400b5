/-- a few bytes decide -/
theorem dec_loc {bs : List UInt8} {pc n : Nat} {i : Instr} (hi : plainI i = true) (h : Reader.runAt (Decoder.instr pc) ⟨⟨(bs.drop pc).take 6⟩⟩ 0 = .ok (i, n)) : decode ⟨⟨bs⟩⟩ pc = .ok (i, n) := by
  obtain ⟨-, h2⟩ := instr_lo pc ⟨⟨bs⟩⟩ ⟨⟨(bs.drop pc).take 6⟩⟩ pc 0 (fun k hk => by
    have hk : 0 + k < ((bs.drop pc).take 6).length := hk
    rw [Nat.zero_add] at hk
    have hl : pc + k < bs.length := by
      rw [List.length_take, List.length_drop] at hk
      omega
    refine ⟨hl, ?_⟩
    show bs[pc + k] = ((bs.drop pc).take 6)[0 + k]
    simp) i n h hi
  unfold decode
  rw [h2]
  show (Except.ok (i, pc + (n - 0) - pc) : Except DecodeError (Instr × Nat)) = _
  rw [show pc + (n - 0) - pc = n by omega]
/-- the table's rows against the bytes, from front to back -/
noncomputable def wkB (bytes : ByteArray) : List UInt8 → Nat → PC → Bool
  | _, _, [] => true
  | bs, pos, (pc, E) :: r => Nat.beq pos pc && (if plainI E.1 then decide (Reader.runAt (Decoder.instr pc) ⟨⟨bs.take 6⟩⟩ 0 = .ok (E.1, E.2.1 - pc)) else decide (decode bytes pc = .ok (E.1, E.2.1 - pc))) && wkB bytes (bs.drop (E.2.1 - pc)) (pos + (E.2.1 - pc)) r
theorem wkB.ok {all : List UInt8} : ∀ {cd : PC} {bs : List UInt8} {pos : Nat}, bs = all.drop pos → wkB ⟨⟨all⟩⟩ bs pos cd = true → ∀ q ∈ cd, decode ⟨⟨all⟩⟩ q.1 = .ok (q.2.1, q.2.2.1 - q.1)
  | [], _, _, _, _, q, hq => by cases hq
  | (pc, E) :: r, bs, pos, hbs, h, q, hq => by
    unfold wkB at h
    simp only [Bool.and_eq_true] at h
    obtain ⟨⟨h1, h2⟩, h3⟩ := h
    have h1 := Nat.eq_of_beq_eq_true h1
    subst h1
    rcases List.mem_cons.mp hq with rfl | hq
    · dsimp only
      cases e : plainI E.1 with
      | true =>
        rw [e, if_pos rfl] at h2
        rw [hbs] at h2
        exact dec_loc e (of_decide_eq_true h2)
      | false =>
        rw [e, if_neg Bool.false_ne_true] at h2
        exact of_decide_eq_true h2
    · refine wkB.ok ?_ h3 q hq
      rw [hbs, List.drop_drop]
