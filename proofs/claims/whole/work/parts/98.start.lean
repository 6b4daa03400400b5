/-! the start -/
def stC (b : Nat) : Prop := (I00 332 0 = 0 ∧ I00 b 2 = 0 ∧ I00 332 1 = 0 ∧ I00 b 6 = 0 ∧ I00 332 2 = -1 ∧ I00 b 7 = -1 ∧ I00 332 3 = 0 ∧ I00 (b + 5) 2 = 0 ∧ I00 (b + 5) 1 = 0 ∧ I00 332 4 = 0 ∧ I00 b 11 = 0 ∧ I00 332 5 = 0 ∧ I00 b 13 = 0 ∧ I00 332 6 = 0 ∧ I00 b 16 = 0) ∧ (I00 (b + 1) 0 = 0 ∧ I00 (b + 1) 1 = 293 ∧ I00 (b + 1) 2 = 0 ∧ I00 (b + 1) 4 = 0) ∧ (∀ i, i < 5 → I00 332 (7 + i) = I00 (b + 1) i) ∧ (∀ k, k < 6 → I00 (b + 2) k = 0 ∧ I00 (b + 3) k = 0 ∧ I00 332 (12 + 2 * k) = 0 ∧ I00 332 (13 + 2 * k) = 0) ∧ (∀ k, k < 90 → I00 (b + 4) k = 0) ∧ (∀ k, k < 30 → I00 332 (1511 + k) = 0) ∧ (∀ k, k < 6 → I00 332 (24 + k) = 0 ∧ I00 (b + 127) k = 0 ∧ I00 332 (30 + k) = 0 ∧ I00 (b + 128) k = 0 ∧ I00 332 (36 + k) = 0 ∧ I00 (b + 129) k = 0 ∧ I00 332 (60 + k) = 0 ∧ I00 (b + 132) k = 0 ∧ I00 332 (71 + k) = 1 ∧ I00 (b + 134) k = 1) ∧ (∀ k, k < 9 → I00 332 (42 + k) = 1 ∧ I00 (b + 130) k = 1 ∧ I00 332 (51 + k) = 1 ∧ I00 (b + 131) k = 1)
set_option maxRecDepth 100000 in
theorem st_1 : stC 1 := by unfold stC; decide +kernel
set_option maxRecDepth 100000 in
theorem st_137 : stC 137 := by unfold stC; decide +kernel
theorem st_SR {b : Nat} (h : stC b) : SR (fun j => I00 (b + j)) (I00 332) := by
  obtain ⟨⟨a0, a1, a2, a3, a4, a5, a6, a7, a8, a9, a10, a11, a12, a13, a14⟩, ⟨h0, h1, h2, h4⟩, hi, hp, hk, hl, h6, h9⟩ := h
  have z : ∀ {x : Int32} (m : Nat), x = 0 → bd x m := fun m e => ⟨0, by omega, e⟩
  have o : ∀ {x : Int32} (m : Nat), 1 ≤ m → x = 1 → bd x m := fun m hm e => ⟨1, hm, e⟩
  refine ⟨⟨a0.trans a1.symm, z _ a1⟩, ⟨a2.trans a3.symm, z _ a3⟩, ⟨a4.trans a5.symm, ?_, ?_⟩, ⟨a6.trans a7.symm, z _ a7, z _ a8⟩, ⟨a9.trans a10.symm, z _ a10⟩, ⟨a11.trans a12.symm, z _ a12⟩, ⟨a13.trans a14.symm, z _ a14⟩, ⟨⟨z _ h0, ⟨293, by omega, h1⟩, z _ h2, trivial, z _ h4, fun k hk' => ⟨z _ (hp k hk').1, z _ (hp k hk').2.1⟩, fun k hk' => ⟨z _ (hk _ (by omega)), z _ (hk _ (by omega)), z _ (hk _ (by omega))⟩⟩, hi, fun k hk' => ⟨(hp k hk').2.2.1.trans (hp k hk').1.symm, (hp k hk').2.2.2.trans (hp k hk').2.1.symm⟩, fun k hk' => ?_⟩, ?_, ?_, ?_, ?_, ?_, ?_, ?_, ?_, ?_, ?_⟩
  · show -1 ≤ I00 (b + 0) 7
    rw [Nat.add_zero, a5]; decide
  · show I00 (b + 0) 7 < I00 (b + 0) 6
    rw [Nat.add_zero, a5, a3]; decide
  · show I00 332 (1511 + k) = (I00 (b + (1 + 3)) (3 * k) * 13 + I00 (b + (1 + 3)) (3 * k + 1)) * 100 + I00 (b + (1 + 3)) (3 * k + 2)
    rw [show b + (1 + 3) = b + 4 by omega, hl k hk', hk _ (by omega), hk _ (by omega), hk _ (by omega)]; decide
  · intro k hk'
    exact ⟨(h6 k hk').1.trans (h6 k hk').2.1.symm, z _ (h6 k hk').2.1⟩
  · intro k hk'
    exact ⟨(h6 k hk').2.2.1.trans (h6 k hk').2.2.2.1.symm, z _ (h6 k hk').2.2.2.1⟩
  · intro k hk'
    exact ⟨(h6 k hk').2.2.2.2.1.trans (h6 k hk').2.2.2.2.2.1.symm, 0, by omega, (h6 k hk').2.2.2.2.2.1⟩
  · intro k hk'
    exact ⟨(h9 k hk').1.trans (h9 k hk').2.1.symm, o _ (by omega) (h9 k hk').2.1⟩
  · intro k hk'
    exact ⟨(h9 k hk').2.2.1.trans (h9 k hk').2.2.2.symm, o _ (by omega) (h9 k hk').2.2.2⟩
  · intro k hk'
    exact ⟨(h6 k hk').2.2.2.2.2.2.1.trans (h6 k hk').2.2.2.2.2.2.2.1.symm, z _ (h6 k hk').2.2.2.2.2.2.2.1⟩
  · intro k hk' hl'
    have hl' : nI k < I00 b 13 := hl'
    rw [a12] at hl'
    exact absurd hl' (nI_pos (by omega))
  · intro k hk'
    refine ⟨(h6 k hk').2.2.2.2.2.2.2.2.1.trans (h6 k hk').2.2.2.2.2.2.2.2.2.symm, ?_, o _ (by omega) (h6 k hk').2.2.2.2.2.2.2.2.2⟩
    show 1 ≤ I00 (b + 134) k
    rw [(h6 k hk').2.2.2.2.2.2.2.2.2]; decide
  · intro k hk' hl'
    have hl' : nI k < I00 b 16 := hl'
    rw [a14] at hl'
    exact absurd hl' (nI_pos (by omega))
  · intro j hj hl'
    have hl' : nI j < I00 (b + 5) 2 := hl'
    rw [a7] at hl'
    exact absurd hl' (nI_pos (by omega))
set_option maxRecDepth 100000 in
theorem st_r : I00 0 4 = 0 ∧ I00 331 4 = 0 ∧ I00 307 0 = 0 ∧ I00 331 5 = -1 ∧ I00 331 6 = -1 ∧ I00 331 23 = 1 ∧ I00 137 6 = 0 ∧ I00 1 6 = 0 := by decide +kernel
theorem st_RL {fu : Nat} (hfu : 2000 ≤ fu) : ∃ I, FO_M_copy_332 fu I00 (fun _ _ => 0) = some ((), I, fun _ _ => 0) ∧ RL TX I I := by
  obtain ⟨J', a1, a2, a3, a4⟩ := lk_mc332 (fu := fu) (K := fun _ _ => 0) 1541 0 fu I00 (by omega) (by omega)
  obtain ⟨r1, r2, r3, r4, r5, r6, r7, r8⟩ := st_r
  refine ⟨J', a1, ?_⟩
  have e : ∀ o, o ≠ 333 → J' o = I00 o := a4
  refine ⟨?_, ?_, ?_, ?_, ?_, ?_, ?_⟩
  · rw [e 332 (by omega)]
    exact SR.cg (st_SR st_1) (fun j hj => e (1 + j) (by omega))
  · have s : SR (aI J') (I00 332) := SR.cg (st_SR st_137) (fun j hj => e (137 + j) (by omega))
    refine SR.mv s ?_ (fun i hi => a2 i (by omega) hi)
    unfold EqA
    simp
  · rw [e 137 (by omega), e 1 (by omega), r7, r8]; decide
  · unfold TP
    rw [e 0 (by omega), e 331 (by omega)]
    exact ⟨0, by omega, r1, r2, fun k hk => by omega⟩
  · unfold FT
    rw [e 307 (by omega), e 331 (by omega)]
    exact Or.inl ⟨r3, r4, r5⟩
  · rw [e 331 (by omega)]; exact r6
  · intro t ht hl
    rw [e 1 (by omega), r8] at hl
    exact absurd hl (nI_pos (by omega))
