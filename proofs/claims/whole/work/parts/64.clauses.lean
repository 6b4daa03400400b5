/-! a clause -/
/-- the end of a clause, for the model -/
def TAIL (fu : Nat) (mo : Option (Int32 × TI × TL)) : Option (Int32 × TI × TL) := mo.bind (fun u5 => let r5 := u5.1; let I5 := u5.2.1; let L5 := u5.2.2; if r5 = 0 then (if 0 ≤ I5 331 12 ∧ I5 331 12 < 2724 then (if 0 ≤ I5 331 12 ∧ I5 331 12 < 2724 then (if I5 331 9 = 59 then ((FO_M_nextToken fu (sI I5 334 ((I5 331 12).toNatClampNeg) ((I5 334 ((I5 331 12).toNatClampNeg)) + 1)) L5).bind (fun u8 => let r8 := u8.1; let I8 := u8.2.1; let L8 := u8.2.2; some (0, I8, L8))) else (some (1, sI I5 334 ((I5 331 12).toNatClampNeg) ((I5 334 ((I5 331 12).toNatClampNeg)) + 1), L5))) else none) else none) else (some (r5, I5, L5)))
section
variable {kd vl sp tp : Nat → Int32} {en : Nat → Nat} {len N fu t0 : Nat}
theorem tail_e {e : Nat} {J : TI} {K : TL} (he : 1 ≤ e ∧ e ≤ 6) : TAIL fu (some (nI e, J, K)) = some (nI e, J, K) := by
  unfold TAIL
  simp only [Option.bind_some]
  rw [if_neg (show ¬ nI e = 0 from nI_ne0 (by omega) (by omega))]
theorem tail_0 (nx : NX kd vl sp tp en len N fu) {J : TI} {K : TL} {k n : Nat} (h : MK kd vl sp tp en len J K k) (h12 : J 331 12 = nI t0) (ht : t0 ≤ 2043) (hn : J 334 t0 = nI n) : (kd k = 20 → k < N → ∃ J' K', TAIL fu (some (0, J, K)) = some (0, J', K') ∧ MK kd vl sp tp en len J' K' (k + 1) ∧ NXf (sI J 334 t0 (nI (n + 1))) J') ∧ (¬ kd k = 20 → TAIL fu (some (0, J, K)) = some (nI 1, sI J 334 t0 (nI (n + 1)), K)) := by
  have s := h.sg 59 20 (by decide)
  have hb : (0 : Int32) ≤ nI t0 ∧ nI t0 < 2724 := ib (n := 2724) rfl (by omega) (by omega)
  unfold TAIL
  simp only [Option.bind_some]
  rw [if_pos trivial, h12, if_pos hb, if_pos hb, nI_clamp (show t0 < 2 ^ 31 by omega), hn, nI_1]
  refine ⟨fun e hk => ?_, fun e => ?_⟩
  · have hs : MK kd vl sp tp en len (sI J 334 t0 (nI (n + 1))) K k := h.cg (fun i _ _ _ _ _ _ => by simp [sI_ap]) (sJ_ne (by omega))
    obtain ⟨J', K', a, b, c⟩ := nx _ K k hk hs
    rw [if_pos (show J 331 9 = 59 from s.mpr e), a]
    exact ⟨J', K', rfl, b, c⟩
  · rw [if_neg (show ¬ J 331 9 = 59 from fun z => e (s.mp z))]
    rfl
theorem c_deed {J J1 : TI} {K K1 : TL} {k n r : Nat} (h : MK kd vl sp tp en len J K k) (h12 : J 331 12 = nI t0) (ht : t0 ≤ 2043) (hn : J 334 t0 = nI n) (hn4 : n < 24) (hr : 2 ≤ r ∧ r ≤ 7) (hs : srt (kd k) = nI r) (a : FO_M_nextToken fu (sI J 331 14 (nI r)) K = some ((), J1, K1)) (b12 : J1 331 12 = nI t0) : FO_M_clause fu J K = TAIL fu (FO_M_body fu (nI r) (nI (t0 + 1 + 3 * n)) (sI J1 334 (t0 + 1 + 3 * n) (nI r)) K1) := by
  have hb : (0 : Int32) ≤ nI t0 ∧ nI t0 < 2724 := ib (n := 2724) rfl (by omega) (by omega)
  have mso : FO_M_sortOf fu J K = some (srt (kd k), J, K) := m_sort h
  have ex : nI t0 + 1 + 3 * nI n = nI (t0 + 1 + 3 * n) := by rw [show (3 : Int32) = nI 3 from rfl, pk_mul, nI_1, nI_add]
  unfold FO_M_clause
  rw [mso, hs]
  simp only [Option.bind_some]
  rw [if_pos (show (0 : Int32) ≤ nI r from nI_pos' (by omega)), if_pos (show (1 : Int32) < nI r from nI_lt (a := 1) (by omega) (by omega)), h12, if_pos hb, nI_clamp (show t0 < 2 ^ 31 by omega), hn, if_neg (show ¬ nI n = 24 from fun z => by have := (nI_eq (b := 24) (by omega) (by omega)).mp z; omega), if_pos (show (1 : Int32) < nI r from nI_lt (a := 1) (by omega) (by omega)), a]
  simp only [Option.bind_some]
  rw [b12, ex, if_pos (show (0 : Int32) ≤ nI (t0 + 1 + 3 * n) ∧ nI (t0 + 1 + 3 * n) < 2724 from ib (n := 2724) rfl (by omega) (by omega)), nI_clamp (show t0 + 1 + 3 * n < 2 ^ 31 by omega)]
  rfl
theorem c_full {J : TI} {K : TL} {k r : Nat} (h : MK kd vl sp tp en len J K k) (h12 : J 331 12 = nI t0) (ht : t0 ≤ 2043) (hn : J 334 t0 = nI 24) (hr : 2 ≤ r ∧ r ≤ 7) (hs : srt (kd k) = nI r) : FO_M_clause fu J K = some (nI 6, J, K) := by
  have hb : (0 : Int32) ≤ nI t0 ∧ nI t0 < 2724 := ib (n := 2724) rfl (by omega) (by omega)
  have mso : FO_M_sortOf fu J K = some (srt (kd k), J, K) := m_sort h
  unfold FO_M_clause
  rw [mso, hs]
  simp only [Option.bind_some]
  rw [if_pos (show (0 : Int32) ≤ nI r from nI_pos' (by omega)), if_pos (show (1 : Int32) < nI r from nI_lt (a := 1) (by omega) (by omega)), h12, if_pos hb, nI_clamp (show t0 < 2 ^ 31 by omega), hn, if_pos (show nI 24 = 24 from rfl)]
  rfl
theorem c_lawn {J J1 : TI} {K K1 : TL} {k n r on : Nat} (h : MK kd vl sp tp en len J K k) (h12 : J 331 12 = nI t0) (ht : t0 ≤ 2043) (hn : J 334 t0 = nI n) (hr : r ≤ 1) (hs : srt (kd k) = nI r) (ho : J 331 19 = nI on) (hof : on < 4) : (on / 2 ^ r % 2 = 1 → FO_M_clause fu J K = some (nI 4, J, K)) ∧ (on / 2 ^ r % 2 = 0 → n = 24 → FO_M_clause fu J K = some (nI 6, J, K)) ∧ (on / 2 ^ r % 2 = 0 → n < 24 → FO_M_nextToken fu (sI (sI J 331 19 (nI (on + 2 ^ r))) 331 14 (nI r)) K = some ((), J1, K1) → J1 331 12 = nI t0 → FO_M_clause fu J K = TAIL fu (FO_M_body fu (nI r) (nI (t0 + 1 + 3 * n)) (sI J1 334 (t0 + 1 + 3 * n) (nI r)) K1)) := by
  have hb : (0 : Int32) ≤ nI t0 ∧ nI t0 < 2724 := ib (n := 2724) rfl (by omega) (by omega)
  have mso : FO_M_sortOf fu J K = some (srt (kd k), J, K) := m_sort h
  have ex : nI t0 + 1 + 3 * nI n = nI (t0 + 1 + 3 * n) := by rw [show (3 : Int32) = nI 3 from rfl, pk_mul, nI_1, nI_add]
  have bits : ∀ a, a < 4 → ∀ b, b < 2 → ((nI a >>> (nI b &&& 31)) &&& 1 = nI (a / 2 ^ b % 2)) ∧ (a / 2 ^ b % 2 = 0 → nI a ||| ((1 : Int32) <<< (nI b &&& 31)) = nI (a + 2 ^ b)) := by decide +kernel
  have hbt := bits on hof r (by omega)
  unfold FO_M_clause
  rw [mso, hs]
  simp only [Option.bind_some]
  rw [if_pos (show (0 : Int32) ≤ nI r from nI_pos' (by omega)), if_neg (show ¬ (1 : Int32) < nI r from nI_nlt (a := 1) hr (by omega))]
  unfold FO_M_has
  rw [ho, hbt.1]
  refine ⟨fun e => ?_, fun e hn2 => ?_, fun e hn2 a b12 => ?_⟩
  · rw [if_pos (show nI (on / 2 ^ r % 2) = 1 by rw [e]; rfl)]
    rfl
  · subst hn2
    rw [if_neg (show ¬ nI (on / 2 ^ r % 2) = 1 by rw [e]; decide)]
    simp only [Option.bind_some]
    rw [if_pos trivial, h12, if_pos hb, nI_clamp (show t0 < 2 ^ 31 by omega), hn, if_pos (show nI 24 = 24 from rfl)]
    rfl
  · rw [if_neg (show ¬ nI (on / 2 ^ r % 2) = 1 by rw [e]; decide)]
    simp only [Option.bind_some]
    rw [if_pos trivial, h12, if_pos hb, nI_clamp (show t0 < 2 ^ 31 by omega), hn, if_neg (show ¬ nI n = 24 from fun z => by have := (nI_eq (b := 24) (by omega) (by omega)).mp z; omega), if_neg (show ¬ (1 : Int32) < nI r from nI_nlt (a := 1) hr (by omega)), ho, hbt.2 e, a]
    simp only [Option.bind_some]
    rw [b12, ex, if_pos (show (0 : Int32) ≤ nI (t0 + 1 + 3 * n) ∧ nI (t0 + 1 + 3 * n) < 2724 from ib (n := 2724) rfl (by omega) (by omega)), nI_clamp (show t0 + 1 + 3 * n < 2 ^ 31 by omega)]
    rfl
theorem c_none {J : TI} {K : TL} {k : Nat} (h : MK kd vl sp tp en len J K k) (hs : srt (kd k) = -1) : FO_M_clause fu J K = some (nI 1, J, K) := by
  have mso : FO_M_sortOf fu J K = some (srt (kd k), J, K) := m_sort h
  unfold FO_M_clause
  rw [mso, hs]
  rfl
/-- a law, read by both -/
theorem d_law (hN : kd N = 0) (nx : NX kd vl sp tp en len N fu) (hfu : 2000 ≤ fu) (ht : t0 ≤ 2043) {I J : TI} {L K : TL} {k q w n x so nn : Nat} (hso : so ≤ 1) (hnn : nn = if so = 0 then 8 else 3) (hX : XS kd vl sp N I k q) (hm : MK kd vl sp tp en len J K k) (h12 : J 331 12 = nI t0) (h13 : J 331 13 = nI w) (h14 : J 331 14 = nI so) (hb : q ≤ k ∧ w ≤ k) (hn : I 308 0 = nI n) (hn4 : n < 24) (hx : x = t0 + 1 + 3 * n) : DBad sp t0 (FO_R_readLaw fu (nI (38 + so)) I L) (FO_M_body fu (nI so) (nI x) J K) I L J ∨
    ∃ (I' J' : TI) (K' : TL) (k' q' w' : Nat), FO_R_readLaw fu (nI (38 + so)) I L = some (1, I', L) ∧ XS kd vl sp N I' k' q' ∧ (k < k' ∧ q' + k ≤ q + k' ∧ w' + k ≤ w + k' ∧ q ≤ q' ∧ w ≤ w') ∧ FrD I I' ∧ I' 308 0 = nI (n + 1) ∧ (∀ i, i ≠ n → I' 309 i = I 309 i ∧ I' 310 i = I 310 i ∧ I' 311 i = I 311 i) ∧ I' 309 n = nI (38 + so) ∧ CdX I I' q ∧ (I' 314 so = nI q ∧ I' 315 so = nI q') ∧ (∀ r, r ≠ so → I' 314 r = I 314 r ∧ I' 315 r = I 315 r) ∧ FO_M_body fu (nI so) (nI x) J K = some (0, J', K') ∧ MK kd vl sp tp en len J' K' k' ∧ J' 331 13 = nI w' ∧ J' 331 12 = nI t0 ∧ J' 331 19 = J 331 19 ∧ FrC t0 J J' ∧ (∀ y, y < t0 + 73 + 2 * w → y ≠ x + 1 → y ≠ x + 2 → J' 334 y = J 334 y) ∧ (J' 334 (x + 1) = nI w ∧ J' 334 (x + 2) = nI w') ∧ Seg nn (I' 312) (I' 313) (fun y => J' 334 (t0 + 73 + y)) q q' w w' 79 := by
  have hX1 : XS kd vl sp N (sI I 307 11 (nI (38 + so))) k q := by
    obtain ⟨h7, h8, h9, h10, h4, e1, e2, e3, h5, h6⟩ := hX
    exact ⟨by simp [sI_ap, h7], by simp [sI_ap, h8], by simp [sI_ap, h9], by simp [sI_ap, h10], by simp [sI_ap, h4], by rw [sJ_ne (by omega), e1], by rw [sJ_ne (by omega), e2], by rw [sJ_ne (by omega), e3], h5, h6⟩
  obtain ⟨I1, a1, a2, a3, a4, a5, a6, a7, a8⟩ := x_clause (fu := fu) (a := nI (38 + so)) (b := 0) (c := 0) (L := L) hX1 (show sI I 307 11 (nI (38 + so)) 308 0 = nI n by rw [sJ_ne (by omega)]; exact hn) hn4
  have fA : FrD I I1 := FrD.tr ⟨fun o ho => sJ_ne (by omega), by simp [sI_ap]⟩ a3
  have h38 : (nI (38 + so) = 38 ∧ so = 0) ∨ (¬ nI (38 + so) = 38 ∧ so = 1) := by
    have : so = 0 ∨ so = 1 := by omega
    rcases this with rfl | rfl
    · exact Or.inl ⟨rfl, rfl⟩
    · exact Or.inr ⟨by decide, rfl⟩
  have eB : FO_T_beginLaw fu (nI (38 + so)) I1 L = some ((), sI I1 314 so (nI q), L) := by
    unfold FO_T_beginLaw
    rw [a2.2.2.2.2.1]
    rcases h38 with ⟨h, rfl⟩ | ⟨h, rfl⟩
    · rw [if_pos h]
    · rw [if_neg h]
  have eE : ∀ (I3 : TI), FO_T_endLaw fu (nI (38 + so)) I3 L = some ((), sI I3 315 so (I3 308 4), L) := by
    intro I3
    unfold FO_T_endLaw
    rcases h38 with ⟨h, rfl⟩ | ⟨h, rfl⟩
    · rw [if_pos h]
    · rw [if_neg h]
  have hX2 : XS kd vl sp N (sI I1 314 so (nI q)) k q := by
    obtain ⟨h7, h8, h9, h10, h4, e1, e2, e3, h5, h6⟩ := a2
    exact ⟨by simp [sI_ap, h7], by simp [sI_ap, h8], by simp [sI_ap, h9], by simp [sI_ap, h10], by simp [sI_ap, h4], by rw [sJ_ne (by omega), e1], by rw [sJ_ne (by omega), e2], by rw [sJ_ne (by omega), e3], h5, h6⟩
  have l11 : sI I1 314 so (nI q) 307 11 = nI (38 + so) := by rw [sJ_ne (by omega), a8]; simp [sI_ap]
  have hm1 : MK kd vl sp tp en len (sI J 334 (x + 1) (nI w)) K k := hm.cg (fun i _ _ _ _ _ _ => by simp [sI_ap]) (sJ_ne (by omega))
  have tl := t_law (L := L) (I := sI I1 314 so (nI q)) (J := sI J 334 (x + 1) (nI w)) (w := w) hN nx hfu ht hso hnn hX2 l11 hm1 (by rw [sJ_ne (by omega)]; exact h12) (by rw [sJ_ne (by omega)]; exact h13) (by rw [sJ_ne (by omega)]; exact h14) hb
  have eBody : FO_M_body fu (nI so) (nI x) J K = (FO_M_summed fu (sI J 334 (x + 1) (nI w)) K).bind (fun u2 => some (u2.1, sI u2.2.1 334 (x + 2) (u2.2.1 331 13), u2.2.2)) := by
    have be : ∀ y : Option (Int32 × TI × TL), (y.bind fun u => some (u.1, u.2.1, u.2.2)) = y := fun y => bind_eta y
    unfold FO_M_body FO_M_lawClause
    rw [if_neg (show ¬ nI so = 2 from fun z => by have := (nI_eq (b := 2) (by omega) (by omega)).mp z; omega), if_neg (show ¬ nI so = 3 from fun z => by have := (nI_eq (b := 3) (by omega) (by omega)).mp z; omega), if_neg (show ¬ nI so = 4 from fun z => by have := (nI_eq (b := 4) (by omega) (by omega)).mp z; omega), if_neg (show ¬ nI so = 5 from fun z => by have := (nI_eq (b := 5) (by omega) (by omega)).mp z; omega), if_neg (show ¬ nI so = 6 from fun z => by have := (nI_eq (b := 6) (by omega) (by omega)).mp z; omega), if_neg (show ¬ nI so = 7 from fun z => by have := (nI_eq (b := 7) (by omega) (by omega)).mp z; omega)]
    simp only [be]
    rw [nI_1, show nI x + 2 = nI (x + 2) from nI_add x 2, if_pos (show (0 : Int32) ≤ nI (x + 1) ∧ nI (x + 1) < 2724 from ib (n := 2724) rfl (by omega) (by omega)), nI_clamp (show x + 1 < 2 ^ 31 by omega), h13, nI_clamp (show x + 2 < 2 ^ 31 by omega)]
    simp only [if_pos (show (0 : Int32) ≤ nI (x + 2) ∧ nI (x + 2) < 2724 from ib (n := 2724) rfl (by omega) (by omega))]
  unfold FO_R_readLaw
  rw [a1]
  simp only [Option.bind_some]
  rw [eB, eBody]
  simp only [Option.bind_some]
  have f2 : FrD I (sI I1 314 so (nI q)) := fA.tr ⟨fun o ho => sJ_ne (by omega), by simp [sI_ap]⟩
  have fJ : FrC t0 J (sI J 334 (x + 1) (nI w)) := ⟨fun o _ h2 _ => sJ_ne h2, fun i _ => by simp [sI_ap], fun y hy => by simp [sI_ap, show ¬ y = x + 1 by omega]⟩
  rcases tl with ⟨e, kx, I', J', K', h1, h2, h3, h4, h5, h6, h7⟩ | ⟨I', J', K', k', q', w', h1, h2, h3, h4, h5, h6, h7, h8, h9, h10, h11⟩
  · left
    rw [h1, h4]
    simp only [Option.bind_some]
    rw [eE]
    refine ⟨e, kx, sI I' 315 so (I' 308 4), sI J' 334 (x + 2) (J' 331 13), K', rfl, h2, f2.tr (h3.d.1.tr ⟨fun o ho => sJ_ne (by omega), by simp [sI_ap]⟩), ⟨by rw [sJ_ne (by omega)]; exact h3.d.2.1, by rw [sJ_ne (by omega)]; exact h3.d.2.2⟩, rfl, by rw [sJ_ne (by omega)]; exact h5, fJ.tr (FrC.tr (h6.c h7) ⟨fun o _ h2 _ => sJ_ne h2, fun i _ => by simp [sI_ap], fun y hy => by simp [sI_ap, show ¬ y = x + 2 by omega]⟩)⟩
  · right
    rw [h1, h6]
    simp only [Option.bind_some]
    rw [eE]
    have e4 : I' 308 4 = nI q' := h2.2.2.2.2.1
    have eo : ∀ o, o = 309 ∨ o = 310 ∨ o = 311 ∨ o = 314 ∨ o = 315 → I' o = sI I1 314 so (nI q) o := fun o ho => h3.1 o (by omega) (by omega) (by omega) (by omega)
    refine ⟨sI I' 315 so (I' 308 4), sI J' 334 (x + 2) (J' 331 13), K', k', q', w', rfl, ?_, h5, f2.tr (h3.d.tr ⟨fun o ho => sJ_ne (by omega), by simp [sI_ap]⟩), ?_, fun i hi => ?_, ?_, ?_, ⟨?_, by simp [sI_ap, e4]⟩, fun r hr => ?_, rfl, ?_, by rw [sJ_ne (by omega)]; exact h8, ?_, ?_, fJ.tr (FrC.tr (h9.c (fun y hy => h10 y (by omega))) ⟨fun o _ h2 _ => sJ_ne h2, fun i _ => by simp [sI_ap], fun y hy => by simp [sI_ap, show ¬ y = x + 2 by omega]⟩), fun y hy h1' h2' => ?_, ⟨?_, by simp [sI_ap, h8]⟩, ?_⟩
    · obtain ⟨g7, g8, g9, g10, g4, e1, e2, e3, g5, g6⟩ := h2
      exact ⟨by simp [sI_ap, g7], by simp [sI_ap, g8], by simp [sI_ap, g9], by simp [sI_ap, g10], by simp [sI_ap, g4], by rw [sJ_ne (by omega), e1], by rw [sJ_ne (by omega), e2], by rw [sJ_ne (by omega), e3], g5, g6⟩
    · rw [sJ_ne (by omega), h3.2.2 0 (by omega), sJ_ne (by omega)]; exact a4
    · have := a5 i hi
      rw [sJ_ne (by omega), sJ_ne (by omega), sJ_ne (by omega), eo 309 (by omega), eo 310 (by omega), eo 311 (by omega), sJ_ne (by omega), sJ_ne (by omega), sJ_ne (by omega), this.1, this.2.1, this.2.2, sJ_ne (by omega), sJ_ne (by omega), sJ_ne (by omega)]
      exact ⟨rfl, rfl, rfl⟩
    · rw [sJ_ne (by omega), eo 309 (by omega), sJ_ne (by omega)]; exact a6.1
    · intro j hj
      have := h4 j hj
      rw [sJ_ne (by omega), sJ_ne (by omega)] at this
      rw [sJ_ne (by omega), sJ_ne (by omega), this.1, this.2, a7 312 (by omega) (by omega), a7 313 (by omega) (by omega), sJ_ne (by omega), sJ_ne (by omega)]
      exact ⟨rfl, rfl⟩
    · rw [sJ_ne (by omega), eo 314 (by omega)]; simp [sI_ap]
    · constructor
      · rw [sJ_ne (by omega), eo 314 (by omega), sI_ap, if_pos rfl, if_neg hr, a7 314 (by omega) (by omega), sJ_ne (by omega)]
      · rw [sI_ap, if_pos rfl, if_neg hr, eo 315 (by omega), sJ_ne (by omega), a7 315 (by omega) (by omega), sJ_ne (by omega)]
    · exact h7.cg (fun i _ _ _ _ _ _ => by simp [sI_ap]) (sJ_ne (by omega))
    · rw [sJ_ne (by omega), h9.2 12 (by omega) (by omega) (by omega) (by omega) (by omega) (by omega) (by omega) (by omega), sJ_ne (by omega)]; exact h12
    · rw [sJ_ne (by omega), h9.2 19 (by omega) (by omega) (by omega) (by omega) (by omega) (by omega) (by omega) (by omega), sJ_ne (by omega)]
    · rw [sI_ap, if_pos rfl, if_neg h2', h10 y hy, sI_ap, if_pos rfl, if_neg h1']
    · rw [sI_ap, if_pos rfl, if_neg (by omega), h10 (x + 1) (by omega), sI_ap, if_pos rfl, if_pos rfl]
    · refine h11.cg (fun t h1 h2 => ?_) (fun y h1 h2 => ?_) (Nat.le_refl _)
      · rw [sJ_ne (by omega), sJ_ne (by omega)]; exact ⟨rfl, rfl⟩
      · show sI J' 334 (x + 2) (J' 331 13) 334 (t0 + 73 + y) = J' 334 (t0 + 73 + y)
        rw [sI_ap, if_pos rfl, if_neg (by omega)]
end
