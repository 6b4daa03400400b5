/-! the class's table of treads -/
def Stt (Q : Nat → Nat → Prop) (z : Nat) (w : Nat → Int32) (d t : Nat) : Prop := (∃ m, m ≤ d ∧ LD Q z m t ∧ w t = nI m) ∨ (w t = -1 ∧ ∀ m, m ≤ d → ¬ Rn Q z m t)
theorem Stt.at {Q : Nat → Nat → Prop} {z d e t : Nat} {w : Nat → Int32} (h : Stt Q z w e t) (he : e ≤ 12) (hd : d ≤ e) : w t = nI d ↔ LD Q z d t := by
  rcases h with ⟨m, h1, h2, h3⟩ | ⟨h1, h2⟩
  · rw [h3]
    constructor
    · intro y
      have := (nI_eq (by omega) (by omega)).mp y
      subst this
      exact h2
    · intro y
      rw [h2.un y]
  · rw [h1]
    constructor
    · intro y
      exact absurd y.symm (nI_nm (by omega))
    · intro y
      exact absurd y.1 (h2 d hd)
theorem xrow {fu d z : Nat} {x1 : Int32} {rU rD : Nat → Nat} {L : TL} {kk : Int32 → Int32 → Int32 → Int32 → TI → TL → Option (Unit × TI × TL)} (hfu : 2000 ≤ fu) (hd : d < 12) (u0 : rU 0 = 0) (d0 : rD 0 = 0) : ∀ (j p f : Nat) (I : TI), p + j = 13 → j < f → (∀ t, t < p → Stt (Qs rU rD) z (I 328) (d + 1) t) → (∀ t, p ≤ t → t < 13 → Stt (Qs rU rD) z (I 328) d t) → ∃ I', LO_X_countTreadsTo_28 fu kk f x1 (hst rU 12) (hst rD 12) (nI d) (nI p) I L = kk x1 (hst rU 12) (hst rD 12) (nI (d + 1)) I' L ∧ (∀ t, t < 13 → Stt (Qs rU rD) z (I' 328) (d + 1) t) ∧ (∀ o, o ≠ 328 → I' o = I o) := by
  intro j
  induction j with
  | zero =>
    intro p f I hp hf h1 h2
    obtain ⟨f, rfl⟩ : ∃ z, f = z + 1 := ⟨f - 1, by omega⟩
    have : p = 13 := by omega
    subst this
    refine ⟨I, ?_, h1, fun _ _ => rfl⟩
    rw [LO_X_countTreadsTo_28, if_pos (by decide), show nI d + 1 = nI (d + 1) from nI_1 ..]
  | succ j ih =>
    intro p f I hp hf h1 h2
    obtain ⟨f, rfl⟩ : ∃ z, f = z + 1 := ⟨f - 1, by omega⟩
    have b13 : (0 : Int32) ≤ nI p ∧ nI p < 13 := ib (n := 13) rfl (by omega) (by omega)
    have n12 : ¬ (12 : Int32) < nI p := nI_nlt (a := 12) (by omega) (by omega)
    have n1 : nI p + 1 = nI (p + 1) := nI_1 ..
    have lv : ∀ q, q < 13 → (I 328 q = nI d ↔ LD (Qs rU rD) z d q) := fun q hq => by
      by_cases c : q < p
      · exact (h1 q c).at (by omega) (by omega)
      · exact (h2 q (by omega) hq).at (by omega) (by omega)
    have keep : Stt (Qs rU rD) z (I 328) (d + 1) p → ∃ I', LO_X_countTreadsTo_28 fu kk f x1 (hst rU 12) (hst rD 12) (nI d) (nI (p + 1)) I L = kk x1 (hst rU 12) (hst rD 12) (nI (d + 1)) I' L ∧ (∀ t, t < 13 → Stt (Qs rU rD) z (I' 328) (d + 1) t) ∧ (∀ o, o ≠ 328 → I' o = I o) := by
      intro hs
      refine ih (p + 1) f I (by omega) (by omega) (fun t ht => ?_) (fun t g1 g2 => h2 t (by omega) g2)
      by_cases e : t = p
      · subst e; exact hs
      · exact h1 t (by omega)
    rcases h2 p (Nat.le_refl _) (by omega) with ⟨m, g1, g2, g3⟩ | ⟨g1, g2⟩
    · obtain ⟨I', r1, r2, r3⟩ := keep (Or.inl ⟨m, by omega, g2, g3⟩)
      refine ⟨I', ?_, r2, r3⟩
      rw [LO_X_countTreadsTo_28, if_neg n12, if_pos b13, nI_clamp (show p < 2 ^ 31 by omega), if_neg (show ¬ I 328 p = -1 by rw [g3]; exact nI_nm (by omega)), n1]
      exact r1
    · rcases x_reach (fu := fu) (p := p) (x2 := nI d) (I := I) (L := L) hfu (by omega) u0 d0 with ⟨q, q1, q2, q3, q4⟩ | ⟨q1, q2⟩
      · have hl : LD (Qs rU rD) z (d + 1) p := ⟨⟨q, q1, q2.1, ((lv q q1).mp q2.2).1⟩, fun m' hm' => g2 m' (by omega)⟩
        have sx : ∀ t, sI I 328 p (nI (d + 1)) 328 t = if t = p then nI (d + 1) else I 328 t := fun t => by rw [sI_ap, if_pos rfl]
        obtain ⟨I', r1, r2, r3⟩ := ih (p + 1) f (sI I 328 p (nI (d + 1))) (by omega) (by omega) (fun t ht => by
          by_cases e : t = p
          · subst e
            exact Or.inl ⟨d + 1, Nat.le_refl _, hl, by rw [sx, if_pos rfl]⟩
          · have := h1 t (by omega)
            unfold Stt at this ⊢
            rw [sx, if_neg e]; exact this) (fun t g1 g2 => by
          have := h2 t (by omega) g2
          unfold Stt at this ⊢
          rw [sx, if_neg (by omega)]; exact this)
        refine ⟨I', ?_, r2, fun o ho => by rw [r3 o ho, sJ_ne ho]⟩
        rw [LO_X_countTreadsTo_28, if_neg n12, if_pos b13, nI_clamp (show p < 2 ^ 31 by omega), if_pos g1, q4]
        simp only [Option.bind_some]
        rw [if_neg (show ¬ nI q = -1 from nI_nm (by omega)), if_pos b13, n1, show nI d + 1 = nI (d + 1) from nI_1 ..]
        exact r1
      · obtain ⟨I', r1, r2, r3⟩ := keep (Or.inr ⟨g1, fun m hm hr => by
          by_cases e : m = d + 1
          · subst e
            obtain ⟨q, y1, y2, y3⟩ := hr
            exact q1 q y1 ⟨y2, (lv q y1).mpr (LD.nx g2 y1 y2 y3)⟩
          · exact g2 m (by omega) hr⟩)
        refine ⟨I', ?_, r2, r3⟩
        rw [LO_X_countTreadsTo_28, if_neg n12, if_pos b13, nI_clamp (show p < 2 ^ 31 by omega), if_pos g1, q2]
        simp only [Option.bind_some]
        rw [if_pos trivial, n1]
        exact r1
theorem xlev {fu z : Nat} {x1 : Int32} {rU rD : Nat → Nat} {L : TL} (hfu : 2000 ≤ fu) (u0 : rU 0 = 0) (d0 : rD 0 = 0) : ∀ (j d f : Nat) (I : TI), d + j = 12 → j < f → (∀ t, t < 13 → Stt (Qs rU rD) z (I 328) d t) → ∃ I', LO_X_countTreadsTo_18 fu f x1 (hst rU 12) (hst rD 12) (nI d) I L = some ((), I', L) ∧ (∀ t, t < 13 → Stt (Qs rU rD) z (I' 328) 12 t) ∧ (∀ o, o ≠ 328 → I' o = I o) := by
  intro j
  induction j with
  | zero =>
    intro d f I hd hf h
    obtain ⟨f, rfl⟩ : ∃ z, f = z + 1 := ⟨f - 1, by omega⟩
    have : d = 12 := by omega
    subst this
    refine ⟨I, ?_, h, fun _ _ => rfl⟩
    rw [LO_X_countTreadsTo_18, if_pos (by decide)]
  | succ j ih =>
    intro d f I hd hf h
    obtain ⟨f, rfl⟩ : ∃ z, f = z + 1 := ⟨f - 1, by omega⟩
    obtain ⟨I1, a1, a2, a3⟩ := xrow (fu := fu) (d := d) (z := z) (x1 := x1) (L := L) (kk := fun x1 x2 x3 x4 I L => LO_X_countTreadsTo_18 fu f x1 x2 x3 x4 I L) hfu (by omega) u0 d0 13 0 fu I (by omega) (by omega) (fun t ht => by omega) (fun t _ ht => h t ht)
    obtain ⟨I2, b1, b2, b3⟩ := ih (d + 1) f I1 (by omega) (by omega) a2
    refine ⟨I2, ?_, b2, fun o ho => (b3 o ho).trans (a3 o ho)⟩
    rw [LO_X_countTreadsTo_18, if_neg (show ¬ (12 : Int32) ≤ nI d from nI_ge (b := 12) (by omega) (by omega))]
    exact a1.trans b1
theorem x_count {fu z : Nat} {rU rD : Nat → Nat} {I : TI} {L : TL} (hfu : 2000 ≤ fu) (hz : z < 13) (u0 : rU 0 = 0) (d0 : rD 0 = 0) : ∃ I', FO_X_countTreadsTo fu (nI z) (hst rU 12) (hst rD 12) I L = some ((), I', L) ∧ (∀ t, t < 13 → Stt (Qs rU rD) z (I' 328) 12 t) ∧ (∀ o, o ≠ 328 → I' o = I o) := by
  have sx : ∀ t, t < 13 → sI (va_up I 328 (fillF (I 328) (-1) 13)) 328 z 0 328 t = if t = z then 0 else -1 := fun t ht => by
    rw [sI_ap, if_pos rfl, vu_at]
    unfold fillF
    rw [if_pos ht]
  obtain ⟨I1, a1, a2, a3⟩ := xlev (fu := fu) (z := z) (x1 := nI z) (rU := rU) (rD := rD) (L := L) hfu u0 d0 12 0 fu (sI (va_up I 328 (fillF (I 328) (-1) 13)) 328 z 0) (by omega) (by omega) (fun t ht => by
    by_cases e : t = z
    · subst e
      exact Or.inl ⟨0, Nat.le_refl _, ⟨rfl, fun m' h => by omega⟩, by rw [sx t ht, if_pos rfl]; rfl⟩
    · refine Or.inr ⟨by rw [sx t ht, if_neg e], fun m hm hr => ?_⟩
      have : m = 0 := by omega
      subst this
      exact e hr)
  refine ⟨I1, ?_, a2, fun o ho => by rw [a3 o ho, sJ_ne ho, vu_ne ho]⟩
  unfold FO_X_countTreadsTo
  simp only [Option.bind_some]
  rw [if_pos (show (0 : Int32) ≤ nI z ∧ nI z < 13 from ib (n := 13) rfl hz (by omega)), nI_clamp (show z < 2 ^ 31 by omega)]
  exact a1
/-- the class's next place -/
theorem x_nextq {fu p m : Nat} {rU rD : Nat → Nat} {z : Nat} {I : TI} {L : TL} (hfu : 2000 ≤ fu) (hp : p < 13) (u0 : rU 0 = 0) (d0 : rD 0 = 0) (h : ∀ t, t < 13 → Stt (Qs rU rD) z (I 328) 12 t) (hm : LD (Qs rU rD) z (m + 1) p) : ∃ q, q < 13 ∧ Qs rU rD p q ∧ LD (Qs rU rD) z m q ∧ (∀ q', q' < q → ¬ (Qs rU rD p q' ∧ LD (Qs rU rD) z m q')) ∧ FO_X_nextQuiet fu (nI p) (hst rU 12) (hst rD 12) I L = some (nI q, I, L) := by
  have m12 := hm.le12 hp
  have ep : I 328 p = nI (m + 1) := ((h p hp).at (by omega) (by omega)).mpr hm
  have lv : ∀ q, q < 13 → (I 328 q = nI m ↔ LD (Qs rU rD) z m q) := fun q hq => (h q hq).at (by omega) (by omega)
  have fq : FO_X_nextQuiet fu (nI p) (hst rU 12) (hst rD 12) I L = FO_X_reaches fu (nI p) (nI m) (hst rU 12) (hst rD 12) I L := by
    unfold FO_X_nextQuiet
    rw [if_pos (show (0 : Int32) ≤ nI p ∧ nI p ≤ 12 from ⟨nI_pos' (by omega), nI_le (b := 12) (by omega) (by omega)⟩), if_pos (show (0 : Int32) ≤ nI p ∧ nI p < 13 from ib (n := 13) rfl hp (by omega)), nI_clamp (show p < 2 ^ 31 by omega), ep, nI_pred]
    exact bind_eta _
  rw [fq]
  rcases x_reach (fu := fu) (p := p) (x2 := nI m) (I := I) (L := L) hfu hp u0 d0 with ⟨q, q1, q2, q3, q4⟩ | ⟨q1, q2⟩
  · exact ⟨q, q1, q2.1, (lv q q1).mp q2.2, fun q' h1 h2 => q3 q' h1 ⟨h2.1, (lv q' (by omega)).mpr h2.2⟩, q4⟩
  · obtain ⟨q, h1, h2, h3⟩ := hm.dn
    exact absurd ⟨h2, (lv q h1).mpr h3⟩ (q1 q h1)
