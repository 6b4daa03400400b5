/-! the house walks -/
def EvI (I I' : TI) : Prop := ∀ o, ¬ (2 ≤ o ∧ o ≤ 127) → ¬ (319 ≤ o ∧ o ≤ 330) → I' o = I o
def EvJ (J J' : TI) : Prop := (∀ o, o ≠ 331 → o ≠ 332 → ¬ (336 ≤ o ∧ o ≤ 348) → J' o = J o) ∧ J' 331 4 = J 331 4 ∧ J' 331 5 = J 331 5 ∧ J' 331 6 = J 331 6 ∧ J' 331 23 = J 331 23
theorem EvI.rf {I : TI} : EvI I I := fun _ _ _ => rfl
theorem EvJ.rf {J : TI} : EvJ J J := ⟨fun _ _ _ _ => rfl, rfl, rfl, rfl, rfl⟩
theorem EvI.tr {I I' I'' : TI} (a : EvI I I') (b : EvI I' I'') : EvI I I'' := fun o h1 h2 => (b o h1 h2).trans (a o h1 h2)
theorem EvJ.tr {J J' J'' : TI} (a : EvJ J J') (b : EvJ J' J'') : EvJ J J'' := ⟨fun o h0 h1 h2 => (b.1 o h0 h1 h2).trans (a.1 o h0 h1 h2), b.2.1.trans a.2.1, b.2.2.1.trans a.2.2.1, b.2.2.2.1.trans a.2.2.2.1, b.2.2.2.2.trans a.2.2.2.2⟩
theorem ScI.ev {I I' : TI} (a : ScI I I') : EvI I I' := fun o _ h2 => a o h2
theorem ScJ.ev {J J' : TI} (a : ScJ J J') : EvJ J J' := ⟨fun o h0 _ h2 => a.1 o h0 h2, a.2⟩
theorem EvJ.one {J J' : TI} (h : ∀ o, o ≠ 332 → J' o = J o) : EvJ J J' := by
  have e : J' 331 = J 331 := h 331 (by omega)
  exact ⟨fun o _ h1 _ => h o h1, by rw [e], by rw [e], by rw [e], by rw [e]⟩
theorem EvI.one {I I' : TI} {c : Nat} (hc : 2 ≤ c ∧ c ≤ 127) (h : ∀ o, o ≠ c → I' o = I o) : EvI I I' := fun o h1 _ => h o (by omega)
theorem LR.ev {I J I' J' : TI} (h : LR I J) (s : SR (aN I') (J' 332)) (a : EvI I I') (b : EvJ J J') : LR I' J' := by
  refine ⟨s, fun t ht hl => ?_⟩
  rw [a 1 (by omega) (by omega)] at hl
  rw [b.1 334 (by omega) (by omega) (by omega), show (fun i => I' (274 + 8 * t + i % 8)) = (fun i => I (274 + 8 * t + i % 8)) from by funext i; exact a _ (by omega) (by omega)]
  exact h.2 t ht hl
theorem RL.ev {T : TI → (Nat → Int32) → Prop} {I J I' J' : TI} (h : RL T I J) (s : SR (aN I') (J' 332)) (a : EvI I I') (b : EvJ J J') : RL T I' J' := by
  obtain ⟨h1, h2, h3, h4, h5, h6, h7⟩ := h
  obtain ⟨b0, b4, b5, b6, b23⟩ := b
  refine ⟨s, ?_, ?_, ?_, ?_, ?_, ?_⟩
  · rw [b0 333 (by omega) (by omega) (by omega)]; exact SR.cg h2 (fun j hj => a _ (by omega) (by omega))
  · rw [a 137 (by omega) (by omega), a 1 (by omega) (by omega)]; exact h3
  · unfold TP; rw [a 0 (by omega) (by omega), a 306 (by omega) (by omega), b4, b0 335 (by omega) (by omega) (by omega)]; exact h4
  · unfold FT; rw [a 307 (by omega) (by omega), b5, b6]; exact h5
  · rw [b23]; exact h6
  · intro t ht hl
    rw [a 1 (by omega) (by omega)] at hl
    rw [b0 334 (by omega) (by omega) (by omega), show (fun i => I' (274 + 8 * t + i % 8)) = (fun i => I (274 + 8 * t + i % 8)) from by funext i; exact a _ (by omega) (by omega)]
    exact h7 t ht hl
theorem OpR_e {α : Type} {T : TI → (Nat → Int32) → Prop} {f g : TI → TL → Option (α × TI × TL)} (h : ∀ I J L K, RL T I J → ∃ r I' L' J' K', f I L = some (r, I', L') ∧ g J K = some (r, J', K') ∧ SR (aN I') (J' 332) ∧ EvI I I' ∧ EvJ J J') : OpR T f g := by
  intro I J L K hR
  obtain ⟨r, I', L', J', K', e1, e2, s, a, b⟩ := h I J L K hR
  exact ⟨r, I', L', J', K', e1, e2, hR.ev s a b, fun o ho => a o (by omega) (by omega), fun o ho => b.1 o (by omega) (by omega) (by omega)⟩
theorem mn9 {I : TI} {t : Nat} (h : t < 2 ^ 31 - 1) : F_J_min I (nI (t + 1)) 9999 = nI (min (t + 1) 9999) := by
  unfold F_J_min
  by_cases c : 9999 < t + 1
  · rw [if_pos (show (9999 : Int32) < nI (t + 1) from nI_lt (a := 9999) c (by omega)), Nat.min_eq_right (by omega)]; rfl
  · rw [if_neg (show ¬ (9999 : Int32) < nI (t + 1) from nI_nlt (a := 9999) (by omega) (by omega)), Nat.min_eq_left (by omega)]
theorem cut9 {fu t : Nat} {J : TI} {K : TL} (h : t ≤ 9999) : FO_M_cut fu ((nI (t + 1)).toInt64) 0 9999 J K = some (nI (min (t + 1) 9999), J, K) := by
  unfold FO_M_cut
  have b0 : bl 0 := by unfold bl; omega
  have b9 : bl 9999 := by unfold bl; omega
  have hb : bq ((t + 1 : Nat) : Int) := by unfold bq; omega
  rw [show ((0 : Int32).toInt64) = lZ 0 from by decide, show ((9999 : Int32).toInt64) = lZ 9999 from by decide, nI_Z, iZ_64 hb]
  rw [if_pos ((lc_ge _ _).mpr ((lZ_le b0 hb.l).mpr (by omega)))]
  by_cases h2 : t + 1 ≤ 9999
  · rw [if_pos ((lc_le _ _).mpr ((lZ_le hb.l b9).mpr (by omega))), lZ_32, ← nI_Z, Nat.min_eq_left (by omega)]
  · rw [if_neg (fun q => h2 (by have := (lZ_le hb.l b9).mp ((lc_le _ _).mp q); omega)), Nat.min_eq_right (by omega)]; rfl
theorem EvJ.w24 {J J' : TI} (h : ∀ o, o ≠ 331 → o ≠ 332 → J' o = J o) (h2 : ∀ i, i ≠ 24 → J' 331 i = J 331 i) : EvJ J J' := ⟨fun o h0 h1 _ => h o h0 h1, h2 4 (by omega), h2 5 (by omega), h2 6 (by omega), h2 23 (by omega)⟩
/-- one goes -/
theorem go2 {fu l q : Nat} {p1 up n : Int32} {I J : TI} {L K : TL} (hfu : 2000 ≤ fu) (hR : LR I J) (h23 : J 331 23 = 1) (hl : l < 6) (hq : q ≤ 12) (e1 : I 3 l + p1 = nI q) (hu : (p1 ≤ 0 ∧ up = 0 ∧ I 3 l - n = nI q) ∨ (¬ p1 ≤ 0 ∧ up = 1 ∧ I 3 l + n = nI q)) :
    ∃ r I' J' K', r ≤ 99 ∧ FO_X_go fu (nI l) p1 I L = some (nI r, I', L) ∧ FO_M_treadNow fu (nI l) up n J K = some (nI r, J', K') ∧ SR (aN I') (J' 332) ∧ EvI I I' ∧ EvJ J J' ∧ J' 331 24 = (if r = 0 then J 331 24 else J 331 24 + 1) ∧ (∀ k, k ≠ 4 → I' 2 k = I 2 k) := by
  obtain ⟨r, I1, J1, K1, hr, a1, a2, a3, a4⟩ := loudK (fu := fu) (l := l) (p := q) (up := up) (L := L) (K := K) hfu hR hl hq
  have R1 : LR I1 J1 := hR.sc a3 a4.1.j
  obtain ⟨t, ht, et⟩ := (R1.s.ho.1.2.2.2.2.2.1 l hl).2
  have et : I1 4 l = nI t := et
  have jt : J1 332 (13 + 2 * l) = nI t := (R1.s.f_tr l hl).trans et
  have jp : J 332 (12 + 2 * l) = I 3 l := hR.s.f_pl l hl
  have sA : SR (aN (sI (sI I1 3 l (nI q)) 4 l (nI (min (t + 1) 9999)))) (sI (sI J1 332 (12 + 2 * l) (nI q)) 332 (13 + 2 * l) (nI (min (t + 1) 9999)) 332) := by
    rw [aN_sI 3 rfl, aN_sI 2 rfl, sJ_at, sJ_at]
    exact SR.set_tr (SR.set_pl R1.s hl ⟨q, hq, rfl⟩) hl ⟨_, by omega, rfl⟩
  have vA : EvI I (sI (sI I1 3 l (nI q)) 4 l (nI (min (t + 1) 9999))) := a3.ev.tr (fun o h1 h2 => by rw [sJ_ne (by omega), sJ_ne (by omega)])
  have vJ : EvJ J (sI (sI J1 332 (12 + 2 * l) (nI q)) 332 (13 + 2 * l) (nI (min (t + 1) 9999))) := a4.1.j.ev.tr (EvJ.one (fun o h => by rw [sJ_ne h, sJ_ne h]))
  have j331 : sI (sI J1 332 (12 + 2 * l) (nI q)) 332 (13 + 2 * l) (nI (min (t + 1) 9999)) 331 = J 331 := by
    rw [sJ_ne (by omega), sJ_ne (by omega)]; exact a4.1 331 (by omega) (by omega)
  have i2 : sI (sI I1 3 l (nI q)) 4 l (nI (min (t + 1) 9999)) 2 = I 2 := by
    rw [sJ_ne (by omega), sJ_ne (by omega)]; exact a3 2 (by omega)
  have tail : ∃ I' J', (if nI r ≤ 0 then some (nI r, sI (sI I1 3 l (nI q)) 4 l (nI (min (t + 1) 9999)), L) else ((FO_H_write fu (nI q) (nI r) (sI (sI I1 3 l (nI q)) 4 l (nI (min (t + 1) 9999))) L).bind (fun u6 => let r6 := u6.1; let I6 := u6.2.1; let L6 := u6.2.2; some (nI r, I6, L6)))) = some (nI r, I', L) ∧ (if nI r ≤ 0 then some (nI r, sI (sI J1 332 (12 + 2 * l) (nI q)) 332 (13 + 2 * l) (nI (min (t + 1) 9999)), K1) else ((FO_M_write fu (nI q) (nI r) (sI (sI J1 332 (12 + 2 * l) (nI q)) 332 (13 + 2 * l) (nI (min (t + 1) 9999))) K1).bind (fun u7 => let r7 := u7.1; let I7 := u7.2.1; let L7 := u7.2.2; some (nI r, I7, L7)))) = some (nI r, J', K1) ∧ SR (aN I') (J' 332) ∧ EvI I I' ∧ EvJ J J' ∧ J' 331 24 = (if r = 0 then J 331 24 else J 331 24 + 1) ∧ (∀ k, k ≠ 4 → I' 2 k = I 2 k) := by
    by_cases c : r = 0
    · subst c
      refine ⟨_, _, if_pos (by decide), if_pos (by decide), sA, vA, vJ, ?_, fun k _ => by rw [i2]⟩
      rw [j331, if_pos rfl]
    · obtain ⟨I', J', w1, w2, w3, w4, w5, w6, w7, w8, w9⟩ := write2 (fu := fu) (p := q) (r := r) (L := L) (K := K1) hfu sA (by rw [j331]; exact h23) hq hr
      have cn : ¬ nI r ≤ 0 := nI_ge (a := 0) (by omega) (by omega)
      refine ⟨I', J', ?_, ?_, w3, vA.tr (fun o h1 h2 => w4 o (by omega) (by omega)), vJ.tr (EvJ.w24 w6 w7), ?_, fun k hk => by rw [w5 k hk, i2]⟩
      · rw [if_neg cn, w1]; rfl
      · rw [if_neg cn, w2]; rfl
      · rw [w8, j331, if_neg c]
  obtain ⟨I', J', t1, t2, t3, t4, t5, t6, t7⟩ := tail
  refine ⟨r, I', J', K1, hr, ?_, ?_, t3, t4, t5, t6, t7⟩
  · have b6 : (0 : Int32) ≤ nI l ∧ nI l < 6 := ib (n := 6) rfl hl (by omega)
    unfold FO_X_go
    rw [nI_clamp (show l < 2 ^ 31 by omega), e1, if_pos b6]
    rcases hu with ⟨u1, u2, u3⟩ | ⟨u1, u2, u3⟩
    · rw [if_pos u1]
      rw [u2] at a1
      rw [a1]
      simp only [Option.bind_some]
      rw [if_pos b6, if_pos b6, if_pos b6, et, nI_1, mn9 (by omega)]
      exact t1
    · rw [if_neg u1]
      rw [u2] at a1
      rw [a1]
      simp only [Option.bind_some]
      rw [if_pos b6, if_pos b6, if_pos b6, et, nI_1, mn9 (by omega)]
      exact t1
  · have g1 : (12 : Int32) + 2 * nI l = nI (12 + 2 * l) := by rw [show (2 : Int32) = nI 2 from rfl, pk_mul]; exact nI_add 12 _
    have g2 : nI (12 + 2 * l) + 1 = nI (13 + 2 * l) := by rw [nI_1]; congr 1; omega
    have b1 : (0 : Int32) ≤ nI (12 + 2 * l) ∧ nI (12 + 2 * l) < 1541 := ib (n := 1541) rfl (by omega) (by omega)
    have b2 : (0 : Int32) ≤ nI (13 + 2 * l) ∧ nI (13 + 2 * l) < 1541 := ib (n := 1541) rfl (by omega) (by omega)
    have jt' : sI J1 332 (12 + 2 * l) (nI q) 332 (13 + 2 * l) = nI t := by
      rw [sI_ap, if_pos rfl, if_neg (by omega)]; exact jt
    unfold FO_M_treadNow
    rw [m_place hl, g1, g2]
    simp only [Option.bind_some]
    rw [jp]
    rcases hu with ⟨u1, u2, u3⟩ | ⟨u1, u2, u3⟩
    · rw [if_pos u2, u3, a2]
      simp only [Option.bind_some]
      rw [if_pos b1, nI_clamp (show 12 + 2 * l < 2 ^ 31 by omega), m_trod hl]
      simp only [Option.bind_some]
      rw [jt', nI_1, cut9 ht]
      simp only [Option.bind_some]
      rw [if_pos b2, nI_clamp (show 13 + 2 * l < 2 ^ 31 by omega)]
      exact t2
    · rw [if_neg (by rw [u2]; exact i10), u3, a2]
      simp only [Option.bind_some]
      rw [if_pos b1, nI_clamp (show 12 + 2 * l < 2 ^ 31 by omega), m_trod hl]
      simp only [Option.bind_some]
      rw [jt', nI_1, cut9 ht]
      simp only [Option.bind_some]
      rw [if_pos b2, nI_clamp (show 13 + 2 * l < 2 ^ 31 by omega)]
      exact t2
