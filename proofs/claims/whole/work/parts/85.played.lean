/-! a text is played -/
theorem x_mv {fu : Nat} {p q r : Int32} {I I' : TI} {L L' : TL} (h : FO_X_moveIn fu p q I L = some (r, I', L')) : (r = -1 ∨ 0 ≤ r) ∧ I' 1 6 = I 1 6 := by
  unfold FO_X_moveIn at h
  by_cases c : (0 : Int32) ≤ (I 1 2) ∧ (I 1 2) ≤ (5 : Int32)
  · rw [if_pos c] at h
    by_cases c2 : 0 ≤ I 1 2 ∧ I 1 2 < 6
    · rw [if_pos c2, if_pos c2] at h
      injection h with h
      injection h with h1 h
      injection h with h2 h3
      subst h1
      subst h2
      exact ⟨Or.inr c.1, rfl⟩
    · rw [if_neg c2] at h
      exact absurd h (by simp)
  · rw [if_neg c] at h
    injection h with h
    injection h with h1 h
    injection h with h2 h3
    subst h1
    subst h2
    exact ⟨Or.inl rfl, rfl⟩
theorem neg1 {r : Int32} (h : r = -1 ∨ 0 ≤ r) : (r = -1 ∧ r < 0) ∨ (¬ r = -1 ∧ ¬ r < 0) := by
  rcases h with rfl | h
  · exact Or.inl ⟨rfl, by decide⟩
  · exact Or.inr ⟨fun z => by rw [z] at h; exact absurd h (by decide), Int32.not_lt.mpr h⟩
theorem hang2 {fu : Nat} (hfu : 2000 ≤ fu) (p q : Int32) {I J : TI} {L K : TL} (s : SR (aN I) (J 332)) : ∃ r I' J', FO_X_hangAsStep fu p q I L = some (r, I', L) ∧ FO_M_hang fu p q J K = some (r, J', K) ∧ SR (aN I') (J' 332) ∧ EvI I I' ∧ EvJ J J' ∧ (r = 0 ∨ r = 1) := by
  unfold FO_X_hangAsStep FO_M_hang
  by_cases c0 : 1 ≤ p ∧ p ≤ 12
  · rw [if_pos c0, if_pos c0, x_cup, m_cup, s.f_cu]
    simp only [Option.bind_some]
    by_cases c1 : hcp (I 2 3) p = q
    · rw [if_pos c1, if_pos c1]
      exact ⟨0, I, J, rfl, rfl, s, EvI.rf, EvJ.rf, Or.inl rfl⟩
    · obtain ⟨I1, d, k1, k2, k3, k4, k5, k6⟩ := keep2 (fu := fu) (L := L) (K := K) hfu s
      have i2 : I1 2 = I 2 := k4 2 (by omega)
      have d10 : d 10 = I 2 3 := (k5 10 (by omega) (by omega)).trans s.f_cu
      rw [if_neg c1, if_neg c1, k1, k2]
      simp only [Option.bind_some]
      rw [wJ_at, wJ_sI, d10, i2]
      refine ⟨1, _, _, rfl, rfl, ?_, fun o h1 h2 => by rw [sJ_ne (by omega), k4 o (by omega)], EvJ.one (fun o h => wJ_ne h), Or.inr rfl⟩
      rw [aN_sI 1 rfl, wJ_at]
      exact SR.set_cu k3 trivial
  · rw [if_neg c0, if_neg c0]
    exact ⟨0, I, J, rfl, rfl, s, EvI.rf, EvJ.rf, Or.inl rfl⟩
/-- the hours of a clause -/
theorem lk_h249 {fu m n0 : Nat} {x1 x3 x5 fl : Int32} {C : Int32 → Nat → Int32 → TI → TL → Option (Int32 × TI × TL)} (hfu : 2000 ≤ fu) (hm : m ≤ 60) : ∀ (j k f g h : Nat) (I J : TI) (L K : TL), k + j = m → j < f → j < g → LR I J → J 331 23 = 1 → I 2 0 = nI h → h ≤ 9999 → ((h + j ≤ 9999 ∧ fl = 1) ∨ (9999 < h + j ∧ fl = 0)) → ∃ I' J' K', LO_X_played_249 fu C f x1 n0 x3 (nI m) x5 fl (nI k) I L = (if fl = 0 then some (x3, I', L) else C x1 n0 (x3 + 1) I' L) ∧ LO_M_arePassed_7 fu g (nI m) (nI k) J K = some (fl, J', K') ∧ SR (aN I') (J' 332) ∧ EvI I I' ∧ EvJ J J' := by
  intro j
  induction j with
  | zero =>
    intro k f g h I J L K hk hf hg hR h23 e0 hh hfl
    obtain ⟨f, rfl⟩ : ∃ z, f = z + 1 := ⟨f - 1, by omega⟩
    obtain ⟨g, rfl⟩ : ∃ z, g = z + 1 := ⟨g - 1, by omega⟩
    have : k = m := by omega
    subst this
    have f1 : fl = 1 := by
      rcases hfl with ⟨_, h⟩ | ⟨h, _⟩
      · exact h
      · omega
    subst f1
    refine ⟨I, J, K, ?_, ?_, hR.s, EvI.rf, EvJ.rf⟩
    · rw [LO_X_played_249, if_pos (Int32.le_refl _)]
    · rw [LO_M_arePassed_7, if_pos (Int32.le_refl _)]
  | succ j ih =>
    intro k f g h I J L K hk hf hg hR h23 e0 hh hfl
    obtain ⟨f, rfl⟩ : ∃ z, f = z + 1 := ⟨f - 1, by omega⟩
    obtain ⟨g, rfl⟩ : ∃ z, g = z + 1 := ⟨g - 1, by omega⟩
    have j7 : J 332 7 = nI h := (hR.s.ho.2.1 0 (by omega)).trans e0
    have nk : ¬ nI m ≤ nI k := nI_ge (by omega) (by omega)
    by_cases c9 : h = 9999
    · subst c9
      have f1 : fl = 0 := by
        rcases hfl with ⟨h, _⟩ | ⟨_, h⟩
        · omega
        · exact h
      subst f1
      refine ⟨I, J, K, ?_, ?_, hR.s, EvI.rf, EvJ.rf⟩
      · rw [LO_X_played_249, if_neg nk, e0, if_pos (show (9999 : Int32) ≤ nI 9999 by decide)]
      · rw [LO_M_arePassed_7, if_neg nk, j7, if_pos (show nI 9999 = 9999 from rfl)]
    · obtain ⟨I1, d, k1, k2, k3, k4, k5, k6⟩ := keep2 (fu := fu) (L := L) (K := K) hfu hR.s
      have vI : EvI I I1 := fun o h1 h2 => k4 o (by omega)
      have vJ : EvJ J (wJ J d) := EvJ.one (fun o h => wJ_ne h)
      have R1 : LR I1 (wJ J d) := hR.ev (by rw [wJ_at]; exact k3) vI vJ
      obtain ⟨s1, I2, J2, K2, p1, p2, p3, p4, p5, p6, p7⟩ := pass2 (fu := fu) (h := h) (L := L) (K := K) hfu R1 (by rw [wJ_ne (by omega)]; exact h23) (by rw [k4 2 (by omega)]; exact e0) (by omega)
      obtain ⟨I3, J3, K3, r1, r2, r3, r4, r5⟩ := ih (k + 1) f g (h + 1) I2 J2 L K2 (by omega) (by omega) (by omega) (R1.ev p3 p4 p5) (by rw [p5.2.2.2.2, wJ_ne (by omega)]; exact h23) p7 (by omega) (hfl.imp (fun z => ⟨by have := z.1; omega, z.2⟩) (fun z => ⟨by have := z.1; omega, z.2⟩))
      refine ⟨I3, J3, K3, ?_, ?_, r3, (vI.tr p4).tr r4, (vJ.tr p5).tr r5⟩
      · rw [LO_X_played_249, if_neg nk, e0, if_neg (show ¬ (9999 : Int32) ≤ nI h from nI_ge (b := 9999) (by omega) (by omega)), k1]
        simp only [Option.bind_some]
        rw [p1]
        simp only [Option.bind_some]
        rw [nI_1]
        exact r1
      · rw [LO_M_arePassed_7, if_neg nk, j7, if_neg (show ¬ nI h = 9999 from fun z => by have := (nI_eq (b := 9999) (by omega) (by omega)).mp z; omega), k2]
        simp only [Option.bind_some]
        rw [p2]
        simp only [Option.bind_some]
        rw [nI_1]
        exact r2
theorem lk_played {fu t : Nat} {x1 : Int32} (hfu : 2000 ≤ fu) (ht : t < 4) : ∀ (j k f g : Nat) (I J : TI) (L K : TL), k + j = 24 → j < f → j < g → RL TX I J → nI t < I 1 6 → ∃ r I' L' J' K', LO_X_played_15 fu f x1 (274 + 8 * t) (nI k) I L = some (r, I', L') ∧ LO_M_played_21 fu g (nI t) (nI k) J K = some (r, J', K') ∧ RL TX I' J' ∧ (∀ o, 331 ≤ o → I' o = I o) ∧ (∀ o, o < 331 → J' o = J o) := by
  intro j
  induction j with
  | zero =>
    intro k f g I J L K hk hf hg hR hl
    obtain ⟨f, rfl⟩ : ∃ z, f = z + 1 := ⟨f - 1, by omega⟩
    obtain ⟨g, rfl⟩ : ∃ z, g = z + 1 := ⟨g - 1, by omega⟩
    obtain ⟨n, hn, e1, e2, hc, _, _⟩ := hR.lr.2 t ht hl
    have e1 : I (274 + 8 * t) 0 = nI n := e1
    have e2 : J 334 (681 * t) = nI n := e2
    have nk : nI n ≤ nI k := nI_le (by omega) (by omega)
    refine ⟨-1, I, L, J, K, ?_, ?_, hR, fun _ _ => rfl, fun _ _ => rfl⟩
    · rw [LO_X_played_15, e1, if_pos nk]
    · rw [LO_M_played_21, l681', if_pos (show (0 : Int32) ≤ nI (681 * t) ∧ nI (681 * t) < 2724 from ib (n := 2724) rfl (by omega) (by omega)), nI_clamp (show 681 * t < 2 ^ 31 by omega), e2, if_pos nk]
  | succ j ih =>
    intro k f g I J L K hk hf hg hR hl
    obtain ⟨f, rfl⟩ : ∃ z, f = z + 1 := ⟨f - 1, by omega⟩
    obtain ⟨g, rfl⟩ : ∃ z, g = z + 1 := ⟨g - 1, by omega⟩
    obtain ⟨n, hn, e1, e2, hc, _, _⟩ := hR.lr.2 t ht hl
    have e1 : I (274 + 8 * t) 0 = nI n := e1
    have e2 : J 334 (681 * t) = nI n := e2
    by_cases ck : n ≤ k
    · have nk : nI n ≤ nI k := nI_le (by omega) (by omega)
      refine ⟨-1, I, L, J, K, ?_, ?_, hR, fun _ _ => rfl, fun _ _ => rfl⟩
      · rw [LO_X_played_15, e1, if_pos nk]
      · rw [LO_M_played_21, l681', if_pos (show (0 : Int32) ≤ nI (681 * t) ∧ nI (681 * t) < 2724 from ib (n := 2724) rfl (by omega) (by omega)), nI_clamp (show 681 * t < 2 ^ 31 by omega), e2, if_pos nk]
    · have nk : ¬ nI n ≤ nI k := nI_ge (by omega) (by omega)
      have hck := hc k (by omega)
      have hck : CLR (I (274 + 8 * t + 1) k) (I (274 + 8 * t + 2) k) (I (274 + 8 * t + 3) k) (J 334 (681 * t + (1 + 3 * k) % 681)) (J 334 (681 * t + (2 + 3 * k) % 681)) (J 334 (681 * t + (3 + 3 * k) % 681)) := hck
      rw [Nat.mod_eq_of_lt (show 1 + 3 * k < 681 by omega), Nat.mod_eq_of_lt (show 2 + 3 * k < 681 by omega), Nat.mod_eq_of_lt (show 3 + 3 * k < 681 by omega)] at hck
      have b24 : (0 : Int32) ≤ nI k ∧ nI k < 24 := ib (n := 24) rfl (by omega) (by omega)
      have X : LO_X_played_15 fu (f + 1) x1 (274 + 8 * t) (nI k) I L = (if I (274 + 8 * t + 1) k = 30 then (if 9999 < (I 2 0) + (I (274 + 8 * t + 2) k) then (LO_X_played_249 fu (fun x1 x2 x3 I L => LO_X_played_15 fu f x1 x2 x3 I L) fu x1 (274 + 8 * t) (nI k) (I (274 + 8 * t + 2) k) (I (274 + 8 * t + 3) k) 0 0 I L) else (LO_X_played_249 fu (fun x1 x2 x3 I L => LO_X_played_15 fu f x1 x2 x3 I L) fu x1 (274 + 8 * t) (nI k) (I (274 + 8 * t + 2) k) (I (274 + 8 * t + 3) k) 1 0 I L)) else (if I (274 + 8 * t + 1) k = 40 then ((FO_X_moveIn fu (I (274 + 8 * t + 2) k) (I (274 + 8 * t + 3) k) I L).bind (fun u4 => let r4 := u4.1; let I4 := u4.2.1; let L4 := u4.2.2; if r4 = (-1) then (some (nI k, I4, L4)) else (LO_X_played_15 fu f x1 (274 + 8 * t) (nI (k + 1)) I4 L4))) else (if I (274 + 8 * t + 1) k = 41 then ((FO_X_treadAsStep fu (I (274 + 8 * t + 3) k) 1 (I (274 + 8 * t + 2) k) I L).bind (fun u5 => let r5 := u5.1; let I5 := u5.2.1; let L5 := u5.2.2; if r5 = (-1) then (some (nI k, I5, L5)) else (LO_X_played_15 fu f x1 (274 + 8 * t) (nI (k + 1)) I5 L5))) else (if I (274 + 8 * t + 1) k = 42 then ((FO_X_treadAsStep fu (I (274 + 8 * t + 3) k) 0 (I (274 + 8 * t + 2) k) I L).bind (fun u6 => let r6 := u6.1; let I6 := u6.2.1; let L6 := u6.2.2; if r6 = (-1) then (some (nI k, I6, L6)) else (LO_X_played_15 fu f x1 (274 + 8 * t) (nI (k + 1)) I6 L6))) else (if I (274 + 8 * t + 1) k = 43 then ((FO_X_hangAsStep fu (I (274 + 8 * t + 2) k) 1 I L).bind (fun u7 => let r7 := u7.1; let I7 := u7.2.1; let L7 := u7.2.2; if r7 = 0 then (some (nI k, I7, L7)) else (LO_X_played_15 fu f x1 (274 + 8 * t) (nI (k + 1)) I7 L7))) else (if I (274 + 8 * t + 1) k = 44 then ((FO_X_hangAsStep fu (I (274 + 8 * t + 2) k) 0 I L).bind (fun u8 => let r8 := u8.1; let I8 := u8.2.1; let L8 := u8.2.2; if r8 = 0 then (some (nI k, I8, L8)) else (LO_X_played_15 fu f x1 (274 + 8 * t) (nI (k + 1)) I8 L8))) else (LO_X_played_15 fu f x1 (274 + 8 * t) (nI (k + 1)) I L))))))) := by
        rw [LO_X_played_15, e1, if_neg nk, if_neg (show ¬ (24 : Int32) ≤ nI k from nI_ge (b := 24) (by omega) (by omega)), if_pos b24, if_pos b24, if_pos b24, nI_clamp (show k < 2 ^ 31 by omega), nI_1]
      have M : ∀ z J' K', FO_M_isPlayed fu (nI (681 * t + (1 + 3 * k))) J K = some (z, J', K') → LO_M_played_21 fu (g + 1) (nI t) (nI k) J K = (if z = 0 then some (nI k, J', K') else LO_M_played_21 fu g (nI t) (nI (k + 1)) J' K') := by
        intro z J' K' hz
        rw [LO_M_played_21, l681, l681', if_pos (show (0 : Int32) ≤ nI (681 * t) ∧ nI (681 * t) < 2724 from ib (n := 2724) rfl (by omega) (by omega)), nI_clamp (show 681 * t < 2 ^ 31 by omega), e2, if_neg nk, Nat.add_assoc, hz]
        simp only [Option.bind_some]
        rw [nI_1]
      have P : FO_M_isPlayed fu (nI (681 * t + (1 + 3 * k))) J K = (if J 334 (681 * t + (1 + 3 * k)) = 2 then ((FO_M_lodger fu (J 334 (681 * t + (2 + 3 * k))) (J 334 (681 * t + (3 + 3 * k))) J K).bind (fun u4 => let r4 := u4.1; let I4 := u4.2.1; let L4 := u4.2.2; if r4 < 0 then (some (0, I4, L4)) else (some (1, I4, L4)))) else (if J 334 (681 * t + (1 + 3 * k)) = 3 then ((FO_M_tread fu (J 334 (681 * t + (3 + 3 * k))) 1 (J 334 (681 * t + (2 + 3 * k))) J K).bind (fun u5 => let r5 := u5.1; let I5 := u5.2.1; let L5 := u5.2.2; if r5 < 0 then (some (0, I5, L5)) else (some (1, I5, L5)))) else (if J 334 (681 * t + (1 + 3 * k)) = 4 then ((FO_M_tread fu (J 334 (681 * t + (3 + 3 * k))) 0 (J 334 (681 * t + (2 + 3 * k))) J K).bind (fun u6 => let r6 := u6.1; let I6 := u6.2.1; let L6 := u6.2.2; if r6 < 0 then (some (0, I6, L6)) else (some (1, I6, L6)))) else (if J 334 (681 * t + (1 + 3 * k)) = 5 then ((FO_M_hang fu (J 334 (681 * t + (2 + 3 * k))) 1 J K).bind (fun u7 => let r7 := u7.1; let I7 := u7.2.1; let L7 := u7.2.2; if r7 = 0 ∨ r7 = 1 then (some (r7, I7, L7)) else none)) else (if J 334 (681 * t + (1 + 3 * k)) = 6 then ((FO_M_hang fu (J 334 (681 * t + (2 + 3 * k))) 0 J K).bind (fun u9 => let r9 := u9.1; let I9 := u9.2.1; let L9 := u9.2.2; if r9 = 0 ∨ r9 = 1 then (some (r9, I9, L9)) else none)) else (if J 334 (681 * t + (1 + 3 * k)) = 7 then ((FO_M_arePassed fu (J 334 (681 * t + (2 + 3 * k))) J K).bind (fun u11 => let r11 := u11.1; let I11 := u11.2.1; let L11 := u11.2.2; if r11 = 0 ∨ r11 = 1 then (some (r11, I11, L11)) else none)) else (some (1, J, K)))))))) := by
        unfold FO_M_isPlayed
        rw [show nI (681 * t + (1 + 3 * k)) + 1 = nI (681 * t + (2 + 3 * k)) from by rw [nI_1]; congr 1; omega, show nI (681 * t + (1 + 3 * k)) + 2 = nI (681 * t + (3 + 3 * k)) from (nI_add _ 2).trans (by congr 1; omega), if_pos (show (0 : Int32) ≤ nI (681 * t + (2 + 3 * k)) ∧ nI (681 * t + (2 + 3 * k)) < 2724 from ib (n := 2724) rfl (by omega) (by omega)), if_pos (show (0 : Int32) ≤ nI (681 * t + (3 + 3 * k)) ∧ nI (681 * t + (3 + 3 * k)) < 2724 from ib (n := 2724) rfl (by omega) (by omega)), if_pos (show (0 : Int32) ≤ nI (681 * t + (1 + 3 * k)) ∧ nI (681 * t + (1 + 3 * k)) < 2724 from ib (n := 2724) rfl (by omega) (by omega)), nI_clamp (show 681 * t + (1 + 3 * k) < 2 ^ 31 by omega), nI_clamp (show 681 * t + (2 + 3 * k) < 2 ^ 31 by omega), nI_clamp (show 681 * t + (3 + 3 * k) < 2 ^ 31 by omega)]
      have fin : ∀ (z : Int32) (I1 : TI) (L1 : TL) (J1 : TI) (K1 : TL), z = 0 ∨ z = 1 → LO_X_played_15 fu (f + 1) x1 (274 + 8 * t) (nI k) I L = (if z = 0 then some (nI k, I1, L1) else LO_X_played_15 fu f x1 (274 + 8 * t) (nI (k + 1)) I1 L1) → FO_M_isPlayed fu (nI (681 * t + (1 + 3 * k))) J K = some (z, J1, K1) → RL TX I1 J1 → I1 1 6 = I 1 6 → (∀ o, 331 ≤ o → I1 o = I o) → (∀ o, o < 331 → J1 o = J o) → ∃ r I' L' J' K', LO_X_played_15 fu (f + 1) x1 (274 + 8 * t) (nI k) I L = some (r, I', L') ∧ LO_M_played_21 fu (g + 1) (nI t) (nI k) J K = some (r, J', K') ∧ RL TX I' J' ∧ (∀ o, 331 ≤ o → I' o = I o) ∧ (∀ o, o < 331 → J' o = J o) := by
        intro z I1 L1 J1 K1 hz a b c d e1 e2
        rw [a, M z J1 K1 b]
        rcases hz with rfl | rfl
        · rw [if_pos rfl, if_pos rfl]
          exact ⟨_, _, _, _, _, rfl, rfl, c, e1, e2⟩
        · rw [if_neg i10, if_neg i10]
          obtain ⟨r, I', L', J', K', r1, r2, r3, r4, r5⟩ := ih (k + 1) f g I1 J1 L1 K1 (by omega) (by omega) (by omega) c (by rw [d]; exact hl)
          exact ⟨r, I', L', J', K', r1, r2, r3, fun o ho => (r4 o ho).trans (e1 o ho), fun o ho => (r5 o ho).trans (e2 o ho)⟩
      rcases hck with ⟨d1, d2⟩ | ⟨d1, d2⟩ | ⟨d1, d2, m, q, hb, d3, d4, d5, d6⟩ | ⟨d1, d2, m, q, hb, d3, d4, d5, d6⟩ | ⟨d1, d2, m, q, hb, d3, d4, d5, d6⟩ | ⟨d1, d2, m, hb, d3, d5⟩ | ⟨d1, d2, m, hb, d3, d5⟩ | ⟨d1, d2, m, hb, d3, d5⟩
      · refine fin 1 I L J K (Or.inr rfl) ?_ ?_ hR rfl (fun _ _ => rfl) (fun _ _ => rfl)
        · rw [X, d1, if_neg (by decide), if_neg (by decide), if_neg (by decide), if_neg (by decide), if_neg (by decide), if_neg (by decide), if_neg i10]
        · rw [P, d2, if_neg (by decide), if_neg (by decide), if_neg (by decide), if_neg (by decide), if_neg (by decide), if_neg (by decide)]
      · refine fin 1 I L J K (Or.inr rfl) ?_ ?_ hR rfl (fun _ _ => rfl) (fun _ _ => rfl)
        · rw [X, d1, if_neg (by decide), if_neg (by decide), if_neg (by decide), if_neg (by decide), if_neg (by decide), if_neg (by decide), if_neg i10]
        · rw [P, d2, if_neg (by decide), if_neg (by decide), if_neg (by decide), if_neg (by decide), if_neg (by decide), if_neg (by decide)]
      · obtain ⟨r, I1, L1, J1, K1, o1, o2, o3, o4, o5⟩ := op_lodger (T := TX) fu (nI m) (nI q) I J L K hR
        have mv : FO_X_moveIn fu (nI m) (nI q) I L = some (r, I1, L1) := by
          rw [← o1]
          dsimp only
          unfold FO_X_lodger
          rw [if_pos (show (1 : Int32) ≤ nI m ∧ nI m ≤ 9 from ⟨nI_le (a := 1) (by omega) (by omega), nI_le (b := 9) (by omega) (by omega)⟩), if_pos (show (1 : Int32) ≤ nI q ∧ nI q ≤ 12 from ⟨nI_le (a := 1) (by omega) (by omega), nI_le (b := 12) (by omega) (by omega)⟩)]
          exact (bind_eta _).symm
        have o2 : FO_M_lodger fu (nI m) (nI q) J K = some (r, J1, K1) := o2
        obtain ⟨v1, v2⟩ := x_mv mv
        rcases neg1 v1 with ⟨w1, w2⟩ | ⟨w1, w2⟩
        · refine fin 0 I1 L1 J1 K1 (Or.inl rfl) ?_ ?_ o3 v2 o4 o5
          · rw [X, d1, d3, d4, if_neg (by decide), if_pos rfl, mv, if_pos rfl]
            simp only [Option.bind_some]
            rw [if_pos w1]
          · rw [P, d2, d5, d6, if_pos rfl, o2]
            simp only [Option.bind_some]
            rw [if_pos w2]
        · refine fin 1 I1 L1 J1 K1 (Or.inr rfl) ?_ ?_ o3 v2 o4 o5
          · rw [X, d1, d3, d4, if_neg (by decide), if_pos rfl, mv, if_neg i10]
            simp only [Option.bind_some]
            rw [if_neg w1]
          · rw [P, d2, d5, d6, if_pos rfl, o2]
            simp only [Option.bind_some]
            rw [if_neg w2]
      · obtain ⟨r, I1, L1, J1, K1, o1, o2, o3, vI, vJ, v1⟩ := tread2 (L := L) (K := K) hfu (nI q) 1 (nI m) (Or.inr rfl) hR
        have mv : FO_X_treadAsStep fu (nI q) 1 (nI m) I L = some (r, I1, L1) := by rw [← o1]; exact (bind_eta _).symm
        have v2 : I1 1 6 = I 1 6 := by rw [vI 1 (by omega) (by omega)]
        have q1 : ∀ o, 331 ≤ o → I1 o = I o := fun o ho => vI o (by omega) (by omega)
        have q2 : ∀ o, o < 331 → J1 o = J o := fun o ho => vJ.1 o (by omega) (by omega) (by omega)
        rcases neg1 v1 with ⟨w1, w2⟩ | ⟨w1, w2⟩
        · refine fin 0 I1 L1 J1 K1 (Or.inl rfl) ?_ ?_ (hR.ev o3 vI vJ) v2 q1 q2
          · rw [X, d1, d3, d4, if_neg (by decide), if_neg (by decide), if_pos rfl, mv, if_pos rfl]
            simp only [Option.bind_some]
            rw [if_pos w1]
          · rw [P, d2, d5, d6, if_neg (by decide), if_pos rfl, o2]
            simp only [Option.bind_some]
            rw [if_pos w2]
        · refine fin 1 I1 L1 J1 K1 (Or.inr rfl) ?_ ?_ (hR.ev o3 vI vJ) v2 q1 q2
          · rw [X, d1, d3, d4, if_neg (by decide), if_neg (by decide), if_pos rfl, mv, if_neg i10]
            simp only [Option.bind_some]
            rw [if_neg w1]
          · rw [P, d2, d5, d6, if_neg (by decide), if_pos rfl, o2]
            simp only [Option.bind_some]
            rw [if_neg w2]
      · obtain ⟨r, I1, L1, J1, K1, o1, o2, o3, vI, vJ, v1⟩ := tread2 (L := L) (K := K) hfu (nI q) 0 (nI m) (Or.inl rfl) hR
        have mv : FO_X_treadAsStep fu (nI q) 0 (nI m) I L = some (r, I1, L1) := by rw [← o1]; exact (bind_eta _).symm
        have v2 : I1 1 6 = I 1 6 := by rw [vI 1 (by omega) (by omega)]
        have q1 : ∀ o, 331 ≤ o → I1 o = I o := fun o ho => vI o (by omega) (by omega)
        have q2 : ∀ o, o < 331 → J1 o = J o := fun o ho => vJ.1 o (by omega) (by omega) (by omega)
        rcases neg1 v1 with ⟨w1, w2⟩ | ⟨w1, w2⟩
        · refine fin 0 I1 L1 J1 K1 (Or.inl rfl) ?_ ?_ (hR.ev o3 vI vJ) v2 q1 q2
          · rw [X, d1, d3, d4, if_neg (by decide), if_neg (by decide), if_neg (by decide), if_pos rfl, mv, if_pos rfl]
            simp only [Option.bind_some]
            rw [if_pos w1]
          · rw [P, d2, d5, d6, if_neg (by decide), if_neg (by decide), if_pos rfl, o2]
            simp only [Option.bind_some]
            rw [if_pos w2]
        · refine fin 1 I1 L1 J1 K1 (Or.inr rfl) ?_ ?_ (hR.ev o3 vI vJ) v2 q1 q2
          · rw [X, d1, d3, d4, if_neg (by decide), if_neg (by decide), if_neg (by decide), if_pos rfl, mv, if_neg i10]
            simp only [Option.bind_some]
            rw [if_neg w1]
          · rw [P, d2, d5, d6, if_neg (by decide), if_neg (by decide), if_pos rfl, o2]
            simp only [Option.bind_some]
            rw [if_neg w2]
      · obtain ⟨r, I1, J1, o1, o2, o3, vI, vJ, v1⟩ := hang2 (L := L) (K := K) hfu (nI m) 1 hR.s
        refine fin r I1 L J1 K v1 ?_ ?_ (hR.ev o3 vI vJ) (by rw [vI 1 (by omega) (by omega)]) (fun o ho => vI o (by omega) (by omega)) (fun o ho => vJ.1 o (by omega) (by omega) (by omega))
        · rw [X, d1, d3, if_neg (by decide), if_neg (by decide), if_neg (by decide), if_neg (by decide), if_pos rfl, o1]
          rfl
        · rw [P, d2, d5, if_neg (by decide), if_neg (by decide), if_neg (by decide), if_pos rfl, o2]
          simp only [Option.bind_some]
          rw [if_pos v1]
      · obtain ⟨r, I1, J1, o1, o2, o3, vI, vJ, v1⟩ := hang2 (L := L) (K := K) hfu (nI m) 0 hR.s
        refine fin r I1 L J1 K v1 ?_ ?_ (hR.ev o3 vI vJ) (by rw [vI 1 (by omega) (by omega)]) (fun o ho => vI o (by omega) (by omega)) (fun o ho => vJ.1 o (by omega) (by omega) (by omega))
        · rw [X, d1, d3, if_neg (by decide), if_neg (by decide), if_neg (by decide), if_neg (by decide), if_neg (by decide), if_pos rfl, o1]
          rfl
        · rw [P, d2, d5, if_neg (by decide), if_neg (by decide), if_neg (by decide), if_neg (by decide), if_pos rfl, o2]
          simp only [Option.bind_some]
          rw [if_pos v1]
      · obtain ⟨h, hh, e0⟩ := hR.s.ho.1.1
        have e0 : I 2 0 = nI h := e0
        have v0 : EvJ J (sI J 331 24 0) := EvJ.w24 (fun o h1 _ => sJ_ne h1) (fun i hi => by rw [sI_ap, if_pos rfl, if_neg hi])
        have s0 : SR (aN I) (sI J 331 24 0 332) := by rw [sJ_ne (by omega)]; exact hR.s
        obtain ⟨fl, hfl, hz⟩ : ∃ fl : Int32, ((h + m ≤ 9999 ∧ fl = 1) ∨ (9999 < h + m ∧ fl = 0)) ∧ (fl = 0 ∨ fl = 1) := by
          by_cases c : h + m ≤ 9999
          · exact ⟨1, Or.inl ⟨c, rfl⟩, Or.inr rfl⟩
          · exact ⟨0, Or.inr ⟨by omega, rfl⟩, Or.inl rfl⟩
        obtain ⟨I1, J1, K1, r1, r2, r3, r4, r5⟩ := lk_h249 (fu := fu) (m := m) (n0 := 274 + 8 * t) (x1 := x1) (x3 := nI k) (x5 := I (274 + 8 * t + 3) k) (fl := fl) (C := fun x1 x2 x3 I L => LO_X_played_15 fu f x1 x2 x3 I L) hfu (by omega) m 0 fu fu h I (sI J 331 24 0) L K (by omega) (by omega) (by omega) (hR.lr.ev s0 EvI.rf v0) (by rw [v0.2.2.2.2]; exact hR.2.2.2.2.2.1) e0 hh hfl
        have w := v0.tr r5
        refine fin fl I1 L J1 K1 hz ?_ ?_ (hR.ev r3 r4 w) (by rw [r4 1 (by omega) (by omega)]) (fun o ho => r4 o (by omega) (by omega)) (fun o ho => w.1 o (by omega) (by omega) (by omega))
        · rw [X, d1, if_pos rfl, d3, e0, nI_add]
          rw [nI_1] at r1
          rcases hfl with ⟨a, b⟩ | ⟨a, b⟩
          · rw [if_neg (show ¬ (9999 : Int32) < nI (h + m) from nI_nlt (a := 9999) a (by omega)), ← b]
            exact r1
          · rw [if_pos (show (9999 : Int32) < nI (h + m) from nI_lt (a := 9999) (by omega) (by omega)), ← r1, b]
            rfl
        · rw [P, d2, d5, if_neg (by decide), if_neg (by decide), if_neg (by decide), if_neg (by decide), if_neg (by decide), if_pos rfl]
          unfold FO_M_arePassed
          refine Eq.trans (congrArg (fun z => Option.bind z _) r2) ?_
          simp only [Option.bind_some]
          rw [if_pos hz]
theorem op_played {fu : Nat} (hfu : 2000 ≤ fu) (p : Int32) : OpR TX (fun I L => FO_X_played fu p I L) (fun I L => FO_M_played fu p I L) := by
  intro I J L K hR
  have ht := hR.s.tx
  obtain ⟨e1, n, hn, e2⟩ := ht
  have e2 : I 1 6 = nI n := e2
  have e1 : J 332 1 = nI n := e1.trans e2
  have hc : isLib I p ↔ (0 ≤ p ∧ p ≤ J 332 1 - 1) := by
    unfold isLib
    rw [e2, e1]
    rcases pk_ix p (n := n) (by omega) with hp | hp | ⟨k, hk, hp⟩
    · exact ⟨fun h => absurd hp (Int32.not_lt.mpr h.1), fun h => absurd hp (Int32.not_lt.mpr h.1)⟩
    · constructor
      · intro h
        exact absurd h.2.2 (Int32.not_lt.mpr hp)
      · intro h
        exfalso
        have : n = 0 ∨ n = 1 ∨ n = 2 ∨ n = 3 ∨ n = 4 := by omega
        have h2 := Int32.le_trans hp h.2
        rcases this with rfl | rfl | rfl | rfl | rfl <;> revert h2 <;> decide
    · subst hp
      obtain ⟨m, rfl⟩ : ∃ m, n = m + 1 := ⟨n - 1, by omega⟩
      rw [nI_pred]
      constructor
      · intro _
        exact ⟨nI_pos' (by omega), nI_le (by omega) (by omega)⟩
      · intro _
        exact ⟨nI_pos' (by omega), nI_lt (b := 4) (by omega) (by omega), nI_lt hk (by omega)⟩
  dsimp only
  unfold FO_X_played FO_M_played
  by_cases c : isLib I p
  · have c' := hc.mp c
    rw [if_pos c, if_pos c']
    have c2 := c
    unfold isLib at c2
    obtain ⟨t, ht, rfl⟩ : ∃ t : Nat, t < 4 ∧ p = nI t := by
      obtain ⟨t, ht, e⟩ := rng (hi := 3) (by omega) c2.1 (by have := c2.2.1; show p ≤ 3; grind)
      exact ⟨t, by omega, e⟩
    rw [nI_clamp (show t < 2 ^ 31 by omega)]
    exact lk_played (fu := fu) (t := t) hfu ht 24 0 fu fu I J L K (by omega) (by omega) (by omega) hR c2.2.2
  · rw [if_neg c, if_neg (fun z => c (hc.mpr z))]
    exact ⟨-2, I, L, J, K, rfl, rfl, hR, fun _ _ => rfl, fun _ _ => rfl⟩
