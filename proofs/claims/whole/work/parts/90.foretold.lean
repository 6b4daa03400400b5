/-! what is foretold: the hours, and the end -/
theorem lm120 {fu : Nat} {x1 x2 x3 x4 : Int32} {J : TI} {K : TL} : ∀ (j k g : Nat) (c : Nat → Int32), k + j = 24 → j < g → LO_M_foretold_120 fu g x1 x2 x3 x4 (nI k) (wJ J c) K = some (x4, sI (wJ J (fun i => if k ≤ i ∧ i < 24 then J 340 i else c i)) 331 23 1, K) := by
  intro j
  induction j with
  | zero =>
    intro k g c hk hg
    obtain ⟨g, rfl⟩ : ∃ z, g = z + 1 := ⟨g - 1, by omega⟩
    have : k = 24 := by omega
    subst this
    have e : (fun i => if 24 ≤ i ∧ i < 24 then J 340 i else c i) = c := by
      funext i
      rw [if_neg (by omega)]
    rw [LO_M_foretold_120, if_pos (by decide), e]
  | succ j ih =>
    intro k g c hk hg
    obtain ⟨g, rfl⟩ : ∃ z, g = z + 1 := ⟨g - 1, by omega⟩
    have e : (fun i => if k + 1 ≤ i ∧ i < 24 then J 340 i else upd c k (J 340 k) i) = (fun i => if k ≤ i ∧ i < 24 then J 340 i else c i) := by
      funext i
      by_cases h1 : i = k
      · subst h1
        rw [if_neg (by omega), if_pos (by omega), pk_us]
      · rw [pk_un h1]
        by_cases h2 : k ≤ i ∧ i < 24
        · rw [if_pos h2, if_pos (by omega)]
        · rw [if_neg h2, if_neg (by omega)]
    rw [LO_M_foretold_120, if_neg (show ¬ (24 : Int32) ≤ nI k from nI_ge (b := 24) (by omega) (by omega)), if_pos (show (0 : Int32) ≤ nI k ∧ nI k < 24 from ib (n := 24) rfl (by omega) (by omega)), if_pos (show (0 : Int32) ≤ nI k ∧ nI k < 1541 from ib (n := 1541) rfl (by omega) (by omega)), nI_clamp (show k < 2 ^ 31 by omega), wJ_sI, wJ_ne (show 340 ≠ 332 by omega), show nI k + 1 = nI (k + 1) from nI_1 .., ih (k + 1) g (upd c k (J 340 k)) (by omega) (by omega), e]
theorem lm33 {fu : Nat} {x1 x2 x3 : Int32} {K : TL} : ∀ (j k g : Nat) (J : TI), k + j = 24 → j < g → ∃ J', LO_M_foretold_33 fu g x1 x2 x3 (nI k) J K = LO_M_foretold_68 fu fu x1 x2 x3 0 (sI J' 331 23 0) K ∧ (∀ o, o ≠ 340 → J' o = J o) ∧ (∀ i, k ≤ i → i < 24 → J' 340 i = J 332 i) ∧ (∀ i, i < k → J' 340 i = J 340 i) := by
  intro j
  induction j with
  | zero =>
    intro k g J hk hg
    obtain ⟨g, rfl⟩ : ∃ z, g = z + 1 := ⟨g - 1, by omega⟩
    have : k = 24 := by omega
    subst this
    refine ⟨J, ?_, fun _ _ => rfl, fun i h1 h2 => by omega, fun _ _ => rfl⟩
    rw [LO_M_foretold_33, if_pos (by decide)]
  | succ j ih =>
    intro k g J hk hg
    obtain ⟨g, rfl⟩ : ∃ z, g = z + 1 := ⟨g - 1, by omega⟩
    obtain ⟨J', a1, a2, a3, a4⟩ := ih (k + 1) g (sI J 340 k (J 332 k)) (by omega) (by omega)
    refine ⟨J', ?_, fun o h => by rw [a2 o h, sJ_ne h], fun i h1 h2 => ?_, fun i h => by rw [a4 i (by omega), sI_ap, if_pos rfl, if_neg (by omega)]⟩
    · rw [LO_M_foretold_33, if_neg (show ¬ (24 : Int32) ≤ nI k from nI_ge (b := 24) (by omega) (by omega)), if_pos (show (0 : Int32) ≤ nI k ∧ nI k < 1541 from ib (n := 1541) rfl (by omega) (by omega)), if_pos (show (0 : Int32) ≤ nI k ∧ nI k < 24 from ib (n := 24) rfl (by omega) (by omega)), nI_clamp (show k < 2 ^ 31 by omega), show nI k + 1 = nI (k + 1) from nI_1 ..]
      exact a1
    · by_cases e : i = k
      · subst e
        rw [a4 i (by omega), sI_ap, if_pos rfl, if_pos rfl]
      · rw [a3 i (by omega) h2, sJ_ne (by omega)]
theorem ph2 {fu m c : Nat} {x3 : Int32} {J : TI} {K : TL} (hm : m ≤ 60) (hc : c < 6) : ∀ (j k g : Nat), k + j = m → j < g → (J 332 7 = nI 9999 ∨ j = 0) → LO_M_foretold_68 fu g (nI m) (nI c) x3 (nI k) J K = LO_M_foretold_120 fu fu (nI m) (nI c) x3 (if x3 = 0 then J 332 (12 + 2 * c) else J 332 (13 + 2 * c)) 7 J K := by
  intro j
  induction j with
  | zero =>
    intro k g hk hg _
    obtain ⟨g, rfl⟩ : ∃ z, g = z + 1 := ⟨g - 1, by omega⟩
    have : k = m := by omega
    subst this
    rw [LO_M_foretold_68, if_pos (Int32.le_refl _), m_place hc, m_trod hc]
    simp only [Option.bind_some]
    by_cases c3 : x3 = 0
    · rw [if_pos c3, if_pos c3]
    · rw [if_neg c3, if_neg c3]
  | succ j ih =>
    intro k g hk hg h
    obtain ⟨g, rfl⟩ : ∃ z, g = z + 1 := ⟨g - 1, by omega⟩
    have h7 : J 332 7 = nI 9999 := h.resolve_right (by omega)
    rw [LO_M_foretold_68, if_neg (show ¬ nI m ≤ nI k from nI_ge (by omega) (by omega)), h7, if_pos (show (9999 : Int32) ≤ nI 9999 by decide), show nI k + 1 = nI (k + 1) from nI_1 ..]
    exact ih (k + 1) g (by omega) (by omega) (Or.inl h7)
theorem lk_f {fu m e c n : Nat} {x3 : Int32} {I0 : TI} {L : TL} (hfu : 2000 ≤ fu) (hm : m ≤ 60) (he : e ≤ m) (hc : c < 6) (hn : n ≤ 6) (e0 : F_X_tenants I0 = nI n) : ∀ (j k f g h pl tr x : Nat) (I J : TI) (K : TL), k + j = e → j < f → m - k < g → h + j ≤ 9999 → (e = m ∨ h + j = 9999) → LR I J → J 331 23 = 0 → I 1 2 = nI n → I 2 0 = nI h → I 3 c = nI pl → I 4 c = nI tr → I 2 1 = nI x → x ≤ 30762 → ∃ v J' K', LO_X_foretold_92 fu f (nI m) (nI c) x3 (nI pl) (nI tr) (nI x) (nI e) (nI k) I0 L = some (v, I0, L) ∧ LO_M_foretold_68 fu g (nI m) (nI c) x3 (nI k) J K = LO_M_foretold_120 fu fu (nI m) (nI c) x3 v 7 J' K' ∧ FrF J J' := by
  intro j
  induction j with
  | zero =>
    intro k f g h pl tr x I J K hk hf hg hh1 hh2 hR h23 en eh ep et ex hx
    obtain ⟨f, rfl⟩ : ∃ z, f = z + 1 := ⟨f - 1, by omega⟩
    have : k = e := by omega
    subst this
    have j7 : J 332 7 = nI h := (hR.s.ho.2.1 0 (by omega)).trans eh
    refine ⟨if x3 = 0 then nI pl else nI tr, J, K, ?_, ?_, FrF.rf⟩
    · rw [LO_X_foretold_92, if_pos (Int32.le_refl _)]
      by_cases c3 : x3 = 0
      · rw [if_pos c3, if_pos c3]
      · rw [if_neg c3, if_neg c3]
    · rw [ph2 (c := c) hm hc (m - k) k g (by omega) hg (by
        rcases hh2 with a | a
        · right; omega
        · left; rw [j7]; congr 1), hR.s.f_pl c hc, hR.s.f_tr c hc, ep, et]
  | succ j ih =>
    intro k f g h pl tr x I J K hk hf hg hh1 hh2 hR h23 en eh ep et ex hx
    obtain ⟨f, rfl⟩ : ∃ z, f = z + 1 := ⟨f - 1, by omega⟩
    obtain ⟨g, rfl⟩ : ∃ z, g = z + 1 := ⟨g - 1, by omega⟩
    have j7 : J 332 7 = nI h := (hR.s.ho.2.1 0 (by omega)).trans eh
    have jx : J 332 8 = nI x := (hR.s.ho.2.1 1 (by omega)).trans ex
    have hd : iR (nI x) 10 = nI (x % 10) := pk_rem (d := 10) (by omega) (by omega) (by omega)
    have sA : SR (aN (sI (sI I 2 2 (nI (x % 10))) 2 1 (nI (ax x)))) (sI (sI J 332 8 (nI (ax x))) 332 9 (nI (x % 10)) 332) := by
      rw [aN_sI 1 rfl, aN_sI 1 rfl, sJ_at, sJ_at]
      have e : upd (upd (J 332) 8 (nI (ax x))) 9 (nI (x % 10)) = upd (upd (J 332) 9 (nI (x % 10))) 8 (nI (ax x)) := by
        funext i
        unfold upd
        by_cases c8 : i = 8
        · subst c8; simp
        · by_cases c9 : i = 9 <;> simp [c8, c9]
      rw [e]
      exact SR.set_x (SR.set_lt hR.s ⟨x % 10, by omega, rfl⟩) ⟨ax x, ax_le x, rfl⟩
    have vA : EvI I (sI (sI I 2 2 (nI (x % 10))) 2 1 (nI (ax x))) := EvI.one (c := 2) (by omega) (fun o h => by rw [sJ_ne h, sJ_ne h])
    have fA : FrF J (sI (sI J 332 8 (nI (ax x))) 332 9 (nI (x % 10))) := (FrF.set (by omega)).tr (FrF.set (by omega))
    obtain ⟨pl1, tr1, x1, I1, J1, K1, b0, b1, b2, b3, b4, b5, b6, b7, b8, b9⟩ := lk_p0 (fu := fu) (n := n) (c := c) (h := h) (x1 := nI m) (x3 := x3) (x7 := nI e) (x8 := nI k) (I0 := I0) (L := L) (kk := fun x1 x2 x3 x4 x5 x6 x7 x8 I L => LO_X_foretold_92 fu f x1 x2 x3 x4 x5 x6 x7 x8 I L) hfu hn hc (by omega) e0 n 0 fu fu pl tr (ax x) _ _ K (by omega) (by omega) (by omega) (hR.ev sA vA fA.ev) (by rw [fA.2.2 23 (by omega)]; exact h23) (by rw [sJ_ne (by omega), sJ_ne (by omega)]; exact en) (by simp [sI_ap]; exact eh) (by rw [sJ_ne (by omega), sJ_ne (by omega)]; exact ep) (by rw [sJ_ne (by omega), sJ_ne (by omega)]; exact et) (by rw [sI_ap, if_pos rfl, if_pos rfl]) (ax_le x)
    obtain ⟨v, J2, K2, r1, r2, r3⟩ := ih (k + 1) f g (h + 1) pl1 tr1 x1 I1 J1 K1 (by omega) (by omega) (by omega) (by omega) (by omega) b3 (by rw [b4.2.2 23 (by omega), fA.2.2 23 (by omega)]; exact h23) b6 b5 b7 b8 b9 b0
    refine ⟨v, J2, K2, ?_, ?_, (fA.tr b4).tr r3⟩
    · rw [LO_X_foretold_92, if_neg (show ¬ nI e ≤ nI k from nI_ge (by omega) (by omega)), x_ax hx]
      refine Eq.trans b1 ?_
      rw [show nI k + 1 = nI (k + 1) from nI_1 ..]
      exact r1
    · have ps : FO_M_pass fu J K = some ((), J1, K1) := by
        unfold FO_M_pass
        rw [m_ax (by decide) hx jx]
        simp only [Option.bind_some]
        rw [hd]
        exact b2
      rw [LO_M_foretold_68, if_neg (show ¬ nI m ≤ nI k from nI_ge (by omega) (by omega)), j7, if_neg (show ¬ (9999 : Int32) ≤ nI h from nI_ge (b := 9999) (by omega) (by omega)), ps]
      simp only [Option.bind_some]
      rw [show nI k + 1 = nI (k + 1) from nI_1 ..]
      exact r2
theorem op_foretold {fu : Nat} (hfu : 2000 ≤ fu) (p q w : Int32) : OpR TX (fun I L => FO_X_foretold fu p q w I L) (fun I L => FO_M_foretold fu p q w I L) := by
  refine OpR_s (fun I J L K hR => ?_)
  unfold FO_X_foretold FO_M_foretold
  by_cases c : 1 ≤ p ∧ p ≤ 60
  · rw [if_pos c, if_pos c]
    rcases lodg hR.s q with ⟨l, n', hk, hn', rfl, e1, e2, f1, f2⟩ | ⟨f1, f2⟩
    · rw [f1, f2, if_neg i10, if_neg i10]
      by_cases c2 : 0 ≤ w ∧ w ≤ 1
      · obtain ⟨m, hm1, hm, rfl⟩ := rng1 (hi := 60) (by omega) c.1 c.2
        obtain ⟨n, hn, t1, t2, t3⟩ := ten hR.s
        obtain ⟨h, hh, e0⟩ := hR.s.ho.1.1
        have e0 : I 2 0 = nI h := e0
        obtain ⟨x, hx, ex⟩ := hR.s.ho.1.2.1
        have ex : I 2 1 = nI x := ex
        have b6 : (0 : Int32) ≤ nI l ∧ nI l < 6 := ib (n := 6) rfl (by omega) (by omega)
        obtain ⟨⟨pl, hpl, ep⟩, ⟨tr, htr, et⟩⟩ := hR.s.ho.1.2.2.2.2.2.1 l (by omega)
        have ep : I 3 l = nI pl := ep
        have et : I 4 l = nI tr := et
        have mn : F_J_min I (nI m) (9999 - I 2 0) = nI (min m (9999 - h)) := by
          rw [e0, show (9999 : Int32) - nI h = nI (9999 - h) from pk_sub (a := 9999) hh]
          unfold F_J_min
          by_cases c9 : 9999 - h < m
          · rw [if_pos (nI_lt c9 (by omega)), Nat.min_eq_right (by omega)]
          · rw [if_neg (nI_nlt (by omega) (by omega)), Nat.min_eq_left (by omega)]
        obtain ⟨J1, a1, a2, a3, a4⟩ := lm33 (fu := fu) (x1 := nI m) (x2 := nI l) (x3 := w) (K := K) 17 7 fu J (by omega) (by omega)
        have s1 : SR (aN I) (sI J1 331 23 0 332) := by rw [sJ_ne (by omega), a2 332 (by omega)]; exact hR.s
        have R1 : LR I (sI J1 331 23 0) := by
          refine ⟨s1, fun t ht hl => ?_⟩
          rw [sJ_ne (by omega), a2 334 (by omega)]
          exact hR.lr.2 t ht hl
        obtain ⟨v, J2, K2, r1, r2, r3⟩ := lk_f (fu := fu) (m := m) (e := min m (9999 - h)) (c := l) (n := n) (x3 := w) (I0 := I) (L := L) hfu hm (by omega) (by omega) hn t3 (min m (9999 - h)) 0 fu fu h pl tr x I (sI J1 331 23 0) K (by omega) (by omega) (by omega) (by omega) (by omega) R1 (by rw [sI_ap, if_pos rfl, if_pos rfl]) t1 e0 ep et ex hx
        rw [if_pos c2, if_pos c2, if_pos b6, if_pos b6, nI_clamp (show l < 2 ^ 31 by omega), ep, et, ex, mn]
        have z := lm120 (fu := fu) (x1 := nI m) (x2 := nI l) (x3 := w) (x4 := v) (J := J2) (K := K2) 17 7 fu (J2 332) (by omega) (by omega)
        rw [wJ_self] at z
        have j340 : ∀ i, 7 ≤ i → i < 24 → J2 340 i = J 332 i := fun i h1 h2 => by
          rw [r3.1 340 (by omega) (by omega) (by omega) (by omega), sJ_ne (by omega), a3 i h1 h2]
        have j332 : (fun i => if 7 ≤ i ∧ i < 24 then J2 340 i else J2 332 i) = J 332 := by
          funext i
          by_cases ci : 7 ≤ i ∧ i < 24
          · rw [if_pos ci, j340 i ci.1 ci.2]
          · rw [if_neg ci, r3.2.1 i (by omega), sJ_ne (by omega), a2 332 (by omega)]
        rw [j332] at z
        have j331 : ∀ i, i ≠ 24 → i ≠ 23 → J2 331 i = J 331 i := fun i h1 h2 => by
          rw [r3.2.2 i h1, sI_ap, if_pos rfl, if_neg h2, a2 331 (by omega)]
        refine ⟨v, I, L, sI (wJ J2 (J 332)) 331 23 1, K2, r1, (a1.trans r2).trans z, ScI.rf, fun o h1 h2 => ?_, ?_, ?_, ?_, ?_⟩
        · rw [sJ_ne h1]
          by_cases e3 : o = 332
          · subst e3; rw [wJ_at]
          · rw [wJ_ne e3, r3.1 o h1 e3 (by omega) (by omega), sJ_ne h1, a2 o (by omega)]
        · rw [sI_ap, if_pos rfl, if_neg (by omega), wJ_ne (by omega)]; exact j331 4 (by omega) (by omega)
        · rw [sI_ap, if_pos rfl, if_neg (by omega), wJ_ne (by omega)]; exact j331 5 (by omega) (by omega)
        · rw [sI_ap, if_pos rfl, if_neg (by omega), wJ_ne (by omega)]; exact j331 6 (by omega) (by omega)
        · rw [sI_ap, if_pos rfl, if_pos rfl]; exact hR.2.2.2.2.2.1.symm
      · rw [if_neg c2, if_neg c2]
        exact ⟨-1, I, L, J, K, rfl, rfl, ScI.rf, ScJ.rf⟩
    · rw [f1, f2, if_pos rfl, if_pos rfl]
      exact ⟨-1, I, L, J, K, rfl, rfl, ScI.rf, ScJ.rf⟩
  · rw [if_neg c, if_neg c]
    exact ⟨-1, I, L, J, K, rfl, rfl, ScI.rf, ScJ.rf⟩
