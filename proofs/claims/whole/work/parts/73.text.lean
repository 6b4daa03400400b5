theorem x_copyT {fu o : Nat} {I : TI} {L : TL} (ho : 274 ≤ o ∧ o ≤ 298) : ∃ I3, FO_T_copyText fu o I L = some ((), I3, L) ∧ (∀ a, ¬ (o ≤ a ∧ a ≤ o + 7) → I3 a = I a) ∧ I3 o 0 = I 308 0 ∧ (∀ k, k < 24 → I3 (o + 1) k = I 309 k ∧ I3 (o + 2) k = I 310 k ∧ I3 (o + 3) k = I 311 k) ∧ (∀ k, k < 300 → I3 (o + 4) k = I 312 k ∧ I3 (o + 5) k = I 313 k) ∧ (∀ k, k < 2 → I3 (o + 6) k = I 314 k ∧ I3 (o + 7) k = I 315 k) := by
  have n1 : ∀ {X : TI} {f : Nat → Int32} {a b : Nat}, a ≠ b → va_up X b f a = X a := fun h => vu_ne h
  refine ⟨_, rfl, fun a ha => ?_, ?_, fun k hk => ⟨?_, ?_, ?_⟩, fun k hk => ⟨?_, ?_⟩, fun k hk => ⟨?_, ?_⟩⟩
  · simp only [n1 (show a ≠ o + 7 by omega), n1 (show a ≠ o + 6 by omega), n1 (show a ≠ o + 5 by omega), n1 (show a ≠ o + 4 by omega), n1 (show a ≠ o + 3 by omega), n1 (show a ≠ o + 2 by omega), n1 (show a ≠ o + 1 by omega), sJ_ne (show a ≠ o by omega)]
  · simp only [n1 (show o ≠ o + 7 by omega), n1 (show o ≠ o + 6 by omega), n1 (show o ≠ o + 5 by omega), n1 (show o ≠ o + 4 by omega)]
    rw [sI_ap, if_pos rfl, if_neg (by omega)]
    simp only [n1 (show o ≠ o + 3 by omega), n1 (show o ≠ o + 2 by omega), n1 (show o ≠ o + 1 by omega)]
    rw [sI_ap, if_pos rfl, if_pos rfl]
  · simp only [n1 (show o + 1 ≠ o + 7 by omega), n1 (show o + 1 ≠ o + 6 by omega), n1 (show o + 1 ≠ o + 5 by omega), n1 (show o + 1 ≠ o + 4 by omega), sJ_ne (show o + 1 ≠ o by omega), n1 (show o + 1 ≠ o + 3 by omega), n1 (show o + 1 ≠ o + 2 by omega), vu_at]
    rw [cp0 hk, sJ_ne (by omega)]
  · simp only [n1 (show o + 2 ≠ o + 7 by omega), n1 (show o + 2 ≠ o + 6 by omega), n1 (show o + 2 ≠ o + 5 by omega), n1 (show o + 2 ≠ o + 4 by omega), sJ_ne (show o + 2 ≠ o by omega), n1 (show o + 2 ≠ o + 3 by omega), vu_at]
    rw [cp0 hk, n1 (by omega), sJ_ne (by omega)]
  · simp only [n1 (show o + 3 ≠ o + 7 by omega), n1 (show o + 3 ≠ o + 6 by omega), n1 (show o + 3 ≠ o + 5 by omega), n1 (show o + 3 ≠ o + 4 by omega), sJ_ne (show o + 3 ≠ o by omega), vu_at]
    rw [cp0 hk, n1 (by omega), n1 (by omega), sJ_ne (by omega)]
  · simp only [n1 (show o + 4 ≠ o + 7 by omega), n1 (show o + 4 ≠ o + 6 by omega), n1 (show o + 4 ≠ o + 5 by omega), vu_at]
    rw [cp0 hk, sJ_ne (by omega), n1 (by omega), n1 (by omega), n1 (by omega), sJ_ne (by omega)]
  · simp only [n1 (show o + 5 ≠ o + 7 by omega), n1 (show o + 5 ≠ o + 6 by omega), vu_at]
    rw [cp0 hk, n1 (by omega), sJ_ne (by omega), n1 (by omega), n1 (by omega), n1 (by omega), sJ_ne (by omega)]
  · simp only [n1 (show o + 6 ≠ o + 7 by omega), vu_at]
    rw [cp0 hk, n1 (by omega), n1 (by omega), sJ_ne (by omega), n1 (by omega), n1 (by omega), n1 (by omega), sJ_ne (by omega)]
  · simp only [vu_at]
    rw [cp0 hk, n1 (by omega), n1 (by omega), n1 (by omega), sJ_ne (by omega), n1 (by omega), n1 (by omega), n1 (by omega), sJ_ne (by omega)]
theorem LWd.wr {t nn row : Nat} {I J A : TI} {n q w : Nat} (h : LWd (681 * t) nn row I J n q w) (hn : n ≤ 24) (hq : q ≤ 300) (hw : w ≤ 300) (hr : row < 2) (e4 : ∀ k, k < 300 → A 4 k = I 312 k ∧ A 5 k = I 313 k) (e6 : ∀ k, k < 2 → A 6 k = I 314 k ∧ A 7 k = I 315 k) : LWR nn row A (fun i => J 334 (681 * t + i % 681)) n := by
  have ix : ∀ x, x < 681 → J 334 (681 * t + x % 681) = J 334 (681 * t + x) := fun x hx => by rw [Nat.mod_eq_of_lt hx]
  rcases h with ⟨h1, h2⟩ | ⟨p, q0, i, j, kk, a1, a2, a3, a4, a5, a6, a7, a8, a9⟩
  · refine Or.inl ⟨(e6 row hr).1.trans h1, fun k hk => ?_⟩
    show ¬ J 334 (681 * t + (1 + 3 * k) % 681) = nI row
    rw [ix _ (by omega)]
    exact h2 k hk
  · have ij := a9.2.1
    refine Or.inr ⟨p, q0, i, j, kk, by omega, (e6 row hr).1.trans a3.1, (e6 row hr).2.trans a3.2, a4, ?_, fun k' hk' => ?_, ?_, ?_, by omega, a9.cg (fun x h1 h2 => e4 x (by omega)) (fun x h1 h2 => ?_) (Nat.le_refl _)⟩
    · show J 334 (681 * t + (1 + 3 * kk) % 681) = nI row
      rw [ix _ (by omega)]; exact a5
    · show ¬ J 334 (681 * t + (1 + 3 * k') % 681) = nI row
      rw [ix _ (by omega)]; exact a6 k' hk'
    · show J 334 (681 * t + (2 + 3 * kk) % 681) = nI i
      rw [ix _ (by omega)]; exact a7
    · show J 334 (681 * t + (3 + 3 * kk) % 681) = nI j
      rw [ix _ (by omega)]; exact a8
    · show J 334 (681 * t + (73 + x) % 681) = J 334 (681 * t + 73 + x)
      rw [ix _ (by omega), Nat.add_assoc]
theorem op_text {fu : Nat} (hfu : 2000 ≤ fu) : OpR TX (fun I L => FO_X_text fu I L) (fun I L => FO_M_text fu I L) := by
  intro I J L K hR
  obtain ⟨ej, t, ht, et⟩ := hR.s.tx
  have et : I 1 6 = nI t := et
  have ej : J 332 1 = nI t := ej.trans et
  obtain ⟨len, hlen, e04, e4, htape⟩ := hR.2.2.2.1
  dsimp only
  unfold FO_X_text FO_M_text
  by_cases t4 : t = 4
  · subst t4
    refine now0 (L := L) (K := K) (-1) hR ?_ ?_
    · rw [et, if_neg (by decide)]
    · rw [ej, if_pos (show nI 4 = 4 from rfl)]
  · have ht4 : t < 4 := by omega
    rw [et, e04, ej, if_pos (show (0 : Int32) ≤ nI t ∧ nI t ≤ 3 from ⟨nI_pos' (by omega), nI_le (b := 3) (by omega) (by omega)⟩), if_neg (show ¬ nI t = 4 from fun z => t4 ((nI_eq (b := 4) (by omega) (by omega)).mp z))]
    have told : ∀ (I'' J'' : TI) (t' : Nat), t' < t → (∀ o, 274 ≤ o → o < 274 + 8 * t → I'' o = I o) → (∀ x, x < 681 * t → J'' 334 x = J 334 x) → TX (fun i => I'' (274 + 8 * t' + i % 8)) (fun i => J'' 334 (681 * t' + i % 681)) := fun I'' J'' t' h1 h2 h3 => by
      rw [show (fun i => I'' (274 + 8 * t' + i % 8)) = (fun i => I (274 + 8 * t' + i % 8)) from by funext i; exact h2 _ (by omega) (by omega), show (fun i => J'' 334 (681 * t' + i % 681)) = (fun i => J 334 (681 * t' + i % 681)) from by funext i; exact h3 _ (by omega)]
      exact hR.2.2.2.2.2.2 t' (by omega) (by rw [et]; exact nI_lt h1 (by omega))
    rcases txt_both (L := L) (K := K) hfu ht4 hlen e4 ej htape with ⟨e, I', J', K', g1, g2, g3, g4, g5, g6, g7, g8⟩ | ⟨I', J', K', n, q, w, g1, g2, g3, g4, g5, g6, g7, g8, g9, g10, g11, g12, g13⟩
    · have i16 : I' 1 6 = nI t := by rw [g5 1 (by omega)]; exact et
      rw [g1, g2]
      simp only [Option.bind_some]
      rw [i16, if_pos (show (0 : Int32) ≤ nI t ∧ nI t < 4 from ib (n := 4) rfl ht4 (by omega)), if_pos trivial, if_neg (show ¬ nI e = 0 from nI_ne0 (by omega) (by omega)), if_neg (show ¬ nI e = 0 from nI_ne0 (by omega) (by omega))]
      have fI : ∀ o, o ≠ 0 → ¬ (307 ≤ o ∧ o ≤ 318) → sI I' 0 4 0 o = I o := fun o h1 h2 => by rw [sJ_ne h1]; exact g5 o h2
      have fJ : ∀ o, o ≠ 331 → o ≠ 334 → o ≠ 336 → sI (sI (sI J' 331 5 (nI e)) 331 6 (J' 331 8)) 331 4 0 o = J o := fun o h1 h2 h3 => by rw [sJ_ne h1, sJ_ne h1, sJ_ne h1]; exact g6 o h1 h2 h3
      refine ⟨-1, _, L, _, K', rfl, rfl, ⟨?_, ?_, ?_, ⟨0, by omega, by simp [sI_ap]; rfl, by simp [sI_ap]; rfl, fun k hk => by omega⟩, Or.inr ⟨?_, ?_, ?_⟩, ?_, fun t' ht' hl => ?_⟩, fun o ho => fI o (by omega) (by omega), fun o ho => fJ o (by omega) (by omega) (by omega)⟩
      · rw [fJ 332 (by omega) (by omega) (by omega)]
        exact SR.cg hR.1 (fun j hj => fI _ (by omega) (by omega))
      · rw [fJ 333 (by omega) (by omega) (by omega)]
        exact SR.cg hR.2.1 (fun j hj => fI _ (by omega) (by omega))
      · rw [fI 137 (by omega) (by omega), fI 1 (by omega) (by omega)]; exact hR.2.2.1
      · rw [sJ_ne (by omega)]; exact g4.1
      · rw [sJ_ne (show 307 ≠ 0 by omega), g4.2.1]; simp [sI_ap]
      · rw [sJ_ne (show 307 ≠ 0 by omega), g4.2.2]; simp [sI_ap]
      · rw [show sI (sI (sI J' 331 5 (nI e)) 331 6 (J' 331 8)) 331 4 0 331 23 = J' 331 23 from by simp [sI_ap], g7]; exact hR.2.2.2.2.2.1
      · rw [fI 1 (by omega) (by omega), et] at hl
        have : t' < t := (nI_ltI (by omega) (by omega)).mp hl
        exact told _ _ t' this (fun o h1 h2 => fI o (by omega) (by omega)) (fun x hx => by rw [sJ_ne (by omega), sJ_ne (by omega), sJ_ne (by omega)]; exact g8 x hx)
    · have i16 : I' 1 6 = nI t := by rw [g4 1 (by omega)]; exact et
      obtain ⟨I3, y1, y2, y3, y4, y5, y6⟩ := x_copyT (fu := fu) (o := 274 + 8 * t) (I := sI I' 0 4 0) (L := L) (by omega)
      have i3 : I3 1 6 = nI t := by rw [y2 1 (by omega), sJ_ne (by omega)]; exact i16
      have j1 : J' 332 1 = nI t := by rw [g5 332 (by omega) (by omega) (by omega)]; exact ej
      rw [g1, g2]
      simp only [Option.bind_some]
      rw [i16, if_pos (show (0 : Int32) ≤ nI t ∧ nI t < 4 from ib (n := 4) rfl ht4 (by omega)), if_neg i10, nI_clamp (show t < 2 ^ 31 by omega), y1]
      simp only [Option.bind_some]
      rw [if_pos trivial, if_pos trivial, i3, j1, nI_1, nI_pred]
      have s_ne : ∀ o, o ≠ 0 → sI I' 0 4 0 o = I' o := fun o h => sJ_ne h
      have fI : ∀ o, o ≠ 0 → o ≠ 1 → ¬ (307 ≤ o ∧ o ≤ 318) → ¬ (274 + 8 * t ≤ o ∧ o ≤ 274 + 8 * t + 7) → sI I3 1 6 (nI (t + 1)) o = I o := fun o h0 h1 h2 h3 => by rw [sJ_ne h1, y2 o h3, s_ne o h0]; exact g4 o h2
      have fJ : ∀ o, o ≠ 331 → o ≠ 332 → o ≠ 334 → o ≠ 336 → sI (sI (sI (sI J' 331 5 0) 331 6 (-1)) 331 4 0) 332 1 (nI (t + 1)) o = J o := fun o h1 h2 h3 h4 => by rw [sJ_ne h2, sJ_ne h1, sJ_ne h1, sJ_ne h1]; exact g5 o h1 h3 h4
      have e1 : I3 1 = I 1 := by rw [y2 1 (by omega), s_ne 1 (by omega), g4 1 (by omega)]
      refine ⟨nI t, _, L, _, K', rfl, rfl, ⟨?_, ?_, ?_, ⟨0, by omega, ?_, ?_, fun k hk => by omega⟩, Or.inr ⟨?_, ?_, ?_⟩, ?_, fun t' ht' hl => ?_⟩, fun o ho => fI o (by omega) (by omega) (by omega) (by omega), fun o ho => fJ o (by omega) (by omega) (by omega) (by omega)⟩
      · rw [aN_sI 0 rfl, sJ_at, sJ_ne (show 332 ≠ 331 by omega), sJ_ne (show 332 ≠ 331 by omega), sJ_ne (show 332 ≠ 331 by omega), g5 332 (by omega) (by omega) (by omega)]
        refine SR.set_tx (SR.cg hR.1 (fun j hj => ?_)) ht4 (show I3 1 6 = nI t from i3)
        show I3 (1 + j) = I (1 + j)
        rw [y2 (1 + j) (by omega), s_ne _ (by omega), g4 _ (by omega)]
      · rw [fJ 333 (by omega) (by omega) (by omega) (by omega)]
        exact SR.cg hR.2.1 (fun j hj => fI _ (by omega) (by omega) (by omega) (by omega))
      · rw [fI 137 (by omega) (by omega) (by omega) (by omega), show sI I3 1 6 (nI (t + 1)) 1 6 = nI (t + 1) from by simp [sI_ap]]
        have := hR.2.2.1
        rw [et] at this
        exact Int32.le_trans this (nI_le (by omega) (by omega))
      · rw [sJ_ne (show 0 ≠ 1 by omega), y2 0 (by omega)]; simp [sI_ap]; rfl
      · simp [sI_ap]; rfl
      · rw [sJ_ne (show 307 ≠ 1 by omega), y2 307 (by omega), s_ne _ (by omega)]; exact g3.1
      · rw [sJ_ne (show 307 ≠ 1 by omega), y2 307 (by omega), s_ne _ (by omega), g3.2.1]; simp [sI_ap]
      · rw [sJ_ne (show 307 ≠ 1 by omega), y2 307 (by omega), s_ne _ (by omega), g3.2.2]; simp [sI_ap]
      · rw [show sI (sI (sI (sI J' 331 5 0) 331 6 (-1)) 331 4 0) 332 1 (nI (t + 1)) 331 23 = J' 331 23 from by simp [sI_ap], g6]; exact hR.2.2.2.2.2.1
      · rw [show sI I3 1 6 (nI (t + 1)) 1 6 = nI (t + 1) from by simp [sI_ap]] at hl
        have hl' : t' < t + 1 := (nI_ltI (by omega) (by omega)).mp hl
        have e334 : sI (sI (sI (sI J' 331 5 0) 331 6 (-1)) 331 4 0) 332 1 (nI (t + 1)) 334 = J' 334 := by rw [sJ_ne (by omega), sJ_ne (by omega), sJ_ne (by omega), sJ_ne (by omega)]
        by_cases tt : t' < t
        · exact told _ _ t' tt (fun o h1 h2 => fI o (by omega) (by omega) (by omega) (by omega)) (fun x hx => by rw [e334]; exact g7 x hx)
        · have : t' = t := by omega
          subst this
          have ix : ∀ x, x < 681 → J' 334 (681 * t' + x % 681) = J' 334 (681 * t' + x) := fun x hx => by rw [Nat.mod_eq_of_lt hx]
          rw [e334]
          have a4 : ∀ k, k < 300 → (fun i => sI I3 1 6 (nI (t' + 1)) (274 + 8 * t' + i % 8)) 4 k = I' 312 k ∧ (fun i => sI I3 1 6 (nI (t' + 1)) (274 + 8 * t' + i % 8)) 5 k = I' 313 k := fun k hk => by
            have := y5 k hk
            rw [s_ne 312 (by omega), s_ne 313 (by omega)] at this
            constructor
            · show sI I3 1 6 (nI (t' + 1)) (274 + 8 * t' + 4) k = _
              rw [sJ_ne (by omega)]; exact this.1
            · show sI I3 1 6 (nI (t' + 1)) (274 + 8 * t' + 5) k = _
              rw [sJ_ne (by omega)]; exact this.2
          have a6 : ∀ k, k < 2 → (fun i => sI I3 1 6 (nI (t' + 1)) (274 + 8 * t' + i % 8)) 6 k = I' 314 k ∧ (fun i => sI I3 1 6 (nI (t' + 1)) (274 + 8 * t' + i % 8)) 7 k = I' 315 k := fun k hk => by
            have := y6 k hk
            rw [s_ne 314 (by omega), s_ne 315 (by omega)] at this
            constructor
            · show sI I3 1 6 (nI (t' + 1)) (274 + 8 * t' + 6) k = _
              rw [sJ_ne (by omega)]; exact this.1
            · show sI I3 1 6 (nI (t' + 1)) (274 + 8 * t' + 7) k = _
              rw [sJ_ne (by omega)]; exact this.2
          refine ⟨n, g8.1, ?_, ?_, fun k hk => ?_, g12.wr g8.1 g8.2.1 g8.2.2 (by omega) a4 a6, g13.wr g8.1 g8.2.1 g8.2.2 (by omega) a4 a6⟩
          · show sI I3 1 6 (nI (t' + 1)) (274 + 8 * t' + 0) 0 = _
            rw [sJ_ne (by omega), Nat.add_zero, y3, s_ne 308 (by omega)]; exact g9
          · show J' 334 (681 * t' + 0 % 681) = _
            rw [ix 0 (by omega)]; exact g10
          · have := y4 k (by omega)
            rw [s_ne 309 (by omega), s_ne 310 (by omega), s_ne 311 (by omega)] at this
            show CLR (sI I3 1 6 (nI (t' + 1)) (274 + 8 * t' + 1) k) (sI I3 1 6 (nI (t' + 1)) (274 + 8 * t' + 2) k) (sI I3 1 6 (nI (t' + 1)) (274 + 8 * t' + 3) k) (J' 334 (681 * t' + (1 + 3 * k) % 681)) (J' 334 (681 * t' + (2 + 3 * k) % 681)) (J' 334 (681 * t' + (3 + 3 * k) % 681))
            rw [sJ_ne (by omega), sJ_ne (by omega), sJ_ne (by omega), this.1, this.2.1, this.2.2, ix _ (by omega), ix _ (by omega), ix _ (by omega)]
            exact g11 k hk
