section
variable {kd vl sp tp : Nat → Int32} {en : Nat → Nat} {len N fu t0 : Nat}
theorem frb {I I' : TI} {L : TL} {e : Nat} {k : Nat} (h : FlX I I' e (sp k)) (hc : FO_R_fail fu (nI e) I L = some (0, I', L)) : ((FO_R_fail fu (nI e) I L).bind (fun u => if u.1 = 0 ∨ u.1 = 1 then some (u.1, u.2.1, u.2.2) else none)) = some (0, I', L) ∧ FrD I I' ∧ (I' 307 1 = nI e ∧ I' 307 2 = sp k) := by
  rw [hc]
  exact ⟨rfl, h.d.1, h.d.2⟩
/-- a clause, read by both -/
theorem t_clause (hN : kd N = 0) (nx : NX kd vl sp tp en len N fu) (hfu : 2000 ≤ fu) (ht : t0 ≤ 2043) {I J : TI} {L K : TL} {k q w n : Nat} (h : CS kd vl sp tp en len N t0 I J K k q w n) :
    DBad sp t0 (FO_R_readClause fu I L) (FO_M_clause fu J K) I L J ∨
    ∃ (I' J' : TI) (K' : TL) (k' q' w' : Nat), FO_R_readClause fu I L = some (1, I', L) ∧ FrD I I' ∧ FO_M_clause fu J K = some (0, J', K') ∧ FrC t0 J J' ∧ CS kd vl sp tp en len N t0 I' J' K' k' q' w' (n + 1) ∧ k < k' := by
  obtain ⟨hX, hm, h12, h13, hb, hn, hnJ, hrow, hl0, hl1, a, b, ha, hbb, hon, oa, ob⟩ := h
  have hN3 : N ≤ 300 := hX.2.2.2.2.2.2.2.2.2
  have hkN : k ≤ N := hX.2.2.2.2.2.2.2.2.1
  have pl : J 331 8 = sp k := hm.2.2.2.1
  by_cases cl : ∃ so, so ≤ 1 ∧ kd k = nI (38 + so)
  · obtain ⟨so, hso, ek⟩ := cl
    have kN : k < N := kd_lt hN hX ek (nI_ne0 (by omega) (by omega))
    have es : srt (kd k) = nI so := by
      rw [ek]
      have : so = 0 ∨ so = 1 := by omega
      rcases this with rfl | rfl <;> decide
    have bit : (a + 2 * b) / 2 ^ so % 2 = if so = 0 then a else b := by
      have : so = 0 ∨ so = 1 := by omega
      rcases this with rfl | rfl
      · show (a + 2 * b) / 1 % 2 = a; omega
      · show (a + 2 * b) / 2 % 2 = b; omega
    have o14 : ((if so = 0 then a else b) = 0 ↔ I 314 so = -1) := by
      have : so = 0 ∨ so = 1 := by omega
      rcases this with rfl | rfl
      · exact oa
      · exact ob
    rw [rc_law hX hso ek]
    by_cases c4 : I 314 so = -1
    · rw [if_pos c4]
      have b0 : (a + 2 * b) / 2 ^ so % 2 = 0 := by rw [bit]; exact o14.mpr c4
      by_cases n24 : n < 24
      · obtain ⟨I1, x1, x2, x3, x4, x5, x6⟩ := x_come2 (fu := fu) (L := L) hX kN
        have hms : MK kd vl sp tp en len (sI (sI J 331 19 (nI (a + 2 * b + 2 ^ so))) 331 14 (nI so)) K k := by
          unfold MK at hm ⊢
          rw [show sI (sI J 331 19 (nI (a + 2 * b + 2 ^ so))) 331 14 (nI so) 335 = J 335 from by rw [sJ_ne (by omega), sJ_ne (by omega)]]
          simp [sI_ap]
          exact hm
        obtain ⟨J1, K1, y1, y2, y3⟩ := nx _ K k kN hms
        have e331 : ∀ i, i ≠ 7 → i ≠ 8 → i ≠ 9 → i ≠ 10 → i ≠ 14 → i ≠ 19 → J1 331 i = J 331 i := fun i h1 h2 h3 h4 h5 h6 => by rw [y3.2 i h1 h2 h3 h4]; simp [sI_ap, h5, h6]
        have e334 : J1 334 = J 334 := by rw [y3.1 334 (by omega), sJ_ne (by omega), sJ_ne (by omega)]
        have b12 : J1 331 12 = nI t0 := (e331 12 (by omega) (by omega) (by omega) (by omega) (by omega) (by omega)).trans h12
        have cl := (c_lawn (J1 := J1) (K1 := K1) (fu := fu) hm h12 ht hnJ hso es hon (by omega)).2.2 b0 n24 y1 b12
        have fJ1 : FrC t0 J (sI J1 334 (t0 + 1 + 3 * n) (nI so)) := FrC.tr (FrC.tr (J' := sI (sI J 331 19 (nI (a + 2 * b + 2 ^ so))) 331 14 (nI so)) ⟨fun o h1 _ _ => by rw [sJ_ne h1, sJ_ne h1], fun i hi => by simp [sI_ap, show ¬ i = 14 by omega, show ¬ i = 19 by omega], fun y _ => by simp [sI_ap]⟩ y3.c) ⟨fun o _ h2 _ => sJ_ne h2, fun i _ => by simp [sI_ap], fun y hy => by simp [sI_ap, show ¬ y = t0 + 1 + 3 * n by omega]⟩
        have dl := d_law (L := L) (K := K1) (J := sI J1 334 (t0 + 1 + 3 * n) (nI so)) (I := I1) (w := w) (n := n) (so := so) (nn := if so = 0 then 8 else 3) hN nx hfu ht hso rfl x2 (y2.cg (fun i _ _ _ _ _ _ => by simp [sI_ap]) (sJ_ne (by omega))) (by rw [sJ_ne (by omega)]; exact b12) (by rw [sJ_ne (by omega), e331 13 (by omega) (by omega) (by omega) (by omega) (by omega) (by omega)]; exact h13) (by rw [sJ_ne (by omega), y3.2 14 (by omega) (by omega) (by omega) (by omega)]; simp [sI_ap]) (by omega) (by rw [x6]; exact hn) n24 rfl
        rw [if_pos (show I 308 0 < 24 by rw [hn]; exact nI_lt (b := 24) n24 (by omega)), x1, cl]
        simp only [Option.bind_some]
        rcases dl with ⟨e, kx, I', J', K', h1, h2, h3, h4, h5, h6, h7⟩ | ⟨I', J', K', k', q', w', h1, h2, h3, h4, h5, h6, h7, h8, h9, h10, h11, h12', h13', h14', h15, h16, h17, h18, h19⟩
        · left
          refine ⟨e, kx, I', J', K', by rw [h1]; rfl, h2, x3.d.tr h3, h4, by rw [h5]; exact tail_e h2, h6, fJ1.tr h7⟩
        · have en0 : J' 334 t0 = nI n := by rw [h17 t0 (by omega) (by omega) (by omega), sI_ap, if_pos rfl, if_neg (by omega), e334]; exact hnJ
          rw [h1, h11]
          rcases fin_ok (L := L) hN nx ht h2 h12' h14' en0 with ⟨I2, J2, g1, g2, g3, g4, g5, g6⟩ | ⟨I2, J2, K2, g1, g2, g3, g4, g5, g6, g7, g8, g9⟩
          · left
            exact ⟨1, k', I2, J2, K', g1, by omega, x3.d.tr (h4.tr g2), g3, g4, g5, (fJ1.tr h16).tr g6⟩
          · right
            have q334 : ∀ y, t0 < y → y < t0 + 73 + 2 * w → y ≠ t0 + 1 + 3 * n + 1 → y ≠ t0 + 1 + 3 * n + 2 → y ≠ t0 + 1 + 3 * n → J2 334 y = J 334 y := fun y h1 h2 h3 h4 h5 => by
              rw [g9.1 334 (by omega), sI_ap, if_pos rfl, if_neg (by omega), h17 y h2 h3 h4, sI_ap, if_pos rfl, if_neg h5, e334]
            have q334' : ∀ y, t0 < y → J2 334 y = J' 334 y := fun y h1 => by rw [g9.1 334 (by omega), sI_ap, if_pos rfl, if_neg (by omega)]
            have eX : ∀ o, 309 ≤ o → o ≤ 315 → I2 o = I' o := fun o h1 h2 => by
              by_cases c2 : o = 312
              · rw [c2, g4]
              · by_cases c3 : o = 313
                · rw [c3, g5]
                · exact g3.1 o (by omega) (by omega) c2 c3
            have eX1 : ∀ o, 309 ≤ o → o ≤ 315 → I1 o = I o := fun o h1 h2 => by
              by_cases c2 : o = 312
              · rw [c2, x4]
              · by_cases c3 : o = 313
                · rw [c3, x5]
                · exact x3.1 o (by omega) (by omega) c2 c3
            have cdI : CdX I I2 q := fun j hj => by
              rw [g4, g5, (h8 j hj).1, (h8 j hj).2, x4, x5]; exact ⟨rfl, rfl⟩
            have rN : J2 334 (t0 + (1 + 3 * n)) = nI so := by
              rw [q334' _ (by omega), h17 _ (by omega) (by omega) (by omega), sI_ap, if_pos rfl, if_pos (by omega)]
            have sg : Seg (if so = 0 then 8 else 3) (I2 312) (I2 313) (fun x => J2 334 (t0 + 73 + x)) q q' w w' 79 := h19.cg (fun t _ _ => by rw [g4, g5]; exact ⟨rfl, rfl⟩) (fun x _ _ => q334' _ (by omega)) (Nat.le_refl _)
            have i314 : I2 314 so = nI q ∧ I2 315 so = nI q' := by rw [eX 314 (by omega) (by omega), eX 315 (by omega) (by omega)]; exact h9
            have i314' : ∀ r, r ≠ so → I2 314 r = I 314 r ∧ I2 315 r = I 315 r := fun r hr => by
              rw [eX 314 (by omega) (by omega), eX 315 (by omega) (by omega), (h10 r hr).1, (h10 r hr).2, eX1 314 (by omega) (by omega), eX1 315 (by omega) (by omega)]; exact ⟨rfl, rfl⟩
            have lnew : ∀ nn, nn = (if so = 0 then 8 else 3) → LWd t0 nn so I J n q w → LWd t0 nn so I2 J2 (n + 1) q' w' := fun nn hnn hl => by
              subst hnn
              exact LWd.new hl (by omega) c4 i314.1 i314.2 (fun y h1 h2 => q334 y h1 (by omega) (by omega) (by omega) (by omega)) rN (by rw [q334' _ (by omega), show t0 + (2 + 3 * n) = t0 + 1 + 3 * n + 1 by omega]; exact h18.1) (by rw [q334' _ (by omega), show t0 + (3 + 3 * n) = t0 + 1 + 3 * n + 2 by omega]; exact h18.2) sg
            have lold : ∀ nn r, r ≠ so → r ≤ 1 → LWd t0 nn r I J n q w → LWd t0 nn r I2 J2 (n + 1) q' w' := fun nn r hr hr1 hl => LWd.ext hl (i314' r hr).1 (i314' r hr).2 cdI (fun y h1 h2 => q334 y h1 (by omega) (by omega) (by omega) (by omega)) (fun y h1 h2 => q334 y (by omega) h2 (by omega) (by omega) (by omega)) (by rw [rN]; exact fun z => hr ((nI_eq (by omega) (by omega)).mp z).symm) h3.2.2.2.1 h3.2.2.2.2
            refine ⟨I2, J2, K2, k' + 1, q', w', g1, x3.d.tr (h4.tr g3.d), g7, (fJ1.tr h16).tr (FrC.tr ⟨fun o _ h2 _ => sJ_ne h2, fun i _ => by simp [sI_ap], fun y hy => by simp [sI_ap, show ¬ y = t0 by omega]⟩ g9.c), ⟨g2, g8, ?_, ?_, by omega, by rw [g6]; exact h5, ?_, fun i hi => ?_, ?_, ?_, ?_⟩, by omega⟩
            · rw [g9.2 12 (by omega) (by omega) (by omega) (by omega), sJ_ne (by omega)]; exact h14'
            · rw [g9.2 13 (by omega) (by omega) (by omega) (by omega), sJ_ne (by omega)]; exact h13'
            · rw [g9.1 334 (by omega)]; simp [sI_ap]
            · rw [eX 309 (by omega) (by omega), eX 310 (by omega) (by omega), eX 311 (by omega) (by omega)]
              by_cases ci : i = n
              · subst ci
                rw [h7, rN]
                have : so = 0 ∨ so = 1 := by omega
                rcases this with rfl | rfl
                · exact Or.inl ⟨rfl, rfl⟩
                · exact Or.inr (Or.inl ⟨rfl, rfl⟩)
              · have := h6 i ci
                rw [this.1, this.2.1, this.2.2, eX1 309 (by omega) (by omega), eX1 310 (by omega) (by omega), eX1 311 (by omega) (by omega), q334 _ (by omega) (by omega) (by omega) (by omega) (by omega), q334 _ (by omega) (by omega) (by omega) (by omega) (by omega), q334 _ (by omega) (by omega) (by omega) (by omega) (by omega)]
                exact hrow i (by omega)
            · by_cases c0 : so = 0
              · subst c0; exact lnew 8 rfl hl0
              · exact lold 8 0 (fun z => c0 z.symm) (by omega) hl0
            · by_cases c1 : so = 1
              · subst c1; exact lnew 3 rfl hl1
              · exact lold 3 1 (fun z => c1 z.symm) (by omega) hl1
            · have e19 : J2 331 19 = nI (a + 2 * b + 2 ^ so) := by
                rw [g9.2 19 (by omega) (by omega) (by omega) (by omega), sJ_ne (by omega), h15, sJ_ne (by omega), y3.2 19 (by omega) (by omega) (by omega) (by omega)]; simp [sI_ap]
              have hq1 : ¬ nI q = -1 := nI_nm (by omega)
              have : so = 0 ∨ so = 1 := by omega
              rcases this with rfl | rfl
              · refine ⟨1, b, by omega, hbb, ?_, ⟨fun z => by omega, fun z => absurd (i314.1.symm.trans z) hq1⟩, ?_⟩
                · rw [e19]; congr 1
                  have : a = 0 := by rw [bit] at b0; exact b0
                  show a + 2 * b + 1 = 1 + 2 * b
                  omega
                · rw [(i314' 1 (by omega)).1]; exact ob
              · refine ⟨a, 1, ha, by omega, ?_, ?_, ⟨fun z => by omega, fun z => absurd (i314.1.symm.trans z) hq1⟩⟩
                · rw [e19]; congr 1
                  have : b = 0 := by rw [bit] at b0; exact b0
                  show a + 2 * b + 2 = a + 2 * 1
                  omega
                · rw [(i314' 0 (by omega)).1]; exact oa
      · left
        have n24' : n = 24 := by omega
        obtain ⟨I1, x1, x2⟩ := x_fail (fu := fu) (e := 6) (L := L) hX
        have fr := frb (fu := fu) x2 x1
        rw [if_neg (show ¬ I 308 0 < 24 by rw [hn]; exact nI_nlt (b := 24) (by omega) (by omega)), show (6 : Int32) = nI 6 from rfl]
        exact ⟨6, k, I1, J, K, fr.1, by omega, fr.2.1, fr.2.2, (c_lawn (J1 := J) (K1 := K) (fu := fu) hm h12 ht hnJ hso es hon (by omega)).2.1 b0 n24', pl, FrC.rf⟩
    · left
      rw [if_neg c4]
      have b1 : (a + 2 * b) / 2 ^ so % 2 = 1 := by
        rw [bit]
        have : ¬ (if so = 0 then a else b) = 0 := fun z => c4 (o14.mp z)
        split at this <;> split <;> omega
      obtain ⟨I1, x1, x2⟩ := x_fail (fu := fu) (e := 4) (L := L) hX
      have fr := frb (fu := fu) x2 x1
      rw [show (4 : Int32) = nI 4 from rfl]
      exact ⟨4, k, I1, J, K, fr.1, by omega, fr.2.1, fr.2.2, (c_lawn (J1 := J) (K1 := K) (fu := fu) hm h12 ht hnJ hso es hon (by omega)).1 b1, pl, FrC.rf⟩
  · by_cases cd : ∃ s r : Nat, ((s = 40 ∧ r = 2) ∨ (s = 41 ∧ r = 3) ∨ (s = 42 ∧ r = 4) ∨ (s = 43 ∧ r = 5) ∨ (s = 44 ∧ r = 6) ∨ (s = 30 ∧ r = 7)) ∧ kd k = nI s
    · obtain ⟨s, r, hsr, ek⟩ := cd
      have kN : k < N := kd_lt hN hX ek (nI_ne0 (by omega) (by omega))
      have es : srt (kd k) = nI r := by
        rw [ek]
        rcases hsr with ⟨rfl, rfl⟩ | ⟨rfl, rfl⟩ | ⟨rfl, rfl⟩ | ⟨rfl, rfl⟩ | ⟨rfl, rfl⟩ | ⟨rfl, rfl⟩ <;> decide
      rw [rc_deed hX (by omega) ek]
      by_cases n24 : n < 24
      · obtain ⟨I1, x1, x2, x3, x4, x5, x6⟩ := x_come2 (fu := fu) (L := L) hX kN
        have hms : MK kd vl sp tp en len (sI J 331 14 (nI r)) K k := hm.cg (fun i _ _ h _ _ _ => by simp [sI_ap, h]) (sJ_ne (by omega))
        obtain ⟨J1, K1, y1, y2, y3⟩ := nx _ K k kN hms
        have e331 : ∀ i, i ≠ 7 → i ≠ 8 → i ≠ 9 → i ≠ 10 → i ≠ 14 → J1 331 i = J 331 i := fun i h1 h2 h3 h4 h5 => by rw [y3.2 i h1 h2 h3 h4]; simp [sI_ap, h5]
        have e334 : J1 334 = J 334 := by rw [y3.1 334 (by omega), sJ_ne (by omega)]
        have b12 : J1 331 12 = nI t0 := (e331 12 (by omega) (by omega) (by omega) (by omega) (by omega)).trans h12
        have cl := c_deed (J1 := J1) (K1 := K1) (fu := fu) hm h12 ht hnJ n24 (by omega) es y1 b12
        have fJ1 : FrC t0 J (sI J1 334 (t0 + 1 + 3 * n) (nI r)) := FrC.tr (FrC.tr (J' := sI J 331 14 (nI r)) ⟨fun o h1 _ _ => sJ_ne h1, fun i hi => by simp [sI_ap, show ¬ i = 14 by omega], fun y _ => by simp [sI_ap]⟩ y3.c) ⟨fun o _ h2 _ => sJ_ne h2, fun i _ => by simp [sI_ap], fun y hy => by simp [sI_ap, show ¬ y = t0 + 1 + 3 * n by omega]⟩
        have dd := d_deed (L := L) (K := K1) (J := sI J1 334 (t0 + 1 + 3 * n) (nI r)) (I := I1) (n := n) (x := t0 + 1 + 3 * n) (t0 := t0) hN nx x2 (y2.cg (fun i _ _ _ _ _ _ => by simp [sI_ap]) (sJ_ne (by omega))) (by rw [x6]; exact hn) n24 (by omega) (by omega) hsr
        rw [if_pos (show I 308 0 < 24 by rw [hn]; exact nI_lt (b := 24) n24 (by omega)), x1, cl]
        simp only [Option.bind_some]
        rcases dd with ⟨e, kx, I', J', K', h1, h2, h3, h4, h5, h6, h7⟩ | ⟨I', J', K', k', bb, cc, h1, h2, h3, h4, h5, h6, h7, h8, h9, h10⟩
        · left
          refine ⟨e, kx, I', J', K', by rw [h1]; rfl, h2, x3.d.tr h3, h4, by rw [h5]; exact tail_e h2, h6, fJ1.tr h7⟩
        · have en0 : J' 334 t0 = nI n := by rw [h9 t0 (by omega) (by omega), sI_ap, if_pos rfl, if_neg (by omega), e334]; exact hnJ
          have e12 : J' 331 12 = nI t0 := by rw [h8 12 (by omega) (by omega) (by omega) (by omega), sJ_ne (by omega)]; exact b12
          rw [h1, h5]
          rcases fin_ok (L := L) hN nx ht h2 h6 e12 en0 with ⟨I2, J2, g1, g2, g3, g4, g5, g6⟩ | ⟨I2, J2, K2, g1, g2, g3, g4, g5, g6, g7, g8, g9⟩
          · left
            exact ⟨1, k', I2, J2, K', g1, by omega, x3.d.tr (h4.1.tr g2), g3, g4, g5, (fJ1.tr h7).tr g6⟩
          · right
            obtain ⟨r1, r2, r3, r4, r5⟩ := RwX.y x3 x4 x5 (RwX.x h4 g3 g4 g5)
            have q334' : ∀ y, t0 < y → J2 334 y = J' 334 y := fun y h1 => by rw [g9.1 334 (by omega), sI_ap, if_pos rfl, if_neg (by omega)]
            have q334 : ∀ y, t0 < y → y ≠ t0 + 1 + 3 * n + 1 → y ≠ t0 + 1 + 3 * n + 2 → y ≠ t0 + 1 + 3 * n → J2 334 y = J 334 y := fun y h1 h3 h4 h5 => by
              rw [q334' y h1, h9 y h3 h4, sI_ap, if_pos rfl, if_neg h5, e334]
            have rN : J2 334 (t0 + (1 + 3 * n)) = nI r := by
              rw [q334' _ (by omega), h9 _ (by omega) (by omega), sI_ap, if_pos rfl, if_pos (by omega)]
            have cdI : CdX I I2 q := fun j _ => by rw [r5 312 (by omega) (by omega), r5 313 (by omega) (by omega)]; exact ⟨rfl, rfl⟩
            have lold : ∀ nn row, row ≤ 1 → LWd t0 nn row I J n q w → LWd t0 nn row I2 J2 (n + 1) q w := fun nn row hr hl => LWd.ext hl (by rw [r5 314 (by omega) (by omega)]) (by rw [r5 315 (by omega) (by omega)]) cdI (fun y h1 h2 => q334 y h1 (by omega) (by omega) (by omega)) (fun y h1 h2 => q334 y (by omega) (by omega) (by omega) (by omega)) (by rw [rN]; exact fun z => by have := (nI_eq (by omega) (by omega)).mp z; omega) (Nat.le_refl _) (Nat.le_refl _)
            refine ⟨I2, J2, K2, k' + 1, q, w, g1, x3.d.tr (h4.1.tr g3.d), g7, (fJ1.tr h7).tr (FrC.tr ⟨fun o _ h2 _ => sJ_ne h2, fun i _ => by simp [sI_ap], fun y hy => by simp [sI_ap, show ¬ y = t0 by omega]⟩ g9.c), ⟨g2, g8, ?_, ?_, by omega, r2, ?_, fun i hi => ?_, lold 8 0 (by omega) hl0, lold 3 1 (by omega) hl1, ?_⟩, by omega⟩
            · rw [g9.2 12 (by omega) (by omega) (by omega) (by omega), sJ_ne (by omega)]; exact e12
            · rw [g9.2 13 (by omega) (by omega) (by omega) (by omega), sJ_ne (by omega), h8 13 (by omega) (by omega) (by omega) (by omega), sJ_ne (by omega), e331 13 (by omega) (by omega) (by omega) (by omega) (by omega)]; exact h13
            · rw [g9.1 334 (by omega)]; simp [sI_ap]
            · by_cases ci : i = n
              · subst ci
                rw [r4.1, r4.2.1, r4.2.2, rN, q334' _ (by omega), q334' _ (by omega), show t0 + (2 + 3 * i) = t0 + 1 + 3 * i + 1 by omega, show t0 + (3 + 3 * i) = t0 + 1 + 3 * i + 2 by omega]
                exact h10
              · have := r3 i ci
                rw [this.1, this.2.1, this.2.2, q334 _ (by omega) (by omega) (by omega) (by omega), q334 _ (by omega) (by omega) (by omega) (by omega), q334 _ (by omega) (by omega) (by omega) (by omega)]
                exact hrow i (by omega)
            · refine ⟨a, b, ha, hbb, ?_, by rw [r5 314 (by omega) (by omega)]; exact oa, by rw [r5 314 (by omega) (by omega)]; exact ob⟩
              rw [g9.2 19 (by omega) (by omega) (by omega) (by omega), sJ_ne (by omega), h8 19 (by omega) (by omega) (by omega) (by omega), sJ_ne (by omega), e331 19 (by omega) (by omega) (by omega) (by omega) (by omega)]; exact hon
      · left
        have n24' : n = 24 := by omega
        subst n24'
        obtain ⟨I1, x1, x2⟩ := x_fail (fu := fu) (e := 6) (L := L) hX
        have fr := frb (fu := fu) x2 x1
        rw [if_neg (show ¬ I 308 0 < 24 by rw [hn]; exact nI_nlt (b := 24) (by omega) (by omega)), show (6 : Int32) = nI 6 from rfl]
        exact ⟨6, k, I1, J, K, fr.1, by omega, fr.2.1, fr.2.2, c_full (fu := fu) hm h12 ht hnJ (by omega) es, pl, FrC.rf⟩
    · left
      have hno : ∀ s, (s = 30 ∨ (38 ≤ s ∧ s ≤ 44)) → ¬ kd k = nI s := fun s hs z => by
        by_cases c1 : s = 38 ∨ s = 39
        · exact cl ⟨s - 38, by omega, by rw [z]; congr 1; omega⟩
        · exact cd ⟨s, if s = 30 then 7 else s - 38, by split <;> omega, z⟩
      have es : srt (kd k) = -1 := by
        unfold srt
        rw [if_neg (hno 38 (by omega)), if_neg (hno 39 (by omega)), if_neg (hno 40 (by omega)), if_neg (hno 41 (by omega)), if_neg (hno 42 (by omega)), if_neg (hno 43 (by omega)), if_neg (hno 44 (by omega)), if_neg (hno 30 (by omega))]
      obtain ⟨I1, x1, x2⟩ := x_fail (fu := fu) (e := 1) (L := L) hX
      have fr := frb (fu := fu) x2 x1
      rw [rc_none hX hno, show (1 : Int32) = nI 1 from rfl]
      exact ⟨1, k, I1, J, K, fr.1, by omega, fr.2.1, fr.2.2, c_none (fu := fu) hm es, pl, FrC.rf⟩
end
