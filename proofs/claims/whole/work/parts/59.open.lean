/-! what is open -/
theorem x_jump {kd vl sp : Nat → Int32} {N fu k q j : Nat} {I : TI} {L : TL} (h : XS kd vl sp N I k q) (hj : j < 300) : ∃ I', FO_T_jumpToHere fu (nI j) I L = some ((), I', L) ∧ XS kd vl sp N I' k q ∧ FrX I I' ∧ I' 312 = I 312 ∧ (∀ t, t ≠ j → I' 313 t = I 313 t) ∧ I' 313 j = nI q := by
  obtain ⟨h7, h8, h9, h10, h4, e1, e2, e3, h5, h6⟩ := h
  refine ⟨sI I 313 j (nI q), ?_, ⟨?_, ?_, ?_, ?_, ?_, ?_, ?_, ?_, h5, h6⟩, ⟨fun o a b c d => by rw [sJ_ne d], fun i a b c d e => by simp [sI_ap], fun i a => by simp [sI_ap]⟩, sJ_ne (by omega), fun t ht => by simp [sI_ap, ht], by simp [sI_ap]⟩
  · unfold FO_T_jumpToHere
    rw [h4, if_pos (show (0 : Int32) ≤ nI j ∧ nI j ≤ 299 from ⟨nI_pos' (by omega), nI_le (b := 299) (by omega) (by omega)⟩), if_pos (show (0 : Int32) ≤ nI j ∧ nI j < 300 from ib (n := 300) rfl hj (by omega)), nI_clamp (show j < 2 ^ 31 by omega)]
  · simp [sI_ap, h7]
  · simp [sI_ap, h8]
  · simp [sI_ap, h9]
  · simp [sI_ap, h10]
  · simp [sI_ap, h4]
  · rw [sJ_ne (by omega), e1]
  · rw [sJ_ne (by omega), e2]
  · rw [sJ_ne (by omega), e3]
section
variable {kd vl sp tp : Nat → Int32} {en : Nat → Nat} {len N fu t0 so nn : Nat}
/-- one that turns: - and cups -/
theorem open_un (nx : NX kd vl sp tp en len N fu) (hfu : 2000 ≤ fu) (ht : t0 ≤ 2043) {F : Int32 → TI → TL → Option (Int32 × TI × TL)} {op c wx : Nat} (h1 : OneOK kd vl sp tp en len N fu t0 so nn F op) {I J : TI} {L K : TL} {k q w m : Nat} (hx : XS kd vl sp N I (k + 1) q) (hl : I 307 11 = nI (38 + so)) (hm : MS kd vl sp tp en len t0 so J K (k + 1) w (m + 1) op 0) (hb : q ≤ k ∧ w + m ≤ k ∧ m + 4 ≤ 16 * op ∧ 1 ≤ op ∧ op ≤ 8) (hc : J 336 m = nI c) (hcw : (c = 5 ∧ wx = 61) ∨ (c = 2 ∧ wx = 46)) {X : Option (Int32 × TI × TL)} (hX : X = (F (nI op) I L).bind (fun u9 => if u9.1 = 0 then some (0, u9.2.1, u9.2.2) else (FO_T_addCode fu (nI wx) 0 u9.2.1 u9.2.2).bind (fun u11 => some (1, u11.2.1, u11.2.2)))) : BadO sp N fu t0 X I L J K (k + 1) ∨ OneO kd vl sp tp en len N fu t0 so nn X I L J K k (k + 1) q w m (op - 1) (7 * (8 - op) + 8) := by
  have hN3 : N ≤ 300 := hx.2.2.2.2.2.2.2.2.2
  have rk7 : rk (nI c) = 7 := by rcases hcw with ⟨rfl, _⟩ | ⟨rfl, _⟩ <;> decide
  subst hX
  rcases h1 I L J K (k + 1) q w (m + 1) ⟨hx, hl, hm, by omega, by omega, by omega, by omega⟩ (fun _ => na_top hfu hm.2.2.2.1 (by omega) (by rw [hc, rk7]; omega)) with bad | good
  · exact Or.inl (BadO.pre bad FrX.rf (c0 := 0) (fun f => rfl) (by omega) FrM.rf CdM.rf (fun I' e s g1 g2 => ⟨I', by rw [g1]; rfl, g2⟩))
  · right
    obtain ⟨I1, J1, K1, c1, k1, q1, w1, wh, g1, v1, v2, v3, v4, v5, v6, v7, v8, v9, v10⟩ := good
    have hk1 : k1 ≤ N := v1.2.2.2.2.2.2.2.2.1
    obtain ⟨I2, y1, y2, y3, y4, y5, y6⟩ := x_add (fu := fu) (c := nI wx) (a := 0) (L := L) v1 (by omega)
    have eM : J1 336 m = nI c := by rw [v9 m (by omega), hc]
    have ep := e_pop (K := K1) hfu v6 ht (by omega) (by omega) (show 7 ≤ rk (J1 336 m) by rw [eM, rk7]; omega)
    have pr := pop_R (J := J1) (t0 := t0) (w := w1) (m := m) (op' := op - 1) v6.2.1 v6.2.2.1 v6.2.2.2.1 (by rw [v6.2.2.2.2.1, eM, show is7 (nI c) = 1 from by unfold is7; rw [if_pos (Or.inl rk7)], show op - 1 + 1 = op by omega]) (by omega) (by omega) (by omega)
    obtain ⟨r1, r2, r3, r4, r5, r6, r7⟩ := pr
    rw [g1]
    simp only [Option.bind_some]
    rw [if_neg i10, y1]
    refine ⟨I2, pop J1, K1, c1, k1, q1 + 1, w1 + 1, wh, rfl, y2, v2.tr y3, v3.tr y4 (by omega), by omega, fun f => ?_, v6.st (fun i a b c _ => r2 i a b c) (r1 335 (by omega) (by omega)) r3 r4 r5 ((r2 18 (by omega) (by omega) (by omega)).trans v6.2.2.2.2.2.1), v7.tr ⟨fun o a b _ => r1 o a b, fun i _ _ _ _ a b c _ => r2 i a b c⟩, fun x hx => by rw [r6 x (by omega)]; exact v8 x hx, fun i hi => by rw [r1 336 (by omega) (by omega)]; exact v9 i (by omega), ?_⟩
    · rw [v5]
      unfold EO
      rw [ep]
    · have s := v10.cg (op' := I2 312) (ar' := I2 313) (mc' := fun x => pop J1 334 (t0 + 73 + x)) (d' := 7 * (8 - op) + 8) (fun t h1 h2 => y4 t h2) (fun x h1 h2 => r6 _ (by omega)) (by omega)
      have e7 : pop J1 334 (t0 + 73 + 2 * w1) = nI c := (show pop J1 334 (t0 + 73 + 2 * w1) = J1 336 m from r7 0 (by omega)).trans eM
      rcases hcw with ⟨rfl, rfl⟩ | ⟨rfl, rfl⟩
      · exact s.neg (by omega) y5 e7
      · exact s.cup (by omega) y5 e7
theorem open_near (hN : kd N = 0) (nx : NX kd vl sp tp en len N fu) (hfu : 2000 ≤ fu) (ht : t0 ≤ 2043) {F : Int32 → TI → TL → Option (Int32 × TI × TL)} {op : Nat} (h1 : OneOK kd vl sp tp en len N fu t0 so nn F op) {I J : TI} {L K : TL} {k q w m : Nat} (hx : XS kd vl sp N I (k + 1) q) (hl : I 307 11 = nI (38 + so)) (hm : MS kd vl sp tp en len t0 so J K (k + 1) w (m + 1) op 0) (hb : q ≤ k ∧ w + m ≤ k ∧ m + 4 ≤ 16 * op ∧ 1 ≤ op ∧ op ≤ 8) (hc : J 336 m = nI 41) {X : Option (Int32 × TI × TL)} (hX : X = (F (nI op) I L).bind (fun u3 => if u3.1 = 0 then some (0, u3.2.1, u3.2.2) else (FO_R_pass fu 54 u3.2.1 u3.2.2).bind (fun u4 => if u4.1 = 0 then some (0, u4.2.1, u4.2.2) else (F (nI op) u4.2.1 u4.2.2).bind (fun u5 => if u5.1 = 0 then some (0, u5.2.1, u5.2.2) else (FO_T_addCode fu 45 0 u5.2.1 u5.2.2).bind (fun u6 => some (1, u6.2.1, u6.2.2)))))) : BadO sp N fu t0 X I L J K (k + 1) ∨ OneO kd vl sp tp en len N fu t0 so nn X I L J K k (k + 1) q w m (op - 1) (7 * (8 - op) + 8) := by
  have hN3 : N ≤ 300 := hx.2.2.2.2.2.2.2.2.2
  subst hX
  have ho : OpN J (m + 1) 41 := Or.inr ⟨m, by omega, hc, by decide, fun i h1 h2 => by omega⟩
  rcases h1 I L J K (k + 1) q w (m + 1) ⟨hx, hl, hm, by omega, by omega, by omega, by omega⟩ (fun _ => na_open hfu hm.2.2.2.1 (by omega) ho (by decide)) with bad | good
  · exact Or.inl (BadO.pre bad FrX.rf (c0 := 0) (fun f => rfl) (by omega) FrM.rf CdM.rf (fun I' e s g1 g2 => ⟨I', by rw [g1]; rfl, g2⟩))
  · obtain ⟨I1, J1, K1, c1, k1, q1, w1, wh, g1, v1, v2, v3, v4, v5, v6, v7, v8, v9, v10⟩ := good
    have hk1 : k1 ≤ N := v1.2.2.2.2.2.2.2.2.1
    have eM : J1 336 m = 41 := by rw [v9 m (by omega), hc]; rfl
    have en := e_near (K := K1) nx v6 (by omega) eM
    have xp := x_pass (fu := fu) (w := 54) (L := L) v1
    rw [g1]
    simp only [Option.bind_some]
    rw [if_neg i10]
    by_cases c54 : kd k1 = 54
    · have kN : k1 < N := kd_lt hN v1 c54 (by decide)
      obtain ⟨J2, K2, p1, p2, p3, p4, p5, p6⟩ := en.2 c54 kN
      obtain ⟨I2, x1, x2, x3, x4⟩ := xp.1 c54 kN
      have lo : ∀ f, LO_M_summed_15 fu (f + c1) J K = LO_M_summed_15 fu f J2 K2 := fun f => by
        rw [v5]
        unfold EO
        rw [p1]
        rfl
      rw [x1]
      simp only [Option.bind_some]
      rw [if_neg i10]
      rcases h1 I2 L J2 K2 (k1 + 1) q1 w1 (m + 1) ⟨x2, ((v2.tr x3).2.1 11 (by omega) (by omega) (by omega) (by omega) (by omega)).trans hl, p2, by omega, by omega, by omega, by omega⟩ (fun _ => na_top hfu p2.2.2.2.1 (by omega) (by rw [p6]; decide)) with bad | good
      · exact Or.inl (BadO.pre bad (v2.tr x3) lo (by omega) (v7.tr p3) (fun x hx => by rw [p4]; exact v8 x (by omega)) (fun I' e s g1 g2 => ⟨I', by rw [g1]; rfl, g2⟩))
      · right
        obtain ⟨I3, J3, K3, c3, k3, q3, w3, wh3, g3, u1, u2, u3, u4, u5, u6, u7, u8, u9, u10⟩ := good
        have hk3 : k3 ≤ N := u1.2.2.2.2.2.2.2.2.1
        obtain ⟨I4, y1, y2, y3, y4, y5, y6⟩ := x_add (fu := fu) (c := 45) (a := 0) (L := L) u1 (by omega)
        have eM3 : J3 336 m = 4 := by rw [u9 m (by omega), p6]
        have ep := e_pop (K := K3) hfu u6 ht (by omega) (by omega) (show 7 ≤ rk (J3 336 m) by rw [eM3]; decide)
        obtain ⟨r1, r2, r3, r4, r5, r6, r7⟩ := pop_R (J := J3) (t0 := t0) (w := w3) (m := m) (op' := op - 1) u6.2.1 u6.2.2.1 u6.2.2.2.1 (by rw [u6.2.2.2.2.1, eM3, show is7 4 = 1 from by decide, show op - 1 + 1 = op by omega]) (by omega) (by omega) (by omega)
        rw [g3]
        simp only [Option.bind_some]
        rw [if_neg i10, y1]
        refine ⟨I4, pop J3, K3, c1 + c3, k3, q3 + 1, w3 + 1, wh3, rfl, y2, (v2.tr x3).tr (u2.tr y3), ?_, by omega, fun f => ?_, u6.st (fun i a b c _ => r2 i a b c) (r1 335 (by omega) (by omega)) r3 r4 r5 ((r2 18 (by omega) (by omega) (by omega)).trans u6.2.2.2.2.2.1), (v7.tr p3).tr (u7.tr ⟨fun o a b _ => r1 o a b, fun i _ _ _ _ a b c _ => r2 i a b c⟩), fun x hx => ?_, fun i hi => ?_, ?_⟩
        · intro t ht'
          have e1 := v3 t ht'
          have e2 := x4 t (by omega)
          have e3 := u3 t (by omega)
          have e4 := y4 t (by omega)
          exact ⟨e4.1.trans (e3.1.trans (e2.1.trans e1.1)), e4.2.trans (e3.2.trans (e2.2.trans e1.2))⟩
        · rw [show f + (c1 + c3) = (f + c3) + c1 by omega, lo, u5]
          unfold EO
          rw [ep]
        · rw [r6 x (by omega), u8 x (by omega), p4]
          exact v8 x hx
        · rw [r1 336 (by omega) (by omega), u9 i (by omega), p5 i (by omega)]
          exact v9 i (by omega)
        · refine Seg.bin (w := 45) (d' := 7 * (8 - op) + 1) (v10.cg (fun t h1 h2 => ?_) (fun x h1 h2 => ?_) (by omega)) (u10.cg (fun t h1 h2 => y4 t h2) (fun x h1 h2 => ?_) (Nat.le_refl _)) (by omega) (by omega) (by omega) y5 ?_
          · have e2 := x4 t (by omega)
            have e3 := u3 t (by omega)
            have e4 := y4 t (by omega)
            exact ⟨e4.1.trans (e3.1.trans e2.1), e4.2.trans (e3.2.trans e2.2)⟩
          · show pop J3 334 (t0 + 73 + x) = J1 334 (t0 + 73 + x)
            rw [r6 _ (by omega), u8 _ (by omega), p4]
          · exact r6 _ (by omega)
          · exact (show pop J3 334 (t0 + 73 + 2 * w3) = J3 336 m from r7 0 (by omega)).trans eM3
    · left
      obtain ⟨I2, a1, a2⟩ := xp.2 c54
      rw [a1]
      refine BadO.leaf (e := 1) (c := c1) (k1 := k1) (J' := sI J1 331 18 1) (K' := K1) rfl (by omega) v2 a2 (by omega) (fun f => ?_) ?_ (v7.tr ⟨fun o a _ _ => sJ_ne a, fun i _ _ _ _ _ _ _ h => by simp [sI_ap, h]⟩) (fun x hx => by rw [sJ_ne (by omega)]; exact v8 x (by omega))
      · rw [v5]
        unfold EO
        rw [en.1 c54]
        exact CT_e (fu := fu) (f := f) (e := 1) (by omega) (by omega)
      · rw [sI_ap, if_pos rfl, if_neg (by omega)]
        exact v6.1.2.2.2.1
theorem open_paren (hN : kd N = 0) (nx : NX kd vl sp tp en len N fu) (hfu : 2000 ≤ fu) (ht : t0 ≤ 2043) {F : Int32 → TI → TL → Option (Int32 × TI × TL)} {op : Nat} (h1 : ValOK kd vl sp tp en len N fu t0 so nn Ps 5 10 F op) {I J : TI} {L K : TL} {k q w m : Nat} (hx : XS kd vl sp N I (k + 1) q) (hl : I 307 11 = nI (38 + so)) (hm : MS kd vl sp tp en len t0 so J K (k + 1) w (m + 1) op 0) (hb : q ≤ k ∧ w + m ≤ k ∧ m + 4 ≤ 16 * op ∧ 1 ≤ op ∧ op ≤ 8) (hc : J 336 m = nI 40) {X : Option (Int32 × TI × TL)} (hX : X = (F (nI op) I L).bind (fun u1 => if u1.1 = 0 then some (0, u1.2.1, u1.2.2) else (FO_R_pass fu 19 u1.2.1 u1.2.2).bind (fun u2 => if u2.1 = 0 then some (0, u2.2.1, u2.2.2) else some (1, u2.2.1, u2.2.2)))) : BadO sp N fu t0 X I L J K (k + 1) ∨ OneO kd vl sp tp en len N fu t0 so nn X I L J K k (k + 1) q w m (op - 1) (7 * (8 - op) + 8) := by
  have hN3 : N ≤ 300 := hx.2.2.2.2.2.2.2.2.2
  subst hX
  have ho : OpN J (m + 1) 40 := Or.inr ⟨m, by omega, hc, by decide, fun i h1 h2 => by omega⟩
  rcases h1 I L J K (k + 1) q w (m + 1) ⟨hx, hl, hm, by omega, by omega, by omega, by omega⟩ (fun _ => na_open hfu hm.2.2.2.1 (by omega) ho (by decide)) (Or.inr ⟨by rw [Nat.add_sub_cancel, hc]; decide, by rw [Nat.add_sub_cancel, hc]; decide⟩) with bad | good
  · exact Or.inl (BadO.pre bad FrX.rf (c0 := 0) (fun f => rfl) (by omega) FrM.rf CdM.rf (fun I' e s g1 g2 => ⟨I', by rw [g1]; rfl, g2⟩))
  · obtain ⟨I1, J1, K1, c1, k1, q1, w1, n1, g1, gv, gP⟩ := good
    obtain ⟨v1, v2, v3, v4, v5, v6, v7, v8, v9, v10, v11⟩ := gv
    have hk1 : k1 ≤ N := v1.2.2.2.2.2.2.2.2.1
    have n0 : nc J1 (m + 1) n1 = 0 := nc0 n1 (fun i hi => ⟨by have := (v10 i hi).1; omega, (v10 i hi).2⟩)
    have ho1 : OpN J1 (m + 1 + n1) 40 := ho.up (by omega) v9 (fun i h1 h2 => by
      obtain ⟨t, rfl⟩ : ∃ t, i = m + 1 + t := ⟨i - (m + 1), by omega⟩
      exact rk_pos (by have := (v10 t (by omega)).1; omega))
    have bt := bt_other (fu := fu) hfu v6.1 gP.no v6.2.2.2.1 (by omega) ho1 (by decide)
    have pt := p_40 (fu := fu) v6.1
    have xp := x_pass (fu := fu) (w := 19) (L := L) v1
    rw [g1]
    simp only [Option.bind_some]
    rw [if_neg i10]
    by_cases c19 : kd k1 = 19
    · right
      have kN : k1 < N := kd_lt hN v1 c19 (by decide)
      obtain ⟨J2, K2, p1, p2, p3, p4, p5⟩ := (h_part nx (op' := op) hfu (by rw [n0]; exact v6) kN ht (by omega) (by omega) bt (show J1 336 m = 40 by rw [v9 m (by omega), hc]; rfl) (by decide) (pt.1 c19) (fun i hi => by have := (v10 i hi).1; omega)).2.1 rfl (by omega) (by decide)
      obtain ⟨I2, x1, x2, x3, x4⟩ := xp.1 c19 kN
      have st := (ms_stl (op' := op) (n := n1) (m := m + 1) (by rw [n0]; exact v6) ht (by omega) (by omega)).1
      rw [x1]
      refine ⟨I2, J2, K2, c1 + 1, k1 + 1, q1, w1 + n1, 1, rfl, x2, v2.tr x3, v3.tr x4 (by omega), by omega, fun f => ?_, p2, v7.tr p3, fun x hx => ?_, fun i hi => (p5 i hi).trans (v9 i (by omega)), ?_⟩
      · rw [show f + (c1 + 1) = (f + 1) + c1 by omega, v5, LO_h v6.2.2.2.2.2.1, p1]
        rfl
      · rw [p4, st.2.2.2.2.2.1 x (by omega)]
        exact v8 x hx
      · exact v11.cg (fun t h1 h2 => x4 t (by omega)) (fun x _ _ => by rw [p4]) (by omega)
    · left
      obtain ⟨I2, a1, a2⟩ := xp.2 c19
      rw [a1]
      refine BadO.leaf (e := 1) (c := c1 + 1) (k1 := k1) (J' := J1) (K' := K1) rfl (by omega) v2 a2 (by omega) (fun f => ?_) v6.1.2.2.2.1 v7 (fun x hx => v8 x (by omega))
      rw [show f + (c1 + 1) = (f + 1) + c1 by omega, v5]
      exact h_bad hfu v6.2.2.2.2.2.1 v6.2.2.2.1 (by omega) ho1 bt (pt.2 c19) (by decide)
end
