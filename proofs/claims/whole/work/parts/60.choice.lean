section
variable {kd vl sp tp : Nat → Int32} {en : Nat → Nat} {len N fu t0 so nn : Nat}
/-- a sum in a part of if: it ends with the word that is wanted, or with a fault -/
theorem part_sum (hN : kd N = 0) (nx : NX kd vl sp tp en len N fu) (hfu : 2000 ≤ fu) (ht : t0 ≤ 2043) {F : Int32 → TI → TL → Option (Int32 × TI × TL)} {op v wd0 pt : Nat} (h1 : ValOK kd vl sp tp en len N fu t0 so nn Ps 5 10 F op) (hv : (v = 43 ∧ wd0 = 49 ∧ pt = 44) ∨ (v = 44 ∧ wd0 = 50 ∧ pt = 0)) {I J : TI} {L K : TL} {k q w m : Nat} (he : Ent kd vl sp tp en len N t0 so I J K k q w (m + 1) op 10) (hc : J 336 m = nI v) : (BadO sp N fu t0 ((F (nI op) I L).bind (fun u => if u.1 = 0 then some (0, u.2.1, u.2.2) else FO_R_pass fu (nI wd0) u.2.1 u.2.2)) I L J K k) ∨
    ∃ (I1 I2 J1 : TI) (K1 : TL) (c k1 q1 w1 n1 : Nat), F (nI op) I L = some (1, I1, L) ∧ FO_R_pass fu (nI wd0) I1 L = some (1, I2, L) ∧ XS kd vl sp N I2 (k1 + 1) q1 ∧ FrX I I2 ∧ CdX I I2 q ∧ k1 < N ∧ VS kd vl sp tp en len N fu t0 so nn 5 I J K k q w (m + 1) op (7 * (8 - op) + 3) I1 J1 K1 c k1 q1 w1 n1 ∧ CdX I1 I2 300 ∧ nc J1 (m + 1) n1 = 0 ∧ FO_M_betweenOf fu J1 K1 = some (-1, J1, K1) ∧ J1 336 m = nI v ∧ FO_M_partOf fu (nI v) J1 K1 = some (nI pt, J1, K1) := by
  have hN3 : N ≤ 300 := he.1.2.2.2.2.2.2.2.2.2
  have hm := he.2.2.1
  have hbd := he.2.2.2
  have v40 : (40 : Int32) ≤ nI v := by rcases hv with ⟨rfl, _⟩ | ⟨rfl, _⟩ <;> decide
  have v42 : ¬ nI v = 42 := by rcases hv with ⟨rfl, _⟩ | ⟨rfl, _⟩ <;> decide
  have v41 : ¬ nI v = 41 := by rcases hv with ⟨rfl, _⟩ | ⟨rfl, _⟩ <;> decide
  have vr : rk (nI v) = 0 := by rcases hv with ⟨rfl, _⟩ | ⟨rfl, _⟩ <;> decide
  have ho : OpN J (m + 1) (nI v) := Or.inr ⟨m, by omega, hc, v40, fun i h1 h2 => by omega⟩
  rcases h1 I L J K k q w (m + 1) he (fun _ => na_open hfu hm.2.2.2.1 (by omega) ho v42) (Or.inr ⟨by rw [Nat.add_sub_cancel, hc, vr]; omega, by rw [Nat.add_sub_cancel, hc]; exact v41⟩) with bad | good
  · exact Or.inl (BadO.pre bad FrX.rf (c0 := 0) (fun f => rfl) (by omega) FrM.rf CdM.rf (fun I' e s g1 g2 => ⟨I', by rw [g1]; rfl, g2⟩))
  · obtain ⟨I1, J1, K1, c1, k1, q1, w1, n1, g1, gv, gP⟩ := good
    have gv0 := gv
    obtain ⟨v1, v2, v3, v4, v5, v6, v7, v8, v9, v10, v11⟩ := gv
    have hk1 : k1 ≤ N := v1.2.2.2.2.2.2.2.2.1
    have n0 : nc J1 (m + 1) n1 = 0 := nc0 n1 (fun i hi => ⟨by have := (v10 i hi).1; omega, (v10 i hi).2⟩)
    have eM : J1 336 m = nI v := by rw [v9 m (by omega), hc]
    have ho1 : OpN J1 (m + 1 + n1) (nI v) := ho.up (by omega) v9 (fun i h1 h2 => by
      obtain ⟨t, rfl⟩ : ∃ t, i = m + 1 + t := ⟨i - (m + 1), by omega⟩
      exact rk_pos (by have := (v10 t (by omega)).1; omega))
    have bt := bt_other (fu := fu) hfu v6.1 gP.no v6.2.2.2.1 (by omega) ho1 v42
    have pt' : (kd k1 = nI wd0 → FO_M_partOf fu (nI v) J1 K1 = some (nI pt, J1, K1)) ∧ (¬ kd k1 = nI wd0 → FO_M_partOf fu (nI v) J1 K1 = some (-1, J1, K1)) := by
      rcases hv with ⟨rfl, rfl, rfl⟩ | ⟨rfl, rfl, rfl⟩
      · exact p_43 (fu := fu) v6.1
      · exact p_44 (fu := fu) v6.1
    have xp := x_pass (fu := fu) (w := nI wd0) (L := L) v1
    by_cases cw : kd k1 = nI wd0
    · right
      have kN : k1 < N := kd_lt hN v1 cw (by rcases hv with ⟨_, rfl, _⟩ | ⟨_, rfl, _⟩ <;> decide)
      obtain ⟨I2, x1, x2, x3, x4⟩ := xp.1 cw kN
      exact ⟨I1, I2, J1, K1, c1, k1, q1, w1, n1, g1, x1, x2, v2.tr x3, v3.tr x4 (by omega), kN, gv0, x4, n0, bt, eM, pt'.1 cw⟩
    · left
      obtain ⟨I2, a1, a2⟩ := xp.2 cw
      rw [g1]
      simp only [Option.bind_some]
      rw [if_neg i10]
      refine BadO.leaf (e := 1) (c := c1 + 1) (k1 := k1) (J' := J1) (K' := K1) a1 (by omega) v2 a2 (by omega) (fun f => ?_) v6.1.2.2.2.1 v7 (fun x hx => v8 x (by omega))
      rw [show f + (c1 + 1) = (f + 1) + c1 by omega, v5]
      exact h_bad hfu v6.2.2.2.2.2.1 v6.2.2.2.1 (by omega) ho1 bt (pt'.2 cw) (Int32.le_trans (by decide) v40)
theorem t_choice (hN : kd N = 0) (nx : NX kd vl sp tp en len N fu) (hfu : 2000 ≤ fu) (ht : t0 ≤ 2043) {kO : Int32 → Int32 → TI → TL → Option (Int32 × TI × TL)} {kA : Int32 → TI → TL → Option (Int32 × TI × TL)} {op : Nat} (hE : AskOK kd vl sp tp en len N fu t0 so nn Pe 1 7 (fun p I L => FO_R_either fu kO kA p I L) op) (hS : ValOK kd vl sp tp en len N fu t0 so nn Ps 5 10 (fun p I L => FO_R_sum fu kO kA p I L) op) {I J : TI} {L K : TL} {k q w m : Nat} (hx : XS kd vl sp N I (k + 1) q) (hl : I 307 11 = nI (38 + so)) (hm : MS kd vl sp tp en len t0 so J K (k + 1) w (m + 1) op 0) (hb : q ≤ k ∧ w + m ≤ k ∧ m + 4 ≤ 16 * op ∧ 1 ≤ op ∧ op ≤ 8) (hc : J 336 m = nI 42) : BadO sp N fu t0 (FO_R_choice fu kO kA (nI op) I L) I L J K (k + 1) ∨ OneO kd vl sp tp en len N fu t0 so nn (FO_R_choice fu kO kA (nI op) I L) I L J K k (k + 1) q w m (op - 1) (7 * (8 - op) + 8) := by
  have hN3 : N ≤ 300 := hx.2.2.2.2.2.2.2.2.2
  have ho : OpN J (m + 1) 42 := Or.inr ⟨m, by omega, hc, by decide, fun i h1 h2 => by omega⟩
  unfold FO_R_choice
  rcases hE I L J K (k + 1) q w (m + 1) ⟨hx, hl, hm, by omega, by omega, by omega, by omega⟩ ho ⟨by omega, by rw [Nat.add_sub_cancel, hc]; decide⟩ with bad | good
  · exact Or.inl (BadO.pre bad FrX.rf (c0 := 0) (fun f => rfl) (by omega) FrM.rf CdM.rf (fun I' e s g1 g2 => ⟨I', by rw [show FO_R_either fu kO kA (nI op) I L = some (0, I', L) from g1]; rfl, g2⟩))
  · obtain ⟨I1, J1, K1, c1, k1, q1, w1, n1, g1, gv, gP⟩ := good
    have g1 : FO_R_either fu kO kA (nI op) I L = some (1, I1, L) := g1
    obtain ⟨v1, v2, v3, v4, v5, v6, v7, v8, v9, v10, v11, v12⟩ := gv
    have hk1 : k1 ≤ N := v1.2.2.2.2.2.2.2.2.1
    have ho1 : OpN J1 (m + 1 + n1) 42 := ho.up (by omega) v9 (fun i h1 h2 => by
      obtain ⟨t, rfl⟩ : ∃ t, i = m + 1 + t := ⟨i - (m + 1), by omega⟩
      exact rk_pos (by have := v10 t (by omega); omega))
    have bt := (bt_and (fu := fu) hfu v6.1 gP.1.1 v6.2.2.2.1 (by omega) ho1 (v11 K1)).2.2 gP.1.2 gP.2
    have pt := p_42 (fu := fu) v6.1 (v11 K1)
    have xp := x_pass (fu := fu) (w := 48) (L := L) v1
    rw [g1]
    simp only [Option.bind_some]
    rw [if_neg i10]
    by_cases c48 : kd k1 = nI 48
    · have kN : k1 < N := kd_lt hN v1 c48 (by decide)
      obtain ⟨J2, K2, p1, p2, p3, p4, p5, p6⟩ := (h_part nx (op' := op) hfu v6 kN ht (by omega) (by omega) bt (show J1 336 m = 42 by rw [v9 m (by omega), hc]; rfl) (by decide) (pt.1 c48 i10) v10).1 (by decide)
      obtain ⟨I2, x1, x2, x3, x4⟩ := xp.1 c48 kN
      have st1 := (ms_stl (op' := op) (n := n1) (m := m + 1) v6 ht (by omega) (by omega)).1
      obtain ⟨I3, y1, y2, y3, y4, y5, y6⟩ := x_add (fu := fu) (c := 63) (a := 0) (L := L) x2 (by omega)
      have lo2 : ∀ f, LO_M_summed_15 fu (f + (c1 + 1)) J K = LO_M_summed_15 fu f J2 K2 := fun f => by
        rw [show f + (c1 + 1) = (f + 1) + c1 by omega, v5, LO_h v6.2.2.2.2.2.1, p1]; rfl
      have cd2 : CdM t0 J J2 w := fun x hx => by rw [p4, st1.2.2.2.2.2.1 x (by omega)]; exact v8 x hx
      have f3 : FrX I I3 := v2.tr (x3.tr y3)
      rw [x1]
      simp only [Option.bind_some]
      rw [if_neg i10, y1]
      simp only [Option.bind_some]
      rcases part_sum hN nx hfu ht (v := 43) (wd0 := 49) (pt := 44) (k := k1 + 1) (q := q1 + 1) (w := w1 + n1) (L := L) hS (by omega) ⟨y2, (f3.2.1 11 (by omega) (by omega) (by omega) (by omega) (by omega)).trans hl, p2, by omega, by omega, by omega, by omega⟩ p6 with bad | good
      · left
        refine BadO.pre bad f3 lo2 (by omega) (v7.tr p3) (fun x hx => cd2 x (by omega)) (fun I' e s h1 h2 => ⟨I', ?_, h2⟩)
        cases hS1 : FO_R_sum fu kO kA (nI op) I3 L with
        | none => rw [hS1] at h1; exact absurd h1 (by simp)
        | some u =>
          rw [hS1] at h1
          simp only [Option.bind_some] at h1 ⊢
          by_cases z : u.1 = 0
          · rw [if_pos z] at h1 ⊢; exact h1
          · rw [if_neg z] at h1 ⊢
            rw [show (49 : Int32) = nI 49 from rfl, h1]; rfl
      · obtain ⟨I4, I5, J4, K4, c4, k4, q4, w4, n4, s1, s2, s3, s4, s5, s6, gv4, s7, s8, s9, s10, s11⟩ := good
        have s1 : FO_R_sum fu kO kA (nI op) I3 L = some (1, I4, L) := s1
        obtain ⟨a1, a2, a3, a4, a5, a6, a7, a8, a9, a10, a11⟩ := gv4
        have hk4 : k4 ≤ N := a1.2.2.2.2.2.2.2.2.1
        obtain ⟨J5, K5, e1, e2, e3, e4, e5, e6⟩ := (h_part nx (op' := op) hfu (by rw [s8]; exact a6) s6 ht (by omega) (by omega) s9 s10 (by decide) s11 (fun i hi => by have := (a10 i hi).1; omega)).1 (by decide)
        have st4 := (ms_stl (op' := op) (n := n4) (m := m + 1) (by rw [s8]; exact a6) ht (by omega) (by omega)).1
        obtain ⟨I6, z1, z2, z3, z4, z5, z6⟩ := x_add (fu := fu) (c := 62) (a := 0) (L := L) s3 (by omega)
        obtain ⟨I7, j1, j2, j3, j4, j5, j6⟩ := x_jump (fu := fu) (j := q1) (L := L) z2 (by omega)
        have lo5 : ∀ f, LO_M_summed_15 fu (f + (c4 + 1 + (c1 + 1))) J K = LO_M_summed_15 fu f J5 K5 := fun f => by
          rw [show f + (c4 + 1 + (c1 + 1)) = ((f + 1) + c4) + (c1 + 1) by omega, lo2, a5, LO_h a6.2.2.2.2.2.1, e1]; rfl
        have cd5 : CdM t0 J2 J5 (w1 + n1) := fun x hx => by rw [e4, st4.2.2.2.2.2.1 x (by omega)]; exact a8 x hx
        have f7 : FrX I3 I7 := s4.tr (z3.tr j3)
        rw [s1]
        simp only [Option.bind_some]
        rw [if_neg i10, show (49 : Int32) = nI 49 from rfl, s2]
        simp only [Option.bind_some]
        rw [if_neg i10, z1]
        simp only [Option.bind_some]
        rw [j1]
        simp only [Option.bind_some]
        rcases part_sum hN nx hfu ht (v := 44) (wd0 := 50) (pt := 0) (k := k4 + 1) (q := q4 + 1) (w := w4 + n4) (L := L) hS (by omega) ⟨j2, ((f3.tr f7).2.1 11 (by omega) (by omega) (by omega) (by omega) (by omega)).trans hl, e2, by omega, by omega, by omega, by omega⟩ e6 with bad | good
        · left
          refine BadO.pre bad (f3.tr f7) lo5 (by omega) ((v7.tr p3).tr (a7.tr e3)) (fun x hx => (cd5 x (by omega)).trans (cd2 x (by omega))) (fun I' e s h1 h2 => ⟨I', ?_, h2⟩)
          cases hS1 : FO_R_sum fu kO kA (nI op) I7 L with
          | none => rw [hS1] at h1; exact absurd h1 (by simp)
          | some u =>
            rw [hS1] at h1
            simp only [Option.bind_some] at h1 ⊢
            by_cases z : u.1 = 0
            · rw [if_pos z] at h1 ⊢; exact h1
            · rw [if_neg z] at h1 ⊢
              rw [show (50 : Int32) = nI 50 from rfl, h1]; rfl
        · right
          obtain ⟨I8, I9, J8, K8, c8, k8, q8, w8, n8, t1, t2, t3, t4, t5, t6, gv8, t7, t8, t9, t10, t11⟩ := good
          have t1 : FO_R_sum fu kO kA (nI op) I7 L = some (1, I8, L) := t1
          obtain ⟨b1, b2, b3, b4, b5, b6, b7, b8, b9, b10, b11⟩ := gv8
          have hk8 : k8 ≤ N := b1.2.2.2.2.2.2.2.2.1
          obtain ⟨J9, K9, d1, d2, d3, d4, d5, d6⟩ := (h_part nx (op' := op) hfu (by rw [t8]; exact b6) t6 ht (by omega) (by omega) t9 t10 (by decide) t11 (fun i hi => by have := (b10 i hi).1; omega)).2.2 rfl (by omega) rfl
          have st8 := (ms_stl (op' := op) (n := n8) (m := m + 1) (by rw [t8]; exact b6) ht (by omega) (by omega)).1
          obtain ⟨I10, l1, l2, l3, l4, l5, l6⟩ := x_jump (fu := fu) (j := q4) (L := L) t3 (by omega)
          rw [t1]
          simp only [Option.bind_some]
          rw [if_neg i10, show (50 : Int32) = nI 50 from rfl, t2]
          simp only [Option.bind_some]
          rw [if_neg i10, l1]
          have cd9 : CdM t0 J5 J9 (w4 + n4) := fun x hx => by rw [d4 x (by omega), st8.2.2.2.2.2.1 x (by omega)]; exact b8 x hx
          refine ⟨I10, J9, K9, c8 + 1 + (c4 + 1 + (c1 + 1)), k8 + 1, q8, w8 + n8 + 1, 1, rfl, l2, f3.tr (f7.tr (t4.tr l3)), ?_, by omega, fun f => ?_, d2, (v7.tr p3).tr ((a7.tr e3).tr (b7.tr d3)), fun x hx => ?_, fun i hi => ?_, ?_⟩
          · intro t ht'
            have r1 := v3 t ht'
            have r2 := x4 t (by omega)
            have r3 := y4 t (by omega)
            have r4 := s5 t (by omega)
            have r5 := z4 t (by omega)
            have r6 := t5 t (by omega)
            exact ⟨by rw [l4, r6.1, j4, r5.1, r4.1, r3.1, r2.1, r1.1], by rw [l5 t (by omega), r6.2, j5 t (by omega), r5.2, r4.2, r3.2, r2.2, r1.2]⟩
          · rw [show f + (c8 + 1 + (c4 + 1 + (c1 + 1))) = ((f + 1) + c8) + (c4 + 1 + (c1 + 1)) by omega, lo5, b5, LO_h b6.2.2.2.2.2.1, d1]; rfl
          · exact (cd9 x (by omega)).trans ((cd5 x (by omega)).trans (cd2 x hx))
          · rw [d6 i hi, b9 i (by omega), e5 i hi, a9 i (by omega), p5 i hi, v9 i (by omega)]
          · refine Seg.iff (q := q1) (r := q4) (j := w1 + n1) (k := w4 + n4) (l := w8 + n8) (v12.cg (fun t h1 h2 => ?_) (fun x h1 h2 => ?_) (by omega)) (a11.cg (fun t h1 h2 => ?_) (fun x h1 h2 => ?_) (by omega)) (b11.cg (fun t h1 h2 => ?_) (fun x h1 h2 => ?_) (by omega)) (by omega) ?_ ?_ ?_ ?_ d5
            · have r2 := x4 t (by omega)
              have r3 := y4 t (by omega)
              have r4 := s5 t (by omega)
              have r5 := z4 t (by omega)
              have r6 := t5 t (by omega)
              exact ⟨by rw [l4, r6.1, j4, r5.1, r4.1, r3.1, r2.1], by rw [l5 t (by omega), r6.2, j5 t (by omega), r5.2, r4.2, r3.2, r2.2]⟩
            · show J9 334 (t0 + 73 + x) = stl n1 J1 334 (t0 + 73 + x)
              rw [cd9 _ (by omega), cd5 _ (by omega), p4]
            · have r4 := s7 t (by omega)
              have r5 := z4 t (by omega)
              have r6 := t5 t (by omega)
              exact ⟨by rw [l4, r6.1, j4, r5.1, r4.1], by rw [l5 t (by omega), r6.2, j5 t (by omega), r5.2, r4.2]⟩
            · show J9 334 (t0 + 73 + x) = stl n4 J4 334 (t0 + 73 + x)
              rw [cd9 _ (by omega), e4]
            · have r6 := t7 t (by omega)
              exact ⟨by rw [l4, r6.1], by rw [l5 t (by omega), r6.2]⟩
            · show J9 334 (t0 + 73 + x) = stl n8 J8 334 (t0 + 73 + x)
              exact d4 _ (by omega)
            · have r4 := s5 q1 (by omega)
              have r5 := z4 q1 (by omega)
              have r6 := t5 q1 (by omega)
              rw [l4, r6.1, j4, r5.1, r4.1, y5]
            · rw [l5 q1 (by omega), (t5 q1 (by omega)).2, j6]
            · rw [l4, (t5 q4 (by omega)).1, j4, z5]
            · exact l6
    · left
      obtain ⟨I2, a1, a2⟩ := xp.2 c48
      rw [a1]
      refine BadO.leaf (e := 1) (c := c1 + 1) (k1 := k1) (J' := J1) (K' := K1) rfl (by omega) v2 a2 (by omega) (fun f => ?_) v6.1.2.2.2.1 v7 (fun x hx => v8 x (by omega))
      rw [show f + (c1 + 1) = (f + 1) + c1 by omega, v5]
      exact h_bad hfu v6.2.2.2.2.2.1 v6.2.2.2.1 (by omega) ho1 bt (pt.2 (Or.inl c48)) (by decide)
theorem t_opened (hN : kd N = 0) (nx : NX kd vl sp tp en len N fu) (hfu : 2000 ≤ fu) (ht : t0 ≤ 2043) {kO : Int32 → Int32 → TI → TL → Option (Int32 × TI × TL)} {kA : Int32 → TI → TL → Option (Int32 × TI × TL)} {op : Nat} (h1 : OneOK kd vl sp tp en len N fu t0 so nn (fun p I L => FO_R_one fu kO kA p I L) op) (hE : AskOK kd vl sp tp en len N fu t0 so nn Pe 1 7 (fun p I L => FO_R_either fu kO kA p I L) op) (hS : ValOK kd vl sp tp en len N fu t0 so nn Ps 5 10 (fun p I L => FO_R_sum fu kO kA p I L) op) : OpenOK kd vl sp tp en len N fu t0 so nn (fun a b I L => FO_R_opened fu kO kA a b I L) op := by
  intro I L J K k q w m wc c hwc hx hl hm hb hc
  dsimp only
  unfold FO_R_opened
  rcases hwc with ⟨rfl, rfl⟩ | ⟨rfl, rfl⟩ | ⟨rfl, rfl⟩ | ⟨rfl, rfl⟩ | ⟨rfl, rfl⟩
  · rw [if_pos (show nI 18 = 18 from rfl)]
    exact open_paren hN nx hfu ht hS hx hl hm hb hc rfl
  · rw [if_neg (show ¬ nI 15 = 18 by decide), if_neg (show ¬ nI 15 = 45 by decide), if_neg (show ¬ nI 15 = 47 by decide)]
    exact open_un nx hfu ht (c := 5) (wx := 61) h1 hx hl hm hb hc (Or.inl ⟨rfl, rfl⟩) (by simp only [show (nI 15 = 15) = True from by decide, if_true]; rfl)
  · rw [if_neg (show ¬ nI 45 = 18 by decide), if_pos (show nI 45 = 45 from rfl)]
    exact open_near hN nx hfu ht h1 hx hl hm hb hc rfl
  · rw [if_neg (show ¬ nI 46 = 18 by decide), if_neg (show ¬ nI 46 = 45 by decide), if_neg (show ¬ nI 46 = 47 by decide)]
    exact open_un nx hfu ht (c := 2) (wx := 46) h1 hx hl hm hb hc (Or.inr ⟨rfl, rfl⟩) (by simp only [show (nI 46 = 15) = False from by decide, if_false]; rfl)
  · rw [if_neg (show ¬ nI 47 = 18 by decide), if_neg (show ¬ nI 47 = 45 by decide), if_pos (show nI 47 = 47 from rfl)]
    rcases t_choice hN nx hfu ht (L := L) hE hS hx hl hm hb hc with r | r
    · exact Or.inl (BadO.pre r FrX.rf (c0 := 0) (fun f => rfl) (by omega) FrM.rf CdM.rf (fun I' e s g1 g2 => ⟨I', by rw [g1]; rfl, g2⟩))
    · right
      obtain ⟨I', J', K', c', k', q', w', wh, g1, g⟩ := r
      exact ⟨I', J', K', c', k', q', w', wh, by rw [g1]; rfl, g⟩
theorem t_all (hN : kd N = 0) (nx : NX kd vl sp tp en len N fu) (hfu : 2000 ≤ fu) (ht : t0 ≤ 2043) (hso : so ≤ 1) (hnn : nn = if so = 0 then 8 else 3) : ∀ (d op : Nat), op + d = 8 → OneOK kd vl sp tp en len N fu t0 so nn (fun p I L => FO_R_one fu (RP fu (d + 1)).1 (RP fu (d + 1)).2 p I L) op ∧ ValOK kd vl sp tp en len N fu t0 so nn Ps 5 10 (fun p I L => FO_R_sum fu (RP fu (d + 1)).1 (RP fu (d + 1)).2 p I L) op ∧ AskOK kd vl sp tp en len N fu t0 so nn noAr 3 9 (fun p I L => FO_R_ask fu (RP fu (d + 1)).1 (RP fu (d + 1)).2 p I L) op ∧ AskOK kd vl sp tp en len N fu t0 so nn Pe 1 7 (fun p I L => FO_R_either fu (RP fu (d + 1)).1 (RP fu (d + 1)).2 p I L) op := by
  intro d
  induction d with
  | zero =>
    intro op hop
    have a := t_one (kO := (RP fu 1).1) (kA := (RP fu 1).2) (op := op) hN nx ht hso hnn (fun z => by omega)
    have b := t_sum hN nx hfu ht (t_prod hN nx hfu ht a)
    have c := t_ask (op := op) (kO := (RP fu 1).1) (kA := (RP fu 1).2) hN nx hfu ht (fun z => by omega) b
    exact ⟨a, b, c, t_either hN nx hfu ht (t_both hN nx hfu ht c)⟩
  | succ d ih =>
    intro op hop
    obtain ⟨i1, i2, i3, i4⟩ := ih (op + 1) (by omega)
    have a := t_one (kO := (RP fu (d + 1 + 1)).1) (kA := (RP fu (d + 1 + 1)).2) (op := op) hN nx ht hso hnn (fun _ => t_opened hN nx hfu ht i1 i4 i2)
    have b := t_sum hN nx hfu ht (t_prod hN nx hfu ht a)
    have c := t_ask (op := op) (kO := (RP fu (d + 1 + 1)).1) (kA := (RP fu (d + 1 + 1)).2) hN nx hfu ht (fun _ => i3) b
    exact ⟨a, b, c, t_either hN nx hfu ht (t_both hN nx hfu ht c)⟩
end
