/-! what is asked -/
theorem nc_head {J : TI} {m : Nat} : ∀ n, nc J m (n + 1) = is7 (J 336 m) + nc J (m + 1) n := by
  intro n
  induction n with
  | zero => rw [nc, nc, nc, Nat.add_zero, Nat.zero_add, Nat.add_zero]
  | succ n ih => rw [nc, ih, nc, show m + 1 + n = m + (n + 1) by omega, Nat.add_assoc]
theorem opn_top {J : TI} {m : Nat} {v : Int32} (h : OpN J m v) (hm : 0 < m) (h4 : 40 ≤ J 336 (m - 1)) : J 336 (m - 1) = v := by
  rcases h with ⟨_, h⟩ | ⟨a, ha, hv, _, h2⟩
  · exact absurd (h (m - 1) (by omega)) (Int32.not_lt.mpr h4)
  · by_cases c : a = m - 1
    · rw [← c]; exact hv
    · exact absurd (h2 (m - 1) (by omega) (by omega)) (Int32.not_lt.mpr h4)
theorem a_yes {fu m : Nat} {J : TI} {K : TL} (hfu : 2000 ≤ fu) (h16 : J 331 16 = nI (m + 1)) (hm : m < 160) (ho : OpN J (m + 1) 42) (h4 : rk (J 336 m) < 4) : FO_M_isAskAhead fu J K = some (1, J, K) := by
  unfold FO_M_isAskAhead
  rw [m_open hfu h16 (by omega) ho]
  simp only [Option.bind_some]
  rw [if_pos trivial, h16, nI_pred, if_pos (show (0 : Int32) ≤ nI m ∧ nI m < 160 from ib (n := 160) rfl hm (by omega)), nI_clamp (show m < 2 ^ 31 by omega)]
  by_cases c : 40 ≤ J 336 m
  · rw [if_pos c]
  · have h1 : 1 ≤ rk (J 336 m) := by
      have := Int32.not_le.mp c
      unfold rk
      rw [if_pos this]
      repeat' split
      all_goals omega
    rw [if_neg c, if_pos (show (0 : Int32) ≤ nI m ∧ nI m < 160 from ib (n := 160) rfl hm (by omega)), m_rank]
    simp only [Option.bind_some]
    rw [if_pos ⟨nI_le (a := 1) h1 (by omega), nI_le (b := 3) (by omega) (by omega)⟩]
section
variable (kd vl sp tp : Nat → Int32) (en : Nat → Nat) (len N fu t0 so nn : Nat)
def BS (r : Nat) (I J : TI) (K : TL) (k q w m op d : Nat) (I' J' : TI) (K' : TL) (c k' q' w' n : Nat) : Prop :=
  XS kd vl sp N I' k' q' ∧ FrX I I' ∧ CdX I I' q ∧ (k < k' ∧ q' + k ≤ q + k' ∧ w' + n + k ≤ w + k' ∧ c + k ≤ k' ∧ n + op + r ≤ 14 ∧ w ≤ w' ∧ q ≤ q') ∧ (∀ f, LO_M_summed_15 fu (f + c) J K = LO_M_summed_15 fu f J' K') ∧ MS kd vl sp tp en len t0 so J' K' k' w' (m + n) (op + nc J' m n) 1 ∧ FrM J J' ∧ CdM t0 J J' w ∧ PlM J J' m ∧ (∀ i, i < n → r ≤ rk (J' 336 (m + i))) ∧ (∀ K, FO_M_isCompared fu J' K = some (1, J', K)) ∧ SegB nn (I' 312) (I' 313) (fun x => stl n J' 334 (t0 + 73 + x)) q q' w (w' + n) d
def AskO (P : Int32 → Prop) (r : Nat) (cl : Option (Int32 × TI × TL)) (I : TI) (L : TL) (J : TI) (K : TL) (k q w m op d : Nat) : Prop :=
  ∃ (I' J' : TI) (K' : TL) (c k' q' w' n : Nat), cl = some (1, I', L) ∧ BS kd vl sp tp en len N fu t0 so nn r I J K k q w m op d I' J' K' c k' q' w' n ∧ P (kd k')
def AskOK (P : Int32 → Prop) (r b : Nat) (F : Int32 → TI → TL → Option (Int32 × TI × TL)) (op : Nat) : Prop :=
  ∀ I L J K k q w m, Ent kd vl sp tp en len N t0 so I J K k q w m op b → OpN J m 42 → (0 < m ∧ rk (J 336 (m - 1)) < (if r = 3 then 4 else r)) → BadO sp N fu t0 (F (nI op) I L) I L J K k ∨ AskO kd vl sp tp en len N fu t0 so nn P r (F (nI op) I L) I L J K k q w m op (7 * (8 - op) + 7 - r)
end
section
variable {kd vl sp tp : Nat → Int32} {en : Nat → Nat} {len N fu t0 so nn : Nat}
theorem t_ask (hN : kd N = 0) (nx : NX kd vl sp tp en len N fu) (hfu : 2000 ≤ fu) (ht : t0 ≤ 2043) {kO : Int32 → Int32 → TI → TL → Option (Int32 × TI × TL)} {kA : Int32 → TI → TL → Option (Int32 × TI × TL)} {op : Nat} (hA : op < 8 → AskOK kd vl sp tp en len N fu t0 so nn noAr 3 9 kA (op + 1)) (hS : ValOK kd vl sp tp en len N fu t0 so nn Ps 5 10 (fun p I L => FO_R_sum fu kO kA p I L) op) : AskOK kd vl sp tp en len N fu t0 so nn noAr 3 9 (fun p I L => FO_R_ask fu kO kA p I L) op := by
  intro I L J K k q w m he ho htop
  have he' := he
  obtain ⟨hx, hl, hm, hq, hwm, hmb, hop⟩ := he
  have h9 : I 307 9 = kd k := hx.2.2.1
  have hN3 : N ≤ 300 := hx.2.2.2.2.2.2.2.2.2
  have hkN : k ≤ N := hx.2.2.2.2.2.2.2.2.1
  have h18 := hm.2.2.2.2.2.1
  obtain ⟨m0, htp⟩ := htop
  rw [if_pos rfl] at htp
  dsimp only
  unfold FO_R_ask
  rw [h9]
  by_cases c53 : kd k = 53
  · have kN : k < N := kd_lt hN hx c53 (by decide)
    have ay : FO_M_isAskAhead fu J K = some (1, J, K) := by
      obtain ⟨m1, rfl⟩ : ∃ z, m = z + 1 := ⟨m - 1, by omega⟩
      exact a_yes hfu hm.2.2.2.1 (by omega) ho htp
    have eb : FO_M_beginOne fu J K = FO_M_opened fu 20 J K := by
      rw [(b_open (fu := fu) hm).2.2.2.2.2.1 c53, ay]
      rfl
    rw [if_pos c53]
    by_cases c8 : op < 8
    · obtain ⟨I1, a1, a2, a3, a4⟩ := x_come (fu := fu) (L := L) hx kN
      obtain ⟨J1, K1, b1, b2, b3, b4, b5, b6⟩ := m_opened nx (c := 20) hm kN c8 (by omega)
      have lo : ∀ f, LO_M_summed_15 fu (f + 1) J K = LO_M_summed_15 fu f J1 K1 := fun f => by rw [LO_b h18, eb, b1]; rfl
      have r := hA c8 I1 L J1 K1 (k + 1) q w (m + 1) ⟨a2, (a3.2.1 11 (by omega) (by omega) (by omega) (by omega) (by omega)).trans hl, b2, by omega, by omega, by omega, by omega⟩ (ho.up (Nat.le_succ m) b5 (fun i h1 h2 => by
        have : i = m := by omega
        subst this; rw [b6]; decide)) ⟨by omega, by rw [Nat.add_sub_cancel, b6]; decide⟩
      rw [if_pos (show nI op < 8 from nI_lt (b := 8) c8 (by omega)), a1]
      simp only [Option.bind_some]
      rw [nI_1]
      rcases r with bad | good
      · left
        refine BadO.pre bad a3 lo (by omega) b3 (fun x hx => b4 x (by omega)) (fun I' e s h1 h2 => ?_)
        obtain ⟨rr, I3, y1, y2⟩ := x_addF (fu := fu) (c := 53) (a := 0) (L := L) h2
        refine ⟨I3, ?_, y2⟩
        rw [h1]
        simp only [Option.bind_some]
        rw [y1]
        rfl
      · right
        obtain ⟨I3, J3, K3, c3, k3, q3, w3, n3, g1, gv, gP⟩ := good
        obtain ⟨u1, u2, u3, u4, u5, u6, u7, u8, u9, u10, u11, u12⟩ := gv
        have hk3 : k3 ≤ N := u1.2.2.2.2.2.2.2.2.1
        obtain ⟨I4, y1, y2, y3, y4, y5, y6⟩ := x_add (fu := fu) (c := 53) (a := 0) (L := L) u1 (by omega)
        have e20 : J3 336 m = 20 := by rw [u9 m (by omega), b6]
        have i20 : is7 (J3 336 m) = 1 := by rw [e20]; decide
        rw [g1]
        simp only [Option.bind_some]
        rw [y1]
        refine ⟨I4, J3, K3, c3 + 1, k3, q3 + 1, w3, n3 + 1, rfl, ⟨y2, a3.tr (u2.tr y3), ?_, by omega, fun f => ?_, ?_, b3.tr u7, ?_, ?_, ?_, u11, ?_⟩, gP⟩
        · intro t ht'
          have e2 := a4 t (by omega)
          have e3 := u3 t (by omega)
          have e4 := y4 t (by omega)
          exact ⟨e4.1.trans (e3.1.trans e2.1), e4.2.trans (e3.2.trans e2.2)⟩
        · rw [show f + (c3 + 1) = (f + c3) + 1 by omega, lo, u5]
        · rw [show m + (n3 + 1) = m + 1 + n3 by omega, nc_head, i20, ← Nat.add_assoc]; exact u6
        · intro x hx
          exact (u8 x hx).trans (b4 x (by omega))
        · intro t ht'
          exact (u9 t (by omega)).trans (b5 t ht')
        · intro t ht'
          by_cases t0' : t = 0
          · subst t0'
            rw [Nat.add_zero, e20]
            decide
          · have := u10 (t - 1) (by omega)
            rw [show m + 1 + (t - 1) = m + t by omega] at this
            exact this
        · have hs := ms_stl (J := J3) (K := K3) (m := m + 1) (n := n3) (op' := op + 1) (w := w3) u6 ht (by omega) (by omega)
          obtain ⟨s1, s2, _⟩ := hs
          have e336 : stl n3 J3 336 m = 20 := by rw [s1.1 336 (by omega) (by omega), e20]
          have pr := pop_R (J := stl n3 J3) (t0 := t0) (w := w3 + n3) (m := m) (op' := op) s2.2.1 s2.2.2.1 s2.2.2.2.1 (by rw [s2.2.2.2.2.1, e336]; rfl) (by omega) (by omega) (by omega)
          have px := pr.2.2.2.2.2.1
          have p7 := pr.2.2.2.2.2.2 0 (by omega)
          rw [stl_pop, show w3 + (n3 + 1) = w3 + n3 + 1 by omega]
          refine SegB.not (u12.cg (fun t h1 h2 => y4 t h2) (fun x h1 h2 => ?_) (by omega)) (by omega) y5 ?_
          · show pop (stl n3 J3) 334 (t0 + 73 + x) = stl n3 J3 334 (t0 + 73 + x)
            exact px _ (by omega)
          · exact (show pop (stl n3 J3) 334 (t0 + 73 + 2 * (w3 + n3)) = stl n3 J3 336 m from p7).trans e336
    · have h8 : op = 8 := by omega
      subst h8
      obtain ⟨I1, a1, a2⟩ := x_fail (fu := fu) (e := 3) (L := L) hx
      left
      rw [if_neg (show ¬ nI 8 < 8 by decide), show (3 : Int32) = nI 3 from rfl, a1]
      refine BadO.leaf (e := 3) (c := 1) (k1 := k) (J' := J) (K' := K) rfl (by omega) FrX.rf a2 (by omega) (fun f => ?_) hm.1.2.2.2.1 FrM.rf CdM.rf
      rw [LO_b h18, eb, m_full hm]
      exact CT_e (fu := fu) (f := f) (e := 3) (by omega) (by omega)
  · rw [if_neg c53]
    have n41 : ¬ J 336 (m - 1) = 41 := fun z => by
      have := opn_top ho m0 (by rw [z]; decide)
      rw [z] at this
      exact absurd this (by decide)
    have s1 := hS I L J K k q w m ⟨hx, hl, hm, by omega, by omega, by omega, hop⟩ (fun z => absurd z c53) (Or.inr ⟨by omega, n41⟩)
    rcases s1 with bad | good
    · left
      refine BadO.pre bad FrX.rf (c0 := 0) (fun f => rfl) (by omega) FrM.rf CdM.rf (fun I' e s h1 h2 => ⟨I', ?_, h2⟩)
      rw [show FO_R_sum fu kO kA (nI op) I L = some (0, I', L) from h1]
      rfl
    · obtain ⟨I1, J1, K1, c1, k1, q1, w1, n1, g1, gv, gP⟩ := good
      obtain ⟨v1, v2, v3, v4, v5, v6, v7, v8, v9, v10, v11⟩ := gv
      have g1 : FO_R_sum fu kO kA (nI op) I L = some (1, I1, L) := g1
      have hk1 : k1 ≤ N := v1.2.2.2.2.2.2.2.2.1
      have h91 : I1 307 9 = kd k1 := v1.2.2.1
      have tp1 : rk (J1 336 (m - 1)) < 4 := by rw [v9 (m - 1) (by omega)]; exact htp
      have cm0 : ∀ K, FO_M_isCompared fu J1 K = some (0, J1, K) := fun K => m_cmp (b := m) (n := n1) hfu v6.2.2.2.1 (by omega) (fun i hi => by have := (v10 i hi).1; omega) (Or.inr (Or.inr ⟨m0, tp1, rfl⟩))
      have ho1 : OpN J1 (m + n1) 42 := ho.up (Nat.le_add_right m n1) v9 (fun i h1 h2 => by
        obtain ⟨t, rfl⟩ : ∃ t, i = m + t := ⟨i - m, by omega⟩
        exact rk_pos (by have := (v10 t (by omega)).1; omega))
      have bt := bt_cmp (fu := fu) hfu v6.1 gP.no v6.2.2.2.1 (by omega) ho1 (cm0 K1)
      rw [g1]
      simp only [Option.bind_some]
      rw [if_neg i10, h91]
      by_cases cc : isCq (kd k1)
      · obtain ⟨cw, hcw, ek⟩ : ∃ cw : Nat, (cw = 3 ∨ cw = 4 ∨ cw = 10 ∨ cw = 11 ∨ cw = 12 ∨ cw = 13) ∧ kd k1 = nI cw := by
          rcases cc with z | z | z | z | z | z
          · exact ⟨3, by omega, z⟩
          · exact ⟨4, by omega, z⟩
          · exact ⟨10, by omega, z⟩
          · exact ⟨11, by omega, z⟩
          · exact ⟨12, by omega, z⟩
          · exact ⟨13, by omega, z⟩
        have kN : k1 < N := kd_lt hN v1 ek (nI_ne0 (by omega) (by omega))
        have mc15 : mcq cw ≤ 15 ∧ 10 ≤ mcq cw := by rcases hcw with rfl | rfl | rfl | rfl | rfl | rfl <;> decide
        have hrk : rk (nI (mcq cw)) = 4 := by rcases hcw with rfl | rfl | rfl | rfl | rfl | rfl <;> decide
        have n0 : nc J1 m n1 = 0 := nc0 n1 (fun i hi => ⟨by have := (v10 i hi).1; omega, (v10 i hi).2⟩)
        obtain ⟨J2, K2, p1, p2, p3, p4, p5, p6⟩ := h_push nx (c := nI (mcq cw)) (r := 4) (lv := 5) (op' := op) (n := n1) hfu (by rw [n0]; exact v6) kN ht (by omega) (by omega) (bt.1 cw hcw ek) (nI_pos (by omega)) hrk rfl (by omega) (fun i hi => (v10 i hi).1) (Or.inr (by omega))
        have lo2 : ∀ f, LO_M_summed_15 fu (f + 1) J1 K1 = LO_M_summed_15 fu f J2 K2 := fun f => by rw [LO_h v6.2.2.2.2.2.1, p1]; rfl
        obtain ⟨I2, x1, x2, x3, x4⟩ := x_come (fu := fu) (L := L) v1 kN
        have r2 : rk (J2 336 m) = 4 := by rw [p6]; exact hrk
        have sub := hS I2 L J2 K2 (k1 + 1) q1 (w1 + n1) (m + 1) ⟨x2, ((v2.tr x3).2.1 11 (by omega) (by omega) (by omega) (by omega) (by omega)).trans hl, p2, by omega, by omega, by omega, hop⟩ (fun _ => na_top hfu p2.2.2.2.1 (by omega) (by omega)) (Or.inr ⟨by rw [Nat.add_sub_cancel, r2]; omega, by rw [Nat.add_sub_cancel, p6]; exact fun z => by have := (nI_eq (b := 41) (by omega) (by omega)).mp z; omega⟩)
        have hX : (if (10 : Int32) ≤ kd k1 ∧ kd k1 ≤ 13 then ((FO_R_comeTo fu (I1 307 8 + 1) I1 L).bind (fun u2 => (FO_R_sum fu kO kA (nI op) u2.2.1 u2.2.2).bind (fun u3 => (FO_T_addCode fu (kd k1) 0 u3.2.1 u3.2.2).bind (fun u4 => if u3.1 = 0 ∨ u3.1 = 1 then some (u3.1, u4.2.1, u4.2.2) else none)))) else (if kd k1 = 3 then ((FO_R_comeTo fu (I1 307 8 + 1) I1 L).bind (fun u2 => (FO_R_sum fu kO kA (nI op) u2.2.1 u2.2.2).bind (fun u3 => (FO_T_addCode fu (kd k1) 0 u3.2.1 u3.2.2).bind (fun u4 => if u3.1 = 0 ∨ u3.1 = 1 then some (u3.1, u4.2.1, u4.2.2) else none)))) else (if kd k1 = 4 then ((FO_R_comeTo fu (I1 307 8 + 1) I1 L).bind (fun u2 => (FO_R_sum fu kO kA (nI op) u2.2.1 u2.2.2).bind (fun u3 => (FO_T_addCode fu (kd k1) 0 u3.2.1 u3.2.2).bind (fun u4 => if u3.1 = 0 ∨ u3.1 = 1 then some (u3.1, u4.2.1, u4.2.2) else none)))) else ((FO_R_fail fu 1 I1 L).bind (fun u14 => if u14.1 = 0 ∨ u14.1 = 1 then (some (u14.1, u14.2.1, u14.2.2)) else none))))) = ((FO_R_comeTo fu (I1 307 8 + 1) I1 L).bind (fun u2 => (FO_R_sum fu kO kA (nI op) u2.2.1 u2.2.2).bind (fun u3 => (FO_T_addCode fu (kd k1) 0 u3.2.1 u3.2.2).bind (fun u4 => if u3.1 = 0 ∨ u3.1 = 1 then some (u3.1, u4.2.1, u4.2.2) else none)))) := by
          rw [ek]
          rcases hcw with rfl | rfl | rfl | rfl | rfl | rfl
          · rw [if_neg (by decide), if_pos (by decide)]
          · rw [if_neg (by decide), if_neg (by decide), if_pos (by decide)]
          · rw [if_pos (by decide)]
          · rw [if_pos (by decide)]
          · rw [if_pos (by decide)]
          · rw [if_pos (by decide)]
        rw [hX, x1]
        simp only [Option.bind_some]
        have cdm : CdM t0 J J2 w := fun x hx => by
          rw [p4, (ms_stl (op' := op) (n := n1) (m := m) (by rw [n0]; exact v6) ht (by omega) (by omega)).1.2.2.2.2.2.1 x (by omega)]
          exact v8 x hx
        rcases sub with bad | good
        · left
          refine BadO.pre bad (v2.tr x3) (c0 := c1 + 1) (fun f => by rw [show f + (c1 + 1) = (f + 1) + c1 by omega, v5, lo2]) (by omega) (v7.tr p3) (fun x hx => cdm x (by omega)) (fun I'' e s h1 h2 => ?_)
          obtain ⟨rr, I3, y1, y2⟩ := x_addF (fu := fu) (c := kd k1) (a := 0) (L := L) h2
          refine ⟨I3, ?_, y2⟩
          rw [show FO_R_sum fu kO kA (nI op) I2 L = some (0, I'', L) from h1]
          simp only [Option.bind_some]
          rw [y1]
          rfl
        · right
          obtain ⟨I3, J3, K3, c3, k3, q3, w3, n3, g3, gv, gP3⟩ := good
          have g3 : FO_R_sum fu kO kA (nI op) I2 L = some (1, I3, L) := g3
          obtain ⟨u1, u2, u3, u4, u5, u6, u7, u8, u9, u10, u11⟩ := gv
          have hk3 : k3 ≤ N := u1.2.2.2.2.2.2.2.2.1
          obtain ⟨I4, y1, y2, y3, y4, y5, y6⟩ := x_add (fu := fu) (c := kd k1) (a := 0) (L := L) u1 (by omega)
          have r3 : rk (J3 336 m) = 4 := by rw [u9 m (by omega)]; exact r2
          rw [g3]
          simp only [Option.bind_some]
          rw [y1]
          have rks : ∀ i, i < n3 + 1 → 4 ≤ rk (J3 336 (m + i)) ∧ rk (J3 336 (m + i)) ≤ 6 := fun t ht' => by
            by_cases t0' : t = 0
            · subst t0'
              rw [Nat.add_zero, r3]
              omega
            · have := u10 (t - 1) (by omega)
              rw [show m + 1 + (t - 1) = m + t by omega] at this
              omega
          refine ⟨I4, J3, K3, c1 + 1 + c3, k3, q3 + 1, w3, n3 + 1, rfl, ⟨y2, v2.tr (x3.tr (u2.tr y3)), ?_, by omega, fun f => ?_, ?_, v7.tr (p3.tr u7), ?_, ?_, fun i hi => by have := (rks i hi).1; omega, ?_, ?_⟩, gP3.no⟩
          · intro t ht'
            have e1 := v3 t ht'
            have e2 := x4 t (by omega)
            have e3 := u3 t (by omega)
            have e4 := y4 t (by omega)
            exact ⟨e4.1.trans (e3.1.trans (e2.1.trans e1.1)), e4.2.trans (e3.2.trans (e2.2.trans e1.2))⟩
          · rw [show f + (c1 + 1 + c3) = ((f + c3) + 1) + c1 by omega, v5, lo2, u5]
          · rw [nc0 (n3 + 1) rks, Nat.add_zero, show m + (n3 + 1) = m + 1 + n3 by omega]; exact u6
          · intro x hx
            exact (u8 x (by omega)).trans (cdm x hx)
          · intro t ht'
            exact (u9 t (by omega)).trans ((p5 t ht').trans (v9 t ht'))
          · exact fun K => m_cmp (b := m + 1) (n := n3) hfu u6.2.2.2.1 (by omega) (fun i hi => by have := (u10 i hi).1; omega) (Or.inr (Or.inl ⟨by omega, by rw [Nat.add_sub_cancel]; exact r3, rfl⟩))
          · have n30 : nc J3 (m + 1) n3 = 0 := nc0 n3 (fun i hi => ⟨by have := (u10 i hi).1; omega, (u10 i hi).2⟩)
            obtain ⟨s1, s2, _⟩ := ms_stl (J := J3) (K := K3) (m := m + 1) (n := n3) (op' := op) (w := w3) (by rw [n30]; exact u6) ht (by omega) (by omega)
            have e336 : stl n3 J3 336 m = nI (mcq cw) := by rw [s1.1 336 (by omega) (by omega), u9 m (by omega), p6]
            have pr := pop_R (J := stl n3 J3) (t0 := t0) (w := w3 + n3) (m := m) (op' := op) s2.2.1 s2.2.2.1 s2.2.2.2.1 (by rw [s2.2.2.2.2.1, e336, show is7 (nI (mcq cw)) = 0 from by unfold is7; rw [if_neg (by rw [hrk]; exact fun z => z.elim (by omega) (fun z => by have := (nI_eq (b := 20) (by omega) (by omega)).mp z; omega))], Nat.add_zero]) (by omega) (by omega) (by omega)
            have px := pr.2.2.2.2.2.1
            have p7 := pr.2.2.2.2.2.2 0 (by omega)
            rw [stl_pop, show w3 + (n3 + 1) = w3 + n3 + 1 by omega]
            refine Seg.cmp (w := cw) (d' := 7 * (8 - op) + 8 - 5) (v11.cg (fun t h1 h2 => ?_) (fun x h1 h2 => ?_) (by omega)) (u11.cg (fun t h1 h2 => ?_) (fun x h1 h2 => ?_) (Nat.le_refl _)) (by omega) (by omega) hcw ?_ ?_
            · have e2 := x4 t (by omega)
              have e3 := u3 t (by omega)
              have e4 := y4 t (by omega)
              exact ⟨e4.1.trans (e3.1.trans e2.1), e4.2.trans (e3.2.trans e2.2)⟩
            · show pop (stl n3 J3) 334 (t0 + 73 + x) = stl n1 J1 334 (t0 + 73 + x)
              rw [px _ (by omega), s1.2.2.2.2.2.1 _ (by omega), u8 _ (by omega), p4]
            · exact y4 t h2
            · show pop (stl n3 J3) 334 (t0 + 73 + x) = stl n3 J3 334 (t0 + 73 + x)
              exact px _ (by omega)
            · rw [y5, ek]
            · exact (show pop (stl n3 J3) 334 (t0 + 73 + 2 * (w3 + n3)) = stl n3 J3 336 m from p7).trans e336
      · left
        obtain ⟨I2, a1, a2⟩ := x_fail (fu := fu) (e := 1) (L := L) v1
        have c13 : ¬ ((10 : Int32) ≤ kd k1 ∧ kd k1 ≤ 13) := fun z => by
          obtain ⟨j, hj, ej⟩ := rng (hi := 13) (by omega) (Int32.le_trans (by decide) z.1) z.2
          have hj3 : 10 ≤ j := (nI_leI (a := 10) (by omega) (by omega)).mp (by rw [← ej]; exact z.1)
          have : j = 10 ∨ j = 11 ∨ j = 12 ∨ j = 13 := by omega
          apply cc
          rw [ej]
          rcases this with rfl | rfl | rfl | rfl <;> simp [isCq]
        rw [if_neg c13, if_neg (show ¬ kd k1 = 3 from fun z => cc (Or.inl z)), if_neg (show ¬ kd k1 = 4 from fun z => cc (Or.inr (Or.inl z))), show (1 : Int32) = nI 1 from rfl, a1]
        refine BadO.leaf (e := 1) (c := c1 + 1) (k1 := k1) (J' := J1) (K' := K1) rfl (by omega) v2 a2 (by omega) (fun f => ?_) v6.1.2.2.2.1 v7 (fun x hx => v8 x (by omega))
        rw [show f + (c1 + 1) = (f + 1) + c1 by omega, v5]
        exact h_bad hfu v6.2.2.2.2.2.1 v6.2.2.2.1 (by omega) ho1 (bt.2 cc) ((p_42 (fu := fu) v6.1 (cm0 K1)).2 (Or.inr rfl)) (by decide)
end
