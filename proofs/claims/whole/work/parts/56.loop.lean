section
variable {kd vl sp tp : Nat → Int32} {en : Nat → Nat} {len N fu t0 so nn : Nat}
/-- products and sums: the rounds -/
theorem t_loop (hN : kd N = 0) (nx : NX kd vl sp tp en len N fu) (hfu : 2000 ≤ fu) (ht : t0 ≤ 2043) {r b op a1 a2 : Nat} {G : Int32 → TI → TL → Option (Int32 × TI × TL)} {LP : Nat → Int32 → Int32 → Int32 → TI → TL → Option (Int32 × TI × TL)} {P0 : Int32 → Prop} (hr : (r = 6 ∧ a1 = 16 ∧ a2 = 17) ∨ (r = 5 ∧ a1 = 14 ∧ a2 = 15)) (hb : b ≤ 11)
    (hG : ValOK kd vl sp tp en len N fu t0 so nn P0 (r + 1) (b + 1) G op)
    (hL0 : ∀ n x1 i I L, LP (n + 1) x1 0 (nI i) I L = some (0, I, L))
    (hL1 : ∀ n x1 i I L, i ≤ 300 → ¬ I 307 9 = nI a1 → ¬ I 307 9 = nI a2 → LP (n + 1) x1 1 (nI i) I L = some (1, I, L))
    (hL2 : ∀ n x1 i I L, i ≤ 300 → (I 307 9 = nI a1 ∨ I 307 9 = nI a2) → LP (n + 1) x1 1 (nI i) I L = (FO_R_comeTo fu (I 307 8 + 1) I L).bind (fun u3 => (G x1 u3.2.1 u3.2.2).bind (fun u4 => (FO_T_addCode fu (I 307 9) 0 u4.2.1 u4.2.2).bind (fun u5 => LP n x1 u4.1 (nI (i + 1)) u5.2.1 u5.2.2))))
    {I : TI} {L : TL} {J : TI} {K : TL} {k q w m : Nat} (he : Ent kd vl sp tp en len N t0 so I J K k q w m op b) (htop : m = 0 ∨ (rk (J 336 (m - 1)) < r ∧ ¬ J 336 (m - 1) = 41)) :
    ∀ (j f i : Nat) (I' J' : TI) (K' : TL) (c k' q' w' n : Nat), VS kd vl sp tp en len N fu t0 so nn r I J K k q w m op (7 * (8 - op) + 8 - r) I' J' K' c k' q' w' n → P0 (kd k') → N - k' ≤ j → j < f → i ≤ k' → BadO sp N fu t0 (LP f (nI op) 1 (nI i) I' L) I L J K k ∨ ValO kd vl sp tp en len N fu t0 so nn (fun x => P0 x ∧ ¬ x = nI a1 ∧ ¬ x = nI a2) r (LP f (nI op) 1 (nI i) I' L) I L J K k q w m op (7 * (8 - op) + 8 - r) := by
  obtain ⟨hx, hl, hm, hq, hwm, hmb, hop⟩ := he
  have hN3 : N ≤ 300 := hx.2.2.2.2.2.2.2.2.2
  intro j
  induction j with
  | zero =>
    intro f i I' J' K' c k' q' w' n hv hP hj hf hi
    obtain ⟨f, rfl⟩ : ∃ z, f = z + 1 := ⟨f - 1, by omega⟩
    have v1 := hv.1
    have hk' : k' ≤ N := v1.2.2.2.2.2.2.2.2.1
    have e0 : kd k' = 0 := by rw [show k' = N by omega]; exact hN
    have n1 : ¬ kd k' = nI a1 := by rw [e0]; rcases hr with ⟨_, rfl, _⟩ | ⟨_, rfl, _⟩ <;> decide
    have n2 : ¬ kd k' = nI a2 := by rw [e0]; rcases hr with ⟨_, _, rfl⟩ | ⟨_, _, rfl⟩ <;> decide
    rw [hL1 f (nI op) i I' L (by omega) (by rw [v1.2.2.1]; exact n1) (by rw [v1.2.2.1]; exact n2)]
    exact Or.inr ⟨I', J', K', c, k', q', w', n, rfl, hv, hP, n1, n2⟩
  | succ j ih =>
    intro f i I' J' K' c k' q' w' n hv hP hj hf hi
    obtain ⟨f, rfl⟩ : ∃ z, f = z + 1 := ⟨f - 1, by omega⟩
    have hv0 := hv
    obtain ⟨v1, v2, v3, v4, v5, v6, v7, v8, v9, v10, v11⟩ := hv
    have hk' : k' ≤ N := v1.2.2.2.2.2.2.2.2.1
    have h9 : I' 307 9 = kd k' := v1.2.2.1
    by_cases tk : kd k' = nI a1 ∨ kd k' = nI a2
    · obtain ⟨a, ha, ek⟩ : ∃ a, (a = a1 ∨ a = a2) ∧ kd k' = nI a := by
        rcases tk with z | z
        · exact ⟨a1, Or.inl rfl, z⟩
        · exact ⟨a2, Or.inr rfl, z⟩
      have hac : (a = 14 ∧ mop a = 6) ∨ (a = 15 ∧ mop a = 7) ∨ (a = 16 ∧ mop a = 8) ∨ (a = 17 ∧ mop a = 9) := by
        have : a = 14 ∨ a = 15 ∨ a = 16 ∨ a = 17 := by omega
        rcases this with rfl | rfl | rfl | rfl <;> decide
      have hrk : rk (nI (mop a)) = r := by
        have : (r = 6 ∧ a = 16) ∨ (r = 6 ∧ a = 17) ∨ (r = 5 ∧ a = 14) ∨ (r = 5 ∧ a = 15) := by omega
        rcases this with ⟨rfl, rfl⟩ | ⟨rfl, rfl⟩ | ⟨rfl, rfl⟩ | ⟨rfl, rfl⟩ <;> decide
      have m9 : mop a ≤ 9 := by omega
      have kN : k' < N := kd_lt hN v1 ek (nI_ne0 (by omega) (by omega))
      obtain ⟨I2, x1, x2, x3, x4⟩ := x_come (fu := fu) (L := L) v1 kN
      have bt := bt_arith (fu := fu) v6.1 hac ek
      have n0 : nc J' m n = 0 := nc0 n (fun i hi => ⟨by have := (v10 i hi).1; omega, (v10 i hi).2⟩)
      have tp1 : m = 0 ∨ rk (J' 336 (m - 1)) < r := by
        by_cases c0 : m = 0
        · exact Or.inl c0
        · right
          rw [v9 (m - 1) (by omega)]
          exact (htop.resolve_left c0).1
      obtain ⟨J2, K2, p1, p2, p3, p4, p5, p6⟩ := h_push nx (c := nI (mop a)) (r := r) (lv := r) (op' := op) (n := n) hfu (by rw [n0]; exact v6) kN ht (by omega) (by omega) bt (nI_pos (by omega)) hrk (by rw [if_neg (by omega)]) (by omega) (fun i hi => (v10 i hi).1) tp1
      have lo2 : ∀ f, LO_M_summed_15 fu (f + 1) J' K' = LO_M_summed_15 fu f J2 K2 := fun f => by rw [LO_h v6.2.2.2.2.2.1, p1]; rfl
      have r2 : rk (J2 336 m) = r := by rw [p6]; exact hrk
      have sub := hG I2 L J2 K2 (k' + 1) q' (w' + n) (m + 1) ⟨x2, ((v2.tr x3).2.1 11 (by omega) (by omega) (by omega) (by omega) (by omega)).trans hl, p2, by omega, by omega, by omega, hop⟩ (fun _ => na_top hfu p2.2.2.2.1 (by omega) (by omega)) (Or.inr ⟨by rw [Nat.add_sub_cancel, r2]; omega, by rw [Nat.add_sub_cancel, p6]; exact fun z => by have := (nI_eq (b := 41) (by omega) (by omega)).mp z; omega⟩)
      rw [hL2 f (nI op) i I' L (by omega) (by rw [h9]; exact tk), x1]
      simp only [Option.bind_some]
      have cdm : CdM t0 J J2 w := fun x hx => by
        rw [p4, (ms_stl (op' := op) (n := n) (m := m) (by rw [n0]; exact v6) ht (by omega) (by omega)).1.2.2.2.2.2.1 x (by omega)]
        exact v8 x hx
      rcases sub with bad | good
      · left
        obtain ⟨g, rfl⟩ : ∃ z, f = z + 1 := ⟨f - 1, by omega⟩
        refine BadO.pre bad (v2.tr x3) (c0 := c + 1) (fun f => by rw [show f + (c + 1) = (f + 1) + c by omega, v5, lo2]) (by omega) (v7.tr p3) (fun x hx => cdm x (by omega)) (fun I'' e s h1 h2 => ?_)
        obtain ⟨rr, I3, y1, y2⟩ := x_addF (fu := fu) (c := I' 307 9) (a := 0) (L := L) h2
        refine ⟨I3, ?_, y2⟩
        rw [h1]
        simp only [Option.bind_some]
        rw [y1]
        exact hL0 g (nI op) (i + 1) I3 L
      · obtain ⟨I3, J3, K3, c3, k3, q3, w3, n3, g1, gv, gP⟩ := good
        obtain ⟨u1, u2, u3, u4, u5, u6, u7, u8, u9, u10, u11⟩ := gv
        have hk3 : k3 ≤ N := u1.2.2.2.2.2.2.2.2.1
        obtain ⟨I4, y1, y2, y3, y4, y5, y6⟩ := x_add (fu := fu) (c := I' 307 9) (a := 0) (L := L) u1 (by omega)
        rw [g1]
        simp only [Option.bind_some]
        rw [y1]
        simp only [Option.bind_some]
        refine ih f (i + 1) I4 J3 K3 (c + 1 + c3) k3 (q3 + 1) w3 (n3 + 1) ⟨y2, v2.tr (x3.tr (u2.tr y3)), ?_, by omega, fun f => ?_, ?_, v7.tr (p3.tr u7), ?_, ?_, ?_, ?_⟩ gP (by omega) (by omega) (by omega)
        · intro t ht'
          have e1 := v3 t ht'
          have e2 := x4 t (by omega)
          have e3 := u3 t (by omega)
          have e4 := y4 t (by omega)
          exact ⟨e4.1.trans (e3.1.trans (e2.1.trans e1.1)), e4.2.trans (e3.2.trans (e2.2.trans e1.2))⟩
        · rw [show f + (c + 1 + c3) = ((f + c3) + 1) + c by omega, v5, lo2, u5]
        · rw [show m + (n3 + 1) = m + 1 + n3 by omega]; exact u6
        · intro x hx
          exact (u8 x (by omega)).trans (cdm x hx)
        · intro t ht'
          exact (u9 t (by omega)).trans ((p5 t ht').trans (v9 t ht'))
        · intro t ht'
          by_cases t0' : t = 0
          · subst t0'
            rw [Nat.add_zero, u9 m (by omega), r2]
            omega
          · have := u10 (t - 1) (by omega)
            rw [show m + 1 + (t - 1) = m + t by omega] at this
            omega
        · have n30 : nc J3 (m + 1) n3 = 0 := nc0 n3 (fun i hi => ⟨by have := (u10 i hi).1; omega, (u10 i hi).2⟩)
          have hs := ms_stl (J := J3) (K := K3) (m := m + 1) (n := n3) (op' := op) (w := w3) (by rw [n30]; exact u6) ht (by omega) (by omega)
          obtain ⟨s1, s2, _⟩ := hs
          have e336 : stl n3 J3 336 m = nI (mop a) := by rw [s1.1 336 (by omega) (by omega), u9 m (by omega), p6]
          have pr := pop_R (J := stl n3 J3) (t0 := t0) (w := w3 + n3) (m := m) (op' := op) s2.2.1 s2.2.2.1 s2.2.2.2.1 (by rw [s2.2.2.2.2.1, e336, show is7 (nI (mop a)) = 0 from by unfold is7; rw [if_neg (by rw [hrk]; exact fun z => z.elim (by omega) (fun z => by have := (nI_eq (b := 20) (by omega) (by omega)).mp z; omega))], Nat.add_zero]) (by omega) (by omega) (by omega)
          have px := pr.2.2.2.2.2.1
          have p7 := pr.2.2.2.2.2.2 0 (by omega)
          rw [stl_pop, show w3 + (n3 + 1) = w3 + n3 + 1 by omega]
          refine Seg.bin (w := a) (d' := 7 * (8 - op) + 8 - (r + 1)) (v11.cg (fun t h1 h2 => ?_) (fun x h1 h2 => ?_) (Nat.le_refl _)) (u11.cg (fun t h1 h2 => ?_) (fun x h1 h2 => ?_) (Nat.le_refl _)) (by omega) (by omega) (by omega) ?_ ?_
          · have e2 := x4 t (by omega)
            have e3 := u3 t (by omega)
            have e4 := y4 t (by omega)
            exact ⟨e4.1.trans (e3.1.trans e2.1), e4.2.trans (e3.2.trans e2.2)⟩
          · show pop (stl n3 J3) 334 (t0 + 73 + x) = stl n J' 334 (t0 + 73 + x)
            rw [px _ (by omega), s1.2.2.2.2.2.1 _ (by omega), u8 _ (by omega), p4]
          · exact y4 t h2
          · show pop (stl n3 J3) 334 (t0 + 73 + x) = stl n3 J3 334 (t0 + 73 + x)
            exact px _ (by omega)
          · rw [y5, h9, ek]
          · show pop (stl n3 J3) 334 (t0 + 73 + 2 * (w3 + n3)) = _
            exact (show pop (stl n3 J3) 334 (t0 + 73 + 2 * (w3 + n3)) = stl n3 J3 336 m from p7).trans e336
    · have n1 : ¬ kd k' = nI a1 := fun z => tk (Or.inl z)
      have n2 : ¬ kd k' = nI a2 := fun z => tk (Or.inr z)
      rw [hL1 f (nI op) i I' L (by omega) (by rw [h9]; exact n1) (by rw [h9]; exact n2)]
      exact Or.inr ⟨I', J', K', c, k', q', w', n, rfl, hv0, hP, n1, n2⟩
theorem t_lvl (hN : kd N = 0) (nx : NX kd vl sp tp en len N fu) (hfu : 2000 ≤ fu) (ht : t0 ≤ 2043) {r b op a1 a2 : Nat} {G Fn : Int32 → TI → TL → Option (Int32 × TI × TL)} {LP : Nat → Int32 → Int32 → Int32 → TI → TL → Option (Int32 × TI × TL)} {P0 : Int32 → Prop} (hr : (r = 6 ∧ a1 = 16 ∧ a2 = 17) ∨ (r = 5 ∧ a1 = 14 ∧ a2 = 15)) (hb : b ≤ 11)
    (hG : ValOK kd vl sp tp en len N fu t0 so nn P0 (r + 1) (b + 1) G op)
    (hL0 : ∀ n x1 i I L, LP (n + 1) x1 0 (nI i) I L = some (0, I, L))
    (hL1 : ∀ n x1 i I L, i ≤ 300 → ¬ I 307 9 = nI a1 → ¬ I 307 9 = nI a2 → LP (n + 1) x1 1 (nI i) I L = some (1, I, L))
    (hL2 : ∀ n x1 i I L, i ≤ 300 → (I 307 9 = nI a1 ∨ I 307 9 = nI a2) → LP (n + 1) x1 1 (nI i) I L = (FO_R_comeTo fu (I 307 8 + 1) I L).bind (fun u3 => (G x1 u3.2.1 u3.2.2).bind (fun u4 => (FO_T_addCode fu (I 307 9) 0 u4.2.1 u4.2.2).bind (fun u5 => LP n x1 u4.1 (nI (i + 1)) u5.2.1 u5.2.2))))
    (hF : ∀ p I L, Fn p I L = (G p I L).bind (fun u1 => LP fu p u1.1 (nI 0) u1.2.1 u1.2.2)) : ValOK kd vl sp tp en len N fu t0 so nn (fun x => P0 x ∧ ¬ x = nI a1 ∧ ¬ x = nI a2) r b Fn op := by
  intro I L J K k q w m he hna htop
  have hN3 : N ≤ 300 := he.1.2.2.2.2.2.2.2.2.2
  obtain ⟨g, hg⟩ : ∃ z, fu = z + 1 := ⟨fu - 1, by omega⟩
  have sub := hG I L J K k q w m ⟨he.1, he.2.1, he.2.2.1, by have := he.2.2.2; omega⟩ hna (htop.imp id (fun z => ⟨by have := z.1; omega, z.2⟩))
  rw [hF]
  rcases sub with bad | good
  · left
    refine BadO.pre bad FrX.rf (c0 := 0) (fun f => rfl) (by omega) FrM.rf CdM.rf (fun I' e s h1 h2 => ⟨I', ?_, h2⟩)
    rw [h1]
    simp only [Option.bind_some]
    rw [show LP fu (nI op) 0 (nI 0) I' L = LP (g + 1) (nI op) 0 (nI 0) I' L from by rw [← hg]]
    exact hL0 g (nI op) 0 I' L
  · obtain ⟨I3, J3, K3, c3, k3, q3, w3, n3, g1, gv, gP⟩ := good
    obtain ⟨u1, u2, u3, u4, u5, u6, u7, u8, u9, u10, u11⟩ := gv
    rw [g1]
    simp only [Option.bind_some]
    exact t_loop hN nx hfu ht hr hb hG hL0 hL1 hL2 he htop 300 fu 0 I3 J3 K3 c3 k3 q3 w3 n3 ⟨u1, u2, u3, by omega, u5, u6, u7, u8, u9, fun i hi => ⟨by have := (u10 i hi).1; omega, (u10 i hi).2⟩, u11.cg (fun _ _ _ => ⟨rfl, rfl⟩) (fun _ _ _ => rfl) (by omega)⟩ gP (by omega) (by omega) (by omega)
def Pp (x : Int32) : Prop := True ∧ ¬ x = nI 16 ∧ ¬ x = nI 17
def Ps (x : Int32) : Prop := Pp x ∧ ¬ x = nI 14 ∧ ¬ x = nI 15
theorem Ps.no {x : Int32} (h : Ps x) : noAr x := ⟨h.2.1, h.2.2, h.1.2.1, h.1.2.2⟩
theorem l300 {i : Nat} (h : i ≤ 300) : ¬ (300 : Int32) < nI i := nI_nlt (a := 300) h (by omega)
theorem t_prod (hN : kd N = 0) (nx : NX kd vl sp tp en len N fu) (hfu : 2000 ≤ fu) (ht : t0 ≤ 2043) {kO : Int32 → Int32 → TI → TL → Option (Int32 × TI × TL)} {kA : Int32 → TI → TL → Option (Int32 × TI × TL)} {op : Nat} (h : OneOK kd vl sp tp en len N fu t0 so nn (fun p I L => FO_R_one fu kO kA p I L) op) : ValOK kd vl sp tp en len N fu t0 so nn Pp 6 11 (fun p I L => FO_R_product fu kO kA p I L) op := by
  refine t_lvl (P0 := fun _ => True) (a1 := 16) (a2 := 17) (LP := fun n x1 x2 x3 I L => LO_R_product_8 fu kO kA n x1 x2 x3 I L) hN nx hfu ht (Or.inl ⟨rfl, rfl, rfl⟩) (by omega) (one_val h) (fun n x1 i I L => ?_) (fun n x1 i I L hi h1 h2 => ?_) (fun n x1 i I L hi h1 => ?_) (fun p I L => rfl)
  · rw [LO_R_product_8, if_pos rfl, if_pos (Or.inl rfl)]
    split <;> rfl
  · rw [LO_R_product_8, if_neg (l300 hi), if_neg i10, if_neg (show ¬ I 307 9 = 16 from h1), if_neg (show ¬ I 307 9 = 17 from h2), if_pos (Or.inr rfl)]
  · rw [LO_R_product_8, if_neg (l300 hi), if_neg i10, nI_1]
    by_cases c : I 307 9 = nI 16
    · rw [if_pos (show I 307 9 = 16 from c)]
    · rw [if_neg (show ¬ I 307 9 = 16 from c), if_pos (show I 307 9 = 17 from h1.resolve_left c)]
theorem t_sum (hN : kd N = 0) (nx : NX kd vl sp tp en len N fu) (hfu : 2000 ≤ fu) (ht : t0 ≤ 2043) {kO : Int32 → Int32 → TI → TL → Option (Int32 × TI × TL)} {kA : Int32 → TI → TL → Option (Int32 × TI × TL)} {op : Nat} (h : ValOK kd vl sp tp en len N fu t0 so nn Pp 6 11 (fun p I L => FO_R_product fu kO kA p I L) op) : ValOK kd vl sp tp en len N fu t0 so nn Ps 5 10 (fun p I L => FO_R_sum fu kO kA p I L) op := by
  refine t_lvl (P0 := Pp) (a1 := 14) (a2 := 15) (LP := fun n x1 x2 x3 I L => LO_R_sum_8 fu kO kA n x1 x2 x3 I L) hN nx hfu ht (Or.inr ⟨rfl, rfl, rfl⟩) (by omega) h (fun n x1 i I L => ?_) (fun n x1 i I L hi h1 h2 => ?_) (fun n x1 i I L hi h1 => ?_) (fun p I L => rfl)
  · rw [LO_R_sum_8, if_pos rfl, if_pos (Or.inl rfl)]
    split <;> rfl
  · rw [LO_R_sum_8, if_neg (l300 hi), if_neg i10, if_neg (show ¬ I 307 9 = 14 from h1), if_neg (show ¬ I 307 9 = 15 from h2), if_pos (Or.inr rfl)]
  · rw [LO_R_sum_8, if_neg (l300 hi), if_neg i10, nI_1]
    by_cases c : I 307 9 = nI 14
    · rw [if_pos (show I 307 9 = 14 from c)]
    · rw [if_neg (show ¬ I 307 9 = 14 from c), if_pos (show I 307 9 = 15 from h1.resolve_left c)]
end
