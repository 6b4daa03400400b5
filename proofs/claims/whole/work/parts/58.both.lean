section
variable {kd vl sp tp : Nat → Int32} {en : Nat → Nat} {len N fu t0 so nn : Nat}
/-- and, or: the rounds -/
theorem t_bloop (hN : kd N = 0) (nx : NX kd vl sp tp en len N fu) (hfu : 2000 ≤ fu) (ht : t0 ≤ 2043) {r b op a : Nat} {G : Int32 → TI → TL → Option (Int32 × TI × TL)} {LP : Nat → Int32 → Int32 → Int32 → TI → TL → Option (Int32 × TI × TL)} {P0 : Int32 → Prop} (hr : (r = 2 ∧ a = 52) ∨ (r = 1 ∧ a = 51)) (hb : b ≤ 8) (hP0 : ∀ x, P0 x → noAr x)
    (hG : AskOK kd vl sp tp en len N fu t0 so nn P0 (r + 1) (b + 1) G op)
    (hL0 : ∀ n x1 i I L, LP (n + 1) x1 0 (nI i) I L = some (0, I, L))
    (hL1 : ∀ n x1 i I L, i ≤ 300 → ¬ I 307 9 = nI a → LP (n + 1) x1 1 (nI i) I L = some (1, I, L))
    (hL2 : ∀ n x1 i I L, i ≤ 300 → I 307 9 = nI a → LP (n + 1) x1 1 (nI i) I L = (FO_R_comeTo fu (I 307 8 + 1) I L).bind (fun u3 => (G x1 u3.2.1 u3.2.2).bind (fun u4 => (FO_T_addCode fu (nI a) 0 u4.2.1 u4.2.2).bind (fun u5 => LP n x1 u4.1 (nI (i + 1)) u5.2.1 u5.2.2))))
    {I : TI} {L : TL} {J : TI} {K : TL} {k q w m : Nat} (he : Ent kd vl sp tp en len N t0 so I J K k q w m op b) (ho : OpN J m 42) (htop : 0 < m ∧ rk (J 336 (m - 1)) < r) :
    ∀ (j f i : Nat) (I' J' : TI) (K' : TL) (c k' q' w' n : Nat), BS kd vl sp tp en len N fu t0 so nn r I J K k q w m op (7 * (8 - op) + 7 - r) I' J' K' c k' q' w' n → P0 (kd k') → N - k' ≤ j → j < f → i ≤ k' → BadO sp N fu t0 (LP f (nI op) 1 (nI i) I' L) I L J K k ∨ AskO kd vl sp tp en len N fu t0 so nn (fun x => P0 x ∧ ¬ x = nI a) r (LP f (nI op) 1 (nI i) I' L) I L J K k q w m op (7 * (8 - op) + 7 - r) := by
  obtain ⟨hx, hl, hm, hq, hwm, hmb, hop⟩ := he
  have hN3 : N ≤ 300 := hx.2.2.2.2.2.2.2.2.2
  intro j
  induction j with
  | zero =>
    intro f i I' J' K' c k' q' w' n hv hP hj hf hi
    obtain ⟨f, rfl⟩ : ∃ z, f = z + 1 := ⟨f - 1, by omega⟩
    have v1 := hv.1
    have hk' : k' ≤ N := v1.2.2.2.2.2.2.2.2.1
    have e0 : kd k' = 0 := by rw [show k' = N by omega]; exact hN
    have n1 : ¬ kd k' = nI a := by rw [e0]; rcases hr with ⟨_, rfl⟩ | ⟨_, rfl⟩ <;> decide
    rw [hL1 f (nI op) i I' L (by omega) (by rw [v1.2.2.1]; exact n1)]
    exact Or.inr ⟨I', J', K', c, k', q', w', n, rfl, hv, hP, n1⟩
  | succ j ih =>
    intro f i I' J' K' c k' q' w' n hv hP hj hf hi
    obtain ⟨f, rfl⟩ : ∃ z, f = z + 1 := ⟨f - 1, by omega⟩
    have hv0 := hv
    obtain ⟨v1, v2, v3, v4, v5, v6, v7, v8, v9, v10, v11, v12⟩ := hv
    have hk' : k' ≤ N := v1.2.2.2.2.2.2.2.2.1
    have h9 : I' 307 9 = kd k' := v1.2.2.1
    by_cases ek : kd k' = nI a
    · have hrk : rk (nI (73 - a)) = r := by rcases hr with ⟨rfl, rfl⟩ | ⟨rfl, rfl⟩ <;> decide
      have i7 : is7 (nI (73 - a)) = 0 := by rcases hr with ⟨rfl, rfl⟩ | ⟨rfl, rfl⟩ <;> decide
      have a40 : nI (73 - a) < 40 := by rcases hr with ⟨rfl, rfl⟩ | ⟨rfl, rfl⟩ <;> decide
      have kN : k' < N := kd_lt hN v1 ek (nI_ne0 (by omega) (by omega))
      obtain ⟨I2, x1, x2, x3, x4⟩ := x_come (fu := fu) (L := L) v1 kN
      have ho1 : OpN J' (m + n) 42 := ho.up (Nat.le_add_right m n) v9 (fun i h1 h2 => by
        obtain ⟨t, rfl⟩ : ∃ t, i = m + t := ⟨i - m, by omega⟩
        exact rk_pos (by have := v10 t (by omega); omega))
      have ba := bt_and (fu := fu) hfu v6.1 (hP0 _ hP) v6.2.2.2.1 (by omega) ho1 (v11 K')
      have bt : FO_M_betweenOf fu J' K' = some (nI (73 - a), J', K') := by
        rcases hr with ⟨_, rfl⟩ | ⟨_, rfl⟩
        · exact ba.1 ek
        · exact ba.2.1 ek
      have tp1 : rk (J' 336 (m - 1)) < r := by rw [v9 (m - 1) (by omega)]; exact htop.2
      obtain ⟨J2, K2, p1, p2, p3, p4, p5, p6⟩ := h_push nx (c := nI (73 - a)) (r := r) (lv := r) (op' := op) (n := n) hfu v6 kN ht (by omega) (by omega) bt (nI_pos (by omega)) hrk (by rw [if_neg (by omega)]) (by omega) v10 (Or.inr tp1)
      have lo2 : ∀ f, LO_M_summed_15 fu (f + 1) J' K' = LO_M_summed_15 fu f J2 K2 := fun f => by rw [LO_h v6.2.2.2.2.2.1, p1]; rfl
      have r2 : rk (J2 336 m) = r := by rw [p6]; exact hrk
      have ho2 : OpN J2 (m + 1) 42 := ho.up (Nat.le_succ m) (fun t h => (p5 t h).trans (v9 t h)) (fun t h1 h2 => by
        have : t = m := by omega
        subst this; rw [p6]; exact a40)
      have sub := hG I2 L J2 K2 (k' + 1) q' (w' + n) (m + 1) ⟨x2, ((v2.tr x3).2.1 11 (by omega) (by omega) (by omega) (by omega) (by omega)).trans hl, p2, by omega, by omega, by omega, hop⟩ ho2 ⟨by omega, by rw [Nat.add_sub_cancel, r2]; split <;> omega⟩
      rw [hL2 f (nI op) i I' L (by omega) (by rw [h9]; exact ek), x1]
      simp only [Option.bind_some]
      have cdm : CdM t0 J J2 w := fun x hx => by
        rw [p4, (ms_stl (op' := op) (n := n) (m := m) v6 ht (by omega) (by omega)).1.2.2.2.2.2.1 x (by omega)]
        exact v8 x hx
      rcases sub with bad | good
      · left
        obtain ⟨g, rfl⟩ : ∃ z, f = z + 1 := ⟨f - 1, by omega⟩
        refine BadO.pre bad (v2.tr x3) (c0 := c + 1) (fun f => by rw [show f + (c + 1) = (f + 1) + c by omega, v5, lo2]) (by omega) (v7.tr p3) (fun x hx => cdm x (by omega)) (fun I'' e s h1 h2 => ?_)
        obtain ⟨rr, I3, y1, y2⟩ := x_addF (fu := fu) (c := nI a) (a := 0) (L := L) h2
        refine ⟨I3, ?_, y2⟩
        rw [h1]
        simp only [Option.bind_some]
        rw [y1]
        exact hL0 g (nI op) (i + 1) I3 L
      · obtain ⟨I3, J3, K3, c3, k3, q3, w3, n3, g1, gv, gP⟩ := good
        obtain ⟨u1, u2, u3, u4, u5, u6, u7, u8, u9, u10, u11, u12⟩ := gv
        have hk3 : k3 ≤ N := u1.2.2.2.2.2.2.2.2.1
        obtain ⟨I4, y1, y2, y3, y4, y5, y6⟩ := x_add (fu := fu) (c := nI a) (a := 0) (L := L) u1 (by omega)
        have eM : J3 336 m = nI (73 - a) := by rw [u9 m (by omega), p6]
        rw [g1]
        simp only [Option.bind_some]
        rw [y1]
        simp only [Option.bind_some]
        refine ih f (i + 1) I4 J3 K3 (c + 1 + c3) k3 (q3 + 1) w3 (n3 + 1) ⟨y2, v2.tr (x3.tr (u2.tr y3)), ?_, by omega, fun f => ?_, ?_, v7.tr (p3.tr u7), ?_, ?_, ?_, u11, ?_⟩ gP (by omega) (by omega) (by omega)
        · intro t ht'
          have e1 := v3 t ht'
          have e2 := x4 t (by omega)
          have e3 := u3 t (by omega)
          have e4 := y4 t (by omega)
          exact ⟨e4.1.trans (e3.1.trans (e2.1.trans e1.1)), e4.2.trans (e3.2.trans (e2.2.trans e1.2))⟩
        · rw [show f + (c + 1 + c3) = ((f + c3) + 1) + c by omega, v5, lo2, u5]
        · rw [nc_head, eM, i7, Nat.zero_add, show m + (n3 + 1) = m + 1 + n3 by omega]; exact u6
        · intro x hx
          exact (u8 x (by omega)).trans (cdm x hx)
        · intro t ht'
          exact (u9 t (by omega)).trans ((p5 t ht').trans (v9 t ht'))
        · intro t ht'
          by_cases t0' : t = 0
          · subst t0'
            rw [Nat.add_zero, eM, hrk]
            exact Nat.le_refl _
          · have := u10 (t - 1) (by omega)
            rw [show m + 1 + (t - 1) = m + t by omega] at this
            omega
        · obtain ⟨s1, s2, _⟩ := ms_stl (J := J3) (K := K3) (m := m + 1) (n := n3) (op' := op) (w := w3) u6 ht (by omega) (by omega)
          have e336 : stl n3 J3 336 m = nI (73 - a) := by rw [s1.1 336 (by omega) (by omega), eM]
          have pr := pop_R (J := stl n3 J3) (t0 := t0) (w := w3 + n3) (m := m) (op' := op) s2.2.1 s2.2.2.1 s2.2.2.2.1 (by rw [s2.2.2.2.2.1, e336, i7, Nat.add_zero]) (by omega) (by omega) (by omega)
          have px := pr.2.2.2.2.2.1
          have p7 := pr.2.2.2.2.2.2 0 (by omega)
          rw [stl_pop, show w3 + (n3 + 1) = w3 + n3 + 1 by omega]
          refine SegB.join (w := a) (d' := 7 * (8 - op) + 7 - (r + 1)) (v12.cg (fun t h1 h2 => ?_) (fun x h1 h2 => ?_) (Nat.le_refl _)) (u12.cg (fun t h1 h2 => ?_) (fun x h1 h2 => ?_) (Nat.le_refl _)) (by omega) (by omega) (by omega) y5 ?_
          · have e2 := x4 t (by omega)
            have e3 := u3 t (by omega)
            have e4 := y4 t (by omega)
            exact ⟨e4.1.trans (e3.1.trans e2.1), e4.2.trans (e3.2.trans e2.2)⟩
          · show pop (stl n3 J3) 334 (t0 + 73 + x) = stl n J' 334 (t0 + 73 + x)
            rw [px _ (by omega), s1.2.2.2.2.2.1 _ (by omega), u8 _ (by omega), p4]
          · exact y4 t h2
          · show pop (stl n3 J3) 334 (t0 + 73 + x) = stl n3 J3 334 (t0 + 73 + x)
            exact px _ (by omega)
          · exact (show pop (stl n3 J3) 334 (t0 + 73 + 2 * (w3 + n3)) = stl n3 J3 336 m from p7).trans e336
    · rw [hL1 f (nI op) i I' L (by omega) (by rw [h9]; exact ek)]
      exact Or.inr ⟨I', J', K', c, k', q', w', n, rfl, hv0, hP, ek⟩
theorem t_blvl (hN : kd N = 0) (nx : NX kd vl sp tp en len N fu) (hfu : 2000 ≤ fu) (ht : t0 ≤ 2043) {r b op a : Nat} {G Fn : Int32 → TI → TL → Option (Int32 × TI × TL)} {LP : Nat → Int32 → Int32 → Int32 → TI → TL → Option (Int32 × TI × TL)} {P0 : Int32 → Prop} (hr : (r = 2 ∧ a = 52) ∨ (r = 1 ∧ a = 51)) (hb : b ≤ 8) (hP0 : ∀ x, P0 x → noAr x)
    (hG : AskOK kd vl sp tp en len N fu t0 so nn P0 (r + 1) (b + 1) G op)
    (hL0 : ∀ n x1 i I L, LP (n + 1) x1 0 (nI i) I L = some (0, I, L))
    (hL1 : ∀ n x1 i I L, i ≤ 300 → ¬ I 307 9 = nI a → LP (n + 1) x1 1 (nI i) I L = some (1, I, L))
    (hL2 : ∀ n x1 i I L, i ≤ 300 → I 307 9 = nI a → LP (n + 1) x1 1 (nI i) I L = (FO_R_comeTo fu (I 307 8 + 1) I L).bind (fun u3 => (G x1 u3.2.1 u3.2.2).bind (fun u4 => (FO_T_addCode fu (nI a) 0 u4.2.1 u4.2.2).bind (fun u5 => LP n x1 u4.1 (nI (i + 1)) u5.2.1 u5.2.2))))
    (hF : ∀ p I L, Fn p I L = (G p I L).bind (fun u1 => LP fu p u1.1 (nI 0) u1.2.1 u1.2.2)) : AskOK kd vl sp tp en len N fu t0 so nn (fun x => P0 x ∧ ¬ x = nI a) r b Fn op := by
  intro I L J K k q w m he ho htop
  rw [if_neg (show ¬ r = 3 by omega)] at htop
  have hN3 : N ≤ 300 := he.1.2.2.2.2.2.2.2.2.2
  obtain ⟨g, hg⟩ : ∃ z, fu = z + 1 := ⟨fu - 1, by omega⟩
  have sub := hG I L J K k q w m ⟨he.1, he.2.1, he.2.2.1, by have := he.2.2.2; omega⟩ ho ⟨htop.1, by have := htop.2; split <;> omega⟩
  rw [hF]
  rcases sub with bad | good
  · left
    refine BadO.pre bad FrX.rf (c0 := 0) (fun f => rfl) (by omega) FrM.rf CdM.rf (fun I' e s h1 h2 => ⟨I', ?_, h2⟩)
    rw [h1]
    simp only [Option.bind_some]
    rw [show LP fu (nI op) 0 (nI 0) I' L = LP (g + 1) (nI op) 0 (nI 0) I' L from by rw [← hg]]
    exact hL0 g (nI op) 0 I' L
  · obtain ⟨I3, J3, K3, c3, k3, q3, w3, n3, g1, gv, gP⟩ := good
    obtain ⟨u1, u2, u3, u4, u5, u6, u7, u8, u9, u10, u11, u12⟩ := gv
    rw [g1]
    simp only [Option.bind_some]
    exact t_bloop hN nx hfu ht hr hb hP0 hG hL0 hL1 hL2 he ho htop 300 fu 0 I3 J3 K3 c3 k3 q3 w3 n3 ⟨u1, u2, u3, by omega, u5, u6, u7, u8, u9, fun i hi => by have := u10 i hi; omega, u11, u12.cg (fun _ _ _ => ⟨rfl, rfl⟩) (fun _ _ _ => rfl) (by omega)⟩ gP (by omega) (by omega) (by omega)
def Pb (x : Int32) : Prop := noAr x ∧ ¬ x = nI 52
def Pe (x : Int32) : Prop := Pb x ∧ ¬ x = nI 51
theorem t_both (hN : kd N = 0) (nx : NX kd vl sp tp en len N fu) (hfu : 2000 ≤ fu) (ht : t0 ≤ 2043) {kO : Int32 → Int32 → TI → TL → Option (Int32 × TI × TL)} {kA : Int32 → TI → TL → Option (Int32 × TI × TL)} {op : Nat} (h : AskOK kd vl sp tp en len N fu t0 so nn noAr 3 9 (fun p I L => FO_R_ask fu kO kA p I L) op) : AskOK kd vl sp tp en len N fu t0 so nn Pb 2 8 (fun p I L => FO_R_both fu kO kA p I L) op := by
  refine t_blvl (P0 := noAr) (a := 52) (LP := fun n x1 x2 x3 I L => LO_R_both_8 fu kO kA n x1 x2 x3 I L) hN nx hfu ht (Or.inl ⟨rfl, rfl⟩) (by omega) (fun _ z => z) h (fun n x1 i I L => ?_) (fun n x1 i I L hi h1 => ?_) (fun n x1 i I L hi h1 => ?_) (fun p I L => rfl)
  · rw [LO_R_both_8, if_pos rfl, if_pos (Or.inl rfl)]
    split <;> rfl
  · rw [LO_R_both_8, if_neg (l300 hi), if_neg i10, if_neg (show ¬ I 307 9 = 52 from h1), if_pos (Or.inr rfl)]
  · rw [LO_R_both_8, if_neg (l300 hi), if_neg i10, nI_1, if_pos (show I 307 9 = 52 from h1)]
    rfl
theorem t_either (hN : kd N = 0) (nx : NX kd vl sp tp en len N fu) (hfu : 2000 ≤ fu) (ht : t0 ≤ 2043) {kO : Int32 → Int32 → TI → TL → Option (Int32 × TI × TL)} {kA : Int32 → TI → TL → Option (Int32 × TI × TL)} {op : Nat} (h : AskOK kd vl sp tp en len N fu t0 so nn Pb 2 8 (fun p I L => FO_R_both fu kO kA p I L) op) : AskOK kd vl sp tp en len N fu t0 so nn Pe 1 7 (fun p I L => FO_R_either fu kO kA p I L) op := by
  refine t_blvl (P0 := Pb) (a := 51) (LP := fun n x1 x2 x3 I L => LO_R_either_8 fu kO kA n x1 x2 x3 I L) hN nx hfu ht (Or.inr ⟨rfl, rfl⟩) (by omega) (fun _ z => z.1) h (fun n x1 i I L => ?_) (fun n x1 i I L hi h1 => ?_) (fun n x1 i I L hi h1 => ?_) (fun p I L => rfl)
  · rw [LO_R_either_8, if_pos rfl, if_pos (Or.inl rfl)]
    split <;> rfl
  · rw [LO_R_either_8, if_neg (l300 hi), if_neg i10, if_neg (show ¬ I 307 9 = 51 from h1), if_pos (Or.inr rfl)]
  · rw [LO_R_either_8, if_neg (l300 hi), if_neg i10, nI_1, if_pos (show I 307 9 = 51 from h1)]
    rfl
end
