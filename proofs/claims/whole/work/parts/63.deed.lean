/-! deeds -/
section
variable {kd vl sp tp : Nat → Int32} {en : Nat → Nat} {len N fu t0 : Nat}
theorem FlX.d {I I' : TI} {e : Nat} {s : Int32} (h : FlX I I' e s) : FrD I I' ∧ I' 307 1 = nI e ∧ I' 307 2 = s := ⟨h.1.d, h.2⟩
/-- what a deed leaves: rows of the class -/
def RwX (I I' : TI) (n : Nat) (a b c : Int32) : Prop := FrD I I' ∧ I' 308 0 = nI (n + 1) ∧ (∀ i, i ≠ n → I' 309 i = I 309 i ∧ I' 310 i = I 310 i ∧ I' 311 i = I 311 i) ∧ (I' 309 n = a ∧ I' 310 n = b ∧ I' 311 n = c) ∧ (∀ o, 312 ≤ o → o ≤ 315 → I' o = I o)
theorem RwX.x {I I1 I' : TI} {n : Nat} {a b c : Int32} (h : RwX I I1 n a b c) (g : FrX I1 I') (g2 : I' 312 = I1 312) (g3 : I' 313 = I1 313) : RwX I I' n a b c := by
  obtain ⟨h1, h2, h3, h4, h5⟩ := h
  have e : ∀ o, 309 ≤ o → o ≤ 315 → I' o = I1 o := fun o a b => by
    by_cases c2 : o = 312
    · rw [c2, g2]
    · by_cases c3 : o = 313
      · rw [c3, g3]
      · exact g.1 o (by omega) (by omega) c2 c3
  refine ⟨h1.tr g.d, (g.2.2 0 (by omega)).trans h2, fun i hi => ?_, ?_, fun o a b => (e o (by omega) b).trans (h5 o a b)⟩
  · rw [e 309 (by omega) (by omega), e 310 (by omega) (by omega), e 311 (by omega) (by omega)]; exact h3 i hi
  · rw [e 309 (by omega) (by omega), e 310 (by omega) (by omega), e 311 (by omega) (by omega)]; exact h4
theorem RwX.y {I0 I I' : TI} {n : Nat} {a b c : Int32} (g : FrX I0 I) (g2 : I 312 = I0 312) (g3 : I 313 = I0 313) (h : RwX I I' n a b c) : RwX I0 I' n a b c := by
  obtain ⟨h1, h2, h3, h4, h5⟩ := h
  have e : ∀ o, 309 ≤ o → o ≤ 315 → I o = I0 o := fun o a b => by
    by_cases c2 : o = 312
    · rw [c2, g2]
    · by_cases c3 : o = 313
      · rw [c3, g3]
      · exact g.1 o (by omega) (by omega) c2 c3
  refine ⟨g.d.tr h1, h2, fun i hi => ?_, h4, fun o a b => (h5 o a b).trans (e o (by omega) b)⟩
  rw [← e 309 (by omega) (by omega), ← e 310 (by omega) (by omega), ← e 311 (by omega) (by omega)]; exact h3 i hi
/-- coming to the next token leaves all code -/
theorem x_come2 {k q : Nat} {I : TI} {L : TL} (h : XS kd vl sp N I k q) (hk : k < N) : ∃ I', FO_R_comeTo fu (I 307 8 + 1) I L = some ((), I', L) ∧ XS kd vl sp N I' (k + 1) q ∧ FrX I I' ∧ I' 312 = I 312 ∧ I' 313 = I 313 ∧ I' 308 = I 308 := by
  obtain ⟨I', a, b, c, d⟩ := x_come (fu := fu) (L := L) h hk
  have e : I' = sI (sI (sI I 307 8 (nI (k + 1))) 307 9 (kd (k + 1))) 307 10 (vl (k + 1)) := by
    obtain ⟨h7, h8, h9, h10, h4, e1, e2, e3, h5, h6⟩ := h
    have em : F_J_max I 0 (F_J_min I (nI (k + 1)) 300) = nI (k + 1) := by
      unfold F_J_max F_J_min
      rw [if_neg (show ¬ (300 : Int32) < nI (k + 1) from nI_nlt (a := 300) (by omega) (by omega)), if_pos (show (0 : Int32) < nI (k + 1) from nI_lt (a := 0) (by omega) (by omega))]
    unfold FO_R_comeTo at a
    rw [h8, nI_1, em, h7.1, if_neg (show ¬ nI (N + 1) ≤ nI (k + 1) from nI_ge (by omega) (by omega)), if_pos (show (0 : Int32) ≤ nI (k + 1) ∧ nI (k + 1) < 301 from ib (n := 301) rfl (by omega) (by omega)), if_neg (show ¬ nI (N + 1) ≤ nI (k + 1) from nI_ge (by omega) (by omega)), if_pos (show (0 : Int32) ≤ nI (k + 1) ∧ nI (k + 1) < 301 from ib (n := 301) rfl (by omega) (by omega)), nI_clamp (show k + 1 < 2 ^ 31 by omega), e1, e2] at a
    have := congrArg (fun z => (z.getD ((), I, L)).2.1) a
    exact this.symm
  refine ⟨I', a, b, c, ?_, ?_, ?_⟩
  · rw [e, sJ_ne (by omega), sJ_ne (by omega), sJ_ne (by omega)]
  · rw [e, sJ_ne (by omega), sJ_ne (by omega), sJ_ne (by omega)]
  · rw [e, sJ_ne (by omega), sJ_ne (by omega), sJ_ne (by omega)]
theorem x_num2 {k q lo hi : Nat} {I : TI} {L : TL} (h : XS kd vl sp N I k q) (e : kd k = 2) (hk : k < N) (h1 : nI lo ≤ vl k) (h2 : vl k ≤ nI hi) : ∃ I', FO_R_passNumber fu (nI lo) (nI hi) I L = some (1, I', L) ∧ XS kd vl sp N I' (k + 1) q ∧ FrX I I' ∧ I' 312 = I 312 ∧ I' 313 = I 313 ∧ I' 308 = I 308 := by
  obtain ⟨I', a, b⟩ := x_come2 (fu := fu) (L := L) h hk
  refine ⟨I', ?_, b⟩
  unfold FO_R_passNumber
  rw [if_pos (h.2.2.1.trans e), if_pos (by rw [h.2.2.2.1]; exact ⟨h1, h2⟩), a]
  rfl
theorem x_pass2 {k q : Nat} {w : Int32} {I : TI} {L : TL} (h : XS kd vl sp N I k q) (e : kd k = w) (hk : k < N) : ∃ I', FO_R_pass fu w I L = some (1, I', L) ∧ XS kd vl sp N I' (k + 1) q ∧ FrX I I' ∧ I' 312 = I 312 ∧ I' 313 = I 313 ∧ I' 308 = I 308 := by
  obtain ⟨I', a, b⟩ := x_come2 (fu := fu) (L := L) h hk
  refine ⟨I', ?_, b⟩
  unfold FO_R_pass
  rw [if_pos (h.2.2.1.trans e), a]
  rfl
/-- outcomes of a deed -/
def DBad (sp : Nat → Int32) (t0 : Nat) (cl mo : Option (Int32 × TI × TL)) (I : TI) (L : TL) (J : TI) : Prop :=
  ∃ (e kx : Nat) (I' J' : TI) (K' : TL), cl = some (0, I', L) ∧ (1 ≤ e ∧ e ≤ 6) ∧ FrD I I' ∧ (I' 307 1 = nI e ∧ I' 307 2 = sp kx) ∧ mo = some (nI e, J', K') ∧ J' 331 8 = sp kx ∧ FrC t0 J J'
def DGood (kd vl sp tp : Nat → Int32) (en : Nat → Nat) (len N t0 : Nat) (cl mo : Option (Int32 × TI × TL)) (I : TI) (L : TL) (J : TI) (k q n x : Nat) (P : Int32 → Int32 → Int32 → Int32 → Prop) (s : Int32) : Prop :=
  ∃ (I' J' : TI) (K' : TL) (k' : Nat) (b c : Int32), cl = some (1, I', L) ∧ XS kd vl sp N I' k' q ∧ k < k' ∧ RwX I I' n s b c ∧ mo = some (0, J', K') ∧ MK kd vl sp tp en len J' K' k' ∧ FrC t0 J J' ∧ (∀ i, i ≠ 7 → i ≠ 8 → i ≠ 9 → i ≠ 10 → J' 331 i = J 331 i) ∧ (∀ y, y ≠ x + 1 → y ≠ x + 2 → J' 334 y = J 334 y) ∧ P b c (J' 334 (x + 1)) (J' 334 (x + 2))
theorem d_single (hN : kd N = 0) (nx : NX kd vl sp tp en len N fu) {I J : TI} {L K : TL} {k q n x hi : Nat} {s : Int32} (hX : XS kd vl sp N I k q) (hm : MK kd vl sp tp en len J K k) (hn : I 308 0 = nI n) (hn4 : n < 24) (hx : x + 2 < 2724) (hx0 : t0 ≤ x) (hhi : 1 ≤ hi ∧ hi ≤ 9999) : DBad sp t0 (FO_R_readSingle fu s (nI hi) I L) (FO_M_figure fu (nI (x + 1)) (nI 1) (nI hi) J K) I L J ∨ DGood kd vl sp tp en len N t0 (FO_R_readSingle fu s (nI hi) I L) (FO_M_figure fu (nI (x + 1)) (nI 1) (nI hi) J K) I L J k q n x (fun b _ a _ => ∃ m : Nat, (1 ≤ m ∧ m ≤ hi) ∧ b = nI m ∧ a = nI m) s := by
  have mf := m_fig nx (x := x + 1) (lo := 1) (hi := hi) hm (by omega) (by omega) hhi.1 hhi.2
  obtain ⟨I1, a1, a2, a3, a4, a5, a6, a7, a8⟩ := x_clause (fu := fu) (a := s) (b := vl k) (c := 0) (L := L) hX hn hn4
  have h10 : I 307 10 = vl k := hX.2.2.2.1
  unfold FO_R_readSingle
  rw [h10, a1]
  simp only [Option.bind_some]
  by_cases c2 : kd k = 2
  · by_cases cr : nI 1 ≤ vl k ∧ vl k ≤ nI hi
    · right
      have kN : k < N := kd_lt hN hX c2 (by decide)
      obtain ⟨v, hv1, hv, ev⟩ := rng1 (hi := hi) (by omega) cr.1 cr.2
      obtain ⟨I2, b1, b2, b3, b4, b5, b6⟩ := x_num2 (fu := fu) (lo := 1) (hi := hi) (L := L) a2 c2 kN cr.1 cr.2
      obtain ⟨J', K', g1, g2, g3⟩ := mf.1 v c2 kN ev hv1 hv
      rw [show (1 : Int32) = nI 1 from rfl, b1]
      refine ⟨I2, J', K', k + 1, nI v, 0, rfl, b2, by omega, RwX.x ⟨a3, a4, a5, by rw [ev] at a6; exact a6, a7⟩ b3 b4 b5, g1, g2, FrC.tr ⟨fun o h1 h2 h3 => sJ_ne h2, fun i _ => by simp [sI_ap], fun y hy => by simp [sI_ap, show ¬ y = x + 1 by omega]⟩ g3.c, fun i h1 h2 h3 h4 => by rw [g3.2 i h1 h2 h3 h4]; simp [sI_ap], fun y h1 h2 => by rw [g3.1 334 (by omega)]; simp [sI_ap, h1], v, ⟨hv1, hv⟩, rfl, ?_⟩
      rw [g3.1 334 (by omega)]
      simp [sI_ap]
    · left
      obtain ⟨I2, b1, b2⟩ := (x_passN (fu := fu) (lo := 1) (hi := hi) (L := L) a2).2.1 c2 cr
      rw [show (1 : Int32) = nI 1 from rfl, b1]
      exact ⟨2, k, I2, J, K, rfl, by omega, a3.tr b2.d.1, b2.d.2, mf.2.1 c2 cr, hm.2.2.2.1, FrC.rf⟩
  · left
    obtain ⟨I2, b1, b2⟩ := (x_passN (fu := fu) (lo := 1) (hi := hi) (L := L) a2).2.2 c2
    rw [show (1 : Int32) = nI 1 from rfl, b1]
    exact ⟨1, k, I2, J, K, rfl, by omega, a3.tr b2.d.1, b2.d.2, mf.2.2 c2, hm.2.2.2.1, FrC.rf⟩
theorem d_pair (hN : kd N = 0) (nx : NX kd vl sp tp en len N fu) {I J : TI} {L K : TL} {k q n x hi wi lo2 hi2 : Nat} {s : Int32} (hX : XS kd vl sp N I k q) (hm : MK kd vl sp tp en len J K k) (hn : I 308 0 = nI n) (hn4 : n < 24) (hx : x + 2 < 2724) (hx0 : t0 ≤ x) (hhi : 1 ≤ hi ∧ hi ≤ 9999) (hhi2 : lo2 ≤ hi2 ∧ hi2 ≤ 9999) (hwi : wi < 26) : DBad sp t0 (FO_R_readPair fu s (nI hi) (nI (30 + wi)) (nI lo2) (nI hi2) I L) (FO_M_pair fu (nI x) (nI 1) (nI hi) (wd wi) (nI lo2) (nI hi2) J K) I L J ∨ DGood kd vl sp tp en len N t0 (FO_R_readPair fu s (nI hi) (nI (30 + wi)) (nI lo2) (nI hi2) I L) (FO_M_pair fu (nI x) (nI 1) (nI hi) (wd wi) (nI lo2) (nI hi2) J K) I L J k q n x (fun b c a d => ∃ m m2 : Nat, (1 ≤ m ∧ m ≤ hi ∧ lo2 ≤ m2 ∧ m2 ≤ hi2) ∧ b = nI m ∧ c = nI m2 ∧ a = nI m ∧ d = nI m2) s := by
  have mf := m_fig nx (x := x + 1) (lo := 1) (hi := hi) hm (by omega) (by omega) hhi.1 hhi.2
  have h10 : I 307 10 = vl k := hX.2.2.2.1
  unfold FO_R_readPair FO_M_pair
  rw [show (1 : Int32) = nI 1 from rfl, show nI x + nI 1 = nI (x + 1) from nI_add x 1, h10]
  by_cases c2 : kd k = 2
  · by_cases cr : nI 1 ≤ vl k ∧ vl k ≤ nI hi
    · have kN : k < N := kd_lt hN hX c2 (by decide)
      obtain ⟨v, hv1, hv, ev⟩ := rng1 (hi := hi) (by omega) cr.1 cr.2
      obtain ⟨I1, a1, a2, a3, a4, a5, a6⟩ := x_num2 (fu := fu) (lo := 1) (hi := hi) (L := L) hX c2 kN cr.1 cr.2
      obtain ⟨J1, K1, g1, g2, g3⟩ := mf.1 v c2 kN ev hv1 hv
      have iw := m_isW (fu := fu) (i := wi) g2 hwi rfl
      have f1 : FrC t0 J J1 := FrC.tr ⟨fun o h1 h2 h3 => sJ_ne h2, fun i _ => by simp [sI_ap], fun y hy => by simp [sI_ap, show ¬ y = x + 1 by omega]⟩ g3.c
      rw [a1, g1]
      simp only [Option.bind_some]
      rw [if_neg i10, if_pos trivial]
      by_cases cw : kd (k + 1) = nI (30 + wi)
      · have kN1 : k + 1 < N := kd_lt hN a2 cw (nI_ne0 (by omega) (by omega))
        obtain ⟨I2, b1, b2, b3, b4, b5, b6⟩ := x_pass2 (fu := fu) (w := nI (30 + wi)) (L := L) a2 cw kN1
        obtain ⟨J2, K2, e1, e2, e3⟩ := nx J1 K1 (k + 1) kN1 g2
        have mf2 := m_fig nx (x := x + 2) (lo := lo2) (hi := hi2) e2 (by omega) (by omega) hhi2.1 hhi2.2
        have hn2 : I2 308 0 = nI n := by rw [b6, a6]; exact hn
        obtain ⟨I3, d1, d2, d3, d4, d5, d6, d7, d8⟩ := x_clause (fu := fu) (a := s) (b := vl k) (c := vl (k + 1 + 1)) (L := L) b2 hn2 hn4
        have f2 : FrC t0 J J2 := f1.tr e3.c
        rw [b1, iw.1 cw]
        simp only [Option.bind_some]
        rw [if_neg i10, if_neg i10, e1, b2.2.2.2.1, d1]
        simp only [Option.bind_some]
        rw [show nI x + 2 = nI (x + 2) from nI_add x 2]
        by_cases c22 : kd (k + 1 + 1) = 2
        · by_cases cr2 : nI lo2 ≤ vl (k + 1 + 1) ∧ vl (k + 1 + 1) ≤ nI hi2
          · right
            have kN2 : k + 1 + 1 < N := kd_lt hN b2 c22 (by decide)
            obtain ⟨v2, hv2, ev2⟩ := rng (hi := hi2) (by omega) (Int32.le_trans (nI_pos' (by omega)) cr2.1) cr2.2
            have hv3 : lo2 ≤ v2 := (nI_leI (by omega) (by omega)).mp (by rw [← ev2]; exact cr2.1)
            obtain ⟨I4, l1, l2, l3, l4, l5, l6⟩ := x_num2 (fu := fu) (lo := lo2) (hi := hi2) (L := L) d2 c22 kN2 cr2.1 cr2.2
            obtain ⟨J3, K3, m1, m2, m3⟩ := mf2.1 v2 c22 kN2 ev2 hv3 hv2
            rw [l1, m1]
            have rw0 : RwX I2 I4 n s (nI v) (nI v2) := RwX.x ⟨d3, d4, d5, by rw [ev, ev2] at d6; exact d6, d7⟩ l3 l4 l5
            refine ⟨I4, J3, K3, k + 1 + 1 + 1, nI v, nI v2, rfl, l2, by omega, RwX.y (a3.tr b3) (b4.trans a4) (b5.trans a5) rw0, rfl, m2, f2.tr (FrC.tr ⟨fun o h1 h2 h3 => sJ_ne h2, fun i _ => by simp [sI_ap], fun y hy => by simp [sI_ap, show ¬ y = x + 2 by omega]⟩ m3.c), fun i h1 h2 h3 h4 => ?_, fun y h1 h2 => ?_, v, v2, ⟨hv1, hv, hv3, hv2⟩, rfl, rfl, ?_, ?_⟩
            · rw [m3.2 i h1 h2 h3 h4, sI_ap, if_neg (by omega), e3.2 i h1 h2 h3 h4, g3.2 i h1 h2 h3 h4, sI_ap, if_neg (by omega)]
            · rw [m3.1 334 (by omega), sI_ap, if_pos rfl, if_neg h2, e3.1 334 (by omega), g3.1 334 (by omega), sI_ap, if_pos rfl, if_neg h1]
            · rw [m3.1 334 (by omega), sI_ap, if_pos rfl, if_neg (by omega), e3.1 334 (by omega), g3.1 334 (by omega), sI_ap, if_pos rfl, if_pos rfl]
            · rw [m3.1 334 (by omega), sI_ap, if_pos rfl, if_pos rfl]
          · left
            obtain ⟨I4, l1, l2⟩ := (x_passN (fu := fu) (lo := lo2) (hi := hi2) (L := L) d2).2.1 c22 cr2
            rw [l1, mf2.2.1 c22 cr2]
            exact ⟨2, k + 1 + 1, I4, J2, K2, rfl, by omega, (a3.tr b3).d.tr (d3.tr l2.d.1), l2.d.2, rfl, e2.2.2.2.1, f2⟩
        · left
          obtain ⟨I4, l1, l2⟩ := (x_passN (fu := fu) (lo := lo2) (hi := hi2) (L := L) d2).2.2 c22
          rw [l1, mf2.2.2 c22]
          exact ⟨1, k + 1 + 1, I4, J2, K2, rfl, by omega, (a3.tr b3).d.tr (d3.tr l2.d.1), l2.d.2, rfl, e2.2.2.2.1, f2⟩
      · left
        obtain ⟨I2, b1, b2⟩ := (x_pass (fu := fu) (w := nI (30 + wi)) (L := L) a2).2 cw
        rw [b1, iw.2 cw]
        exact ⟨1, k + 1, I2, J1, K1, rfl, by omega, a3.d.tr b2.d.1, b2.d.2, rfl, g2.2.2.2.1, f1⟩
    · left
      obtain ⟨I2, b1, b2⟩ := (x_passN (fu := fu) (lo := 1) (hi := hi) (L := L) hX).2.1 c2 cr
      rw [b1, mf.2.1 c2 cr]
      exact ⟨2, k, I2, J, K, rfl, by omega, b2.d.1, b2.d.2, rfl, hm.2.2.2.1, FrC.rf⟩
  · left
    obtain ⟨I2, b1, b2⟩ := (x_passN (fu := fu) (lo := 1) (hi := hi) (L := L) hX).2.2 c2
    rw [b1, mf.2.2 c2]
    exact ⟨1, k, I2, J, K, rfl, by omega, b2.d.1, b2.d.2, rfl, hm.2.2.2.1, FrC.rf⟩
/-- a deed, read by both -/
theorem d_deed (hN : kd N = 0) (nx : NX kd vl sp tp en len N fu) {I J : TI} {L K : TL} {k q n x s r : Nat} (hX : XS kd vl sp N I k q) (hm : MK kd vl sp tp en len J K k) (hn : I 308 0 = nI n) (hn4 : n < 24) (hx : x + 2 < 2724) (hx0 : t0 ≤ x) (hs : (s = 40 ∧ r = 2) ∨ (s = 41 ∧ r = 3) ∨ (s = 42 ∧ r = 4) ∨ (s = 43 ∧ r = 5) ∨ (s = 44 ∧ r = 6) ∨ (s = 30 ∧ r = 7)) : DBad sp t0 (FO_R_readDeed fu (nI s) I L) (FO_M_body fu (nI r) (nI x) J K) I L J ∨ DGood kd vl sp tp en len N t0 (FO_R_readDeed fu (nI s) I L) (FO_M_body fu (nI r) (nI x) J K) I L J k q n x (fun b c a d => CLR (nI s) b c (nI r) a d) (nI s) := by
  have wrap : ∀ {cl mo cl' mo' : Option (Int32 × TI × TL)} {P Q : Int32 → Int32 → Int32 → Int32 → Prop}, (DBad sp t0 cl mo I L J ∨ DGood kd vl sp tp en len N t0 cl mo I L J k q n x P (nI s)) → (∀ b c a d, P b c a d → Q b c a d) → cl' = (cl.bind fun u => if u.1 = 0 ∨ u.1 = 1 then some (u.1, u.2.1, u.2.2) else none) → mo' = mo → (DBad sp t0 cl' mo' I L J ∨ DGood kd vl sp tp en len N t0 cl' mo' I L J k q n x Q (nI s)) := by
    intro cl mo cl' mo' P Q h hPQ e1 e2
    subst e1
    subst e2
    rcases h with ⟨e, kx, I', J', K', h1, h2⟩ | ⟨I', J', K', k', b, c, h1, h2, h3, h4, h5, h6, h7, h8, h9, h10⟩
    · exact Or.inl ⟨e, kx, I', J', K', by rw [h1]; rfl, h2⟩
    · exact Or.inr ⟨I', J', K', k', b, c, by rw [h1]; rfl, h2, h3, h4, h5, h6, h7, h8, h9, hPQ _ _ _ _ h10⟩
  have be : ∀ y : Option (Int32 × TI × TL), (y.bind fun u => some (u.1, u.2.1, u.2.2)) = y := fun y => bind_eta y
  unfold FO_R_readDeed FO_M_body
  rcases hs with ⟨rfl, rfl⟩ | ⟨rfl, rfl⟩ | ⟨rfl, rfl⟩ | ⟨rfl, rfl⟩ | ⟨rfl, rfl⟩ | ⟨rfl, rfl⟩
  · refine wrap (d_pair (hi := 9) (wi := 4) (lo2 := 1) (hi2 := 12) hN nx hX hm hn hn4 hx hx0 (by omega) (by omega) (by omega)) (fun b c a d h => ?_) (by rw [if_neg (show ¬ nI 40 = 30 by decide), if_pos (show nI 40 = 40 from rfl)]; rfl) (by rw [if_pos (show nI 2 = 2 from rfl), ww4]; simp only [Option.bind_some, be]; rfl)
    exact Or.inr (Or.inr (Or.inl ⟨rfl, rfl, h⟩))
  · refine wrap (d_pair (hi := 3) (wi := 25) (lo2 := 0) (hi2 := 5) hN nx hX hm hn hn4 hx hx0 (by omega) (by omega) (by omega)) (fun b c a d h => ?_) (by rw [if_neg (show ¬ nI 41 = 30 by decide), if_neg (show ¬ nI 41 = 40 by decide), if_pos (show nI 41 = 41 from rfl)]; rfl) (by rw [if_neg (show ¬ nI 3 = 2 by decide), if_pos (show nI 3 = 3 from rfl), ww25]; simp only [Option.bind_some, be]; rfl)
    obtain ⟨m, m2, h1, h2⟩ := h
    exact Or.inr (Or.inr (Or.inr (Or.inl ⟨rfl, rfl, m, m2, by omega, h2⟩)))
  · refine wrap (d_pair (hi := 3) (wi := 25) (lo2 := 0) (hi2 := 5) hN nx hX hm hn hn4 hx hx0 (by omega) (by omega) (by omega)) (fun b c a d h => ?_) (by rw [if_neg (show ¬ nI 42 = 30 by decide), if_neg (show ¬ nI 42 = 40 by decide), if_neg (show ¬ nI 42 = 41 by decide), if_pos (show nI 42 = 42 from rfl)]; rfl) (by rw [if_neg (show ¬ nI 4 = 2 by decide), if_neg (show ¬ nI 4 = 3 by decide), if_pos (show nI 4 = 4 from rfl), ww25]; simp only [Option.bind_some, be]; rfl)
    obtain ⟨m, m2, h1, h2⟩ := h
    exact Or.inr (Or.inr (Or.inr (Or.inr (Or.inl ⟨rfl, rfl, m, m2, by omega, h2⟩))))
  · refine wrap (d_single (hi := 12) hN nx hX hm hn hn4 hx hx0 (by omega)) (fun b c a d h => ?_) (by rw [if_neg (show ¬ nI 43 = 30 by decide), if_neg (show ¬ nI 43 = 40 by decide), if_neg (show ¬ nI 43 = 41 by decide), if_neg (show ¬ nI 43 = 42 by decide)]; rfl) (by rw [if_neg (show ¬ nI 5 = 2 by decide), if_neg (show ¬ nI 5 = 3 by decide), if_neg (show ¬ nI 5 = 4 by decide), if_pos (show nI 5 = 5 from rfl), nI_1, be]; rfl)
    exact Or.inr (Or.inr (Or.inr (Or.inr (Or.inr (Or.inl ⟨rfl, rfl, h⟩)))))
  · refine wrap (d_single (hi := 12) hN nx hX hm hn hn4 hx hx0 (by omega)) (fun b c a d h => ?_) (by rw [if_neg (show ¬ nI 44 = 30 by decide), if_neg (show ¬ nI 44 = 40 by decide), if_neg (show ¬ nI 44 = 41 by decide), if_neg (show ¬ nI 44 = 42 by decide)]; rfl) (by rw [if_neg (show ¬ nI 6 = 2 by decide), if_neg (show ¬ nI 6 = 3 by decide), if_neg (show ¬ nI 6 = 4 by decide), if_neg (show ¬ nI 6 = 5 by decide), if_pos (show nI 6 = 6 from rfl), nI_1, be]; rfl)
    exact Or.inr (Or.inr (Or.inr (Or.inr (Or.inr (Or.inr (Or.inl ⟨rfl, rfl, h⟩))))))
  · refine wrap (d_single (hi := 60) hN nx hX hm hn hn4 hx hx0 (by omega)) (fun b c a d h => ?_) (by rw [if_pos (show nI 30 = 30 from rfl)]; rfl) (by rw [if_neg (show ¬ nI 7 = 2 by decide), if_neg (show ¬ nI 7 = 3 by decide), if_neg (show ¬ nI 7 = 4 by decide), if_neg (show ¬ nI 7 = 5 by decide), if_neg (show ¬ nI 7 = 6 by decide), if_pos (show nI 7 = 7 from rfl), nI_1, be]; rfl)
    exact Or.inr (Or.inr (Or.inr (Or.inr (Or.inr (Or.inr (Or.inr ⟨rfl, rfl, h⟩))))))
end
