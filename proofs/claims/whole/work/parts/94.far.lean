/-! the model's table of treads -/
theorem Hd.kk {fu l p r : Nat} {up : Int32} {I J J' : TI} {K : TL} (hfu : 2000 ≤ fu) (hR : LR I J) (hl : l < 6) (hp : p ≤ 12) (h : Hd fu l p up I J r) (s : ScJ J J') : ∃ J'' K', FO_M_heardAt fu (nI l) (nI p) up J' K = some (nI r, J'', K') ∧ ScK J' J'' := by
  obtain ⟨r', I1, J1, K1, hr', a', b', s1, s2, s3⟩ := loudK (fu := fu) (l := l) (p := p) (up := up) (L := fun _ _ => 0) (K := K) hfu (hR.sc ScI.rf s) hl hp
  obtain ⟨J2, K2, e, s4⟩ := h.2.2 J' K s
  rw [e] at b'
  have q := Option.some.inj b'
  refine ⟨J2, K2, e, ?_⟩
  have q2 : J2 = J1 := congrArg (fun z => z.2.1) q
  rw [q2]
  exact s2
theorem Hd.z {fu l r : Nat} {up : Int32} {I J : TI} (h : Hd fu l 0 up I J r) : r = 0 := by
  obtain ⟨J2, K2, e, s4⟩ := h.2.2 J (fun _ _ => 0) ScJ.rf
  unfold FO_M_heardAt at e
  rw [m_cup] at e
  simp only [Option.bind_some] at e
  rw [if_pos (show hcp (J 332 10) (nI 0) = 0 by unfold hcp; rw [if_neg (by decide)])] at e
  have q : (0 : Int32) = nI r := congrArg (fun z => (z.getD (0, J, fun _ _ => 0)).1) e
  have := h.1
  exact ((nI_eq (a := 0) (by omega) (by omega)).mp q).symm
theorem df13 : ∀ a, a < 13 → ∀ b, b < 13 → (((-3 : Int32) ≤ nI b - nI a ∧ nI b - nI a ≤ 3) ↔ (a ≤ b + 3 ∧ b ≤ a + 3)) := by decide +kernel
theorem m_step {fu l a b : Nat} {rU rD : Nat → Nat} {I J J' : TI} {K : TL} (hfu : 2000 ≤ fu) (hR : LR I J) (hl : l < 6) (hU : ∀ p, p ≤ 12 → Hd fu l p 1 I J (rU p)) (hD : ∀ p, p ≤ 12 → Hd fu l p 0 I J (rD p)) (ha : a < 13) (hb : b < 13) (s : ScJ J J') : ∃ J'' K', ScK J' J'' ∧ ((FO_M_isStep fu (nI l) (nI a) (nI b) J' K = some (1, J'', K') ∧ Qs rU rD a b) ∨ (FO_M_isStep fu (nI l) (nI a) (nI b) J' K = some (0, J'', K') ∧ ¬ Qs rU rD a b)) := by
  unfold FO_M_isStep
  by_cases c : a = b
  · refine ⟨J', K, ScK.rf, Or.inr ⟨?_, fun y => y.1 c⟩⟩
    rw [if_pos (by rw [c])]
  · rw [if_neg (fun y => c ((nI_eq (by omega) (by omega)).mp y))]
    by_cases c2 : a ≤ b + 3 ∧ b ≤ a + 3
    · rw [if_pos ((df13 a ha b hb).mpr c2)]
      by_cases c3 : b ≤ a
      · obtain ⟨J2, K2, g1, g2⟩ := Hd.kk (K := K) hfu hR hl (by omega) (hD b (by omega)) s
        refine ⟨J2, K2, g2, ?_⟩
        rw [if_pos (nI_le c3 (by omega)), g1]
        simp only [Option.bind_some]
        have := (hD b (by omega)).1
        by_cases c4 : rD b = 0
        · rw [if_pos (by rw [c4]; rfl)]
          exact Or.inl ⟨rfl, c, c2.1, c2.2, Or.inl ⟨c3, c4⟩⟩
        · rw [if_neg (nI_ne0 (by omega) (by omega))]
          refine Or.inr ⟨rfl, fun y => ?_⟩
          rcases y.2.2.2 with y | y
          · exact c4 y.2
          · omega
      · obtain ⟨J2, K2, g1, g2⟩ := Hd.kk (K := K) hfu hR hl (by omega) (hU b (by omega)) s
        refine ⟨J2, K2, g2, ?_⟩
        rw [if_neg (nI_ge (by omega) (by omega)), g1]
        simp only [Option.bind_some]
        have := (hU b (by omega)).1
        by_cases c4 : rU b = 0
        · rw [if_pos (by rw [c4]; rfl)]
          exact Or.inl ⟨rfl, c, c2.1, c2.2, Or.inr ⟨by omega, c4⟩⟩
        · rw [if_neg (nI_ne0 (by omega) (by omega))]
          refine Or.inr ⟨rfl, fun y => ?_⟩
          rcases y.2.2.2 with y | y
          · omega
          · exact c4 y.2
    · rw [if_neg (fun y => c2 ((df13 a ha b hb).mp y))]
      exact ⟨J', K, ScK.rf, Or.inr ⟨rfl, fun y => c2 ⟨y.2.1, y.2.2.1⟩⟩⟩
/-- what a table holds: lengths of walks, or nothing -/
def Vg (Q : Nat → Nat → Prop) (z : Nat) (w : Nat → Int32) (v : Nat → Nat) : Prop := ∀ t, t < 13 → w t = nI (v t) ∧ v t ≤ 1000000 ∧ (v t = 1000000 ∨ Rn Q z (v t) t)
def Cp (Q : Nat → Nat → Prop) (z : Nat) (v : Nat → Nat) (k t : Nat) : Prop := ∀ m, m ≤ k → Rn Q z m t → v t ≤ m
theorem mrow {fu l z a k : Nat} {x2 x3 : Int32} {rU rD : Nat → Nat} {I J : TI} {k34 : Int32 → Int32 → Int32 → TI → TL → Option (Unit × TI × TL)} {k43 : Int32 → Int32 → Int32 → Int32 → TI → TL → Option (Unit × TI × TL)} (hfu : 2000 ≤ fu) (hR : LR I J) (hl : l < 6) (hU : ∀ p, p ≤ 12 → Hd fu l p 1 I J (rU p)) (hD : ∀ p, p ≤ 12 → Hd fu l p 0 I J (rD p)) (ha : a < 13) : ∀ (j b f : Nat) (J' : TI) (K : TL) (v : Nat → Nat), b + j = 13 → j < f → ScJ J J' → Vg (Qs rU rD) z (J' 341) v → (∀ t, t < 13 → Cp (Qs rU rD) z v k t) → (∀ t, t < a → Cp (Qs rU rD) z v (k + 1) t) → (∀ b', b' < b → Qs rU rD a b' → ∀ m, m ≤ k → Rn (Qs rU rD) z m b' → v a ≤ m + 1) → ∃ J'' K' v', LO_M_layFar_53 fu k34 k43 f (nI l) x2 x3 (nI a) (nI b) J' K = k43 (nI l) x2 x3 (nI (a + 1)) J'' K' ∧ ScJ J J'' ∧ Vg (Qs rU rD) z (J'' 341) v' ∧ (∀ t, t < 13 → Cp (Qs rU rD) z v' k t) ∧ (∀ t, t < a + 1 → Cp (Qs rU rD) z v' (k + 1) t) := by
  intro j
  induction j with
  | zero =>
    intro b f J' K v hb hf hs hv hc h1 h2
    obtain ⟨f, rfl⟩ : ∃ z, f = z + 1 := ⟨f - 1, by omega⟩
    have : b = 13 := by omega
    subst this
    refine ⟨J', K, v, ?_, hs, hv, hc, fun t ht => ?_⟩
    · rw [LO_M_layFar_53, if_pos (by decide), show nI a + 1 = nI (a + 1) from nI_1 ..]
    · by_cases e : t = a
      · subst e
        intro m hm hr
        by_cases e0 : m ≤ k
        · exact hc t ha m e0 hr
        · obtain ⟨m', rfl⟩ : ∃ m', m = m' + 1 := ⟨m - 1, by omega⟩
          obtain ⟨q, q1, q2, q3⟩ := hr
          exact h2 q q1 q2 m' (by omega) q3
      · exact h1 t (by omega)
  | succ j ih =>
    intro b f J' K v hb hf hs hv hc h1 h2
    obtain ⟨f, rfl⟩ : ∃ z, f = z + 1 := ⟨f - 1, by omega⟩
    have ba : (0 : Int32) ≤ nI a ∧ nI a < 13 := ib (n := 13) rfl (by omega) (by omega)
    have bb : (0 : Int32) ≤ nI b ∧ nI b < 13 := ib (n := 13) rfl (by omega) (by omega)
    obtain ⟨va, va2, va3⟩ := hv a ha
    obtain ⟨vb, vb2, vb3⟩ := hv b (by omega)
    have n1 : nI b + 1 = nI (b + 1) := nI_1 ..
    rw [LO_M_layFar_53, if_neg (show ¬ (12 : Int32) < nI b from nI_nlt (a := 12) (by omega) (by omega)), if_pos bb, if_pos ba, nI_clamp (show a < 2 ^ 31 by omega), nI_clamp (show b < 2 ^ 31 by omega), va, vb, show nI (v b) + 1 = nI (v b + 1) from nI_1 .., n1]
    by_cases c : v a ≤ v b + 1
    · rw [if_pos (nI_le c (by omega))]
      refine ih (b + 1) f J' K v (by omega) (by omega) hs hv hc h1 (fun b' hb' hq m hm hr => ?_)
      by_cases e : b' = b
      · subst e
        have := hc b' (by omega) m hm hr
        omega
      · exact h2 b' (by omega) hq m hm hr
    · rw [if_neg (nI_ge (by omega) (by omega))]
      obtain ⟨J2, K2, s2, g⟩ := m_step (K := K) (a := a) (b := b) hfu hR hl hU hD ha (by omega) hs
      have j341 : J2 341 = J' 341 := s2 341 (by omega) (by omega)
      rcases g with ⟨g1, g2⟩ | ⟨g1, g2⟩
      · rw [g1]
        simp only [Option.bind_some]
        rw [if_neg i10, if_pos bb, if_pos ba, j341, vb, show nI (v b) + 1 = nI (v b + 1) from nI_1 ..]
        have up : ∀ t, (fun t => if t = a then v b + 1 else v t) t ≤ v t := fun t => by
          dsimp only
          by_cases e : t = a
          · subst e; rw [if_pos rfl]; omega
          · rw [if_neg e]; exact Nat.le_refl _
        refine ih (b + 1) f _ K2 (fun t => if t = a then v b + 1 else v t) (by omega) (by omega) ((hs.tr s2.j).tr (ScJ.one (c := 341) (by omega) (fun o ho => sJ_ne ho))) (fun t ht => ?_) (fun t ht m hm hr => Nat.le_trans (up t) (hc t ht m hm hr)) (fun t ht m hm hr => Nat.le_trans (up t) (h1 t ht m hm hr)) (fun b' hb' hq m hm hr => ?_)
        · rw [sI_ap, if_pos rfl]
          dsimp only
          by_cases e : t = a
          · subst e
            rw [if_pos rfl, if_pos rfl]
            refine ⟨rfl, by omega, Or.inr ⟨b, by omega, g2, ?_⟩⟩
            rcases vb3 with y | y
            · omega
            · exact y
          · rw [if_neg e, if_neg e, j341]
            exact hv t ht
        · by_cases e : b' = b
          · subst e
            have := hc b' (by omega) m hm hr
            show (if a = a then v b' + 1 else v a) ≤ m + 1
            rw [if_pos rfl]; omega
          · exact Nat.le_trans (up a) (h2 b' (by omega) hq m hm hr)
      · rw [g1]
        simp only [Option.bind_some]
        rw [if_pos trivial]
        refine ih (b + 1) f J2 K2 v (by omega) (by omega) (hs.tr s2.j) (by rw [j341]; exact hv) hc h1 (fun b' hb' hq m hm hr => ?_)
        by_cases e : b' = b
        · subst e; exact absurd hq g2
        · exact h2 b' (by omega) hq m hm hr
theorem mrows {fu l z k : Nat} {x2 x3 : Int32} {rU rD : Nat → Nat} {I J : TI} {k34 : Int32 → Int32 → Int32 → TI → TL → Option (Unit × TI × TL)} (hfu : 2000 ≤ fu) (hR : LR I J) (hl : l < 6) (hU : ∀ p, p ≤ 12 → Hd fu l p 1 I J (rU p)) (hD : ∀ p, p ≤ 12 → Hd fu l p 0 I J (rD p)) : ∀ (j a f : Nat) (J' : TI) (K : TL) (v : Nat → Nat), a + j = 13 → j < f → ScJ J J' → Vg (Qs rU rD) z (J' 341) v → (∀ t, t < 13 → Cp (Qs rU rD) z v k t) → (∀ t, t < a → Cp (Qs rU rD) z v (k + 1) t) → ∃ J'' K' v', LO_M_layFar_43 fu k34 f (nI l) x2 x3 (nI a) J' K = k34 (nI l) x2 (x3 + 1) J'' K' ∧ ScJ J J'' ∧ Vg (Qs rU rD) z (J'' 341) v' ∧ (∀ t, t < 13 → Cp (Qs rU rD) z v' (k + 1) t) := by
  intro j
  induction j with
  | zero =>
    intro a f J' K v ha hf hs hv hc h1
    obtain ⟨f, rfl⟩ : ∃ z, f = z + 1 := ⟨f - 1, by omega⟩
    have : a = 13 := by omega
    subst this
    refine ⟨J', K, v, ?_, hs, hv, h1⟩
    rw [LO_M_layFar_43, if_pos (by decide)]
  | succ j ih =>
    intro a f J' K v ha hf hs hv hc h1
    obtain ⟨f, rfl⟩ : ∃ z, f = z + 1 := ⟨f - 1, by omega⟩
    obtain ⟨J1, K1, v1, a1, a2, a3, a4, a5⟩ := mrow (fu := fu) (l := l) (z := z) (a := a) (k := k) (x2 := x2) (x3 := x3) (k34 := k34) (k43 := fun x1 x2 x3 x4 I L => LO_M_layFar_43 fu k34 f x1 x2 x3 x4 I L) hfu hR hl hU hD (by omega) 13 0 fu J' K v (by omega) (by omega) hs hv hc h1 (fun b' h => by omega)
    obtain ⟨J2, K2, v2, b1, b2, b3, b4⟩ := ih (a + 1) f J1 K1 v1 (by omega) (by omega) a2 a3 a4 a5
    refine ⟨J2, K2, v2, ?_, b2, b3, b4⟩
    rw [LO_M_layFar_43, if_neg (show ¬ (12 : Int32) < nI a from nI_nlt (a := 12) (by omega) (by omega))]
    exact a1.trans b1
theorem mswp {fu l z : Nat} {x2 : Int32} {rU rD : Nat → Nat} {I J : TI} (hfu : 2000 ≤ fu) (hR : LR I J) (hl : l < 6) (hU : ∀ p, p ≤ 12 → Hd fu l p 1 I J (rU p)) (hD : ∀ p, p ≤ 12 → Hd fu l p 0 I J (rD p)) : ∀ (j k f : Nat) (J' : TI) (K : TL) (v : Nat → Nat), k + j = 12 → j < f → ScJ J J' → Vg (Qs rU rD) z (J' 341) v → (∀ t, t < 13 → Cp (Qs rU rD) z v k t) → ∃ J'' K' v', LO_M_layFar_34 fu f (nI l) x2 (nI k) J' K = some ((), J'', K') ∧ ScJ J J'' ∧ Vg (Qs rU rD) z (J'' 341) v' ∧ (∀ t, t < 13 → Cp (Qs rU rD) z v' 12 t) := by
  intro j
  induction j with
  | zero =>
    intro k f J' K v hk hf hs hv hc
    obtain ⟨f, rfl⟩ : ∃ z, f = z + 1 := ⟨f - 1, by omega⟩
    have : k = 12 := by omega
    subst this
    refine ⟨J', K, v, ?_, hs, hv, hc⟩
    rw [LO_M_layFar_34, if_pos (by decide)]
  | succ j ih =>
    intro k f J' K v hk hf hs hv hc
    obtain ⟨f, rfl⟩ : ∃ z, f = z + 1 := ⟨f - 1, by omega⟩
    obtain ⟨J1, K1, v1, a1, a2, a3, a4⟩ := mrows (fu := fu) (l := l) (z := z) (k := k) (x2 := x2) (x3 := nI k) (k34 := fun x1 x2 x3 I L => LO_M_layFar_34 fu f x1 x2 x3 I L) hfu hR hl hU hD 13 0 fu J' K v (by omega) (by omega) hs hv hc (fun t h => by omega)
    obtain ⟨J2, K2, v2, b1, b2, b3, b4⟩ := ih (k + 1) f J1 K1 v1 (by omega) (by omega) a2 a3 a4
    refine ⟨J2, K2, v2, ?_, b2, b3, b4⟩
    rw [LO_M_layFar_34, if_neg (show ¬ (12 : Int32) ≤ nI k from nI_ge (b := 12) (by omega) (by omega))]
    refine Eq.trans a1 ?_
    rw [show nI k + 1 = nI (k + 1) from nI_1 ..]
    exact b1
theorem mini {fu z : Nat} {x1 : Int32} {K : TL} (hz : z < 13) : ∀ (j t f : Nat) (J : TI), t + j = 13 → j < f → (∀ s, s < t → J 341 s = nI (if s = z then 0 else 1000000)) → ∃ J', LO_M_layFar_2 fu f x1 (nI z) (nI t) J K = LO_M_layFar_34 fu fu x1 (nI z) 0 J' K ∧ (∀ o, o ≠ 341 → J' o = J o) ∧ (∀ s, s < 13 → J' 341 s = nI (if s = z then 0 else 1000000)) := by
  intro j
  induction j with
  | zero =>
    intro t f J ht hf h
    obtain ⟨f, rfl⟩ : ∃ z, f = z + 1 := ⟨f - 1, by omega⟩
    have : t = 13 := by omega
    subst this
    refine ⟨J, ?_, fun _ _ => rfl, h⟩
    rw [LO_M_layFar_2, if_pos (by decide)]
  | succ j ih =>
    intro t f J ht hf h
    obtain ⟨f, rfl⟩ : ∃ z, f = z + 1 := ⟨f - 1, by omega⟩
    have bt : (0 : Int32) ≤ nI t ∧ nI t < 13 := ib (n := 13) rfl (by omega) (by omega)
    obtain ⟨J', r1, r2, r3⟩ := ih (t + 1) f (sI J 341 t (nI (if t = z then 0 else 1000000))) (by omega) (by omega) (fun s hs => by
      rw [sI_ap, if_pos rfl]
      by_cases e : s = t
      · subst e; rw [if_pos rfl]
      · rw [if_neg e]; exact h s (by omega))
    refine ⟨J', ?_, fun o ho => by rw [r2 o ho, sJ_ne ho], r3⟩
    rw [LO_M_layFar_2, if_neg (show ¬ (12 : Int32) < nI t from nI_nlt (a := 12) (by omega) (by omega)), if_pos bt, if_pos bt, nI_clamp (show t < 2 ^ 31 by omega), show nI t + 1 = nI (t + 1) from nI_1 .., ← r1]
    by_cases c : t = z
    · subst c
      rw [if_pos rfl, if_pos rfl]
      rfl
    · rw [if_neg (fun y => c ((nI_eq (by omega) (by omega)).mp y)), if_neg c]
      rfl
theorem m_far {fu l z : Nat} {rU rD : Nat → Nat} {I J : TI} {K : TL} (hfu : 2000 ≤ fu) (hR : LR I J) (hl : l < 6) (hU : ∀ p, p ≤ 12 → Hd fu l p 1 I J (rU p)) (hD : ∀ p, p ≤ 12 → Hd fu l p 0 I J (rD p)) (hz : z < 13) : ∃ J' K', FO_M_layFar fu (nI l) (nI z) J K = some ((), J', K') ∧ ScJ J J' ∧ (∀ t, t < 13 → (∃ m, m ≤ 12 ∧ LD (Qs rU rD) z m t ∧ J' 341 t = nI m) ∨ (J' 341 t = 1000000 ∧ ∀ m, ¬ Rn (Qs rU rD) z m t)) := by
  obtain ⟨J0, i1, i2, i3⟩ := mini (fu := fu) (z := z) (x1 := nI l) (K := K) hz 13 0 fu J (by omega) (by omega) (fun s hs => by omega)
  obtain ⟨J1, K1, v, a1, a2, a3, a4⟩ := mswp (fu := fu) (l := l) (z := z) (x2 := nI z) hfu hR hl hU hD 12 0 fu J0 K (fun s => if s = z then 0 else 1000000) (by omega) (by omega) (ScJ.one (c := 341) (by omega) i2) (fun t ht => by
    refine ⟨i3 t ht, ?_, ?_⟩
    · dsimp only
      by_cases e : t = z
      · rw [if_pos e]; omega
      · rw [if_neg e]; omega
    · dsimp only
      by_cases e : t = z
      · rw [if_pos e]; exact Or.inr e
      · rw [if_neg e]; exact Or.inl rfl) (fun t ht m hm hr => by
    have : m = 0 := by omega
    subst this
    have e : t = z := hr
    show (if t = z then 0 else 1000000) ≤ 0
    rw [if_pos e]; exact Nat.le_refl _)
  refine ⟨J1, K1, ?_, a2, fun t ht => ?_⟩
  · unfold FO_M_layFar
    exact i1.trans a1
  · obtain ⟨w1, w2, w3⟩ := a3 t ht
    rcases w3 with w3 | w3
    · right
      refine ⟨by rw [w1, w3]; rfl, fun m hr => ?_⟩
      obtain ⟨m', h1, h2⟩ := LD.ex m hr
      have h3 := h2.le12 ht
      have := a4 t ht m' h3 h2.1
      omega
    · left
      obtain ⟨m', h1, h2⟩ := LD.ex _ w3
      have h3 := h2.le12 ht
      have := a4 t ht m' h3 h2.1
      have e : v t = m' := by omega
      exact ⟨m', h3, h2, by rw [w1, e]⟩
