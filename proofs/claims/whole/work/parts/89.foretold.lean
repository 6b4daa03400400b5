/-! what is foretold: the model walks, and takes it back -/
def FrF (J J' : TI) : Prop := (∀ o, o ≠ 331 → o ≠ 332 → o ≠ 337 → o ≠ 339 → J' o = J o) ∧ (∀ i, (i < 7 ∨ 24 ≤ i) → J' 332 i = J 332 i) ∧ (∀ i, i ≠ 24 → J' 331 i = J 331 i)
theorem FrF.rf {J : TI} : FrF J J := ⟨fun _ _ _ _ _ => rfl, fun _ _ => rfl, fun _ _ => rfl⟩
theorem FrF.tr {J J' J'' : TI} (a : FrF J J') (b : FrF J' J'') : FrF J J'' := ⟨fun o h0 h1 h2 h3 => (b.1 o h0 h1 h2 h3).trans (a.1 o h0 h1 h2 h3), fun i h => (b.2.1 i h).trans (a.2.1 i h), fun i h => (b.2.2 i h).trans (a.2.2 i h)⟩
theorem FrF.ev {J J' : TI} (h : FrF J J') : EvJ J J' := ⟨fun o h0 h1 h2 => h.1 o h0 h1 (by omega) (by omega), h.2.2 4 (by omega), h.2.2 5 (by omega), h.2.2 6 (by omega), h.2.2 23 (by omega)⟩
theorem ScK.ff {J J' : TI} (h : ScK J J') : FrF J J' := ⟨fun o _ _ h2 h3 => h o h2 h3, fun i _ => by rw [h 332 (by omega) (by omega)], fun i _ => by rw [h 331 (by omega) (by omega)]⟩
theorem FrF.set {J : TI} {i : Nat} {v : Int32} (h : 7 ≤ i ∧ i < 24) : FrF J (sI J 332 i v) := ⟨fun o _ h1 _ _ => sJ_ne h1, fun k hk => by rw [sI_ap, if_pos rfl, if_neg (by omega)], fun k _ => by rw [sJ_ne (by omega)]⟩
theorem FrF.n24 {J : TI} {v : Int32} : FrF J (sI J 331 24 v) := ⟨fun o h1 _ _ _ => sJ_ne h1, fun k _ => by rw [sJ_ne (by omega)], fun k hk => by rw [sI_ap, if_pos rfl, if_neg hk]⟩
def gI (I : TI) (l q t : Nat) : TI := sI (sI I 3 l (nI q)) 4 l (nI (min (t + 1) 9999))
theorem go0 {fu l q t : Nat} {up n : Int32} {I J : TI} {K : TL} (hfu : 2000 ≤ fu) (hR : LR I J) (h23 : J 331 23 = 0) (hl : l < 6) (hq : q ≤ 12) (et : I 4 l = nI t) (ht : t ≤ 9999) (hu : (up = 0 ∧ I 3 l - n = nI q) ∨ (up = 1 ∧ I 3 l + n = nI q)) :
    ∃ (r : Nat) (J' : TI) (K' : TL), r ≤ 99 ∧ FO_M_treadNow fu (nI l) up n J K = some (nI r, J', K') ∧ LR (gI I l q t) J' ∧ FrF J J' := by
  obtain ⟨r, I1, J1, K1, hr, a1, a2, a3, a4⟩ := loudK (fu := fu) (l := l) (p := q) (up := up) (L := fun _ _ => 0) (K := K) hfu hR hl hq
  have R1 : LR I J1 := hR.sc ScI.rf a4.1.j
  have jt : J1 332 (13 + 2 * l) = nI t := (R1.s.f_tr l hl).trans et
  have jp : J 332 (12 + 2 * l) = I 3 l := hR.s.f_pl l hl
  have sA : SR (aN (gI I l q t)) (sI (sI J1 332 (12 + 2 * l) (nI q)) 332 (13 + 2 * l) (nI (min (t + 1) 9999)) 332) := by
    unfold gI
    rw [aN_sI 3 rfl, aN_sI 2 rfl, sJ_at, sJ_at]
    exact SR.set_tr (SR.set_pl R1.s hl ⟨q, hq, rfl⟩) hl ⟨_, by omega, rfl⟩
  have vA : EvI I (gI I l q t) := fun o h1 h2 => by unfold gI; rw [sJ_ne (by omega), sJ_ne (by omega)]
  have fA : FrF J (sI (sI J1 332 (12 + 2 * l) (nI q)) 332 (13 + 2 * l) (nI (min (t + 1) 9999))) := (a4.1.ff.tr (FrF.set (by omega))).tr (FrF.set (by omega))
  obtain ⟨Jb, hJb⟩ : ∃ Jb : TI, Jb = sI (sI J1 332 (12 + 2 * l) (nI q)) 332 (13 + 2 * l) (nI (min (t + 1) 9999)) := ⟨_, rfl⟩
  rw [← hJb] at sA fA
  have w0 : ∃ Jf, FrF Jb Jf ∧ Jf 332 = Jb 332 ∧ (if nI r ≤ 0 then some (nI r, Jb, K1) else ((FO_M_write fu (nI q) (nI r) Jb K1).bind (fun u7 => let r7 := u7.1; let I7 := u7.2.1; let L7 := u7.2.2; some (nI r, I7, L7)))) = some (nI r, Jf, K1) := by
    by_cases c : nI r ≤ 0
    · exact ⟨Jb, FrF.rf, rfl, if_pos c⟩
    · refine ⟨sI Jb 331 24 (Jb 331 24 + 1), FrF.n24, sJ_ne (by omega), ?_⟩
      rw [if_neg c]
      unfold FO_M_write
      rw [if_pos (by rw [fA.2.2 23 (by omega)]; exact h23)]
      rfl
  obtain ⟨Jf, f1, f2, w0⟩ := w0
  refine ⟨r, Jf, K1, hr, ?_, hR.ev (by rw [f2]; exact sA) vA (fA.tr f1).ev, fA.tr f1⟩
  have g1 : (12 : Int32) + 2 * nI l = nI (12 + 2 * l) := by rw [show (2 : Int32) = nI 2 from rfl, pk_mul]; exact nI_add 12 _
  have g2 : nI (12 + 2 * l) + 1 = nI (13 + 2 * l) := by rw [nI_1]; congr 1; omega
  have b1 : (0 : Int32) ≤ nI (12 + 2 * l) ∧ nI (12 + 2 * l) < 1541 := ib (n := 1541) rfl (by omega) (by omega)
  have b2 : (0 : Int32) ≤ nI (13 + 2 * l) ∧ nI (13 + 2 * l) < 1541 := ib (n := 1541) rfl (by omega) (by omega)
  have jt' : sI J1 332 (12 + 2 * l) (nI q) 332 (13 + 2 * l) = nI t := by
    rw [sI_ap, if_pos rfl, if_neg (by omega)]; exact jt
  unfold FO_M_treadNow
  rw [m_place hl, g1, g2]
  simp only [Option.bind_some]
  rw [jp]
  rcases hu with ⟨u2, u3⟩ | ⟨u2, u3⟩
  · rw [if_pos u2, u3, a2]
    simp only [Option.bind_some]
    rw [if_pos b1, nI_clamp (show 12 + 2 * l < 2 ^ 31 by omega), m_trod hl]
    simp only [Option.bind_some]
    rw [jt', nI_1, cut9 ht]
    simp only [Option.bind_some]
    rw [if_pos b2, nI_clamp (show 13 + 2 * l < 2 ^ 31 by omega), ← hJb]
    exact w0
  · rw [if_neg (by rw [u2]; exact i10), u3, a2]
    simp only [Option.bind_some]
    rw [if_pos b1, nI_clamp (show 12 + 2 * l < 2 ^ 31 by omega), m_trod hl]
    simp only [Option.bind_some]
    rw [jt', nI_1, cut9 ht]
    simp only [Option.bind_some]
    rw [if_pos b2, nI_clamp (show 13 + 2 * l < 2 ^ 31 by omega), ← hJb]
    exact w0
theorem walk0 {fu k : Nat} {p1 up n : Int32} {I J : TI} {K : TL} (hfu : 2000 ≤ fu) (hR : LR I J) (h23 : J 331 23 = 0) (hk : k < 6) (hlo : F_X_isLodger I (nI k) = 1) (hn : 1 ≤ n ∧ n ≤ 3) (hu : (p1 = -n ∧ up = 0) ∨ (p1 = n ∧ up = 1)) :
    ∃ I' J' K', ((FO_M_canTread fu (nI k) up n J K).bind (fun u => if u.1 = 0 then some ((), u.2.1, u.2.2) else (FO_M_treadNow fu (nI k) up n u.2.1 u.2.2).bind (fun v => if 0 ≤ v.1 then some ((), v.2.1, v.2.2) else some ((), sI v.2.1 332 9 0, v.2.2)))) = some ((), J', K') ∧ LR I' J' ∧ FrF J J' ∧ (((0 ≤ I 3 k + p1 ∧ I 3 k + p1 ≤ 12) ∧ ∃ q t : Nat, q ≤ 12 ∧ t ≤ 9999 ∧ I 3 k + p1 = nI q ∧ I 4 k = nI t ∧ I' = gI I k q t) ∨ (¬ (0 ≤ I 3 k + p1 ∧ I 3 k + p1 ≤ 12) ∧ I' = I)) := by
  have xc : FO_X_canGo fu (nI k) p1 I (fun _ _ => 0) = if 0 ≤ I 3 k + p1 ∧ I 3 k + p1 ≤ 12 then some (1, I, fun _ _ => 0) else some (0, I, fun _ _ => 0) := by
    unfold FO_X_canGo
    rw [hlo, if_neg i10, if_pos (show (0 : Int32) ≤ nI k ∧ nI k < 6 from ib (n := 6) rfl hk (by omega)), nI_clamp (show k < 2 ^ 31 by omega)]
  rcases can2 (fu := fu) (p := nI k) (p1 := p1) (up := up) (n := n) (L := fun _ _ => 0) (K := K) hR.s hn hu with ⟨a1, a2⟩ | ⟨a1, a2, k', q, hk', hq, e0, e1, hu'⟩
  · refine ⟨I, J, K, ?_, hR, FrF.rf, Or.inr ⟨fun c => ?_, rfl⟩⟩
    · rw [a2]
      simp only [Option.bind_some]
      rw [if_pos trivial]
    · rw [if_pos c, a1] at xc
      have := congrArg (fun z => (z.getD (0, I, fun _ _ => 0)).1) xc
      have this : (0 : Int32) = 1 := this
      exact absurd this (by decide)
  · have ek : k' = k := ((nI_eq (by omega) (by omega)).mp e0).symm
    subst ek
    obtain ⟨t, ht, et⟩ := (hR.s.ho.1.2.2.2.2.2.1 k' hk).2
    have et : I 4 k' = nI t := et
    obtain ⟨r, J', K', hr, g1, g2, g3⟩ := go0 (fu := fu) (l := k') (q := q) (t := t) (up := up) (n := n) (K := K) hfu hR h23 hk hq et ht (hu'.imp (fun z => z.2) (fun z => z.2))
    refine ⟨_, J', K', ?_, g2, g3, Or.inl ⟨?_, q, t, hq, ht, e1, et, rfl⟩⟩
    · rw [a2]
      simp only [Option.bind_some]
      rw [if_neg i10, g1]
      simp only [Option.bind_some]
      rw [if_pos (nI_pos' (by omega))]
    · rw [e1]
      exact ⟨nI_pos' (by omega), nI_le (b := 12) hq (by omega)⟩
/-- one lodger's turn within an hour -/
theorem turn0 {fu k c n pl tr x : Nat} {x1 x3 x7 x8 : Int32} {I J I0 : TI} {L K : TL} {kk : Int32 → Int32 → Int32 → Int32 → Int32 → Int32 → Int32 → Int32 → TI → TL → Option (Int32 × TI × TL)} (hfu : 2000 ≤ fu) (hR : LR I J) (h23 : J 331 23 = 0) (hn : n ≤ 6) (hk : k < n) (hc : c < 6) (en : I 1 2 = nI n) (e0 : F_X_tenants I0 = nI n) (ep : I 3 c = nI pl) (et : I 4 c = nI tr) (ex : I 2 1 = nI x) (hx : x ≤ 30762) :
    ∃ pl' tr' I1 J1 K1, (∀ f, LO_X_foretold_109 fu kk (f + 1) x1 (nI c) x3 (nI pl) (nI tr) (nI x) x7 x8 (nI k) I0 L = LO_X_foretold_109 fu kk f x1 (nI c) x3 (nI pl') (nI tr') (nI (ax x)) x7 x8 (nI (k + 1)) I0 L) ∧ (∀ g, LO_M_pass_15 fu (g + 1) (nI k) J K = LO_M_pass_15 fu g (nI (k + 1)) J1 K1) ∧ LR I1 J1 ∧ FrF J J1 ∧ I1 2 0 = I 2 0 ∧ I1 1 2 = nI n ∧ I1 3 c = nI pl' ∧ I1 4 c = nI tr' ∧ I1 2 1 = nI (ax x) := by
  obtain ⟨n', hn', t1, t2, t3⟩ := ten hR.s
  have t2 : J 332 0 = nI n := t2.trans (t1.symm.trans en)
  have jx : J 332 8 = nI x := (hR.s.ho.2.1 1 (by omega)).trans ex
  have sA : SR (aN (sI I 2 1 (nI (ax x)))) (sI J 332 8 (nI (ax x)) 332) := by
    rw [aN_sI 1 rfl, sJ_at]
    exact SR.set_x hR.s ⟨ax x, ax_le x, rfl⟩
  have vA : EvI I (sI I 2 1 (nI (ax x))) := EvI.one (c := 2) (by omega) (fun o h => sJ_ne h)
  have fA : FrF J (sI J 332 8 (nI (ax x))) := FrF.set (by omega)
  have RA := hR.ev sA vA fA.ev
  have h23A : sI J 332 8 (nI (ax x)) 331 23 = 0 := by rw [sJ_ne (by omega)]; exact h23
  have enA : sI I 2 1 (nI (ax x)) 1 2 = nI n := by rw [sJ_ne (by omega)]; exact en
  have tA : F_X_tenants (sI I 2 1 (nI (ax x))) = nI n := by
    unfold F_X_tenants F_J_min
    rw [enA, if_neg (show ¬ (6 : Int32) < nI n from nI_nlt (a := 6) hn (by omega))]
  have lA := x_lod hn tA hk
  have i3 : sI I 2 1 (nI (ax x)) 3 = I 3 := sJ_ne (by omega)
  have i4 : sI I 2 1 (nI (ax x)) 4 = I 4 := sJ_ne (by omega)
  have i20 : sI I 2 1 (nI (ax x)) 2 0 = I 2 0 := by rw [sI_ap, if_pos rfl, if_neg (by omega)]
  have i21 : sI I 2 1 (nI (ax x)) 2 1 = nI (ax x) := by rw [sI_ap, if_pos rfl, if_pos rfl]
  have hd : iR (nI x) 4 = nI (x % 4) := pk_rem (d := 4) (by omega) (by omega) (by omega)
  have nk : ¬ nI n ≤ nI k := nI_ge (by omega) (by omega)
  have M : ∀ g J1 K1, FO_M_treadBy fu (nI k) (nI (x % 4)) (sI J 332 8 (nI (ax x))) K = some ((), J1, K1) → LO_M_pass_15 fu (g + 1) (nI k) J K = LO_M_pass_15 fu g (nI (k + 1)) J1 K1 := by
    intro g J1 K1 h
    rw [LO_M_pass_15, t2, if_neg nk, m_ax (by decide) hx jx, hd]
    simp only [Option.bind_some]
    rw [h, nI_1]
    rfl
  have mv : ∀ (p1 d up m : Int32), F_X_goesBy I0 d = p1 → ¬ p1 = 0 → ((d = 0 ∧ up = 1 ∧ m = 1) ∨ (d = 1 ∧ up = 1 ∧ m = 2) ∨ (d = 2 ∧ up = 0 ∧ m = 1)) → (1 ≤ m ∧ m ≤ 3) → ((p1 = -m ∧ up = 0) ∨ (p1 = m ∧ up = 1)) → nI (x % 4) = d → ∃ pl' tr' I1 J1 K1, (∀ f, LO_X_foretold_109 fu kk (f + 1) x1 (nI c) x3 (nI pl) (nI tr) (nI x) x7 x8 (nI k) I0 L = LO_X_foretold_109 fu kk f x1 (nI c) x3 (nI pl') (nI tr') (nI (ax x)) x7 x8 (nI (k + 1)) I0 L) ∧ (∀ g, LO_M_pass_15 fu (g + 1) (nI k) J K = LO_M_pass_15 fu g (nI (k + 1)) J1 K1) ∧ LR I1 J1 ∧ FrF J J1 ∧ I1 2 0 = I 2 0 ∧ I1 1 2 = nI n ∧ I1 3 c = nI pl' ∧ I1 4 c = nI tr' ∧ I1 2 1 = nI (ax x) := by
    intro p1 d up m hp hp0 hd3 hm hu ed
    obtain ⟨I1, J1, K1, w1, w2, w3, w4⟩ := walk0 (fu := fu) (k := k) (p1 := p1) (up := up) (n := m) (K := K) hfu RA h23A (by omega) lA hm hu
    have tb : FO_M_treadBy fu (nI k) (nI (x % 4)) (sI J 332 8 (nI (ax x))) K = some ((), J1, K1) := by rw [ed, tbd hd3]; exact w1
    have X : ∀ f, LO_X_foretold_109 fu kk (f + 1) x1 (nI c) x3 (nI pl) (nI tr) (nI x) x7 x8 (nI k) I0 L = (if nI k = nI c then (if 0 ≤ nI pl + p1 ∧ nI pl + p1 ≤ 12 then LO_X_foretold_109 fu kk f x1 (nI c) x3 (nI pl + p1) (F_J_min I0 (nI tr + 1) 9999) (nI (ax x)) x7 x8 (nI (k + 1)) I0 L else LO_X_foretold_109 fu kk f x1 (nI c) x3 (nI pl) (nI tr) (nI (ax x)) x7 x8 (nI (k + 1)) I0 L) else LO_X_foretold_109 fu kk f x1 (nI c) x3 (nI pl) (nI tr) (nI (ax x)) x7 x8 (nI (k + 1)) I0 L) := by
      intro f
      rw [LO_X_foretold_109, e0, if_neg nk, hd, ed, hp, if_neg hp0, x_ax hx, show nI k + 1 = nI (k + 1) from nI_1 ..]
    rw [i3, i4] at w4
    by_cases ck : k = c
    · subst ck
      rcases w4 with ⟨cd, q, t, hq, ht, eq, et', rfl⟩ | ⟨cd, rfl⟩
      · have e : nI tr = nI t := et.symm.trans et'
        refine ⟨q, min (t + 1) 9999, _, J1, K1, fun f => ?_, fun g => M g J1 K1 tb, w2, fA.tr w3, ?_, ?_, ?_, ?_, ?_⟩
        · rw [X f, if_pos rfl, ← ep, if_pos cd, eq, e, nI_1, mn9 (by omega)]
        · unfold gI; rw [sJ_ne (by omega), sJ_ne (by omega)]; exact i20
        · unfold gI; rw [sJ_ne (by omega), sJ_ne (by omega)]; exact enA
        · unfold gI; rw [sJ_ne (by omega), sI_ap, if_pos rfl, if_pos rfl]
        · unfold gI; rw [sI_ap, if_pos rfl, if_pos rfl]
        · unfold gI; rw [sJ_ne (by omega), sJ_ne (by omega)]; exact i21
      · refine ⟨pl, tr, _, J1, K1, fun f => ?_, fun g => M g J1 K1 tb, w2, fA.tr w3, i20, enA, by rw [i3]; exact ep, by rw [i4]; exact et, i21⟩
        rw [X f, if_pos rfl, ← ep, if_neg cd]
    · have nkc : ¬ nI k = nI c := fun z => ck ((nI_eq (by omega) (by omega)).mp z)
      rcases w4 with ⟨cd, q, t, hq, ht, eq, et', rfl⟩ | ⟨cd, rfl⟩
      · refine ⟨pl, tr, _, J1, K1, fun f => ?_, fun g => M g J1 K1 tb, w2, fA.tr w3, ?_, ?_, ?_, ?_, ?_⟩
        · rw [X f, if_neg nkc]
        · unfold gI; rw [sJ_ne (by omega), sJ_ne (by omega)]; exact i20
        · unfold gI; rw [sJ_ne (by omega), sJ_ne (by omega)]; exact enA
        · unfold gI; rw [sJ_ne (by omega), sI_ap, if_pos rfl, if_neg (fun z => ck z.symm), i3]; exact ep
        · unfold gI; rw [sI_ap, if_pos rfl, if_neg (fun z => ck z.symm), sJ_ne (by omega), i4]; exact et
        · unfold gI; rw [sJ_ne (by omega), sJ_ne (by omega)]; exact i21
      · refine ⟨pl, tr, _, J1, K1, fun f => ?_, fun g => M g J1 K1 tb, w2, fA.tr w3, i20, enA, by rw [i3]; exact ep, by rw [i4]; exact et, i21⟩
        rw [X f, if_neg nkc]
  rcases i2_cases (Nat.mod_lt x (show 0 < 4 by omega)) with d | d | d | d
  · exact mv 1 0 1 1 (by unfold F_X_goesBy; rw [if_pos rfl]) (by decide) (Or.inl ⟨rfl, rfl, rfl⟩) (by decide) (Or.inr ⟨rfl, rfl⟩) (by rw [d]; rfl)
  · exact mv 2 1 1 2 (by unfold F_X_goesBy; rw [if_neg (by decide), if_pos rfl]) (by decide) (Or.inr (Or.inl ⟨rfl, rfl, rfl⟩)) (by decide) (Or.inr ⟨rfl, rfl⟩) (by rw [d]; rfl)
  · exact mv (-1) 2 0 1 (by unfold F_X_goesBy; rw [if_neg (by decide), if_neg (by decide), if_pos rfl]) (by decide) (Or.inr (Or.inr ⟨rfl, rfl, rfl⟩)) (by decide) (Or.inl ⟨rfl, rfl⟩) (by rw [d]; rfl)
  · have g0 : F_X_goesBy I0 (nI 3) = 0 := by unfold F_X_goesBy; rw [if_neg (by decide), if_neg (by decide), if_neg (by decide)]
    refine ⟨pl, tr, sI I 2 1 (nI (ax x)), sI J 332 8 (nI (ax x)), K, fun f => ?_, fun g => M g _ _ (by rw [d]; exact tb3), RA, fA, i20, enA, by rw [i3]; exact ep, by rw [i4]; exact et, i21⟩
    rw [LO_X_foretold_109, e0, if_neg nk, hd, d, g0, if_pos rfl, x_ax hx, nI_1]
    split <;> rfl
theorem lk_p0 {fu n c h : Nat} {x1 x3 x7 x8 : Int32} {I0 : TI} {L : TL} {kk : Int32 → Int32 → Int32 → Int32 → Int32 → Int32 → Int32 → Int32 → TI → TL → Option (Int32 × TI × TL)} (hfu : 2000 ≤ fu) (hn : n ≤ 6) (hc : c < 6) (hh : h < 9999) (e0 : F_X_tenants I0 = nI n) : ∀ (j k f g pl tr x : Nat) (I J : TI) (K : TL), k + j = n → j < f → j < g → LR I J → J 331 23 = 0 → I 1 2 = nI n → I 2 0 = nI h → I 3 c = nI pl → I 4 c = nI tr → I 2 1 = nI x → x ≤ 30762 → ∃ pl' tr' x' I' J' K', x' ≤ 30762 ∧ LO_X_foretold_109 fu kk f x1 (nI c) x3 (nI pl) (nI tr) (nI x) x7 x8 (nI k) I0 L = kk x1 (nI c) x3 (nI pl') (nI tr') (nI x') x7 (x8 + 1) I0 L ∧ LO_M_pass_15 fu g (nI k) J K = some ((), J', K') ∧ LR I' J' ∧ FrF J J' ∧ I' 2 0 = nI (h + 1) ∧ I' 1 2 = nI n ∧ I' 3 c = nI pl' ∧ I' 4 c = nI tr' ∧ I' 2 1 = nI x' := by
  intro j
  induction j with
  | zero =>
    intro k f g pl tr x I J K hk hf hg hR h23 en eh ep et ex hx
    obtain ⟨f, rfl⟩ : ∃ z, f = z + 1 := ⟨f - 1, by omega⟩
    obtain ⟨g, rfl⟩ : ∃ z, g = z + 1 := ⟨g - 1, by omega⟩
    have : k = n := by omega
    subst this
    obtain ⟨n', hn', t1, t2, t3⟩ := ten hR.s
    have t2 : J 332 0 = nI k := t2.trans (t1.symm.trans en)
    have j7 : J 332 7 = nI h := (hR.s.ho.2.1 0 (by omega)).trans eh
    have fA : FrF J (sI J 332 7 (nI (h + 1))) := FrF.set (by omega)
    have sA : SR (aN (sI I 2 0 (nI (h + 1)))) (sI J 332 7 (nI (h + 1)) 332) := by
      rw [aN_sI 1 rfl, sJ_at]
      exact SR.set_hr hR.s ⟨h + 1, by omega, rfl⟩
    refine ⟨pl, tr, x, sI I 2 0 (nI (h + 1)), sI J 332 7 (nI (h + 1)), K, hx, ?_, ?_, hR.ev sA (EvI.one (c := 2) (by omega) (fun o h => sJ_ne h)) fA.ev, fA, by rw [sI_ap, if_pos rfl, if_pos rfl], by rw [sJ_ne (by omega)]; exact en, by rw [sJ_ne (by omega)]; exact ep, by rw [sJ_ne (by omega)]; exact et, by rw [sI_ap, if_pos rfl, if_neg (by omega)]; exact ex⟩
    · rw [LO_X_foretold_109, e0, if_pos (Int32.le_refl _)]
    · rw [LO_M_pass_15, t2, if_pos (Int32.le_refl _), j7, nI_1]
  | succ j ih =>
    intro k f g pl tr x I J K hk hf hg hR h23 en eh ep et ex hx
    obtain ⟨f, rfl⟩ : ∃ z, f = z + 1 := ⟨f - 1, by omega⟩
    obtain ⟨g, rfl⟩ : ∃ z, g = z + 1 := ⟨g - 1, by omega⟩
    obtain ⟨pl1, tr1, I1, J1, K1, a1, a2, a3, a4, a5, a6, a7, a8, a9⟩ := turn0 (fu := fu) (k := k) (c := c) (x1 := x1) (x3 := x3) (x7 := x7) (x8 := x8) (L := L) (K := K) (kk := kk) hfu hR h23 hn (by omega) hc en e0 ep et ex hx
    obtain ⟨pl2, tr2, x2, I2, J2, K2, b0, b1, b2, b3, b4, b5, b6, b7, b8, b9⟩ := ih (k + 1) f g pl1 tr1 (ax x) I1 J1 K1 (by omega) (by omega) (by omega) a3 (by rw [a4.2.2 23 (by omega)]; exact h23) a6 (a5.trans eh) a7 a8 a9 (ax_le x)
    exact ⟨pl2, tr2, x2, I2, J2, K2, b0, (a1 f).trans b1, (a2 g).trans b2, b3, a4.tr b4, b5, b6, b7, b8, b9⟩
