/-! ways on which one is not heard -/
theorem bit_or (a b s : Int32) : ((a ||| b) >>> s) &&& 1 = ((a >>> s) &&& 1) ||| ((b >>> s) &&& 1) := by
  apply Int32.toBitVec_inj.mp
  simp only [Int32.toBitVec_and, Int32.toBitVec_or, Int32.toBitVec_shiftRight]
  ext i hi
  simp only [BitVec.getElem_and, BitVec.getElem_or, BitVec.sshiftRight', BitVec.getElem_sshiftRight, BitVec.msb_or]
  split
  · simp [Bool.and_or_distrib_right]
  · simp [Bool.and_or_distrib_right]
theorem bit_sh : ∀ q, q < 13 → ∀ p, p < 13 → (((1 : Int32) <<< (nI q &&& 31)) >>> (nI p &&& 31)) &&& 1 = if p = q then 1 else 0 := by decide +kernel
theorem bit_0 : ∀ p, p < 13 → ((0 : Int32) >>> (nI p &&& 31)) &&& 1 = 0 := by decide +kernel
theorem bit_h {r : Nat → Nat} {p : Nat} (hp : p < 13) : ∀ q, q ≤ 12 → ((hst r q) >>> (nI p &&& 31)) &&& 1 = if 1 ≤ p ∧ p ≤ q ∧ ¬ r p = 0 then 1 else 0 := by
  intro q
  induction q with
  | zero =>
    intro _
    rw [if_neg (by omega)]
    exact bit_0 p hp
  | succ q ih =>
    intro hq
    have h := ih (by omega)
    rw [hst]
    by_cases c : r (q + 1) = 0
    · rw [if_pos c, h]
      by_cases e : p = q + 1
      · subst e
        rw [if_neg (by omega), if_neg (fun z => z.2.2 c)]
      · by_cases c2 : 1 ≤ p ∧ p ≤ q ∧ ¬ r p = 0
        · rw [if_pos c2, if_pos ⟨c2.1, by omega, c2.2.2⟩]
        · rw [if_neg c2, if_neg (fun z => c2 ⟨z.1, by omega, z.2.2⟩)]
    · rw [if_neg c, bit_or, h, bit_sh (q + 1) (by omega) p hp]
      by_cases e : p = q + 1
      · subst e
        rw [if_neg (by omega), if_pos rfl, if_pos ⟨by omega, by omega, c⟩]
        rfl
      · rw [if_neg e]
        by_cases c2 : 1 ≤ p ∧ p ≤ q ∧ ¬ r p = 0
        · rw [if_pos c2, if_pos ⟨c2.1, by omega, c2.2.2⟩]; rfl
        · rw [if_neg c2, if_neg (fun z => c2 ⟨z.1, by omega, z.2.2⟩)]; rfl
theorem bit_z {r : Nat → Nat} {p : Nat} (hp : p < 13) : ((((hst r 12) >>> (nI p &&& 31)) &&& 1 = 0) ↔ ¬ (1 ≤ p ∧ ¬ r p = 0)) := by
  rw [bit_h hp 12 (by omega)]
  by_cases c : 1 ≤ p ∧ p ≤ 12 ∧ ¬ r p = 0
  · rw [if_pos c]
    exact ⟨fun z => absurd z (by decide), fun z => absurd ⟨c.1, c.2.2⟩ z⟩
  · rw [if_neg c]
    exact ⟨fun _ z => c ⟨z.1, by omega, z.2⟩, fun _ => rfl⟩
/-- what is heard, and the long rows with it -/
theorem Hd.k {fu l p r : Nat} {up : Int32} {I J J' : TI} {K : TL} (hfu : 2000 ≤ fu) (hR : LR I J) (hl : l < 6) (hp : p ≤ 12) (h : Hd fu l p up I J r) (s : ScJ J J') : ∃ J'' K', FO_M_heardAt fu (nI l) (nI p) up J' K = some (nI r, J'', K') ∧ ScJ J J'' ∧ ScL K K' := by
  obtain ⟨r', I1, J1, K1, hr', a', b', s1, s2, s3⟩ := loudK (fu := fu) (l := l) (p := p) (up := up) (L := fun _ _ => 0) (K := K) hfu (hR.sc ScI.rf s) hl hp
  obtain ⟨J2, K2, e, s4⟩ := h.2.2 J' K s
  rw [e] at b'
  have q := Option.some.inj b'
  refine ⟨J2, K2, e, s4, ?_⟩
  have q2 : K2 = K1 := congrArg (fun z => z.2.2) q
  rw [q2]
  exact s3
theorem lm_waysH {fu a b l : Nat} {r : Nat → Nat} {I J : TI} (hfu : 2000 ≤ fu) (hR : LR I J) (hl : l < 6) (hr : ∀ p, p ≤ 12 → Hd fu l p 1 I J (r p)) (hb : b < 13) (ha : a < 13) : ∀ (j p f : Nat) (J' : TI) (K : TL), p + j = 13 → j < f → ScJ J J' → (∀ t, t < p → K 342 t = Tw a (fun p => 1 ≤ p ∧ ¬ r p = 0) p t) → ∃ J'' K', LO_M_waysOf_3 fu f (nI a) (nI b) (nI l) (nI p) J' K = some (Tw a (fun p => 1 ≤ p ∧ ¬ r p = 0) 13 b, J'', K') ∧ ScJ J J'' := by
  intro j
  induction j with
  | zero =>
    intro p f J' K hp hf hs h1
    obtain ⟨f, rfl⟩ : ∃ z, f = z + 1 := ⟨f - 1, by omega⟩
    have hp : p = 13 := by omega
    subst hp
    refine ⟨J', K, ?_, hs⟩
    rw [LO_M_waysOf_3, if_pos (by decide), if_pos (show (0 : Int32) ≤ nI b ∧ nI b < 13 from ⟨nI_pos' (by omega), nI_lt (b := 13) hb (by omega)⟩), nI_clamp (by omega), h1 b hb]
  | succ j ih =>
    intro p f J' K hp hf hs h1
    obtain ⟨f, rfl⟩ : ∃ z, f = z + 1 := ⟨f - 1, by omega⟩
    have bp : (0 : Int32) ≤ nI p ∧ nI p < 13 := ⟨nI_pos' (by omega), nI_lt (b := 13) (by omega) (by omega)⟩
    rw [LO_M_waysOf_3, if_neg (show ¬ (12 : Int32) < nI p from nI_nlt (a := 12) (by omega) (by omega)), if_pos bp, if_pos bp, nI_clamp (by omega), nI_1]
    by_cases c : p = a
    · subst c
      rw [if_pos rfl, if_pos (Int32.le_refl _)]
      refine ih (p + 1) f J' _ (by omega) (by omega) hs (fun t ht => ?_)
      rw [sM_at, Tw, if_pos rfl]
      by_cases e : t = p
      · subst e; rw [pk_uLs, pk_uLs]
      · rw [pk_uLn e, pk_uLn e]; exact h1 t (by omega)
    · rw [if_neg (fun q => c ((nI_eq (by omega) (by omega)).mp q))]
      by_cases c2 : p < a
      · rw [if_pos (nI_le (by omega) (by omega))]
        refine ih (p + 1) f J' _ (by omega) (by omega) hs (fun t ht => ?_)
        rw [sM_at, Tw, if_neg c, if_pos (Or.inl c2)]
        by_cases e : t = p
        · subst e; rw [pk_uLs, pk_uLs]
        · rw [pk_uLn e, pk_uLn e]; exact h1 t (by omega)
      · obtain ⟨J2, K2, g1, g2, g3⟩ := Hd.k (K := sL K 342 p 0) hfu hR hl (by omega) (hr p (by omega)) hs
        have k2 : K2 342 = vp_updL (K 342) p 0 := by rw [g3 342 (by omega), sM_at]
        rw [if_neg (nI_ge (by omega) (by omega)), if_neg (show ¬ nI l = -1 from nI_nm (by omega)), g1]
        simp only [Option.bind_some]
        by_cases c3 : r p = 0
        · rw [if_pos (show nI (r p) ≤ 0 by rw [c3]; decide)]
          obtain ⟨K', a1, a2, a3⟩ := m_in (fu := fu) (p := p) (x1 := nI a) (x2 := nI b) (x3 := nI l) (J := J2) (kk := fun x1 x2 x3 x4 I L => LO_M_waysOf_3 fu f x1 x2 x3 x4 I L) hfu (by omega) K2 (by rw [k2, pk_uLs])
          rw [a1]
          refine ih (p + 1) f J2 K' (by omega) (by omega) g2 (fun t ht => ?_)
          rw [a2, k2, Tw, if_neg c, if_neg (fun q => q.elim c2 (fun z => z.2 c3))]
          by_cases e : t = p
          · subst e
            rw [pk_uLs, pk_uLs]
            exact bel_cg (fun s hs => by rw [pk_uLn (by omega)]; exact h1 s hs)
          · rw [pk_uLn e, pk_uLn e, pk_uLn e]; exact h1 t (by omega)
        · have := (hr p (by omega)).1
          rw [if_neg (show ¬ nI (r p) ≤ 0 from nI_ge (a := 0) (by omega) (by omega))]
          refine ih (p + 1) f J2 K2 (by omega) (by omega) g2 (fun t ht => ?_)
          rw [k2, Tw, if_neg c, if_pos (Or.inr ⟨by omega, c3⟩)]
          by_cases e : t = p
          · subst e; rw [pk_uLs, pk_uLs]
          · rw [pk_uLn e, pk_uLn e]; exact h1 t (by omega)
theorem op_unheard {fu : Nat} (hfu : 2000 ≤ fu) (p q w : Int32) : OpR TX (fun I L => FO_X_unheard fu p q w I L) (fun I L => FO_M_unheard fu p q w I L) := by
  refine OpR_s (fun I J L K hR => ?_)
  unfold FO_X_unheard FO_M_unheard
  rcases lodg hR.s p with ⟨l, n, hk, hn, rfl, e1, e2, f1, f2⟩ | ⟨f1, f2⟩
  · rw [f1, f2, if_neg i10, if_neg i10]
    rcases way_up (fu := fu) (p := q) (q := w) (I := I) (J := J) (L := L) (K := K) with ⟨a, b, hab, hb, rfl, rfl, e1, e2⟩ | ⟨e1, e2⟩
    · obtain ⟨r, hr⟩ := heards (fu := fu) (l := l) 1 hfu hR.lr (by omega)
      obtain ⟨I1, x1, x2⟩ := x_heardS (fu := fu) (L := L) hfu hr ScI.rf
      obtain ⟨L', r1⟩ := x_ways (fu := fu) (I := I1) (L := L) (lo := hst r 12) (blk := fun p => 1 ≤ p ∧ ¬ r p = 0) hfu hab hb (fun p hp => bit_z hp)
      obtain ⟨J1, K', r2, r3⟩ := lm_waysH (fu := fu) (a := a) (b := b) hfu hR.lr (by omega) hr hb (by omega) 13 0 fu J K (by omega) (by omega) ScJ.rf (fun t ht => by omega)
      rw [e1, e2]
      simp only [Option.bind_some]
      rw [if_neg i10, if_neg i10, x1]
      simp only [Option.bind_some]
      rw [r1, show FO_M_waysOf fu (nI a) (nI b) (nI l) J K = _ from r2]
      exact ⟨_, I1, L', J1, K', rfl, rfl, x2, r3⟩
    · rw [e1, e2]
      exact ⟨-1, I, L, J, K, rfl, rfl, ScI.rf, ScJ.rf⟩
  · rw [f1, f2, if_pos rfl, if_pos rfl]
    exact ⟨-1, I, L, J, K, rfl, rfl, ScI.rf, ScJ.rf⟩
