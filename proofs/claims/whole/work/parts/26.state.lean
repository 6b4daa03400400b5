/-! steps taken back, cups hung, the image, the tape -/
theorem SR.undo {A B : TI} {c d : Nat → Int32} {n f : Nat} (h : SR A c) (hn : n < 30) (hf : f < 30) (e1 : A 5 1 = nI f) (e2 : A 5 2 = nI (n + 1)) (k0 : ∀ k, k < 5 → B 1 k = A (7 + 4 * ((f + n) % 30)) k) (k1 : ∀ k, k < 6 → B 2 k = A (7 + 4 * ((f + n) % 30) + 1) k) (k2 : ∀ k, k < 6 → B 3 k = A (7 + 4 * ((f + n) % 30) + 2) k) (k3 : ∀ k, k < 90 → B 4 k = A (7 + 4 * ((f + n) % 30) + 3) k) (k4 : ∀ j, j < 1 ∨ 5 < j → ∀ k, B j k = A j k) (b1 : B 5 1 = nI f) (b2 : B 5 2 = nI n) (d3 : d 3 = nI n) (d7 : ∀ i, i < 17 → d (7 + i) = c (101 + 47 * n + i)) (d15 : ∀ i, i < 30 → d (1511 + i) = c (118 + 47 * n + i)) (r2 : ∀ i, i ≠ 3 → i < 7 ∨ 24 ≤ i → i < 1511 → d i = c i) : SR B d := by
  refine ⟨SR.n0_cg (A := A) (c := c) (k4 _ (by omega) _) (fun i h1 h2 => r2 i (by omega) (by omega) (by omega)) h.n0, SR.tx_cg (A := A) (c := c) (k4 _ (by omega) _) (fun i h1 h2 => r2 i (by omega) (by omega) (by omega)) h.tx, SR.ru_cg (A := A) (c := c) (k4 _ (by omega) _) (k4 _ (by omega) _) (fun i h1 h2 => r2 i (by omega) (by omega) (by omega)) h.ru, ?_, SR.so_cg (A := A) (c := c) (k4 _ (by omega) _) (fun i h1 h2 => r2 i (by omega) (by omega) (by omega)) h.so, SR.wo_cg (A := A) (c := c) (k4 _ (by omega) _) (fun i h1 h2 => r2 i (by omega) (by omega) (by omega)) h.wo, SR.sa_cg (A := A) (c := c) (k4 _ (by omega) _) (fun i h1 h2 => r2 i (by omega) (by omega) (by omega)) h.sa, ?_, SR.we_cg (A := A) (c := c) (fun _ _ => k4 _ (by omega) _) (fun i h1 h2 => r2 i (by omega) (by omega) (by omega)) h.we, SR.fl_cg (A := A) (c := c) (fun _ _ => k4 _ (by omega) _) (fun i h1 h2 => r2 i (by omega) (by omega) (by omega)) h.fl, SR.pr_cg (A := A) (c := c) (fun _ _ => k4 _ (by omega) _) (fun i h1 h2 => r2 i (by omega) (by omega) (by omega)) h.pr, SR.ch_cg (A := A) (c := c) (fun _ _ => k4 _ (by omega) _) (fun i h1 h2 => r2 i (by omega) (by omega) (by omega)) h.ch, SR.sn_cg (A := A) (c := c) (fun _ _ => k4 _ (by omega) _) (fun i h1 h2 => r2 i (by omega) (by omega) (by omega)) h.sn, SR.li_cg (A := A) (c := c) (fun _ _ => k4 _ (by omega) _) (fun i h1 h2 => r2 i (by omega) (by omega) (by omega)) h.li, SR.wd_cg (A := A) (c := c) (k4 _ (by omega) _) (fun _ _ => k4 _ (by omega) _) (fun i h1 h2 => r2 i (by omega) (by omega) (by omega)) h.wd, SR.he_cg (A := A) (c := c) (fun _ _ => k4 _ (by omega) _) (fun i h1 h2 => r2 i (by omega) (by omega) (by omega)) h.he, SR.sd_cg (A := A) (c := c) (k4 _ (by omega) _) (k4 _ (by omega) _) (fun _ _ => k4 _ (by omega) _) (fun i h1 h2 => r2 i (by omega) (by omega) (by omega)) h.sd, ?_⟩
  · exact ⟨d3.trans b2.symm, ⟨n, by omega, b2⟩, ⟨f, by omega, b1⟩⟩
  · have q := h.ke n hn (by rw [e2]; exact (nI_ltI (by omega) (by omega)).mpr (by omega))
    rw [e1, nI_clamp (by omega)] at q
    exact HX.mv k0 k1 k2 k3 d7 d15 q
  · intro j hj hl
    rw [b2] at hl
    have hl := (nI_ltI (a := j) (b := n) (by omega) (by omega)).mp hl
    have q := h.ke j hj (by rw [e2]; exact (nI_ltI (by omega) (by omega)).mpr (by omega))
    rw [e1, nI_clamp (by omega)] at q
    rw [b1, nI_clamp (by omega)]
    exact HX.mv (fun _ _ => k4 _ (by omega) _) (fun _ _ => k4 _ (by omega) _) (fun _ _ => k4 _ (by omega) _) (fun _ _ => k4 _ (by omega) _) (fun _ _ => r2 _ (by omega) (by omega) (by omega)) (fun _ _ => r2 _ (by omega) (by omega) (by omega)) q
theorem op_undo {T : TI → (Nat → Int32) → Prop} {fu : Nat} (hfu : 2000 ≤ fu) : OpR T (fun I L => FO_X_undo fu  I L) (fun I L => FO_M_undo fu  I L) := by
  intro I J L K hR
  have s := hR.s
  obtain ⟨c1, ⟨n, hn, e2⟩, ⟨f, hf, e1⟩⟩ := s.st
  have e2 : I 6 2 = nI n := e2
  have e1 : I 6 1 = nI f := e1
  have c1 : J 332 3 = nI n := c1.trans e2
  by_cases h0 : n = 0
  · subst h0
    refine now0 (L := L) (K := K) (-1) hR ?_ ?_
    · dsimp only; unfold FO_X_undo FO_S_takeBack; rw [e2, if_neg (by decide)]; rfl
    · dsimp only; unfold FO_M_undo; rw [c1, if_pos (by decide)]
  · obtain ⟨n, rfl⟩ : ∃ m, n = m + 1 := ⟨n - 1, by omega⟩
    have hq := Nat.mod_lt (f + n) (show 0 < 30 by omega)
    obtain ⟨I1, g0, g1, g2, g3, g4, g5⟩ := copyH (fu := fu) (o := 2) (p := 8 + 4 * ((f + n) % 30)) (I := sI I 6 2 (nI n)) (L := L) (by omega)
    have i6 : I1 6 = upd (I 6) 2 (nI n) := by rw [g5 6 (by omega) (by omega) (by omega) (by omega), sJ_at]
    have h1 := mu36 (fu := fu) (J := J) (K := K) (x := 101 + 47 * n) (by omega) 17 0 fu (upd (J 332) 3 (nI n)) (by omega) (by omega)
    have h2 := mu67 (fu := fu) (J := J) (K := K) (x := 101 + 47 * n) (by omega) 30 0 fu (rc (upd (J 332) 3 (nI n)) 7 (101 + 47 * n) 0 17) (by omega) (by omega)
    have d3 : rc (rc (upd (J 332) 3 (nI n)) 7 (101 + 47 * n) 0 17) 1511 (101 + 47 * n + 17) 0 30 3 = nI n := by
      rw [rc_out _ _ _ _ (by omega), rc_out _ _ _ _ (by omega), pk_us]
    refine nowW (r := nI n) (I' := I1) (J' := wJ J (rc (rc (upd (J 332) 3 (nI n)) 7 (101 + 47 * n) 0 17) 1511 (101 + 47 * n + 17) 0 30)) (L' := L) (K' := K) hR ?_ ?_ ?_ ?_ ?_ (fun o ho => wJ_ne ho)
    · dsimp only
      unfold FO_X_undo FO_S_takeBack
      rw [e2, if_pos (show 0 < nI (n + 1) from nI_lt (a := 0) (by omega) (by omega)), nI_pred, e1, nI_add, j_fm (by omega)]
      simp only [Option.bind_some]
      rw [if_pos (show 0 ≤ nI ((f + n) % 30) ∧ nI ((f + n) % 30) < 30 from ⟨nI_pos' (by omega), nI_lt (b := 30) hq (by omega)⟩), nI_clamp (by omega), g0]
      simp only [Option.bind_some]
      rw [if_neg i10, i6, pk_us]
    · dsimp only
      unfold FO_M_undo
      rw [c1, if_neg (nI_ne0 (by omega) (by omega)), nI_pred, show (101 : Int32) + (47 : Int32) * nI n = nI (101 + 47 * n) from by rw [show (101 : Int32) = nI 101 from rfl, show (47 : Int32) = nI 47 from rfl, pk_mul, nI_add]]
      have e : sI J 332 3 (nI n) = wJ J (upd (J 332) 3 (nI n)) := by rw [← wJ_sI, wJ_self]
      rw [e]
      refine (h1.trans h2).trans ?_
      rw [d3]
    · rw [wJ_at]
      refine SR.undo s (by omega) (by omega) e1 e2 (fun k hk => ?_) (fun k hk => ?_) (fun k hk => ?_) (fun k hk => ?_) (fun j hj k => ?_) ?_ ?_ d3 (fun i hi => ?_) (fun i hi => ?_) (fun i h3 hi h5 => ?_)
      · show I1 2 k = I (1 + (7 + 4 * ((f + n) % 30))) k
        rw [g1 k hk, sJ_ne (by omega)]; congr 1; omega
      · show I1 3 k = I (1 + (7 + 4 * ((f + n) % 30) + 1)) k
        rw [g2 k hk, sJ_ne (by omega)]; congr 1; omega
      · show I1 4 k = I (1 + (7 + 4 * ((f + n) % 30) + 2)) k
        rw [g3 k hk, sJ_ne (by omega)]; congr 1; omega
      · show I1 5 k = I (1 + (7 + 4 * ((f + n) % 30) + 3)) k
        rw [g4 k hk, sJ_ne (by omega)]; congr 1; omega
      · show I1 (1 + j) k = I (1 + j) k
        rw [g5 _ (by omega) (by omega) (by omega) (by omega), sJ_ne (by omega)]
      · show I1 6 1 = nI f
        rw [i6, pk_un (by omega), e1]
      · show I1 6 2 = nI n
        rw [i6, pk_us]
      · rw [rc_out _ _ _ _ (by omega), rc_in _ _ _ _ (by omega) (by omega) (by omega), pk_un (by omega)]
      · rw [rc_in _ _ _ _ (by omega) (by omega) (by omega), rc_out _ _ _ _ (by omega), pk_un (by omega)]
        congr 1; omega
      · rw [rc_out _ _ _ _ (by omega), rc_out _ _ _ _ (by omega), pk_un h3]
    · intro o ho
      rw [g5 _ (by omega) (by omega) (by omega) (by omega), sJ_ne (by omega)]
    · rw [g5 _ (by omega) (by omega) (by omega) (by omega), sJ_ne (by omega)]
theorem op_hang {T : TI → (Nat → Int32) → Prop} {fu : Nat} (hfu : 2000 ≤ fu) (p q : Int32) : OpR T (fun I L => FO_X_hang fu p q I L) (fun I L => FO_M_hang fu p q I L) := by
  intro I J L K hR
  have s := hR.s
  by_cases c0 : 1 ≤ p ∧ p ≤ 12
  · by_cases c1 : hcp (I 2 3) p = q
    · refine now0 (L := L) (K := K) 0 hR ?_ ?_
      · dsimp only; unfold FO_X_hang FO_X_hangAsStep; rw [if_pos c0, x_cup]; simp only [Option.bind_some]; rw [if_pos c1]; rfl
      · dsimp only; unfold FO_M_hang; rw [if_pos c0, m_cup, s.f_cu]; simp only [Option.bind_some]; rw [if_pos c1]
    · obtain ⟨I1, d, k1, k2, k3, k4, k5, k6⟩ := keep2 (fu := fu) (L := L) (K := K) hfu s
      have i2 : I1 2 = I 2 := k4 2 (by omega)
      have d10 : d 10 = I 2 3 := (k5 10 (by omega) (by omega)).trans s.f_cu
      refine nowW (r := 1) (I' := sI I1 2 3 (I 2 3 ^^^ (1 : Int32) <<< (p &&& 31))) (J' := wJ J (upd d 10 (I 2 3 ^^^ (1 : Int32) <<< (p &&& 31)))) (L' := L) (K' := K) hR ?_ ?_ ?_ ?_ ?_ (fun o ho => wJ_ne ho)
      · dsimp only; unfold FO_X_hang FO_X_hangAsStep
        rw [if_pos c0, x_cup]
        simp only [Option.bind_some]
        rw [if_neg c1, k1]
        simp only [Option.bind_some]
        rw [i2, if_pos (Or.inr trivial)]
      · dsimp only; unfold FO_M_hang
        rw [if_pos c0, m_cup, s.f_cu]
        simp only [Option.bind_some]
        rw [if_neg c1, k2]
        simp only [Option.bind_some]
        rw [wJ_at, wJ_sI, d10]
      · rw [aN_sI 1 rfl, wJ_at]
        exact SR.set_cu k3 trivial
      · intro o ho; rw [sJ_ne (by omega), k4 o (by omega)]
      · rw [sJ_ne (by omega), k4 1 (by omega)]
  · refine now0 (L := L) (K := K) 0 hR ?_ ?_
    · dsimp only; unfold FO_X_hang FO_X_hangAsStep; rw [if_neg c0]; rfl
    · dsimp only; unfold FO_M_hang; rw [if_neg c0]
/-- a state's cells, alike -/
def EqA (A B : TI) : Prop :=
  (B 0 2 = A 0 2) ∧
  (B 0 6 = A 0 6) ∧
  (B 0 7 = A 0 7) ∧
  (B 0 11 = A 0 11) ∧
  (B 0 13 = A 0 13) ∧
  (B 0 16 = A 0 16) ∧
  (B 5 1 = A 5 1) ∧
  (B 5 2 = A 5 2) ∧
  (∀ k, k < 5 → B 1 k = A 1 k) ∧
  (∀ k, k < 6 → B 2 k = A 2 k) ∧
  (∀ k, k < 6 → B 3 k = A 3 k) ∧
  (∀ k, k < 90 → B 4 k = A 4 k) ∧
  (∀ k, k < 6 → B 127 k = A 127 k) ∧
  (∀ k, k < 6 → B 128 k = A 128 k) ∧
  (∀ k, k < 6 → B 129 k = A 129 k) ∧
  (∀ k, k < 9 → B 130 k = A 130 k) ∧
  (∀ k, k < 9 → B 131 k = A 131 k) ∧
  (∀ k, k < 6 → B 132 k = A 132 k) ∧
  (∀ k, k < 5 → B 133 k = A 133 k) ∧
  (∀ k, k < 6 → B 134 k = A 134 k) ∧
  (∀ k, k < 24 → B 135 k = A 135 k) ∧
  (∀ i, i < 30 → (∀ k, k < 5 → B (7 + 4 * i) k = A (7 + 4 * i) k) ∧ (∀ k, k < 6 → B (7 + 4 * i + 1) k = A (7 + 4 * i + 1) k) ∧ (∀ k, k < 6 → B (7 + 4 * i + 2) k = A (7 + 4 * i + 2) k) ∧ (∀ k, k < 90 → B (7 + 4 * i + 3) k = A (7 + 4 * i + 3) k))
theorem SR.mv {A B : TI} {c d : Nat → Int32} (s : SR A c) (h : EqA A B) (r : ∀ i, i < 1541 → d i = c i) : SR B d :=
  ⟨SR.n0_cg (A := A) (c := c) (h.1) (fun i _ _ => r i (by omega)) s.n0, SR.tx_cg (A := A) (c := c) (h.2.1) (fun i _ _ => r i (by omega)) s.tx, SR.ru_cg (A := A) (c := c) (h.2.2.1) (h.2.1) (fun i _ _ => r i (by omega)) s.ru, SR.st_cg (A := A) (c := c) (h.2.2.2.2.2.2.2.1) (h.2.2.2.2.2.2.1) (fun i _ _ => r i (by omega)) s.st, SR.so_cg (A := A) (c := c) (h.2.2.2.1) (fun i _ _ => r i (by omega)) s.so, SR.wo_cg (A := A) (c := c) (h.2.2.2.2.1) (fun i _ _ => r i (by omega)) s.wo, SR.sa_cg (A := A) (c := c) (h.2.2.2.2.2.1) (fun i _ _ => r i (by omega)) s.sa, SR.ho_cg (A := A) (c := c) (h.2.2.2.2.2.2.2.2.1) (h.2.2.2.2.2.2.2.2.2.1) (h.2.2.2.2.2.2.2.2.2.2.1) (h.2.2.2.2.2.2.2.2.2.2.2.1) (fun i _ _ => r i (by omega)) (fun i _ _ => r i (by omega)) s.ho, SR.we_cg (A := A) (c := c) (h.2.2.2.2.2.2.2.2.2.2.2.2.1) (fun i _ _ => r i (by omega)) s.we, SR.fl_cg (A := A) (c := c) (h.2.2.2.2.2.2.2.2.2.2.2.2.2.1) (fun i _ _ => r i (by omega)) s.fl, SR.pr_cg (A := A) (c := c) (h.2.2.2.2.2.2.2.2.2.2.2.2.2.2.1) (fun i _ _ => r i (by omega)) s.pr, SR.ch_cg (A := A) (c := c) (h.2.2.2.2.2.2.2.2.2.2.2.2.2.2.2.1) (fun i _ _ => r i (by omega)) s.ch, SR.sn_cg (A := A) (c := c) (h.2.2.2.2.2.2.2.2.2.2.2.2.2.2.2.2.1) (fun i _ _ => r i (by omega)) s.sn, SR.li_cg (A := A) (c := c) (h.2.2.2.2.2.2.2.2.2.2.2.2.2.2.2.2.2.1) (fun i _ _ => r i (by omega)) s.li, SR.wd_cg (A := A) (c := c) (h.2.2.2.2.1) (h.2.2.2.2.2.2.2.2.2.2.2.2.2.2.2.2.2.2.1) (fun i _ _ => r i (by omega)) s.wd, SR.he_cg (A := A) (c := c) (h.2.2.2.2.2.2.2.2.2.2.2.2.2.2.2.2.2.2.2.1) (fun i _ _ => r i (by omega)) s.he, SR.sd_cg (A := A) (c := c) (h.2.2.2.2.2.1) (h.1) (h.2.2.2.2.2.2.2.2.2.2.2.2.2.2.2.2.2.2.2.2.1) (fun i _ _ => r i (by omega)) s.sd, SR.ke_cg (A := A) (c := c) (h.2.2.2.2.2.2.1) (h.2.2.2.2.2.2.2.1) (h.2.2.2.2.2.2.2.2.2.2.2.2.2.2.2.2.2.2.2.2.2) (fun i _ _ => r i (by omega)) s.ke⟩
theorem lk_cs142 {fu : Nat} {L : TL} : ∀ (j k f : Nat) (I : TI), k + j = 30 → j < f → ∃ I', LO_S_copySteps_142_18 fu f (nI k) I L = some ((), I', L) ∧ (∀ i, k ≤ i → i < 30 → (∀ q, q < 5 → I' (144 + 4 * i) q = I (8 + 4 * i) q) ∧ (∀ q, q < 6 → I' (144 + 4 * i + 1) q = I (8 + 4 * i + 1) q) ∧ (∀ q, q < 6 → I' (144 + 4 * i + 2) q = I (8 + 4 * i + 2) q) ∧ (∀ q, q < 90 → I' (144 + 4 * i + 3) q = I (8 + 4 * i + 3) q)) ∧ (∀ o, ¬ (144 + 4 * k ≤ o ∧ o < 264) → I' o = I o) := by
  intro j
  induction j with
  | zero =>
    intro k f I hk hf
    obtain ⟨f, rfl⟩ : ∃ z, f = z + 1 := ⟨f - 1, by omega⟩
    have hk : k = 30 := by omega
    subst hk
    exact ⟨I, by rw [LO_S_copySteps_142_18, if_pos (by decide)], fun i h1 h2 => by omega, fun _ _ => rfl⟩
  | succ j ih =>
    intro k f I hk hf
    obtain ⟨f, rfl⟩ : ∃ z, f = z + 1 := ⟨f - 1, by omega⟩
    obtain ⟨I1, g0, g1, g2, g3, g4, g5⟩ := copyH (fu := fu) (o := 144 + 4 * k) (p := 8 + 4 * k) (I := I) (L := L) (by omega)
    obtain ⟨I2, i0, i1, i2⟩ := ih (k + 1) f I1 (by omega) (by omega)
    refine ⟨I2, ?_, fun i h1 h2 => ?_, fun o ho => ?_⟩
    · rw [LO_S_copySteps_142_18]
      simp (disch := omega) only [l_0, l_1, l_2, l_3, l_4, l_5, l_6, l_7, l_8, l_9, l_10, l_11, l_12, l_13, l_15, l_24, l_30, l_36, l_42, l_51, l_60, l_66, l_71, l_77, l_90, l_99, l_100, l_101, l_300, l_557, l_431, l_1511, l_1541, l_9999, l_2724, l_681, l_255, nI_add, pk_mul, pk_sub, Nat.add_sub_cancel, nI_clamp, nI_leI, nI_ltI, nI_eq, if_neg, if_pos, g0, Option.bind_some]
      exact i0
    · by_cases e : i = k
      · subst e
        rw [i2 _ (by omega), i2 _ (by omega), i2 _ (by omega), i2 _ (by omega)]
        exact ⟨g1, g2, g3, g4⟩
      · have q := i1 i (by omega) h2
        rw [g5 (8 + 4 * i) (by omega) (by omega) (by omega) (by omega), g5 (8 + 4 * i + 1) (by omega) (by omega) (by omega) (by omega), g5 (8 + 4 * i + 2) (by omega) (by omega) (by omega) (by omega), g5 (8 + 4 * i + 3) (by omega) (by omega) (by omega) (by omega)] at q
        exact q
    · rw [i2 _ (by omega), g5 _ (by omega) (by omega) (by omega) (by omega)]
theorem lk_cs6 {fu : Nat} {L : TL} : ∀ (j k f : Nat) (I : TI), k + j = 30 → j < f → ∃ I', LO_S_copySteps_6_18 fu f (nI k) I L = some ((), I', L) ∧ (∀ i, k ≤ i → i < 30 → (∀ q, q < 5 → I' (8 + 4 * i) q = I (144 + 4 * i) q) ∧ (∀ q, q < 6 → I' (8 + 4 * i + 1) q = I (144 + 4 * i + 1) q) ∧ (∀ q, q < 6 → I' (8 + 4 * i + 2) q = I (144 + 4 * i + 2) q) ∧ (∀ q, q < 90 → I' (8 + 4 * i + 3) q = I (144 + 4 * i + 3) q)) ∧ (∀ o, ¬ (8 + 4 * k ≤ o ∧ o < 128) → I' o = I o) := by
  intro j
  induction j with
  | zero =>
    intro k f I hk hf
    obtain ⟨f, rfl⟩ : ∃ z, f = z + 1 := ⟨f - 1, by omega⟩
    have hk : k = 30 := by omega
    subst hk
    exact ⟨I, by rw [LO_S_copySteps_6_18, if_pos (by decide)], fun i h1 h2 => by omega, fun _ _ => rfl⟩
  | succ j ih =>
    intro k f I hk hf
    obtain ⟨f, rfl⟩ : ∃ z, f = z + 1 := ⟨f - 1, by omega⟩
    obtain ⟨I1, g0, g1, g2, g3, g4, g5⟩ := copyH (fu := fu) (o := 8 + 4 * k) (p := 144 + 4 * k) (I := I) (L := L) (by omega)
    obtain ⟨I2, i0, i1, i2⟩ := ih (k + 1) f I1 (by omega) (by omega)
    refine ⟨I2, ?_, fun i h1 h2 => ?_, fun o ho => ?_⟩
    · rw [LO_S_copySteps_6_18]
      simp (disch := omega) only [l_0, l_1, l_2, l_3, l_4, l_5, l_6, l_7, l_8, l_9, l_10, l_11, l_12, l_13, l_15, l_24, l_30, l_36, l_42, l_51, l_60, l_66, l_71, l_77, l_90, l_99, l_100, l_101, l_300, l_557, l_431, l_1511, l_1541, l_9999, l_2724, l_681, l_255, nI_add, pk_mul, pk_sub, Nat.add_sub_cancel, nI_clamp, nI_leI, nI_ltI, nI_eq, if_neg, if_pos, g0, Option.bind_some]
      exact i0
    · by_cases e : i = k
      · subst e
        rw [i2 _ (by omega), i2 _ (by omega), i2 _ (by omega), i2 _ (by omega)]
        exact ⟨g1, g2, g3, g4⟩
      · have q := i1 i (by omega) h2
        rw [g5 (144 + 4 * i) (by omega) (by omega) (by omega) (by omega), g5 (144 + 4 * i + 1) (by omega) (by omega) (by omega) (by omega), g5 (144 + 4 * i + 2) (by omega) (by omega) (by omega) (by omega), g5 (144 + 4 * i + 3) (by omega) (by omega) (by omega) (by omega)] at q
        exact q
    · rw [i2 _ (by omega), g5 _ (by omega) (by omega) (by omega) (by omega)]
set_option maxHeartbeats 4000000 in
theorem copyQ137 {fu : Nat} {I : TI} {L : TL} (hfu : 100 ≤ fu) : ∃ I', FO_Q_copyState_137 fu I L = some ((), I', L) ∧ EqA (aN I) (aI I') ∧ (∀ o, ¬ (137 ≤ o ∧ o ≤ 272) → I' o = I o) := by
  obtain ⟨I1, g0, g1, g2, g3, g4, g5⟩ := copyH (fu := fu) (o := 138) (p := 2) (I := I) (L := L) (by omega)
  obtain ⟨I2, i0, i1, i2⟩ := lk_cs142 (fu := fu) (L := L) 30 0 fu (sI (sI I1 142 1 (I1 6 1)) 142 2 (I1 6 2)) (by omega) (by omega)
  have i0 : FO_S_copySteps_142 fu I1 L = some ((), I2, L) := i0
  unfold FO_Q_copyState_137
  rw [g0]
  simp only [Option.bind_some]
  rw [i0]
  simp only [Option.bind_some]
  have r1 : ∀ o, ¬ (137 ≤ o ∧ o ≤ 272) → I2 o = I o := fun o ho => by rw [i2 _ (by omega), sJ_ne (by omega), sJ_ne (by omega), g5 _ (by omega) (by omega) (by omega) (by omega)]
  have r2 : ∀ o, 138 ≤ o ∧ o ≤ 141 → I2 o = I1 o := fun o ho => by rw [i2 _ (by omega), sJ_ne (by omega), sJ_ne (by omega)]
  refine ⟨_, rfl, ?_, ?_⟩
  · unfold EqA
    dsimp only [aN, aI]
    refine ⟨?_, ?_, ?_, ?_, ?_, ?_, ?_, ?_, ?_, ?_, ?_, ?_, ?_, ?_, ?_, ?_, ?_, ?_, ?_, ?_, ?_, ?_⟩
    · simp (disch := omega) only [vu_ne, vu_at, sJ_at, sJ_ne, pk_us, pk_un, r1]
    · simp (disch := omega) only [vu_ne, vu_at, sJ_at, sJ_ne, pk_us, pk_un, r1]
    · simp (disch := omega) only [vu_ne, vu_at, sJ_at, sJ_ne, pk_us, pk_un, r1]
    · simp (disch := omega) only [vu_ne, vu_at, sJ_at, sJ_ne, pk_us, pk_un, r1]
    · simp (disch := omega) only [vu_ne, vu_at, sJ_at, sJ_ne, pk_us, pk_un, r1]
    · simp (disch := omega) only [vu_ne, vu_at, sJ_at, sJ_ne, pk_us, pk_un, r1]
    · simp (disch := omega) only [vu_ne, sJ_ne]
      rw [i2 142 (by omega), sJ_at, pk_un (by omega), sJ_at, pk_us]
      exact congrFun (g5 6 (by omega) (by omega) (by omega) (by omega)) 1
    · simp (disch := omega) only [vu_ne, sJ_ne]
      rw [i2 142 (by omega), sJ_at, pk_us]
      exact congrFun (g5 6 (by omega) (by omega) (by omega) (by omega)) 2
    · intro k hk
      simp (disch := omega) only [vu_ne, sJ_ne]
      rw [r2 138 (by omega)]
      exact g1 k hk
    · intro k hk
      simp (disch := omega) only [vu_ne, sJ_ne]
      rw [r2 139 (by omega)]
      exact g2 k hk
    · intro k hk
      simp (disch := omega) only [vu_ne, sJ_ne]
      rw [r2 140 (by omega)]
      exact g3 k hk
    · intro k hk
      simp (disch := omega) only [vu_ne, sJ_ne]
      rw [r2 141 (by omega)]
      exact g4 k hk
    · intro k hk
      simp (disch := omega) only [vu_ne, vu_at, cp0, sJ_at, sJ_ne, r1]
    · intro k hk
      simp (disch := omega) only [vu_ne, vu_at, cp0, sJ_at, sJ_ne, r1]
    · intro k hk
      simp (disch := omega) only [vu_ne, vu_at, cp0, sJ_at, sJ_ne, r1]
    · intro k hk
      simp (disch := omega) only [vu_ne, vu_at, cp0, sJ_at, sJ_ne, r1]
    · intro k hk
      simp (disch := omega) only [vu_ne, vu_at, cp0, sJ_at, sJ_ne, r1]
    · intro k hk
      simp (disch := omega) only [vu_ne, vu_at, cp0, sJ_at, sJ_ne, r1]
    · intro k hk
      simp (disch := omega) only [vu_ne, vu_at, cp0, sJ_at, sJ_ne, r1]
    · intro k hk
      simp (disch := omega) only [vu_ne, vu_at, cp0, sJ_at, sJ_ne, r1]
    · intro k hk
      simp (disch := omega) only [vu_ne, vu_at, cp0, sJ_at, sJ_ne, r1]
    · intro i hi
      have q := i1 i (by omega) hi
      rw [show 137 + (7 + 4 * i) = 144 + 4 * i by omega, show 1 + (7 + 4 * i) = 8 + 4 * i by omega, show 137 + (7 + 4 * i + 1) = 144 + 4 * i + 1 by omega, show 1 + (7 + 4 * i + 1) = 8 + 4 * i + 1 by omega, show 137 + (7 + 4 * i + 2) = 144 + 4 * i + 2 by omega, show 1 + (7 + 4 * i + 2) = 8 + 4 * i + 2 by omega, show 137 + (7 + 4 * i + 3) = 144 + 4 * i + 3 by omega, show 1 + (7 + 4 * i + 3) = 8 + 4 * i + 3 by omega]
      simp (disch := omega) only [sJ_ne] at q
      rw [g5 (8 + 4 * i) (by omega) (by omega) (by omega) (by omega), g5 (8 + 4 * i + 1) (by omega) (by omega) (by omega) (by omega), g5 (8 + 4 * i + 2) (by omega) (by omega) (by omega) (by omega), g5 (8 + 4 * i + 3) (by omega) (by omega) (by omega) (by omega)] at q
      simp (disch := omega) only [vu_ne, sJ_ne]
      exact q
  · intro o ho
    simp (disch := omega) only [vu_ne, sJ_ne, r1]
set_option maxHeartbeats 4000000 in
theorem copyQ1 {fu : Nat} {I : TI} {L : TL} (hfu : 100 ≤ fu) : ∃ I', FO_Q_copyState_1 fu I L = some ((), I', L) ∧ EqA (aI I) (aN I') ∧ (∀ o, ¬ (1 ≤ o ∧ o ≤ 136) → I' o = I o) := by
  obtain ⟨I1, g0, g1, g2, g3, g4, g5⟩ := copyH (fu := fu) (o := 2) (p := 138) (I := I) (L := L) (by omega)
  obtain ⟨I2, i0, i1, i2⟩ := lk_cs6 (fu := fu) (L := L) 30 0 fu (sI (sI I1 6 1 (I1 142 1)) 6 2 (I1 142 2)) (by omega) (by omega)
  have i0 : FO_S_copySteps_6 fu I1 L = some ((), I2, L) := i0
  unfold FO_Q_copyState_1
  rw [g0]
  simp only [Option.bind_some]
  rw [i0]
  simp only [Option.bind_some]
  have r1 : ∀ o, ¬ (1 ≤ o ∧ o ≤ 136) → I2 o = I o := fun o ho => by rw [i2 _ (by omega), sJ_ne (by omega), sJ_ne (by omega), g5 _ (by omega) (by omega) (by omega) (by omega)]
  have r2 : ∀ o, 2 ≤ o ∧ o ≤ 5 → I2 o = I1 o := fun o ho => by rw [i2 _ (by omega), sJ_ne (by omega), sJ_ne (by omega)]
  refine ⟨_, rfl, ?_, ?_⟩
  · unfold EqA
    dsimp only [aN, aI]
    refine ⟨?_, ?_, ?_, ?_, ?_, ?_, ?_, ?_, ?_, ?_, ?_, ?_, ?_, ?_, ?_, ?_, ?_, ?_, ?_, ?_, ?_, ?_⟩
    · simp (disch := omega) only [vu_ne, vu_at, sJ_at, sJ_ne, pk_us, pk_un, r1]
    · simp (disch := omega) only [vu_ne, vu_at, sJ_at, sJ_ne, pk_us, pk_un, r1]
    · simp (disch := omega) only [vu_ne, vu_at, sJ_at, sJ_ne, pk_us, pk_un, r1]
    · simp (disch := omega) only [vu_ne, vu_at, sJ_at, sJ_ne, pk_us, pk_un, r1]
    · simp (disch := omega) only [vu_ne, vu_at, sJ_at, sJ_ne, pk_us, pk_un, r1]
    · simp (disch := omega) only [vu_ne, vu_at, sJ_at, sJ_ne, pk_us, pk_un, r1]
    · simp (disch := omega) only [vu_ne, sJ_ne]
      rw [i2 6 (by omega), sJ_at, pk_un (by omega), sJ_at, pk_us]
      exact congrFun (g5 142 (by omega) (by omega) (by omega) (by omega)) 1
    · simp (disch := omega) only [vu_ne, sJ_ne]
      rw [i2 6 (by omega), sJ_at, pk_us]
      exact congrFun (g5 142 (by omega) (by omega) (by omega) (by omega)) 2
    · intro k hk
      simp (disch := omega) only [vu_ne, sJ_ne]
      rw [r2 2 (by omega)]
      exact g1 k hk
    · intro k hk
      simp (disch := omega) only [vu_ne, sJ_ne]
      rw [r2 3 (by omega)]
      exact g2 k hk
    · intro k hk
      simp (disch := omega) only [vu_ne, sJ_ne]
      rw [r2 4 (by omega)]
      exact g3 k hk
    · intro k hk
      simp (disch := omega) only [vu_ne, sJ_ne]
      rw [r2 5 (by omega)]
      exact g4 k hk
    · intro k hk
      simp (disch := omega) only [vu_ne, vu_at, cp0, sJ_at, sJ_ne, r1]
    · intro k hk
      simp (disch := omega) only [vu_ne, vu_at, cp0, sJ_at, sJ_ne, r1]
    · intro k hk
      simp (disch := omega) only [vu_ne, vu_at, cp0, sJ_at, sJ_ne, r1]
    · intro k hk
      simp (disch := omega) only [vu_ne, vu_at, cp0, sJ_at, sJ_ne, r1]
    · intro k hk
      simp (disch := omega) only [vu_ne, vu_at, cp0, sJ_at, sJ_ne, r1]
    · intro k hk
      simp (disch := omega) only [vu_ne, vu_at, cp0, sJ_at, sJ_ne, r1]
    · intro k hk
      simp (disch := omega) only [vu_ne, vu_at, cp0, sJ_at, sJ_ne, r1]
    · intro k hk
      simp (disch := omega) only [vu_ne, vu_at, cp0, sJ_at, sJ_ne, r1]
    · intro k hk
      simp (disch := omega) only [vu_ne, vu_at, cp0, sJ_at, sJ_ne, r1]
    · intro i hi
      have q := i1 i (by omega) hi
      rw [show 1 + (7 + 4 * i) = 8 + 4 * i by omega, show 137 + (7 + 4 * i) = 144 + 4 * i by omega, show 1 + (7 + 4 * i + 1) = 8 + 4 * i + 1 by omega, show 137 + (7 + 4 * i + 1) = 144 + 4 * i + 1 by omega, show 1 + (7 + 4 * i + 2) = 8 + 4 * i + 2 by omega, show 137 + (7 + 4 * i + 2) = 144 + 4 * i + 2 by omega, show 1 + (7 + 4 * i + 3) = 8 + 4 * i + 3 by omega, show 137 + (7 + 4 * i + 3) = 144 + 4 * i + 3 by omega]
      simp (disch := omega) only [sJ_ne] at q
      rw [g5 (144 + 4 * i) (by omega) (by omega) (by omega) (by omega), g5 (144 + 4 * i + 1) (by omega) (by omega) (by omega) (by omega), g5 (144 + 4 * i + 2) (by omega) (by omega) (by omega) (by omega), g5 (144 + 4 * i + 3) (by omega) (by omega) (by omega) (by omega)] at q
      simp (disch := omega) only [vu_ne, sJ_ne]
      exact q
  · intro o ho
    simp (disch := omega) only [vu_ne, sJ_ne, r1]
theorem lk_mc332 {fu : Nat} {K : TL} : ∀ (j k f : Nat) (J : TI), k + j = 1541 → j < f → ∃ J', LO_M_copy_332_2 fu f (nI k) J K = some ((), J', K) ∧ (∀ i, k ≤ i → i < 1541 → J' 333 i = J 332 i) ∧ (∀ i, i < k → J' 333 i = J 333 i) ∧ (∀ o, o ≠ 333 → J' o = J o) := by
  intro j
  induction j with
  | zero =>
    intro k f J hk hf
    obtain ⟨f, rfl⟩ : ∃ z, f = z + 1 := ⟨f - 1, by omega⟩
    have hk : k = 1541 := by omega
    subst hk
    exact ⟨J, by rw [LO_M_copy_332_2, if_pos (by decide)], fun i h1 h2 => by omega, fun _ _ => rfl, fun _ _ => rfl⟩
  | succ j ih =>
    intro k f J hk hf
    obtain ⟨f, rfl⟩ : ∃ z, f = z + 1 := ⟨f - 1, by omega⟩
    obtain ⟨J2, i0, i1, i2, i3⟩ := ih (k + 1) f (sI J 333 k (J 332 k)) (by omega) (by omega)
    refine ⟨J2, ?_, fun i h1 h2 => ?_, fun i h1 => ?_, fun o ho => ?_⟩
    · rw [LO_M_copy_332_2]
      simp (disch := omega) only [l_0, l_1, l_2, l_3, l_4, l_5, l_6, l_7, l_8, l_9, l_10, l_11, l_12, l_13, l_15, l_24, l_30, l_36, l_42, l_51, l_60, l_66, l_71, l_77, l_90, l_99, l_100, l_101, l_300, l_557, l_431, l_1511, l_1541, l_9999, l_2724, l_681, l_255, nI_add, pk_mul, pk_sub, Nat.add_sub_cancel, nI_clamp, nI_leI, nI_ltI, nI_eq, if_neg, if_pos]
      exact i0
    · by_cases e : i = k
      · subst e
        rw [i2 _ (by omega), sJ_at, pk_us]
      · rw [i1 _ (by omega) h2, sJ_ne (by omega)]
    · rw [i2 _ (by omega), sJ_at, pk_un (by omega)]
    · rw [i3 _ ho, sJ_ne ho]
theorem lk_mc333 {fu : Nat} {K : TL} : ∀ (j k f : Nat) (J : TI), k + j = 1541 → j < f → ∃ J', LO_M_copy_333_2 fu f (nI k) J K = some ((), J', K) ∧ (∀ i, k ≤ i → i < 1541 → J' 332 i = J 333 i) ∧ (∀ i, i < k → J' 332 i = J 332 i) ∧ (∀ o, o ≠ 332 → J' o = J o) := by
  intro j
  induction j with
  | zero =>
    intro k f J hk hf
    obtain ⟨f, rfl⟩ : ∃ z, f = z + 1 := ⟨f - 1, by omega⟩
    have hk : k = 1541 := by omega
    subst hk
    exact ⟨J, by rw [LO_M_copy_333_2, if_pos (by decide)], fun i h1 h2 => by omega, fun _ _ => rfl, fun _ _ => rfl⟩
  | succ j ih =>
    intro k f J hk hf
    obtain ⟨f, rfl⟩ : ∃ z, f = z + 1 := ⟨f - 1, by omega⟩
    obtain ⟨J2, i0, i1, i2, i3⟩ := ih (k + 1) f (sI J 332 k (J 333 k)) (by omega) (by omega)
    refine ⟨J2, ?_, fun i h1 h2 => ?_, fun i h1 => ?_, fun o ho => ?_⟩
    · rw [LO_M_copy_333_2]
      simp (disch := omega) only [l_0, l_1, l_2, l_3, l_4, l_5, l_6, l_7, l_8, l_9, l_10, l_11, l_12, l_13, l_15, l_24, l_30, l_36, l_42, l_51, l_60, l_66, l_71, l_77, l_90, l_99, l_100, l_101, l_300, l_557, l_431, l_1511, l_1541, l_9999, l_2724, l_681, l_255, nI_add, pk_mul, pk_sub, Nat.add_sub_cancel, nI_clamp, nI_leI, nI_ltI, nI_eq, if_neg, if_pos]
      exact i0
    · by_cases e : i = k
      · subst e
        rw [i2 _ (by omega), sJ_at, pk_us]
      · rw [i1 _ (by omega) h2, sJ_ne (by omega)]
    · rw [i2 _ (by omega), sJ_at, pk_un (by omega)]
    · rw [i3 _ ho, sJ_ne ho]
theorem op_image {T : TI → (Nat → Int32) → Prop} {fu : Nat} (hfu : 2000 ≤ fu) : OpR T (fun I L => FO_X_image fu  I L) (fun I L => FO_M_image fu  I L) := by
  intro I J L K hR
  obtain ⟨I1, a0, a1, a2⟩ := copyQ137 (fu := fu) (I := I) (L := L) (by omega)
  obtain ⟨J1, b0, b1, b2, b3⟩ := lk_mc332 (fu := fu) (K := K) 1541 0 fu J (by omega) (by omega)
  have b0 : FO_M_copy_332 fu J K = some ((), J1, K) := b0
  obtain ⟨h1, h2, h3, h4, h5, h6, h7⟩ := hR
  refine ⟨I 2 0, I1, L, J1, K, ?_, ?_, ⟨?_, ?_, ?_, ?_, ?_, ?_, ?_⟩, fun o ho => a2 o (by omega), fun o ho => b3 o (by omega)⟩
  · dsimp only; unfold FO_X_image; rw [a0]; simp only [Option.bind_some]; rw [a2 2 (by omega)]
  · dsimp only; unfold FO_M_image; rw [b0]; simp only [Option.bind_some]; rw [b3 332 (by omega), show J 332 7 = I 2 0 from h1.ho.2.1 0 (by omega)]
  · rw [b3 332 (by omega)]; exact SR.cg h1 (fun j hj => a2 _ (by omega))
  · exact SR.mv h1 a1 (fun i hi => b1 i (by omega) hi)
  · rw [show I1 137 6 = I 1 6 from a1.2.1, a2 1 (by omega)]; exact Int32.le_refl _
  · unfold TP; rw [a2 0 (by omega), a2 306 (by omega), b3 331 (by omega), b3 335 (by omega)]; exact h4
  · unfold FT; rw [a2 307 (by omega), b3 331 (by omega)]; exact h5
  · rw [b3 331 (by omega)]; exact h6
  · intro t ht hl
    rw [a2 1 (by omega)] at hl
    rw [b3 334 (by omega), show (fun i => I1 (274 + 8 * t + i % 8)) = (fun i => I (274 + 8 * t + i % 8)) from by funext i; exact a2 _ (by omega)]
    exact h7 t ht hl
theorem op_back {T : TI → (Nat → Int32) → Prop} {fu : Nat} (hfu : 2000 ≤ fu) : OpR T (fun I L => FO_X_back fu  I L) (fun I L => FO_M_back fu  I L) := by
  intro I J L K hR
  obtain ⟨I1, a0, a1, a2⟩ := copyQ1 (fu := fu) (I := I) (L := L) (by omega)
  obtain ⟨J1, b0, b1, b2, b3⟩ := lk_mc333 (fu := fu) (K := K) 1541 0 fu J (by omega) (by omega)
  have b0 : FO_M_copy_333 fu J K = some ((), J1, K) := b0
  obtain ⟨h1, h2, h3, h4, h5, h6, h7⟩ := hR
  have s := SR.mv h2 a1 (fun i hi => b1 i (by omega) hi)
  refine ⟨I1 2 0, I1, L, J1, K, ?_, ?_, ⟨s, ?_, ?_, ?_, ?_, ?_, ?_⟩, fun o ho => a2 o (by omega), fun o ho => b3 o (by omega)⟩
  · dsimp only; unfold FO_X_back; rw [a0]; rfl
  · dsimp only; unfold FO_M_back; rw [b0]; simp only [Option.bind_some]; rw [show J1 332 7 = I1 2 0 from s.ho.2.1 0 (by omega)]
  · rw [b3 333 (by omega)]; exact SR.cg h2 (fun j hj => a2 _ (by omega))
  · rw [show I1 1 6 = I 137 6 from a1.2.1, a2 137 (by omega)]; exact Int32.le_refl _
  · unfold TP; rw [a2 0 (by omega), a2 306 (by omega), b3 331 (by omega), b3 335 (by omega)]; exact h4
  · unfold FT; rw [a2 307 (by omega), b3 331 (by omega)]; exact h5
  · rw [b3 331 (by omega)]; exact h6
  · intro t ht hl
    rw [show I1 1 6 = I 137 6 from a1.2.1] at hl
    rw [b3 334 (by omega), show (fun i => I1 (274 + 8 * t + i % 8)) = (fun i => I (274 + 8 * t + i % 8)) from by funext i; exact a2 _ (by omega)]
    exact h7 t ht (Int32.lt_of_lt_of_le hl h3)
