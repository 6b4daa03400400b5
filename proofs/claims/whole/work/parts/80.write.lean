/-! the book is written -/
theorem SR.book {A B : TI} {c d : Nat → Int32} {m : Nat} (h : SR A c) (e1 : ∀ k, k ≠ 4 → B 1 k = A 1 k) (e4 : B 1 4 = nI m) (hm : m ≤ 30) (eo : ∀ o, o ≠ 1 → o ≠ 4 → B o = A o) (ed : ∀ i, i ≠ 11 → (i < 1511 ∨ 1541 ≤ i) → d i = c i) (ed11 : d 11 = nI m) (hb : ∀ k, k < 30 → bd (B 4 (3 * k)) 9999 ∧ bd (B 4 (3 * k + 1)) 12 ∧ bd (B 4 (3 * k + 2)) 99) (hr : ∀ k, k < 30 → d (1511 + k) = (B 4 (3 * k) * 13 + B 4 (3 * k + 1)) * 100 + B 4 (3 * k + 2)) : SR B d := by
  have E : ∀ o, o ≠ 1 → o ≠ 4 → ∀ k, B o k = A o k := fun o h1 h2 k => by rw [eo o h1 h2]
  have ho := h.ho
  refine ⟨SR.n0_cg (E _ (by omega) (by omega) _) (fun i h1 h2 => ed i (by omega) (by omega)) h.n0, SR.tx_cg (E _ (by omega) (by omega) _) (fun i h1 h2 => ed i (by omega) (by omega)) h.tx, SR.ru_cg (E _ (by omega) (by omega) _) (E _ (by omega) (by omega) _) (fun i h1 h2 => ed i (by omega) (by omega)) h.ru, SR.st_cg (E _ (by omega) (by omega) _) (E _ (by omega) (by omega) _) (fun i h1 h2 => ed i (by omega) (by omega)) h.st, SR.so_cg (E _ (by omega) (by omega) _) (fun i h1 h2 => ed i (by omega) (by omega)) h.so, SR.wo_cg (E _ (by omega) (by omega) _) (fun i h1 h2 => ed i (by omega) (by omega)) h.wo, SR.sa_cg (E _ (by omega) (by omega) _) (fun i h1 h2 => ed i (by omega) (by omega)) h.sa, ?_, SR.we_cg (fun _ _ => E _ (by omega) (by omega) _) (fun i h1 h2 => ed i (by omega) (by omega)) h.we, SR.fl_cg (fun _ _ => E _ (by omega) (by omega) _) (fun i h1 h2 => ed i (by omega) (by omega)) h.fl, SR.pr_cg (fun _ _ => E _ (by omega) (by omega) _) (fun i h1 h2 => ed i (by omega) (by omega)) h.pr, SR.ch_cg (fun _ _ => E _ (by omega) (by omega) _) (fun i h1 h2 => ed i (by omega) (by omega)) h.ch, SR.sn_cg (fun _ _ => E _ (by omega) (by omega) _) (fun i h1 h2 => ed i (by omega) (by omega)) h.sn, SR.li_cg (fun _ _ => E _ (by omega) (by omega) _) (fun i h1 h2 => ed i (by omega) (by omega)) h.li, SR.wd_cg (E _ (by omega) (by omega) _) (fun _ _ => E _ (by omega) (by omega) _) (fun i h1 h2 => ed i (by omega) (by omega)) h.wd, SR.he_cg (fun _ _ => E _ (by omega) (by omega) _) (fun i h1 h2 => ed i (by omega) (by omega)) h.he, SR.sd_cg (E _ (by omega) (by omega) _) (E _ (by omega) (by omega) _) (fun _ _ => E _ (by omega) (by omega) _) (fun i h1 h2 => ed i (by omega) (by omega)) h.sd, SR.ke_cg (E _ (by omega) (by omega) _) (E _ (by omega) (by omega) _) (fun i hi => ⟨fun _ _ => E _ (by omega) (by omega) _, fun _ _ => E _ (by omega) (by omega) _, fun _ _ => E _ (by omega) (by omega) _, fun _ _ => E _ (by omega) (by omega) _⟩) (fun i h1 h2 => ed i (by omega) (by omega)) h.ke⟩
  obtain ⟨hB, hR⟩ := ho
  obtain ⟨b0, b1, b2, b3, b4, b5, b6⟩ := hB
  obtain ⟨r0, r1, r2⟩ := hR
  refine ⟨⟨by rw [e1 0 (by omega)]; exact b0, by rw [e1 1 (by omega)]; exact b1, by rw [e1 2 (by omega)]; exact b2, trivial, ⟨m, hm, e4⟩, fun k hk => ?_, hb⟩, fun i hi => ?_, fun k hk => ?_, hr⟩
  · rw [E 2 (by omega) (by omega), E 3 (by omega) (by omega)]; exact b5 k hk
  · by_cases c4 : i = 4
    · subst c4; rw [e4]; exact ed11
    · rw [ed _ (by omega) (by omega), e1 i c4]; exact r0 i hi
  · rw [E 2 (by omega) (by omega), E 3 (by omega) (by omega), ed _ (by omega) (by omega), ed _ (by omega) (by omega)]; exact r1 k hk
theorem jm0 {I : TI} {m : Nat} (h : m < 2 ^ 31) : F_J_max I (nI m) 0 = nI m := by
  unfold F_J_max
  rw [if_neg (nI_pos h)]
/-- the model's book goes up by a line -/
theorem lo_wr {fu : Nat} {x1 x2 : Int32} {J : TI} {K : TL} : ∀ (j k f : Nat) (c : Nat → Int32), k + j = 30 → 1 ≤ k → j < f → c 11 = nI 30 → ∃ d, LO_M_write_32 fu f x1 x2 (nI k) (wJ J c) K = some ((), wJ J d, K) ∧ (∀ i, i ≠ 11 → (i < 1511 ∨ 1541 ≤ i) → d i = c i) ∧ d 11 = nI 30 ∧ (∀ i, i < k - 1 → d (1511 + i) = c (1511 + i)) ∧ (∀ i, k - 1 ≤ i → i < 29 → d (1511 + i) = c (1511 + i + 1)) ∧ d 1540 = ((c 7 * 13) + x1) * 100 + x2 := by
  intro j
  induction j with
  | zero =>
    intro k f c hk hk1 hf h11
    obtain ⟨f, rfl⟩ : ∃ z, f = z + 1 := ⟨f - 1, by omega⟩
    have : k = 30 := by omega
    subst this
    refine ⟨upd (upd (upd c 11 (nI 29)) 1540 (((c 7 * 13) + x1) * 100 + x2)) 11 (nI 30), ?_, fun i h1 h2 => ?_, pk_us, fun i hi => ?_, fun i h1 h2 => ?_, ?_⟩
    · rw [LO_M_write_32, if_pos (by decide)]
      simp only [wJ_at, h11]
      rw [show nI 30 - 1 = nI 29 from rfl, show (1511 : Int32) + nI 29 = nI 1540 from rfl, if_pos (show (0 : Int32) ≤ nI 1540 ∧ nI 1540 < 1541 by decide), nI_clamp (show 1540 < 2 ^ 31 by omega), wJ_sI, wJ_sI, wJ_at, pk_un (show 11 ≠ 1540 by omega), pk_us, wJ_sI]
      rfl
    · rw [pk_un h1, pk_un (by omega), pk_un h1]
    · rw [pk_un (by omega), pk_un (by omega), pk_un (by omega)]
    · omega
    · rw [pk_un (by omega), pk_us]
  | succ j ih =>
    intro k f c hk hk1 hf h11
    obtain ⟨f, rfl⟩ : ∃ z, f = z + 1 := ⟨f - 1, by omega⟩
    obtain ⟨d, r1, r2, r3, r4, r5, r6⟩ := ih (k + 1) f (upd c (1511 + k - 1) (c (1511 + k))) (by omega) (by omega) (by omega) (by rw [pk_un (by omega)]; exact h11)
    refine ⟨d, ?_, fun i h1 h2 => by rw [r2 i h1 h2, pk_un (by omega)], r3, fun i hi => by rw [r4 i (by omega), pk_un (by omega)], fun i h1 h2 => ?_, by rw [r6, pk_un (by omega)]⟩
    · rw [LO_M_write_32, if_neg (show ¬ (30 : Int32) ≤ nI k from nI_ge (b := 30) (by omega) (by omega)), show (1511 : Int32) + nI k = nI (1511 + k) from nI_add 1511 k, if_pos (show (0 : Int32) ≤ nI (1511 + k) ∧ nI (1511 + k) < 1541 from ib (n := 1541) rfl (by omega) (by omega)), show nI (1511 + k) - 1 = nI (1511 + k - 1) from pk_sub (b := 1) (by omega), if_pos (show (0 : Int32) ≤ nI (1511 + k - 1) ∧ nI (1511 + k - 1) < 1541 from ib (n := 1541) rfl (by omega) (by omega)), nI_clamp (show 1511 + k - 1 < 2 ^ 31 by omega), nI_clamp (show 1511 + k < 2 ^ 31 by omega), wJ_at, wJ_sI, nI_1]
      exact r1
    · by_cases e : i = k - 1
      · rw [r4 i (by omega), show 1511 + i = 1511 + k - 1 by omega, pk_us]
        congr 1; omega
      · rw [r5 i (by omega) h2, pk_un (by omega)]
/-- both write a line -/
theorem write2 {fu p r : Nat} {I J : TI} {L K : TL} (hfu : 2000 ≤ fu) (s : SR (aN I) (J 332)) (h23 : J 331 23 = 1) (hp : p ≤ 12) (hr : r ≤ 99) : ∃ I' J', FO_H_write fu (nI p) (nI r) I L = some ((), I', L) ∧ FO_M_write fu (nI p) (nI r) J K = some ((), J', K) ∧ SR (aN I') (J' 332) ∧ (∀ o, o ≠ 2 → o ≠ 5 → I' o = I o) ∧ (∀ k, k ≠ 4 → I' 2 k = I 2 k) ∧ (∀ o, o ≠ 331 → o ≠ 332 → J' o = J o) ∧ (∀ i, i ≠ 24 → J' 331 i = J 331 i) ∧ J' 331 24 = J 331 24 + 1 ∧ (∀ i, i ≠ 11 → i < 1511 → J' 332 i = J 332 i) := by
  obtain ⟨m, hm, e1, e2⟩ := s.f_ln
  obtain ⟨h, hh, eh⟩ := s.ho.1.1
  have eh : I 2 0 = nI h := eh
  have j7 : J 332 7 = I 2 0 := s.ho.2.1 0 (by omega)
  have hbk := s.ho.1.2.2.2.2.2.2
  have hrk := s.ho.2.2.2
  by_cases c30 : m < 30
  · refine ⟨sI (sI (sI (sI I 5 (3 * m) (I 2 0)) 5 (3 * m + 1) (nI p)) 5 (3 * m + 2) (nI r)) 2 4 (nI (m + 1)), sI (sI (sI J 331 24 (J 331 24 + 1)) 332 (1511 + m) ((I 2 0 * 13 + nI p) * 100 + nI r)) 332 11 (nI (m + 1)), ?_, ?_, ?_, fun o h1 h2 => by rw [sJ_ne h1, sJ_ne h2, sJ_ne h2, sJ_ne h2], fun k hk => by simp [sI_ap, hk], fun o h1 h2 => by rw [sJ_ne h2, sJ_ne h2, sJ_ne h1], fun i hi => by simp [sI_ap, hi], by simp [sI_ap], fun i h1 h2 => by simp [sI_ap, h1, show ¬ i = 1511 + m by omega]⟩
    · unfold FO_H_write
      rw [e1, if_pos (show nI m < 30 from nI_lt (b := 30) c30 (by omega))]
      simp only [jm0 (show m < 2 ^ 31 by omega)]
      rw [show nI m * 3 = nI (3 * m) from by rw [show (3 : Int32) = nI 3 from rfl, pk_mul, Nat.mul_comm], nI_1, show nI (3 * m) + 2 = nI (3 * m + 2) from nI_add _ 2, nI_1, if_pos (show (0 : Int32) ≤ nI (3 * m) ∧ nI (3 * m) < 90 from ib (n := 90) rfl (by omega) (by omega)), if_pos (show (0 : Int32) ≤ nI (3 * m + 1) ∧ nI (3 * m + 1) < 90 from ib (n := 90) rfl (by omega) (by omega)), if_pos (show (0 : Int32) ≤ nI (3 * m + 2) ∧ nI (3 * m + 2) < 90 from ib (n := 90) rfl (by omega) (by omega)), nI_clamp (show 3 * m < 2 ^ 31 by omega), nI_clamp (show 3 * m + 1 < 2 ^ 31 by omega), nI_clamp (show 3 * m + 2 < 2 ^ 31 by omega)]
    · unfold FO_M_write
      rw [h23, if_neg i10, e2, if_neg (show ¬ nI m = 30 from fun z => by have := (nI_eq (b := 30) (by omega) (by omega)).mp z; omega), show (1511 : Int32) + nI m = nI (1511 + m) from nI_add 1511 m, if_pos (show (0 : Int32) ≤ nI (1511 + m) ∧ nI (1511 + m) < 1541 from ib (n := 1541) rfl (by omega) (by omega)), nI_clamp (show 1511 + m < 2 ^ 31 by omega), j7]
      rw [show sI (sI J 331 24 (J 331 24 + 1)) 332 (1511 + m) ((I 2 0 * 13 + nI p) * 100 + nI r) 332 11 = nI m from by rw [sI_ap, if_pos rfl, if_neg (by omega), sJ_ne (by omega)]; exact e2, nI_1]
    · refine SR.book (A := aN I) (c := J 332) (m := m + 1) s (fun k hk => ?_) ?_ (by omega) (fun o h1 h2 => ?_) (fun i h1 h2 => ?_) ?_ (fun k hk => ?_) (fun k hk => ?_)
      · show sI _ 2 4 (nI (m + 1)) 2 k = I 2 k
        simp [sI_ap, hk]
      · show sI _ 2 4 (nI (m + 1)) 2 4 = _
        simp [sI_ap]
      · show sI _ 2 4 (nI (m + 1)) (1 + o) = I (1 + o)
        rw [sJ_ne (by omega), sJ_ne (by omega), sJ_ne (by omega), sJ_ne (by omega)]
      · simp [sI_ap, h1, show ¬ i = 1511 + m by omega]
      · simp [sI_ap]
      · show bd (sI (sI (sI (sI I 5 (3 * m) (I 2 0)) 5 (3 * m + 1) (nI p)) 5 (3 * m + 2) (nI r)) 2 4 (nI (m + 1)) 5 (3 * k)) 9999 ∧ bd (sI (sI (sI (sI I 5 (3 * m) (I 2 0)) 5 (3 * m + 1) (nI p)) 5 (3 * m + 2) (nI r)) 2 4 (nI (m + 1)) 5 (3 * k + 1)) 12 ∧ bd (sI (sI (sI (sI I 5 (3 * m) (I 2 0)) 5 (3 * m + 1) (nI p)) 5 (3 * m + 2) (nI r)) 2 4 (nI (m + 1)) 5 (3 * k + 2)) 99
        rw [sJ_ne (by omega)]
        by_cases e : k = m
        · subst e
          rw [show sI (sI (sI I 5 (3 * k) (I 2 0)) 5 (3 * k + 1) (nI p)) 5 (3 * k + 2) (nI r) 5 (3 * k) = I 2 0 from by simp [sI_ap], show sI (sI (sI I 5 (3 * k) (I 2 0)) 5 (3 * k + 1) (nI p)) 5 (3 * k + 2) (nI r) 5 (3 * k + 1) = nI p from by simp [sI_ap], show sI (sI (sI I 5 (3 * k) (I 2 0)) 5 (3 * k + 1) (nI p)) 5 (3 * k + 2) (nI r) 5 (3 * k + 2) = nI r from by simp [sI_ap]]
          exact ⟨⟨h, hh, eh⟩, ⟨p, hp, rfl⟩, ⟨r, hr, rfl⟩⟩
        · have ne : ∀ x, x = 3 * k ∨ x = 3 * k + 1 ∨ x = 3 * k + 2 → sI (sI (sI I 5 (3 * m) (I 2 0)) 5 (3 * m + 1) (nI p)) 5 (3 * m + 2) (nI r) 5 x = I 5 x := fun x hx => by simp [sI_ap, show ¬ x = 3 * m by omega, show ¬ x = 3 * m + 1 by omega, show ¬ x = 3 * m + 2 by omega]
          rw [ne (3 * k) (by omega), ne (3 * k + 1) (by omega), ne (3 * k + 2) (by omega)]
          exact hbk k hk
      · show sI (sI (sI J 331 24 (J 331 24 + 1)) 332 (1511 + m) ((I 2 0 * 13 + nI p) * 100 + nI r)) 332 11 (nI (m + 1)) 332 (1511 + k) = (sI (sI (sI (sI I 5 (3 * m) (I 2 0)) 5 (3 * m + 1) (nI p)) 5 (3 * m + 2) (nI r)) 2 4 (nI (m + 1)) 5 (3 * k) * 13 + sI (sI (sI (sI I 5 (3 * m) (I 2 0)) 5 (3 * m + 1) (nI p)) 5 (3 * m + 2) (nI r)) 2 4 (nI (m + 1)) 5 (3 * k + 1)) * 100 + sI (sI (sI (sI I 5 (3 * m) (I 2 0)) 5 (3 * m + 1) (nI p)) 5 (3 * m + 2) (nI r)) 2 4 (nI (m + 1)) 5 (3 * k + 2)
        have q : ∀ x, sI (sI (sI (sI I 5 (3 * m) (I 2 0)) 5 (3 * m + 1) (nI p)) 5 (3 * m + 2) (nI r)) 2 4 (nI (m + 1)) 5 x = sI (sI (sI I 5 (3 * m) (I 2 0)) 5 (3 * m + 1) (nI p)) 5 (3 * m + 2) (nI r) 5 x := fun x => by rw [sJ_ne (show 5 ≠ 2 by omega)]
        rw [q (3 * k), q (3 * k + 1), q (3 * k + 2)]
        by_cases e : k = m
        · subst e
          rw [show sI (sI (sI I 5 (3 * k) (I 2 0)) 5 (3 * k + 1) (nI p)) 5 (3 * k + 2) (nI r) 5 (3 * k) = I 2 0 from by simp [sI_ap], show sI (sI (sI I 5 (3 * k) (I 2 0)) 5 (3 * k + 1) (nI p)) 5 (3 * k + 2) (nI r) 5 (3 * k + 1) = nI p from by simp [sI_ap], show sI (sI (sI I 5 (3 * k) (I 2 0)) 5 (3 * k + 1) (nI p)) 5 (3 * k + 2) (nI r) 5 (3 * k + 2) = nI r from by simp [sI_ap]]
          simp [sI_ap, show ¬ 1511 + k = 11 by omega]
        · have ne : ∀ x, x = 3 * k ∨ x = 3 * k + 1 ∨ x = 3 * k + 2 → sI (sI (sI I 5 (3 * m) (I 2 0)) 5 (3 * m + 1) (nI p)) 5 (3 * m + 2) (nI r) 5 x = I 5 x := fun x hx => by simp [sI_ap, show ¬ x = 3 * m by omega, show ¬ x = 3 * m + 1 by omega, show ¬ x = 3 * m + 2 by omega]
          rw [ne (3 * k) (by omega), ne (3 * k + 1) (by omega), ne (3 * k + 2) (by omega), show sI (sI (sI J 331 24 (J 331 24 + 1)) 332 (1511 + m) ((I 2 0 * 13 + nI p) * 100 + nI r)) 332 11 (nI (m + 1)) 332 (1511 + k) = J 332 (1511 + k) from by simp [sI_ap, show ¬ 1511 + k = 11 by omega, e]]
          exact hrk k hk
  · have m30 : m = 30 := by omega
    subst m30
    have cp3 : ∀ k, k < 87 → va_cpy (I 5) (I 5) 3 0 87 k = I 5 (k + 3) := fun k hk => by
      unfold va_cpy
      rw [if_pos (by omega)]
      congr 1; omega
    obtain ⟨Ib, hIb⟩ : ∃ Ib : TI, Ib = va_up I 5 (va_cpy (I 5) (I 5) 3 0 87) := ⟨_, rfl⟩
    have ib5 : ∀ k, k < 87 → Ib 5 k = I 5 (k + 3) := fun k hk => by rw [hIb, vu_at]; exact cp3 k hk
    have ibn : ∀ o, o ≠ 5 → Ib o = I o := fun o ho => by rw [hIb, vu_ne ho]
    obtain ⟨d, w1, w2, w3, w4, w5, w6⟩ := lo_wr (fu := fu) (x1 := nI p) (x2 := nI r) (J := sI J 331 24 (J 331 24 + 1)) (K := K) 29 1 fu (J 332) (by omega) (by omega) (by omega) e2
    have ej : wJ (sI J 331 24 (J 331 24 + 1)) (J 332) = sI J 331 24 (J 331 24 + 1) := by
      have : J 332 = sI J 331 24 (J 331 24 + 1) 332 := by rw [sJ_ne (by omega)]
      rw [this]; exact wJ_self
    refine ⟨sI (sI (sI (sI (sI Ib 2 4 29) 5 87 (I 2 0)) 5 88 (nI p)) 5 89 (nI r)) 2 4 (nI 30), wJ (sI J 331 24 (J 331 24 + 1)) d, ?_, ?_, ?_, fun o h1 h2 => by rw [sJ_ne h1, sJ_ne h2, sJ_ne h2, sJ_ne h2, sJ_ne h1, ibn o h2], fun k hk => by simp [sI_ap, hk]; rw [ibn 2 (by omega)], fun o h1 h2 => by rw [wJ_ne h2, sJ_ne h1], fun i hi => by rw [wJ_ne (by omega)]; simp [sI_ap, hi], by rw [wJ_ne (by omega)]; simp [sI_ap], fun i h1 h2 => by rw [wJ_at]; exact w2 i h1 (by omega)⟩
    · unfold FO_H_write
      rw [e1, if_neg (show ¬ nI 30 < 30 by decide), ← hIb]
      have j29 : ∀ X : TI, F_J_max X 29 0 = nI 29 := fun X => jm0 (m := 29) (by omega)
      simp only [j29]
      rw [show nI 29 * 3 = nI 87 from rfl, show nI 87 + 1 = nI 88 from rfl, show nI 87 + 2 = nI 89 from rfl, show nI 29 + 1 = nI 30 from rfl, if_pos (show (0 : Int32) ≤ nI 87 ∧ nI 87 < 90 by decide), if_pos (show (0 : Int32) ≤ nI 88 ∧ nI 88 < 90 by decide), if_pos (show (0 : Int32) ≤ nI 89 ∧ nI 89 < 90 by decide), nI_clamp (show 87 < 2 ^ 31 by omega), nI_clamp (show 88 < 2 ^ 31 by omega), nI_clamp (show 89 < 2 ^ 31 by omega), ibn 2 (by omega)]
    · unfold FO_M_write
      rw [h23, if_neg i10, e2, if_pos (show nI 30 = 30 from rfl)]
      rw [ej] at w1
      exact w1
    · have b5 : ∀ x, x < 87 → sI (sI (sI (sI (sI Ib 2 4 29) 5 87 (I 2 0)) 5 88 (nI p)) 5 89 (nI r)) 2 4 (nI 30) 5 x = I 5 (x + 3) := fun x hx => by
        simp [sI_ap, show ¬ x = 87 by omega, show ¬ x = 88 by omega, show ¬ x = 89 by omega]
        exact ib5 x hx
      have b87 : sI (sI (sI (sI (sI Ib 2 4 29) 5 87 (I 2 0)) 5 88 (nI p)) 5 89 (nI r)) 2 4 (nI 30) 5 87 = I 2 0 ∧ sI (sI (sI (sI (sI Ib 2 4 29) 5 87 (I 2 0)) 5 88 (nI p)) 5 89 (nI r)) 2 4 (nI 30) 5 88 = nI p ∧ sI (sI (sI (sI (sI Ib 2 4 29) 5 87 (I 2 0)) 5 88 (nI p)) 5 89 (nI r)) 2 4 (nI 30) 5 89 = nI r := by simp [sI_ap]
      rw [wJ_at]
      refine SR.book (A := aN I) (c := J 332) (m := 30) s (fun k hk => ?_) ?_ (by omega) (fun o h1 h2 => ?_) w2 w3 (fun k hk => ?_) (fun k hk => ?_)
      · show sI _ 2 4 (nI 30) 2 k = I 2 k
        simp [sI_ap, hk]
        rw [ibn 2 (by omega)]
      · show sI _ 2 4 (nI 30) 2 4 = _
        simp [sI_ap]
      · show sI _ 2 4 (nI 30) (1 + o) = I (1 + o)
        rw [sJ_ne (by omega), sJ_ne (by omega), sJ_ne (by omega), sJ_ne (by omega), sJ_ne (by omega), ibn _ (by omega)]
      · show bd (sI (sI (sI (sI (sI Ib 2 4 29) 5 87 (I 2 0)) 5 88 (nI p)) 5 89 (nI r)) 2 4 (nI 30) 5 (3 * k)) 9999 ∧ bd (sI (sI (sI (sI (sI Ib 2 4 29) 5 87 (I 2 0)) 5 88 (nI p)) 5 89 (nI r)) 2 4 (nI 30) 5 (3 * k + 1)) 12 ∧ bd (sI (sI (sI (sI (sI Ib 2 4 29) 5 87 (I 2 0)) 5 88 (nI p)) 5 89 (nI r)) 2 4 (nI 30) 5 (3 * k + 2)) 99
        by_cases e : k = 29
        · subst e
          rw [b87.1, b87.2.1, b87.2.2]
          exact ⟨⟨h, hh, eh⟩, ⟨p, hp, rfl⟩, ⟨r, hr, rfl⟩⟩
        · rw [b5 _ (by omega), b5 _ (by omega), b5 _ (by omega)]
          have := hbk (k + 1) (by omega)
          rw [show 3 * (k + 1) = 3 * k + 3 by omega, show 3 * k + 3 + 1 = 3 * k + 1 + 3 by omega, show 3 * k + 3 + 2 = 3 * k + 2 + 3 by omega] at this
          exact this
      · show d (1511 + k) = (sI (sI (sI (sI (sI Ib 2 4 29) 5 87 (I 2 0)) 5 88 (nI p)) 5 89 (nI r)) 2 4 (nI 30) 5 (3 * k) * 13 + sI (sI (sI (sI (sI Ib 2 4 29) 5 87 (I 2 0)) 5 88 (nI p)) 5 89 (nI r)) 2 4 (nI 30) 5 (3 * k + 1)) * 100 + sI (sI (sI (sI (sI Ib 2 4 29) 5 87 (I 2 0)) 5 88 (nI p)) 5 89 (nI r)) 2 4 (nI 30) 5 (3 * k + 2)
        by_cases e : k = 29
        · subst e
          rw [b87.1, b87.2.1, b87.2.2, w6, j7]
        · rw [b5 _ (by omega), b5 _ (by omega), b5 _ (by omega), w5 k (by omega) (by omega)]
          have := hrk (k + 1) (by omega)
          rw [show 3 * (k + 1) = 3 * k + 3 by omega, show 3 * k + 3 + 1 = 3 * k + 1 + 3 by omega, show 3 * k + 3 + 2 = 3 * k + 2 + 3 by omega, ← Nat.add_assoc] at this
          exact this
