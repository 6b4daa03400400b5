/-! behind a whole one -/
theorem ex_run (J : TI) : ∀ M, ∃ n m, M = m + n ∧ (∀ i, i < n → 7 ≤ rk (J 336 (m + i))) ∧ (m = 0 ∨ rk (J 336 (m - 1)) < 7) := by
  intro M
  induction M with
  | zero => exact ⟨0, 0, rfl, fun i hi => by omega, Or.inl rfl⟩
  | succ M ih =>
    by_cases c : rk (J 336 M) < 7
    · exact ⟨0, M + 1, rfl, fun i hi => by omega, Or.inr c⟩
    · obtain ⟨n, m, e, h1, h2⟩ := ih
      refine ⟨n + 1, m, by omega, fun i hi => ?_, h2⟩
      by_cases d : i = n
      · subst d
        rw [← e]; omega
      · exact h1 i (by omega)
section
variable {kd vl sp tp : Nat → Int32} {en : Nat → Nat} {len N fu t0 so : Nat}
theorem ms_stl {J : TI} {K : TL} {k w m n op' wh : Nat} (h : MS kd vl sp tp en len t0 so J K k w (m + n) (op' + nc J m n) wh) (ht : t0 ≤ 2043) (hw : w + n ≤ 303) (hm : m + n ≤ 160) : StR J (stl n J) t0 w m n op' ∧ MS kd vl sp tp en len t0 so (stl n J) K k (w + n) m op' wh ∧ FrM J (stl n J) := by
  have s := stl_R (op' := op') (t0 := t0) (m := m) (by omega) n w J h.2.1 h.2.2.1 h.2.2.2.1 h.2.2.2.2.1 (by omega) (by omega)
  obtain ⟨s1, s2, s3, s4, s5, s6, s7⟩ := s
  refine ⟨⟨s1, s2, s3, s4, s5, s6, s7⟩, h.st (fun i a b c _ => s2 i a b c) (s1 335 (by omega) (by omega)) s3 s4 s5 ((s2 18 (by omega) (by omega) (by omega)).trans h.2.2.2.2.2.1), fun o a b c => s1 o a b, fun i _ _ _ _ a b c _ => s2 i a b c⟩
theorem e_plain {J : TI} {K : TL} {k w m op wh : Nat} (h : MS kd vl sp tp en len t0 so J K k w m op wh) (hm : m ≤ 160) (h0 : m = 0 ∨ (rk (J 336 (m - 1)) < 7 ∧ ¬ J 336 (m - 1) = 41)) : FO_M_endOne fu J K = some (0, sI J 331 18 1, K) := by
  have h16 := h.2.2.2.1
  have e := (set_stop (fu := fu) (f := 0) (K := K) (least := 7) h16 hm (h0.imp id And.left) (by omega)).2
  unfold FO_M_endOne
  rw [show (7 : Int32) = nI 7 from rfl, e]
  simp only [Option.bind_some]
  rw [h16]
  by_cases c : m = 0
  · rw [if_pos (show nI m = 0 by rw [c]; rfl)]
  · obtain ⟨m, rfl⟩ : ∃ z, m = z + 1 := ⟨m - 1, by omega⟩
    rw [if_neg (show ¬ nI (m + 1) = 0 from nI_ne0 (by omega) (by omega)), nI_pred, if_pos (show (0 : Int32) ≤ nI m ∧ nI m < 160 from ib (n := 160) rfl (by omega) (by omega)), nI_clamp (show m < 2 ^ 31 by omega), if_neg (show ¬ J 336 m = 41 from (h0.resolve_left c).2)]
theorem e_pop {J : TI} {K : TL} {k w m op wh : Nat} (hfu : 2000 ≤ fu) (h : MS kd vl sp tp en len t0 so J K k w (m + 1) op wh) (ht : t0 ≤ 2043) (hm : m + 1 ≤ 160) (hw : w + (m + 1) ≤ 303) (h7 : 7 ≤ rk (J 336 m)) : FO_M_endOne fu J K = FO_M_endOne fu (pop J) K := by
  obtain ⟨p1, p2, p3, p4⟩ := pop_R0 (t0 := t0) (w := w) (m := m) h.2.1 h.2.2.1 h.2.2.2.1 (by omega) (by omega) (by omega)
  have e336 : pop J 336 = J 336 := p1 336 (by omega) (by omega)
  obtain ⟨n, b, e, h1, h2⟩ := ex_run J m
  subst e
  have a1 := m_set (fu := fu) (K := K) (J := J) (m := b) (n := n + 1) (w := w) (least := 7) hfu (show t0 < 2724 by omega) (by omega) h.2.1 h.2.2.1 h.2.2.2.1 (by omega) (by omega) (fun i hi => by
    by_cases d : i = n
    · subst d; exact h7
    · exact h1 i (by omega)) h2
  have a2 := m_set (fu := fu) (K := K) (J := pop J) (m := b) (n := n) (w := w + 1) (least := 7) hfu (show t0 < 2724 by omega) (by omega) ((p2 12 (by omega) (by omega) (by omega)).trans h.2.1) p3 p4 (by omega) (by omega) (fun i hi => by rw [e336]; exact h1 i hi) (by rw [e336]; exact h2)
  unfold FO_M_endOne
  rw [show (7 : Int32) = nI 7 from rfl, a1, a2]
  rfl
theorem e_near (nx : NX kd vl sp tp en len N fu) {J : TI} {K : TL} {k w m op wh : Nat} (h : MS kd vl sp tp en len t0 so J K k w (m + 1) op wh) (hm : m + 1 ≤ 160) (h41 : J 336 m = 41) : (¬ kd k = 54 → FO_M_endOne fu J K = some (1, sI J 331 18 1, K)) ∧ (kd k = 54 → k < N → ∃ J' K', FO_M_endOne fu J K = some (0, J', K') ∧ MS kd vl sp tp en len t0 so J' K' (k + 1) w (m + 1) op 0 ∧ FrM J J' ∧ J' 334 = J 334 ∧ PlM J J' m ∧ J' 336 m = 4) := by
  have h16 := h.2.2.2.1
  have e := (set_stop (fu := fu) (f := 0) (K := K) (least := 7) h16 hm (Or.inr (show rk (J 336 m) < 7 by rw [h41]; decide)) (by omega)).2
  have hs : MS kd vl sp tp en len t0 so (sI J 331 18 1) K k w (m + 1) op 1 := h.st (fun i a b c d => by simp [sI_ap, d]) (sJ_ne (by omega)) (by simp [sI_ap, h.2.2.1]) (by simp [sI_ap, h16]) (by simp [sI_ap, h.2.2.2.2.1]) (by simp [sI_ap]; rfl)
  have wo := m_isW (fu := fu) (i := 24) hs.1 (by omega) rfl
  unfold FO_M_endOne
  rw [show (7 : Int32) = nI 7 from rfl, e]
  simp only [Option.bind_some]
  rw [h16, if_neg (show ¬ nI (m + 1) = 0 from nI_ne0 (by omega) (by omega)), nI_pred, if_pos (show (0 : Int32) ≤ nI m ∧ nI m < 160 from ib (n := 160) rfl (by omega) (by omega)), nI_clamp (show m < 2 ^ 31 by omega), if_pos h41, ww24]
  simp only [Option.bind_some]
  refine ⟨fun c => ?_, fun c hk => ?_⟩
  · rw [wo.2 c]
    rfl
  · rw [wo.1 c]
    simp only [Option.bind_some]
    rw [if_neg i10]
    obtain ⟨J', K', a, b, n⟩ := m_nxt nx hs hk
    rw [a]
    simp only [Option.bind_some]
    rw [b.2.2.2.1, nI_pred, if_pos (show (0 : Int32) ≤ nI m ∧ nI m < 160 from ib (n := 160) rfl (by omega) (by omega)), nI_clamp (show m < 2 ^ 31 by omega)]
    refine ⟨_, K', rfl, b.st (fun i a b c d => by simp [sI_ap, d]) (by rw [sJ_ne (by omega), sJ_ne (by omega)]) (by simp [sI_ap, b.2.2.1]) (by simp [sI_ap, b.2.2.2.1]) (by simp [sI_ap, b.2.2.2.2.1]) (by simp [sI_ap]; rfl), ?_, ?_, ?_, ?_⟩
    · refine FrM.tr (FrM.tr ⟨fun o a b c => sJ_ne a, fun i a b c d e f g h => by simp [sI_ap, h]⟩ n.fr) ⟨fun o a b c => by rw [sJ_ne a, sJ_ne c], fun i a b c d e f g h => by simp [sI_ap, h]⟩
    · rw [sJ_ne (by omega), sJ_ne (by omega), n.1 334 (by omega), sJ_ne (by omega)]
    · intro i hi
      rw [sJ_ne (by omega)]
      rw [sI_ap, if_pos rfl, if_neg (by omega), n.1 336 (by omega), sJ_ne (by omega)]
    · rw [sJ_ne (by omega)]
      simp [sI_ap]
/-- what stands between two -/
theorem bt_arith {J : TI} {K : TL} {k a c : Nat} (h : MK kd vl sp tp en len J K k) (hac : (a = 14 ∧ c = 6) ∨ (a = 15 ∧ c = 7) ∨ (a = 16 ∧ c = 8) ∨ (a = 17 ∧ c = 9)) (e : kd k = nI a) : FO_M_betweenOf fu J K = some (nI c, J, K) := by
  have s1 := h.sg 43 14 (by decide)
  have s2 := h.sg 45 15 (by decide)
  have s3 := h.sg 42 16 (by decide)
  have s4 := h.sg 47 17 (by decide)
  unfold FO_M_betweenOf
  rcases hac with ⟨rfl, rfl⟩ | ⟨rfl, rfl⟩ | ⟨rfl, rfl⟩ | ⟨rfl, rfl⟩
  · rw [if_pos (show J 331 9 = 43 from s1.mpr e)]; rfl
  · rw [if_neg (show ¬ J 331 9 = 43 from fun z => absurd (e.symm.trans (s1.mp z)) (by decide)), if_pos (show J 331 9 = 45 from s2.mpr e)]; rfl
  · rw [if_neg (show ¬ J 331 9 = 43 from fun z => absurd (e.symm.trans (s1.mp z)) (by decide)), if_neg (show ¬ J 331 9 = 45 from fun z => absurd (e.symm.trans (s2.mp z)) (by decide)), if_pos (show J 331 9 = 42 from s3.mpr e)]; rfl
  · rw [if_neg (show ¬ J 331 9 = 43 from fun z => absurd (e.symm.trans (s1.mp z)) (by decide)), if_neg (show ¬ J 331 9 = 45 from fun z => absurd (e.symm.trans (s2.mp z)) (by decide)), if_neg (show ¬ J 331 9 = 42 from fun z => absurd (e.symm.trans (s3.mp z)) (by decide)), if_pos (show J 331 9 = 47 from s4.mpr e)]; rfl
def noAr (x : Int32) : Prop := ¬ x = nI 14 ∧ ¬ x = nI 15 ∧ ¬ x = nI 16 ∧ ¬ x = nI 17
theorem bt_no {J : TI} {K : TL} {k : Nat} (h : MK kd vl sp tp en len J K k) (hn : noAr (kd k)) : FO_M_betweenOf fu J K = (FO_M_openNow fu J K).bind (fun u1 => let r1 := u1.1; let I1 := u1.2.1; let L1 := u1.2.2; if r1 = 42 then ((FO_M_isCompared fu I1 L1).bind (fun u2 => let r2 := u2.1; let I2 := u2.2.1; let L2 := u2.2.2; if r2 = 0 then FO_M_compareOf fu I2 L2 else ((FO_M_isWord fu (wd 22) I2 L2).bind (fun u4 => let r4 := u4.1; let I4 := u4.2.1; let L4 := u4.2.2; if r4 = 0 then ((FO_M_isWord fu (wd 21) I4 L4).bind (fun u6 => let r6 := u6.1; let I6 := u6.2.1; let L6 := u6.2.2; if r6 = 0 then (some ((-1), I6, L6)) else (some (22, I6, L6)))) else (some (21, I4, L4)))))) else (some ((-1), I1, L1))) := by
  have s1 := h.sg 43 14 (by decide)
  have s2 := h.sg 45 15 (by decide)
  have s3 := h.sg 42 16 (by decide)
  have s4 := h.sg 47 17 (by decide)
  have be : ∀ x : Option (Int32 × TI × TL), (x.bind fun u => some (u.1, u.2.1, u.2.2)) = x := fun x => bind_eta x
  unfold FO_M_betweenOf
  rw [if_neg (show ¬ J 331 9 = 43 from fun z => hn.1 (s1.mp z)), if_neg (show ¬ J 331 9 = 45 from fun z => hn.2.1 (s2.mp z)), if_neg (show ¬ J 331 9 = 42 from fun z => hn.2.2.1 (s3.mp z)), if_neg (show ¬ J 331 9 = 47 from fun z => hn.2.2.2 (s4.mp z))]
  simp only [ww22, ww21, Option.bind_some, be]
theorem bt_other {J : TI} {K : TL} {k M : Nat} {v : Int32} (hfu : 2000 ≤ fu) (h : MK kd vl sp tp en len J K k) (hn : noAr (kd k)) (h16 : J 331 16 = nI M) (hM : M ≤ 160) (ho : OpN J M v) (hv : ¬ v = 42) : FO_M_betweenOf fu J K = some (-1, J, K) := by
  rw [bt_no h hn, m_open hfu h16 hM ho]
  simp only [Option.bind_some]
  rw [if_neg hv]
/-- comparisons: the class's number -/
def isCq (x : Int32) : Prop := x = nI 3 ∨ x = nI 4 ∨ x = nI 10 ∨ x = nI 11 ∨ x = nI 12 ∨ x = nI 13
theorem bt_cmp {J : TI} {K : TL} {k M : Nat} (hfu : 2000 ≤ fu) (h : MK kd vl sp tp en len J K k) (hn : noAr (kd k)) (h16 : J 331 16 = nI M) (hM : M ≤ 160) (ho : OpN J M 42) (hc : FO_M_isCompared fu J K = some (0, J, K)) : (∀ w, (w = 3 ∨ w = 4 ∨ w = 10 ∨ w = 11 ∨ w = 12 ∨ w = 13) → kd k = nI w → FO_M_betweenOf fu J K = some (nI (mcq w), J, K)) ∧ (¬ isCq (kd k) → FO_M_betweenOf fu J K = some (-1, J, K)) := by
  have s1 := h.sg 60 10 (by decide)
  have s2 := h.sg 4 3 (by decide)
  have s3 := h.sg 62 11 (by decide)
  have s4 := h.sg 5 4 (by decide)
  have s5 := h.sg 61 12 (by decide)
  have s6 := h.sg 35 13 (by decide)
  rw [bt_no h hn, m_open hfu h16 hM ho]
  simp only [Option.bind_some]
  rw [if_pos trivial, hc]
  simp only [Option.bind_some]
  rw [if_pos trivial]
  unfold FO_M_compareOf
  refine ⟨fun w hw e => ?_, fun q => ?_⟩
  · rcases hw with rfl | rfl | rfl | rfl | rfl | rfl
    · rw [if_neg (show ¬ J 331 9 = 60 from fun z => absurd (e.symm.trans (s1.mp z)) (by decide)), if_pos (show J 331 9 = 4 from s2.mpr e)]; rfl
    · rw [if_neg (show ¬ J 331 9 = 60 from fun z => absurd (e.symm.trans (s1.mp z)) (by decide)), if_neg (show ¬ J 331 9 = 4 from fun z => absurd (e.symm.trans (s2.mp z)) (by decide)), if_neg (show ¬ J 331 9 = 62 from fun z => absurd (e.symm.trans (s3.mp z)) (by decide)), if_pos (show J 331 9 = 5 from s4.mpr e)]; rfl
    · rw [if_pos (show J 331 9 = 60 from s1.mpr e)]; rfl
    · rw [if_neg (show ¬ J 331 9 = 60 from fun z => absurd (e.symm.trans (s1.mp z)) (by decide)), if_neg (show ¬ J 331 9 = 4 from fun z => absurd (e.symm.trans (s2.mp z)) (by decide)), if_pos (show J 331 9 = 62 from s3.mpr e)]; rfl
    · rw [if_neg (show ¬ J 331 9 = 60 from fun z => absurd (e.symm.trans (s1.mp z)) (by decide)), if_neg (show ¬ J 331 9 = 4 from fun z => absurd (e.symm.trans (s2.mp z)) (by decide)), if_neg (show ¬ J 331 9 = 62 from fun z => absurd (e.symm.trans (s3.mp z)) (by decide)), if_neg (show ¬ J 331 9 = 5 from fun z => absurd (e.symm.trans (s4.mp z)) (by decide)), if_pos (show J 331 9 = 61 from s5.mpr e)]; rfl
    · rw [if_neg (show ¬ J 331 9 = 60 from fun z => absurd (e.symm.trans (s1.mp z)) (by decide)), if_neg (show ¬ J 331 9 = 4 from fun z => absurd (e.symm.trans (s2.mp z)) (by decide)), if_neg (show ¬ J 331 9 = 62 from fun z => absurd (e.symm.trans (s3.mp z)) (by decide)), if_neg (show ¬ J 331 9 = 5 from fun z => absurd (e.symm.trans (s4.mp z)) (by decide)), if_neg (show ¬ J 331 9 = 61 from fun z => absurd (e.symm.trans (s5.mp z)) (by decide)), if_pos (show J 331 9 = 35 from s6.mpr e)]; rfl
  · unfold isCq at q
    rw [if_neg (show ¬ J 331 9 = 60 from fun z => q (Or.inr (Or.inr (Or.inl (s1.mp z))))), if_neg (show ¬ J 331 9 = 4 from fun z => q (Or.inl (s2.mp z))), if_neg (show ¬ J 331 9 = 62 from fun z => q (Or.inr (Or.inr (Or.inr (Or.inl (s3.mp z)))))), if_neg (show ¬ J 331 9 = 5 from fun z => q (Or.inr (Or.inl (s4.mp z)))), if_neg (show ¬ J 331 9 = 61 from fun z => q (Or.inr (Or.inr (Or.inr (Or.inr (Or.inl (s5.mp z))))))), if_neg (show ¬ J 331 9 = 35 from fun z => q (Or.inr (Or.inr (Or.inr (Or.inr (Or.inr (s6.mp z)))))))]
theorem bt_and {J : TI} {K : TL} {k M : Nat} (hfu : 2000 ≤ fu) (h : MK kd vl sp tp en len J K k) (hn : noAr (kd k)) (h16 : J 331 16 = nI M) (hM : M ≤ 160) (ho : OpN J M 42) (hc : FO_M_isCompared fu J K = some (1, J, K)) : (kd k = nI 52 → FO_M_betweenOf fu J K = some (21, J, K)) ∧ (kd k = nI 51 → FO_M_betweenOf fu J K = some (22, J, K)) ∧ (¬ kd k = nI 52 → ¬ kd k = nI 51 → FO_M_betweenOf fu J K = some (-1, J, K)) := by
  have w22 := m_isW (fu := fu) (i := 22) h (by omega) rfl
  have w21 := m_isW (fu := fu) (i := 21) h (by omega) rfl
  rw [bt_no h hn, m_open hfu h16 hM ho]
  simp only [Option.bind_some]
  rw [if_pos trivial, hc]
  simp only [Option.bind_some]
  rw [if_neg i10]
  refine ⟨fun e => ?_, fun e => ?_, fun e1 e2 => ?_⟩
  · rw [w22.1 e]; rfl
  · rw [w22.2 (by rw [e]; decide)]
    simp only [Option.bind_some]
    rw [if_pos trivial, w21.1 e]; rfl
  · rw [w22.2 e1]
    simp only [Option.bind_some]
    rw [if_pos trivial, w21.2 e2]; rfl
/-- an instruction comes upon the pile -/
theorem h_push (nx : NX kd vl sp tp en len N fu) {J : TI} {K : TL} {k w m n op' r lv : Nat} {c : Int32} (hfu : 2000 ≤ fu) (h : MS kd vl sp tp en len t0 so J K k w (m + n) (op' + nc J m n) 1) (hk : k < N) (ht : t0 ≤ 2043) (hw : w + n ≤ 303) (hm : m + n < 160) (hb : FO_M_betweenOf fu J K = some (c, J, K)) (hc : ¬ c < 0) (hr : rk c = r) (hlv : lv = if r = 4 then 5 else r) (hl : r ≤ 7) (hpd : ∀ i, i < n → lv ≤ rk (J 336 (m + i))) (h0 : m = 0 ∨ rk (J 336 (m - 1)) < lv) : ∃ J' K', FO_M_behindOne fu J K = some (0, J', K') ∧ MS kd vl sp tp en len t0 so J' K' (k + 1) (w + n) (m + 1) op' 0 ∧ FrM J J' ∧ J' 334 = (stl n J) 334 ∧ PlM J J' m ∧ J' 336 m = c := by
  obtain ⟨sr, ms, fr⟩ := ms_stl h ht hw (by omega)
  have hl' : lv < 10 := by rw [hlv]; split <;> omega
  have es := m_set (fu := fu) (K := K) (J := J) (m := m) (n := n) (w := w) (least := lv) hfu (show t0 < 2724 by omega) hl' h.2.1 h.2.2.1 h.2.2.2.1 (by omega) (by omega) hpd h0
  have hs : MS kd vl sp tp en len t0 so (sI (sI (sI (stl n J) 336 m c) 331 16 (nI (m + 1))) 331 18 0) K k (w + n) (m + 1) op' 0 := ms.st (fun i a b c d => by simp [sI_ap, b, d]) (by rw [sJ_ne (by omega), sJ_ne (by omega), sJ_ne (by omega)]) (by simp [sI_ap, ms.2.2.1]) (by simp [sI_ap]) (by simp [sI_ap, ms.2.2.2.2.1]) (by simp [sI_ap]; rfl)
  obtain ⟨J', K', a, b, n'⟩ := m_nxt nx hs hk
  refine ⟨J', K', ?_, b, ?_, ?_, ?_, ?_⟩
  · unfold FO_M_behindOne
    rw [hb]
    simp only [Option.bind_some]
    rw [if_neg hc, m_rank, hr]
    simp only [Option.bind_some]
    by_cases c4 : r = 4
    · rw [if_pos (show nI r = 4 by rw [c4]; rfl), show (5 : Int32) = nI lv by rw [hlv, if_pos c4]; rfl, es]
      simp only [Option.bind_some]
      rw [ms.2.2.2.1, if_pos (show (0 : Int32) ≤ nI m ∧ nI m < 160 from ib (n := 160) rfl (by omega) (by omega)), nI_clamp (show m < 2 ^ 31 by omega), nI_1, a]
      rfl
    · rw [if_neg (show ¬ nI r = 4 from fun z => c4 ((nI_eq (b := 4) (by omega) (by omega)).mp z)), m_rank, hr]
      simp only [Option.bind_some]
      rw [show nI r = nI lv by rw [hlv, if_neg c4], es]
      simp only [Option.bind_some]
      rw [ms.2.2.2.1, if_pos (show (0 : Int32) ≤ nI m ∧ nI m < 160 from ib (n := 160) rfl (by omega) (by omega)), nI_clamp (show m < 2 ^ 31 by omega), nI_1, a]
      rfl
  · refine FrM.tr (FrM.tr fr ⟨fun o a b c => by rw [sJ_ne a, sJ_ne a, sJ_ne c], fun i a b c d e f g h => by simp [sI_ap, f, h]⟩) n'.fr
  · rw [n'.1 334 (by omega), sJ_ne (by omega), sJ_ne (by omega), sJ_ne (by omega)]
  · intro i hi
    rw [n'.1 336 (by omega), sJ_ne (by omega), sJ_ne (by omega), sI_ap, if_pos rfl, if_neg (by omega), sr.1 336 (by omega) (by omega)]
  · rw [n'.1 336 (by omega), sJ_ne (by omega), sJ_ne (by omega)]
    simp [sI_ap]
theorem p_40 {J : TI} {K : TL} {k : Nat} (h : MK kd vl sp tp en len J K k) : (kd k = 19 → FO_M_partOf fu 40 J K = some (0, J, K)) ∧ (¬ kd k = 19 → FO_M_partOf fu 40 J K = some (-1, J, K)) := by
  have s := h.sg 41 19 (by decide)
  unfold FO_M_partOf
  rw [if_pos rfl]
  exact ⟨fun e => by rw [if_pos (show J 331 9 = 41 from s.mpr e)], fun e => by rw [if_neg (show ¬ J 331 9 = 41 from fun z => e (s.mp z))]⟩
theorem p_42 {J : TI} {K : TL} {k : Nat} {cv : Int32} (h : MK kd vl sp tp en len J K k) (hc : FO_M_isCompared fu J K = some (cv, J, K)) : (kd k = nI 48 → ¬ cv = 0 → FO_M_partOf fu 42 J K = some (43, J, K)) ∧ ((¬ kd k = nI 48 ∨ cv = 0) → FO_M_partOf fu 42 J K = some (-1, J, K)) := by
  have w := m_isW (fu := fu) (i := 18) h (by omega) rfl
  unfold FO_M_partOf
  rw [if_neg (by decide), if_pos rfl, ww18]
  simp only [Option.bind_some]
  refine ⟨fun e e2 => ?_, fun e => ?_⟩
  · rw [w.1 e]
    simp only [Option.bind_some]
    rw [if_neg i10, hc]
    simp only [Option.bind_some]
    rw [if_neg e2]
  · by_cases c : kd k = nI 48
    · rw [w.1 c]
      simp only [Option.bind_some]
      rw [if_neg i10, hc]
      simp only [Option.bind_some]
      rw [if_pos (e.resolve_left (fun z => z c))]
    · rw [w.2 c]; rfl
theorem p_43 {J : TI} {K : TL} {k : Nat} (h : MK kd vl sp tp en len J K k) : (kd k = nI 49 → FO_M_partOf fu 43 J K = some (44, J, K)) ∧ (¬ kd k = nI 49 → FO_M_partOf fu 43 J K = some (-1, J, K)) := by
  have w := m_isW (fu := fu) (i := 19) h (by omega) rfl
  unfold FO_M_partOf
  rw [if_neg (by decide), if_neg (by decide), if_pos rfl, ww19]
  simp only [Option.bind_some]
  exact ⟨fun e => by rw [w.1 e]; rfl, fun e => by rw [w.2 e]; rfl⟩
theorem p_44 {J : TI} {K : TL} {k : Nat} (h : MK kd vl sp tp en len J K k) : (kd k = nI 50 → FO_M_partOf fu 44 J K = some (0, J, K)) ∧ (¬ kd k = nI 50 → FO_M_partOf fu 44 J K = some (-1, J, K)) := by
  have w := m_isW (fu := fu) (i := 20) h (by omega) rfl
  unfold FO_M_partOf
  rw [if_neg (by decide), if_neg (by decide), if_neg (by decide), if_pos rfl, ww20]
  simp only [Option.bind_some]
  exact ⟨fun e => by rw [w.1 e]; rfl, fun e => by rw [w.2 e]; rfl⟩
/-- it can't stand here -/
theorem h_bad {J : TI} {K : TL} {f M : Nat} {v : Int32} (hfu : 2000 ≤ fu) (h18 : J 331 18 = nI 1) (h16 : J 331 16 = nI M) (hM : M ≤ 160) (ho : OpN J M v) (hb : FO_M_betweenOf fu J K = some (-1, J, K)) (hp : FO_M_partOf fu v J K = some (-1, J, K)) (hv : 0 ≤ v) : LO_M_summed_15 fu (f + 1) J K = some (nI 1, J, K) := by
  rw [LO_h h18]
  unfold FO_M_behindOne
  rw [hb]
  simp only [Option.bind_some]
  rw [if_pos (by decide), m_open hfu h16 hM ho]
  simp only [Option.bind_some]
  rw [hp]
  simp only [Option.bind_some]
  rw [if_neg (by decide)]
  show CT fu f (-1, J, K) = _
  unfold CT
  simp only []
  rw [if_pos (by decide), if_neg (by decide), m_open hfu h16 hM ho]
  simp only [Option.bind_some]
  rw [if_neg (Int32.not_lt.mpr hv)]
  rfl
/-- the end of a sum that nothing is open around -/
theorem h_fin {J : TI} {K : TL} {f n w : Nat} (hfu : 2000 ≤ fu) (h18 : J 331 18 = nI 1) (h12 : J 331 12 = nI t0) (h13 : J 331 13 = nI w) (h16 : J 331 16 = nI n) (ht : t0 ≤ 2043) (hw : w + n ≤ 303) (hM : n ≤ 160) (hb : FO_M_betweenOf fu J K = some (-1, J, K)) (hpd : ∀ i, i < n → 1 ≤ rk (J 336 i)) : LO_M_summed_15 fu (f + 1) J K = some (0, stl n J, K) := by
  have ho : OpN J n (-1) := Or.inl ⟨rfl, fun i hi => rk_pos (hpd i hi)⟩
  have hp : FO_M_partOf fu (-1) J K = some (-1, J, K) := rfl
  have es := m_set (fu := fu) (K := K) (J := J) (m := 0) (n := n) (w := w) (least := 1) hfu (show t0 < 2724 by omega) (by omega) h12 h13 (by rw [Nat.zero_add]; exact h16) (by omega) (by omega) (fun i hi => by rw [Nat.zero_add]; exact hpd i hi) (Or.inl rfl)
  rw [LO_h h18]
  unfold FO_M_behindOne
  rw [hb]
  simp only [Option.bind_some]
  rw [if_pos (by decide), m_open hfu h16 hM ho]
  simp only [Option.bind_some]
  rw [hp]
  simp only [Option.bind_some]
  rw [if_neg (by decide)]
  show CT fu f (-1, J, K) = _
  unfold CT
  simp only []
  rw [if_pos (by decide), if_neg (by decide), m_open hfu h16 hM ho]
  simp only [Option.bind_some]
  rw [if_pos (by decide), show (1 : Int32) = nI 1 from rfl, es]
  rfl
/-- a part of what is open is over; the next one begins, or it is shut -/
theorem h_part (nx : NX kd vl sp tp en len N fu) {J : TI} {K : TL} {k w m n op' : Nat} {v pt : Int32} (hfu : 2000 ≤ fu) (h : MS kd vl sp tp en len t0 so J K k w (m + 1 + n) (op' + nc J (m + 1) n) 1) (hk : k < N) (ht : t0 ≤ 2043) (hw : w + n ≤ 302) (hm : m + 1 + n < 160) (hb : FO_M_betweenOf fu J K = some (-1, J, K)) (hv : J 336 m = v) (h40 : 40 ≤ v) (hp : FO_M_partOf fu v J K = some (pt, J, K)) (hpd : ∀ i, i < n → 1 ≤ rk (J 336 (m + 1 + i))) :
    (40 ≤ pt → ∃ J' K', FO_M_behindOne fu J K = some (0, J', K') ∧ MS kd vl sp tp en len t0 so J' K' (k + 1) (w + n) (m + 1) op' 0 ∧ FrM J J' ∧ J' 334 = (stl n J) 334 ∧ PlM J J' m ∧ J' 336 m = pt) ∧
    (pt = 0 → 1 ≤ op' → ¬ v = 44 → ∃ J' K', FO_M_behindOne fu J K = FO_M_endOne fu J' K' ∧ MS kd vl sp tp en len t0 so J' K' (k + 1) (w + n) m (op' - 1) 1 ∧ FrM J J' ∧ J' 334 = (stl n J) 334 ∧ PlM J J' m) ∧
    (pt = 0 → 1 ≤ op' → v = 44 → ∃ J' K', FO_M_behindOne fu J K = FO_M_endOne fu J' K' ∧ MS kd vl sp tp en len t0 so J' K' (k + 1) (w + n + 1) m (op' - 1) 1 ∧ FrM J J' ∧ (∀ x, x < t0 + 73 + 2 * (w + n) → J' 334 x = (stl n J) 334 x) ∧ J' 334 (t0 + 73 + 2 * (w + n)) = 3 ∧ PlM J J' m) := by
  have h16 := h.2.2.2.1
  have ho : OpN J (m + 1 + n) v := Or.inr ⟨m, by omega, hv, h40, fun i h1 h2 => by
    obtain ⟨j, rfl⟩ : ∃ j, i = m + 1 + j := ⟨i - (m + 1), by omega⟩
    exact rk_pos (hpd j (by omega))⟩
  obtain ⟨sr, ms, fr⟩ := ms_stl h ht (by omega) (by omega)
  have r0 : rk (J 336 m) = 0 := by
    unfold rk
    rw [if_neg (Int32.not_lt.mpr (by rw [hv]; exact h40))]
  have es := m_set (fu := fu) (K := K) (J := J) (m := m + 1) (n := n) (w := w) (least := 1) hfu (show t0 < 2724 by omega) (by omega) h.2.1 h.2.2.1 h16 (by omega) (by omega) hpd (Or.inr (show rk (J 336 m) < 1 by omega))
  obtain ⟨J1, K1, a, b, n'⟩ := m_nxt nx ms hk
  have e336 : J1 336 = J 336 := (n'.1 336 (by omega)).trans (sr.1 336 (by omega) (by omega))
  have e334 : J1 334 = (stl n J) 334 := n'.1 334 (by omega)
  have bh : FO_M_behindOne fu J K = if 0 ≤ pt then (if pt = 0 then (if v = 44 then ((FO_M_emit fu 3 0 (sI (sI J1 331 17 ((J1 331 17) - 1)) 331 16 ((J1 331 16) - 1)) K1).bind (fun u9 => FO_M_endOne fu u9.2.1 u9.2.2)) else FO_M_endOne fu (sI (sI J1 331 17 ((J1 331 17) - 1)) 331 16 ((J1 331 16) - 1)) K1) else ((FO_M_openAt fu J1 K1).bind (fun u6 => if 0 ≤ u6.1 ∧ u6.1 < 160 then (some (0, sI (sI u6.2.1 336 u6.1.toNatClampNeg pt) 331 18 0, u6.2.2)) else none))) else some (-1, J, K) := by
    have be : ∀ x : Option (Int32 × TI × TL), (x.bind fun u => some (u.1, u.2.1, u.2.2)) = x := fun x => bind_eta x
    unfold FO_M_behindOne
    rw [hb]
    simp only [Option.bind_some]
    rw [if_pos (by decide), m_open hfu h16 (by omega) ho]
    simp only [Option.bind_some]
    rw [hp]
    simp only [Option.bind_some]
    rw [show (1 : Int32) = nI 1 from rfl, es]
    simp only [Option.bind_some]
    rw [a]
    simp only [Option.bind_some, be]
  refine ⟨fun h4 => ?_, fun hz ho1 hv4 => ?_, fun hz ho1 hv4 => ?_⟩
  · have oa := m_openAt (fu := fu) (K := K1) (J := J1) (m := m + 1) (a := m) hfu b.2.2.2.1 (by omega) (by omega) (by rw [e336, hv]; exact h40) (fun i h1 h2 => by omega)
    rw [bh, if_pos (Int32.le_trans (by decide) h4), if_neg (fun z => by rw [z] at h4; exact absurd h4 (by decide)), oa]
    simp only [Option.bind_some]
    rw [if_pos (show (0 : Int32) ≤ nI m ∧ nI m < 160 from ib (n := 160) rfl (by omega) (by omega)), nI_clamp (show m < 2 ^ 31 by omega)]
    refine ⟨_, K1, rfl, b.st (fun i a b c d => by simp [sI_ap, d]) (by rw [sJ_ne (by omega), sJ_ne (by omega)]) (by simp [sI_ap, b.2.2.1]) (by simp [sI_ap, b.2.2.2.1]) (by simp [sI_ap, b.2.2.2.2.1]) (by simp [sI_ap]; rfl), ?_, ?_, ?_, ?_⟩
    · exact FrM.tr (FrM.tr fr n'.fr) ⟨fun o a b c => by rw [sJ_ne a, sJ_ne c], fun i a b c d e f g h => by simp [sI_ap, h]⟩
    · rw [sJ_ne (by omega), sJ_ne (by omega), e334]
    · intro i hi
      rw [sJ_ne (by omega), sI_ap, if_pos rfl, if_neg (by omega), e336]
    · rw [sJ_ne (by omega)]
      simp [sI_ap]
  · rw [bh, if_pos (by rw [hz]; decide), if_pos hz, if_neg hv4, b.2.2.2.2.1, b.2.2.2.1, nI_pred, show nI op' - 1 = nI (op' - 1) from pk_sub (b := 1) ho1]
    refine ⟨_, K1, rfl, b.st (fun i a b c d => by simp [sI_ap, b, c]) (by rw [sJ_ne (by omega), sJ_ne (by omega)]) (by simp [sI_ap, b.2.2.1]) (by simp [sI_ap]) (by simp [sI_ap]) (by simp [sI_ap, b.2.2.2.2.2.1]), ?_, ?_, ?_⟩
    · exact FrM.tr (FrM.tr fr n'.fr) ⟨fun o a b c => by rw [sJ_ne a, sJ_ne a], fun i a b c d e f g h => by simp [sI_ap, f, g]⟩
    · rw [sJ_ne (by omega), sJ_ne (by omega), e334]
    · intro i hi
      rw [sJ_ne (by omega), sJ_ne (by omega), e336]
  · have em := m_emit (fu := fu) (a := 3) (b := 0) (K := K1) (J := sI (sI J1 331 17 (nI (op' - 1))) 331 16 (nI m)) (t0 := t0) (w := w + n) (by simp [sI_ap, b.2.1]) (by simp [sI_ap, b.2.2.1]) (by omega)
    rw [bh, if_pos (by rw [hz]; decide), if_pos hz, if_pos hv4, b.2.2.2.2.1, b.2.2.2.1, nI_pred, show nI op' - 1 = nI (op' - 1) from pk_sub (b := 1) ho1, em]
    simp only [Option.bind_some]
    refine ⟨_, K1, rfl, b.st (fun i a b c d => by simp [sI_ap, a, b, c]) (by rw [sJ_ne (by omega), sJ_ne (by omega), sJ_ne (by omega), sJ_ne (by omega), sJ_ne (by omega)]) (by simp [sI_ap]) (by simp [sI_ap]) (by simp [sI_ap]) (by simp [sI_ap, b.2.2.2.2.2.1]), ?_, ?_, ?_, ?_⟩
    · exact FrM.tr (FrM.tr fr n'.fr) ⟨fun o a b c => by rw [sJ_ne a, sJ_ne b, sJ_ne b, sJ_ne a, sJ_ne a], fun i a b c d e f g h => by simp [sI_ap, e, f, g]⟩
    · intro x hx
      rw [← e334]
      simp [sI_ap, show ¬ x = t0 + 73 + 2 * (w + n) by omega, show ¬ x = t0 + 73 + 2 * (w + n) + 1 by omega]
    · simp [sI_ap]
    · intro i hi
      rw [sJ_ne (by omega), sJ_ne (by omega), sJ_ne (by omega), sJ_ne (by omega), sJ_ne (by omega), e336]
end
