/-! the model's next token is the class's -/
theorem mt_gen {t d : Nat} {v num : Int32} {w : Int64} (ht : t < 256) (hd : d < 30) (t0 : ¬ t = 0) (t1 : ¬ t = 1) (t2 : ¬ t = 2) (d0 : ¬ d = 0) (d2 : ¬ d = 2) (hs : sgs.all (fun s => decide (t = s.1) == decide (d = s.2)) = true) : MT (nI d) v (nI t) num w := by
  have q : ∀ {a b : Nat}, a < 256 → b < 256 → (nI a = nI b ↔ a = b) := fun h1 h2 => nI_eq (by omega) (by omega)
  have sb : ∀ s, s ∈ sgs → s.1 < 256 ∧ s.2 < 256 := by decide
  refine ⟨⟨fun z => absurd ((q ht (by omega : 0 < 256)).mp z) t0, fun z => absurd ((q (by omega) (by omega : 0 < 256)).mp z) d0⟩, ⟨fun z => absurd ((q ht (by omega : 1 < 256)).mp z) t1, fun z => absurd ((q (by omega) (by omega : 2 < 256)).mp z) d2⟩, fun z => absurd ((q (by omega) (by omega : 2 < 256)).mp z) d2, fun i hi => ⟨fun z => absurd ((q ht (by omega : 2 < 256)).mp z.1) t2, fun z => by have := (q (by omega) (by omega)).mp z; omega⟩, fun s hs' => ?_⟩
  have h := List.all_eq_true.mp hs s hs'
  have e : decide (t = s.1) = decide (d = s.2) := by simpa using h
  obtain ⟨b1, b2⟩ := sb s hs'
  rw [q ht b1, q (by omega) b2]
  exact decide_eq_decide.mp e
theorem mt_end {num : Int32} {w : Int64} : MT (nI 0) (nI 0) 0 num w := by
  refine ⟨⟨fun _ => rfl, fun _ => rfl⟩, ⟨fun z => absurd z (by decide), fun z => absurd z (by decide)⟩, fun z => absurd z (by decide), fun i hi => ⟨fun z => absurd z.1 (by decide), fun z => by have := (nI_eq (by omega) (by omega)).mp z; omega⟩, ?_⟩
  decide
theorem mt_num {a b : Nat} {w : Int64} (ha : a < 1000000) (hb : b = min a 10000) : MT (nI 2) (nI b) 1 (nI a) w := by
  refine ⟨⟨fun z => absurd z (by decide), fun z => absurd z (by decide)⟩, ⟨fun _ => rfl, fun _ => rfl⟩, fun _ => ⟨a, b, ha, rfl, rfl, hb⟩, fun i hi => ⟨fun z => absurd z.1 (by decide), fun z => by have := (nI_eq (by omega) (by omega)).mp z; omega⟩, ?_⟩
  decide
theorem mt_word {τ : Nat → Nat} {s n : Nat} {num : Int32} (h : ∀ u, u < n → 65 ≤ τ (s + u) ∧ τ (s + u) ≤ 122) : MT (nI (wK τ s n)) (nI 0) 2 num (lN (pW τ s n)) := by
  have hw := (wK_iff (τ := τ) (s := s) (n := n) 26 0 rfl).2
  have hr : wK τ s n = 1 ∨ (30 ≤ wK τ s n ∧ wK τ s n < 56) := by
    rcases hw with h | ⟨i, _, h2, h3⟩
    · exact Or.inl h
    · right
      have : wK τ s n = 30 + i := h3
      omega
  have sb : ∀ s, s ∈ sgs → ¬ s.1 = 2 ∧ ¬ s.2 = 1 ∧ s.2 < 30 ∧ s.1 < 256 := by decide
  refine ⟨⟨fun z => absurd z (by decide), fun z => by have := (nI_eq (b := 0) (by omega) (by omega)).mp z; omega⟩, ⟨fun z => absurd z (by decide), fun z => by have := (nI_eq (b := 2) (by omega) (by omega)).mp z; omega⟩, fun z => by have := (nI_eq (b := 2) (by omega) (by omega)).mp z; omega, fun i hi => ?_, fun x hx => ?_⟩
  · rw [word_iff h hi]
    exact ⟨fun z => by rw [z.2], fun z => ⟨rfl, (nI_eq (by omega) (by omega)).mp z⟩⟩
  · obtain ⟨b1, b2, b3, b4⟩ := sb x hx
    exact ⟨fun z => absurd ((nI_eq (a := 2) (by omega) (by omega)).mp z).symm b1, fun z => by have := (nI_eq (by omega) (by omega)).mp z; omega⟩
theorem mt_3 {num : Int32} {w : Int64} : MT (nI 3) (nI 0) (nI 4) num w := mt_gen (by omega) (by omega) (by omega) (by omega) (by omega) (by omega) (by omega) (by decide)
theorem mt_4 {num : Int32} {w : Int64} : MT (nI 4) (nI 0) (nI 5) num w := mt_gen (by omega) (by omega) (by omega) (by omega) (by omega) (by omega) (by omega) (by decide)
theorem nb_ok {fu len i : Nat} {τ : Nat → Nat} {J : TI} {K : TL} (hfu : 2000 ≤ fu) (hm : MTap J τ len) (hi : i ≤ len) (h7 : J 331 7 = nI i) (hnb : i < len → ¬ isBb (τ i) = true) : ∃ J' K', NB fu J K = some ((), J', K') ∧ J' 331 7 = nI (tkE τ len i) ∧ J' 331 8 = nI i ∧ MT (nI (tkK τ len i)) (nI (tkV τ len i)) (J' 331 9) (J' 331 10) (K' 331 11) ∧ NXf J J' := by
  have hl := hm.1
  have hm3 : MTap (sI J 331 8 (nI i)) τ len := hm.cg (by simp [sI_ap]) (sJ_ne (by omega))
  unfold NB
  rw [h7, m_byte hm3 (by omega)]
  simp only [Option.bind_some]
  by_cases c : i < len
  · rw [if_pos c]
    have t2 := (hm.2.2 i c).2
    have hnb' := hnb c
    rw [if_pos (show (0 : Int32) ≤ nI (τ i) from nI_pos' (by omega)), m_fgr, fgc_c _ (by omega)]
    simp only [Option.bind_some]
    by_cases cd : isDb (τ i) = true
    · have cl : ¬ isLb (τ i) = true := fun z => by
        have h1 : 48 ≤ τ i ∧ τ i ≤ 57 := of_decide_eq_true cd
        have h2 : (97 ≤ τ i ∧ τ i ≤ 122) ∨ (65 ≤ τ i ∧ τ i ≤ 90) := of_decide_eq_true z
        omega
      rw [if_pos cd, if_neg i10]
      obtain ⟨J', r1, r2, r3, r4, r5⟩ := lo_fig (fu := fu) (s := i) (x := nI (τ i)) (len - i) i fu (sI (sI (sI J 331 8 (nI i)) 331 9 1) 331 10 0) K (by omega) (Nat.le_refl _) (by omega) (hm.cg (by simp [sI_ap]) (by rw [sJ_ne (by omega), sJ_ne (by omega), sJ_ne (by omega)])) (by simp [sI_ap, h7]) (by rw [Nat.sub_self]; simp [sI_ap]; rfl) (fun u h1 h2 => by omega)
      have hn := rn_le (P := isDb) (τ := τ) (len := len) (len - i) i (by omega)
      have nm := nM_v (τ := τ) (s := i) (rn isDb τ len i - i) (fun u hu => of_decide_eq_true (hn.2.2.1 (i + u) (by omega) (by omega)))
      refine ⟨J', K, r1, ?_, ?_, ?_, fun o ho => by rw [r4 o ho, sJ_ne ho, sJ_ne ho, sJ_ne ho], fun t a b c d => by rw [r5 t a d]; simp [sI_ap, b, c, d]⟩
      · rw [r2]; unfold tkE; rw [if_neg (by omega), if_neg cl, if_pos cd]
      · rw [r5 8 (by omega) (by omega)]; simp [sI_ap]
      · rw [r3, r5 9 (by omega) (by omega), show tkK τ len i = 2 from by unfold tkK; rw [if_neg (by omega), if_neg cl, if_pos cd], show tkV τ len i = nv τ i (rn isDb τ len i - i) from by unfold tkV; rw [if_neg (by omega), if_neg cl, if_pos cd]]
        have := mt_num (w := K 331 11) nm.1 nm.2
        simp [sI_ap]
        exact this
    · rw [if_neg cd, if_pos rfl, m_let, ltc_c _ (by omega)]
      simp only [Option.bind_some]
      by_cases cl : isLb (τ i) = true
      · rw [if_pos cl, if_neg i10]
        obtain ⟨J', K', r1, r2, r3, r4, r5⟩ := lo_let (fu := fu) (s := i) (x := nI (τ i)) (len - i) i fu (sI (sI J 331 8 (nI i)) 331 9 2) (sL K 331 11 0) (by omega) (Nat.le_refl _) (by omega) (hm.cg (by simp [sI_ap]) (by rw [sJ_ne (by omega), sJ_ne (by omega)])) (by simp [sI_ap, h7]) (by rw [Nat.sub_self, sM_at, pk_uLs]; rfl) (by rw [Nat.sub_self]; show 0 < 2 ^ 62; omega)
        have hn := rn_le (P := isLb) (τ := τ) (len := len) (len - i) i (by omega)
        refine ⟨J', K', r1, ?_, ?_, ?_, fun o ho => by rw [r4 o ho, sJ_ne ho, sJ_ne ho], fun t a b c d => by rw [r5 t a]; simp [sI_ap, b, c]⟩
        · rw [r2]; unfold tkE; rw [if_neg (by omega), if_pos cl]
        · rw [r5 8 (by omega)]; simp [sI_ap]
        · rw [r3, r5 9 (by omega), show tkK τ len i = wK τ i (rn isLb τ len i - i) from by unfold tkK; rw [if_neg (by omega), if_pos cl], show tkV τ len i = 0 from by unfold tkV; rw [if_neg (by omega), if_pos cl]]
          have := mt_word (τ := τ) (s := i) (n := rn isLb τ len i - i) (num := J' 331 10) (fun u hu => by
            have : (97 ≤ τ (i + u) ∧ τ (i + u) ≤ 122) ∨ (65 ≤ τ (i + u) ∧ τ (i + u) ≤ 90) := of_decide_eq_true (hn.2.2.1 (i + u) (by omega) (by omega))
            omega)
          rw [show sI (sI J 331 8 (nI i)) 331 9 2 331 9 = 2 from by simp [sI_ap]]
          exact this
      · rw [if_neg cl, if_pos rfl, m_sgn]
        simp only [Option.bind_some]
        obtain ⟨g1, g2, g3, g4, g5, g6, g7, g8, g9⟩ := tkS_c (c := τ i) (by omega) (by simpa using cl) (by simpa using cd) (by simpa using hnb')
        have ev : tkV τ len i = 0 := by unfold tkV; rw [if_neg (by omega), if_neg cl, if_neg cd]
        have e37 : sI J 331 8 (nI i) 331 7 = nI i := by simp [sI_ap, h7]
        have n60 : nI (τ i) = 60 ↔ τ i = 60 := nI_eq (b := 60) (by omega) (by omega)
        have n62 : nI (τ i) = 62 ↔ τ i = 62 := nI_eq (b := 62) (by omega) (by omega)
        have one : ∀ x : Int32, x = nI (tkS (τ i)) → ¬ two τ len i = true → ∃ J' K', some ((), sI (sI (sI J 331 8 (nI i)) 331 9 x) 331 7 (nI (i + 1)), K) = some ((), J', K') ∧ J' 331 7 = nI (tkE τ len i) ∧ J' 331 8 = nI i ∧ MT (nI (tkK τ len i)) (nI (tkV τ len i)) (J' 331 9) (J' 331 10) (K' 331 11) ∧ NXf J J' := by
          intro x hx ct
          refine ⟨_, K, rfl, ?_, by simp [sI_ap], ?_, fun o ho => by rw [sJ_ne ho, sJ_ne ho, sJ_ne ho], fun t a b c d => by simp [sI_ap, a, b, c]⟩
          · rw [show tkE τ len i = i + 1 from by unfold tkE; rw [if_neg (by omega), if_neg cl, if_neg cd, if_neg ct]]; simp [sI_ap]
          · rw [ev, show tkK τ len i = sgK (τ i) from by unfold tkK; rw [if_neg (by omega), if_neg cl, if_neg cd, if_neg ct]]
            rw [show sI (sI (sI J 331 8 (nI i)) 331 9 x) 331 7 (nI (i + 1)) 331 9 = nI (tkS (τ i)) from by simp [sI_ap, hx]]
            exact mt_gen g2 g8 g3 g4 g5 g6 g7 g9
        rcases g1 with z | z
        · have n6 : ¬ τ i = 60 := fun e => by rw [e] at z; exact absurd z (by decide)
          have n7 : ¬ τ i = 62 := fun e => by rw [e] at z; exact absurd z (by decide)
          rw [z, if_pos rfl, if_neg (fun q => n6 (n60.mp q)), if_neg (fun q => n7 (n62.mp q)), e37, nI_1]
          exact one 3 (by unfold tkS; rw [if_neg (by rw [z]; decide)]; rfl) (fun q => (of_decide_eq_true q).2.2.elim n6 n7)
        · have ets : tkS (τ i) = τ i := by unfold tkS; rw [if_pos z]
          rw [z, if_neg i10, e37, nI_1]
          have hmt : MTap (sI (sI (sI J 331 8 (nI i)) 331 9 (nI (τ i))) 331 7 (nI (i + 1))) τ len := hm.cg (by simp [sI_ap]) (by rw [sJ_ne (by omega), sJ_ne (by omega), sJ_ne (by omega)])
          have mb := m_byte (fu := fu) (i := i + 1) (K := K) hmt (by omega)
          have e77 : sI (sI (sI J 331 8 (nI i)) 331 9 (nI (τ i))) 331 7 (nI (i + 1)) 331 7 = nI (i + 1) := by simp [sI_ap]
          have dbl : ∀ (x : Int32) (tn : Nat), two τ len i = true → x = nI (tn + 1) → tkK τ len i = tn → (tn = 3 ∨ tn = 4) → ∃ J' K', some ((), sI (sI (sI (sI (sI J 331 8 (nI i)) 331 9 (nI (τ i))) 331 7 (nI (i + 1))) 331 9 x) 331 7 (nI (i + 1) + 1), K) = some ((), J', K') ∧ J' 331 7 = nI (tkE τ len i) ∧ J' 331 8 = nI i ∧ MT (nI (tkK τ len i)) (nI (tkV τ len i)) (J' 331 9) (J' 331 10) (K' 331 11) ∧ NXf J J' := by
            intro x tn ct hx hk htn
            refine ⟨_, K, rfl, ?_, by simp [sI_ap], ?_, fun o ho => by rw [sJ_ne ho, sJ_ne ho, sJ_ne ho, sJ_ne ho, sJ_ne ho], fun t a b c d => by simp [sI_ap, a, b, c]⟩
            · rw [show tkE τ len i = i + 2 from by unfold tkE; rw [if_neg (by omega), if_neg cl, if_neg cd, if_pos ct], nI_1]; simp [sI_ap]
            · rw [ev, hk]
              rw [show sI (sI (sI (sI (sI J 331 8 (nI i)) 331 9 (nI (τ i))) 331 7 (nI (i + 1))) 331 9 x) 331 7 (nI (i + 1) + 1) 331 9 = nI (tn + 1) from by simp [sI_ap, hx]]
              rcases htn with rfl | rfl
              · exact mt_3
              · exact mt_4
          by_cases c60 : τ i = 60
          · rw [if_pos (n60.mpr c60), mb]
            simp only [Option.bind_some]
            by_cases cn : i + 1 < len ∧ τ (i + 1) = 61
            · have ct : two τ len i = true := decide_eq_true ⟨cn.1, cn.2, Or.inl c60⟩
              rw [if_pos cn.1, if_pos (show nI (τ (i + 1)) = 61 by rw [cn.2]; rfl), if_pos (n60.mpr c60), e77]
              exact dbl 4 3 ct rfl (by unfold tkK; rw [if_neg (by omega), if_neg cl, if_neg cd, if_pos ct, if_pos c60]) (by omega)
            · have ct : ¬ two τ len i = true := fun q => cn ⟨(of_decide_eq_true q).1, (of_decide_eq_true q).2.1⟩
              rw [if_neg (show ¬ (if i + 1 < len then nI (τ (i + 1)) else -1) = 61 from fun q => by
                by_cases c1 : i + 1 < len
                · rw [if_pos c1] at q
                  have t4 := (hm.2.2 (i + 1) c1).2
                  exact cn ⟨c1, (nI_eq (b := 61) (by omega) (by omega)).mp q⟩
                · rw [if_neg c1] at q; exact absurd q (by decide))]
              exact one (nI (τ i)) (by rw [ets]) ct
          · rw [if_neg (fun q => c60 (n60.mp q))]
            by_cases c62 : τ i = 62
            · rw [if_pos (n62.mpr c62), mb]
              simp only [Option.bind_some]
              by_cases cn : i + 1 < len ∧ τ (i + 1) = 61
              · have ct : two τ len i = true := decide_eq_true ⟨cn.1, cn.2, Or.inr c62⟩
                rw [if_pos cn.1, if_pos (show nI (τ (i + 1)) = 61 by rw [cn.2]; rfl), if_neg (fun q => c60 (n60.mp q)), e77]
                exact dbl 5 4 ct rfl (by unfold tkK; rw [if_neg (by omega), if_neg cl, if_neg cd, if_pos ct, if_neg c60]) (by omega)
              · have ct : ¬ two τ len i = true := fun q => cn ⟨(of_decide_eq_true q).1, (of_decide_eq_true q).2.1⟩
                rw [if_neg (show ¬ (if i + 1 < len then nI (τ (i + 1)) else -1) = 61 from fun q => by
                  by_cases c1 : i + 1 < len
                  · rw [if_pos c1] at q
                    have t4 := (hm.2.2 (i + 1) c1).2
                    exact cn ⟨c1, (nI_eq (b := 61) (by omega) (by omega)).mp q⟩
                  · rw [if_neg c1] at q; exact absurd q (by decide))]
                exact one (nI (τ i)) (by rw [ets]) ct
            · rw [if_neg (fun q => c62 (n62.mp q))]
              exact one (nI (τ i)) (by rw [ets]) (fun q => (of_decide_eq_true q).2.2.elim c60 c62)
  · have e : i = len := by omega
    subst e
    rw [if_neg c, if_neg (by decide)]
    refine ⟨_, K, rfl, ?_, by simp [sI_ap], ?_, fun o ho => by rw [sJ_ne ho, sJ_ne ho], fun t a b c d => by simp [sI_ap, b, c]⟩
    · rw [show tkE τ i i = i from by unfold tkE; rw [if_pos (Nat.le_refl _)]]; simp [sI_ap, h7]
    · rw [show tkK τ i i = 0 from by unfold tkK; rw [if_pos (Nat.le_refl _)], show tkV τ i i = 0 from by unfold tkV; rw [if_pos (Nat.le_refl _)], show sI (sI J 331 8 (nI i)) 331 9 0 331 9 = 0 from by simp [sI_ap]]
      exact mt_end
/-- blanks are passed -/
theorem nt_sk {fu len : Nat} {τ : Nat → Nat} {J : TI} {K : TL} {i : Nat} (hm : MTap J τ len) (hi : i ≤ len) (h7 : J 331 7 = nI i) : ∀ f, LO_M_nextToken_0 fu (f + 1) J K = (if (decide (i < len) && isBb (τ i)) = true then LO_M_nextToken_0 fu f (sI J 331 7 (nI (i + 1))) K else NB fu J K) ∧ FO_M_nextToken fu J K = (if (decide (i < len) && isBb (τ i)) = true then LO_M_nextToken_0 fu fu (sI J 331 7 (nI (i + 1))) K else NB fu J K) := by
  have hl := hm.1
  intro f
  have mb := m_byte (fu := fu) (K := K) hm (show i ≤ 1000 by omega)
  unfold FO_M_nextToken
  rw [LO_M_nextToken_0, h7, mb]
  simp only [Option.bind_some]
  rw [h7, mb]
  simp only [Option.bind_some]
  rw [h7, nI_1]
  by_cases c : i < len
  · have t2 := (hm.2.2 i c).2
    rw [if_pos c]
    by_cases c32 : τ i = 32
    · have e : (decide (i < len) && isBb (τ i)) = true := by simp [c, c32, isBb]
      rw [if_pos (show nI (τ i) = 32 by rw [c32]; rfl), if_pos (show nI (τ i) = 32 by rw [c32]; rfl), if_pos e, if_pos e]
      exact ⟨rfl, rfl⟩
    · have q32 : ¬ nI (τ i) = 32 := fun z => c32 ((nI_eq (b := 32) (by omega) (by omega)).mp z)
      rw [if_neg q32, if_neg q32]
      by_cases c10 : τ i = 10
      · have e : (decide (i < len) && isBb (τ i)) = true := by simp [c, c10, isBb]
        rw [if_pos (show nI (τ i) = 10 by rw [c10]; rfl), if_pos (show nI (τ i) = 10 by rw [c10]; rfl), if_pos e, if_pos e]
        exact ⟨rfl, rfl⟩
      · have q10 : ¬ nI (τ i) = 10 := fun z => c10 ((nI_eq (b := 10) (by omega) (by omega)).mp z)
        have e : ¬ (decide (i < len) && isBb (τ i)) = true := by simp [c, c10, c32, isBb]
        rw [if_neg q10, if_neg q10, if_neg e, if_neg e]
        unfold NB
        rw [h7]
        exact ⟨rfl, rfl⟩
  · have e : ¬ (decide (i < len) && isBb (τ i)) = true := by simp [c]
    rw [if_neg c, if_neg (show ¬ (-1 : Int32) = 32 by decide), if_neg (show ¬ (-1 : Int32) = 32 by decide), if_neg (show ¬ (-1 : Int32) = 10 by decide), if_neg (show ¬ (-1 : Int32) = 10 by decide), if_neg e, if_neg e]
    unfold NB
    rw [h7]
    exact ⟨rfl, rfl⟩
theorem nt_ok {fu len i : Nat} {τ : Nat → Nat} {J : TI} {K : TL} (hfu : 2000 ≤ fu) (hm : MTap J τ len) (hi : i ≤ len) (h7 : J 331 7 = nI i) : ∃ J' K', FO_M_nextToken fu J K = some ((), J', K') ∧ J' 331 7 = nI (tkE τ len (rn isBb τ len i)) ∧ J' 331 8 = nI (rn isBb τ len i) ∧ MT (nI (tkK τ len (rn isBb τ len i))) (nI (tkV τ len (rn isBb τ len i))) (J' 331 9) (J' 331 10) (K' 331 11) ∧ NXf J J' := by
  have hl := hm.1
  have go : ∀ (d i f : Nat) (J : TI), i + d = len → d < f → MTap J τ len → J 331 7 = nI i → ∃ J' K', LO_M_nextToken_0 fu f J K = some ((), J', K') ∧ J' 331 7 = nI (tkE τ len (rn isBb τ len i)) ∧ J' 331 8 = nI (rn isBb τ len i) ∧ MT (nI (tkK τ len (rn isBb τ len i))) (nI (tkV τ len (rn isBb τ len i))) (J' 331 9) (J' 331 10) (K' 331 11) ∧ NXf J J' := by
    intro d
    induction d with
    | zero =>
      intro i f J hi hf hm h7
      obtain ⟨f, rfl⟩ : ∃ z, f = z + 1 := ⟨f - 1, by omega⟩
      rw [(nt_sk (fu := fu) (K := K) hm (by omega) h7 f).1, if_neg (by simp [show ¬ i < len by omega]), rn_e (by omega)]
      exact nb_ok hfu hm (by omega) h7 (fun z => by omega)
    | succ d ih =>
      intro i f J hi hf hm h7
      obtain ⟨f, rfl⟩ : ∃ z, f = z + 1 := ⟨f - 1, by omega⟩
      rw [(nt_sk (fu := fu) (K := K) hm (by omega) h7 f).1]
      by_cases c : isBb (τ i) = true
      · rw [if_pos (by simp [show i < len by omega, c]), rn_t (by omega) c]
        obtain ⟨J', K', r1, r2, r3, r4, r5⟩ := ih (i + 1) f (sI J 331 7 (nI (i + 1))) (by omega) (by omega) (hm.cg (by simp [sI_ap]) (sJ_ne (by omega))) (by simp [sI_ap])
        exact ⟨J', K', r1, r2, r3, r4, fun o ho => by rw [r5.1 o ho, sJ_ne ho], fun t a b c d => by rw [r5.2 t a b c d]; simp [sI_ap, a]⟩
      · rw [if_neg (by simp [c]), rn_f (by omega) c]
        exact nb_ok hfu hm (by omega) h7 (fun _ => c)
  rw [(nt_sk (fu := fu) (K := K) hm hi h7 0).2]
  by_cases c : i < len ∧ isBb (τ i) = true
  · rw [if_pos (by simp [c.1, c.2]), rn_t c.1 c.2]
    obtain ⟨J', K', r1, r2, r3, r4, r5⟩ := go (len - (i + 1)) (i + 1) fu (sI J 331 7 (nI (i + 1))) (by omega) (by omega) (hm.cg (by simp [sI_ap]) (sJ_ne (by omega))) (by simp [sI_ap])
    exact ⟨J', K', r1, r2, r3, r4, fun o ho => by rw [r5.1 o ho, sJ_ne ho], fun t a b c d => by rw [r5.2 t a b c d]; simp [sI_ap, a]⟩
  · rw [if_neg (by simpa using fun z => by simpa using fun q => c ⟨z, q⟩)]
    by_cases c1 : i < len
    · rw [rn_f c1 (fun z => c ⟨c1, z⟩)]
      exact nb_ok hfu hm hi h7 (fun _ z => c ⟨c1, z⟩)
    · rw [rn_e (by omega)]
      exact nb_ok hfu hm hi h7 (fun z => by omega)
