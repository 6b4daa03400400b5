/-! the class cuts its tape -/
def two (τ : Nat → Nat) (len i : Nat) : Bool := decide (i + 1 < len ∧ τ (i + 1) = 61 ∧ (τ i = 60 ∨ τ i = 62))
def tkK (τ : Nat → Nat) (len i : Nat) : Nat := if len ≤ i then 0 else if isLb (τ i) then wK τ i (rn isLb τ len i - i) else if isDb (τ i) then 2 else if two τ len i then (if τ i = 60 then 3 else 4) else sgK (τ i)
def tkV (τ : Nat → Nat) (len i : Nat) : Nat := if len ≤ i then 0 else if isLb (τ i) then 0 else if isDb (τ i) then nv τ i (rn isDb τ len i - i) else 0
def tkE (τ : Nat → Nat) (len i : Nat) : Nat := if len ≤ i then i else if isLb (τ i) then rn isLb τ len i else if isDb (τ i) then rn isDb τ len i else if two τ len i then i + 2 else i + 1
def sT (τ : Nat → Nat) (len : Nat) : Nat → Nat
  | 0 => rn isBb τ len 0
  | k + 1 => rn isBb τ len (tkE τ len (sT τ len k))
theorem rn_b {P : Nat → Bool} {τ : Nat → Nat} {len i : Nat} (hi : i ≤ len) : i ≤ rn P τ len i ∧ rn P τ len i ≤ len := by
  have := rn_le (P := P) (τ := τ) (len := len) (len - i) i (by omega)
  exact ⟨this.1, this.2.1⟩
theorem tkE_b {τ : Nat → Nat} {len i : Nat} (hi : i < len) : i < tkE τ len i ∧ tkE τ len i ≤ len := by
  unfold tkE
  rw [if_neg (by omega)]
  by_cases c1 : isLb (τ i) = true
  · rw [if_pos c1, rn_t hi c1]
    have := rn_b (P := isLb) (τ := τ) (len := len) (i := i + 1) (by omega)
    omega
  · rw [if_neg c1]
    by_cases c2 : isDb (τ i) = true
    · rw [if_pos c2, rn_t hi c2]
      have := rn_b (P := isDb) (τ := τ) (len := len) (i := i + 1) (by omega)
      omega
    · rw [if_neg c2]
      by_cases c3 : two τ len i = true
      · rw [if_pos c3]
        have := (of_decide_eq_true c3).1
        omega
      · rw [if_neg c3]; omega
theorem sT_b {τ : Nat → Nat} {len : Nat} : ∀ k, sT τ len k ≤ len := by
  intro k
  induction k with
  | zero => exact (rn_b (by omega)).2
  | succ k ih =>
    rw [sT]
    by_cases c : sT τ len k < len
    · exact (rn_b (tkE_b c).2).2
    · have e : sT τ len k = len := by omega
      rw [e, show tkE τ len len = len from by unfold tkE; rw [if_pos (Nat.le_refl _)]]
      exact (rn_b (Nat.le_refl _)).2
theorem lb_b {c : Nat} (h : isBb c = true) : ¬ isLb c = true ∧ ¬ isDb c = true := by
  have : c = 32 ∨ c = 10 := of_decide_eq_true h
  rcases this with rfl | rfl <;> decide
theorem x_tok {fu c : Nat} {a b v : Int32} {I : TI} {L : TL} (h : I 307 7 = nI c) (hc : c ≤ 300) : FO_R_addToken fu a b v I L = some ((), sI (sI (sI (sI I 316 c a) 318 c b) 317 c v) 307 7 (nI (c + 1)), L) := by
  have hb : (0 : Int32) ≤ nI c ∧ nI c < 301 := ib (n := 301) rfl (by omega) (by omega)
  unfold FO_R_addToken
  rw [h, if_pos (show (0 : Int32) ≤ nI c ∧ nI c ≤ 300 from ⟨nI_pos' (by omega), nI_le (b := 300) hc (by omega)⟩), if_pos hb, if_pos hb, if_pos hb, nI_clamp (show c < 2 ^ 31 by omega), nI_1]
/-- c tokens are cut -/
def Cut (τ : Nat → Nat) (len : Nat) (I0 I : TI) (c : Nat) : Prop := I 307 7 = nI c ∧ (∀ j, j < c → I 316 j = nI (tkK τ len (sT τ len j)) ∧ I 317 j = nI (tkV τ len (sT τ len j)) ∧ I 318 j = nI (sT τ len j)) ∧ (∀ o, o ≠ 307 → o ≠ 316 → o ≠ 317 → o ≠ 318 → I o = I0 o) ∧ (∀ i, i ≠ 7 → I 307 i = I0 307 i)
theorem Cut.add {τ : Nat → Nat} {len : Nat} {I0 I : TI} {c : Nat} {a b v : Int32} (h : Cut τ len I0 I c) (ha : a = nI (tkK τ len (sT τ len c))) (hb : b = nI (sT τ len c)) (hv : v = nI (tkV τ len (sT τ len c))) : Cut τ len I0 (sI (sI (sI (sI I 316 c a) 318 c b) 317 c v) 307 7 (nI (c + 1))) (c + 1) := by
  obtain ⟨h1, h2, h3, h4⟩ := h
  refine ⟨by simp [sI_ap], fun j hj => ?_, fun o a b c d => by rw [sJ_ne a, sJ_ne c, sJ_ne d, sJ_ne b]; exact h3 o a b c d, fun i hi => by simp [sI_ap, hi]; exact h4 i hi⟩
  by_cases e : j = c
  · subst e
    simp [sI_ap, ha, hb, hv]
  · simp [sI_ap, e]
    exact h2 j (by omega)
theorem x_cut {τ : Nat → Nat} {len fu : Nat} {I0 : TI} {L : TL} (hfu : 2000 ≤ fu) (ht : Tap I0 τ len) : ∀ (d i it f c : Nat) (I : TI), len - i ≤ d → i ≤ len → it ≤ i → c ≤ i → d < f → rn isBb τ len i = sT τ len c → (∀ j, j < c → sT τ len j < len) → Cut τ len I0 I c → ∃ (N : Nat) (I' : TI), LO_R_cutTokens_10 fu f (nI len) (nI i) (nI it) I L = some ((), I', L) ∧ N ≤ len ∧ sT τ len N = len ∧ (∀ j, j < N → sT τ len j < len) ∧ Cut τ len I0 I' (N + 1) := by
  have hl := ht.1
  intro d
  induction d with
  | zero =>
    intro i it f c I hd hi hit hc hf hr hlt hcut
    obtain ⟨f, rfl⟩ : ∃ z, f = z + 1 := ⟨f - 1, by omega⟩
    have e : i = len := by omega
    subst e
    rw [rn_e (Nat.le_refl _)] at hr
    refine ⟨c, _, ?_, hc, hr.symm, hlt, hcut.add (a := 0) (b := nI i) (v := 0) ?_ ?_ ?_⟩
    · rw [LO_R_cutTokens_10, if_pos (Int32.le_refl _), x_tok hcut.1 (by omega)]
      by_cases c3 : (300 : Int32) ≤ nI it
      · rw [if_pos c3]; rfl
      · rw [if_neg c3]; rfl
    · rw [← hr, show tkK τ i i = 0 from by unfold tkK; rw [if_pos (Nat.le_refl _)]]; rfl
    · rw [← hr]
    · rw [← hr, show tkV τ i i = 0 from by unfold tkV; rw [if_pos (Nat.le_refl _)]]; rfl
  | succ d ih =>
    intro i it f c I hd hi hit hc hf hr hlt hcut
    by_cases ei : i = len
    · subst ei
      obtain ⟨f, rfl⟩ : ∃ z, f = z + 1 := ⟨f - 1, by omega⟩
      rw [rn_e (Nat.le_refl _)] at hr
      refine ⟨c, _, ?_, hc, hr.symm, hlt, hcut.add (a := 0) (b := nI i) (v := 0) ?_ ?_ ?_⟩
      · rw [LO_R_cutTokens_10, if_pos (Int32.le_refl _), x_tok hcut.1 (by omega)]
        by_cases c3 : (300 : Int32) ≤ nI it
        · rw [if_pos c3]; rfl
        · rw [if_neg c3]; rfl
      · rw [← hr, show tkK τ i i = 0 from by unfold tkK; rw [if_pos (Nat.le_refl _)]]; rfl
      · rw [← hr]
      · rw [← hr, show tkV τ i i = 0 from by unfold tkV; rw [if_pos (Nat.le_refl _)]]; rfl
    · obtain ⟨f, rfl⟩ : ∃ z, f = z + 1 := ⟨f - 1, by omega⟩
      have hil : i < len := by omega
      have t306 : I 306 = I0 306 := hcut.2.2.1 306 (by omega) (by omega) (by omega) (by omega)
      have htI : Tap I τ len := ⟨hl, fun k hk => by rw [t306]; exact ht.2 k hk⟩
      obtain ⟨t1, t2⟩ := htI.2 i hil
      have hb : (0 : Int32) ≤ nI i ∧ nI i < 300 := ib (n := 300) rfl (by omega) (by omega)
      have ob := tkE_b (τ := τ) hil
      rw [LO_R_cutTokens_10, if_neg (show ¬ (300 : Int32) ≤ nI it from nI_ge (b := 300) (by omega) (by omega)), if_neg (show ¬ nI len ≤ nI i from nI_ge hil (by omega)), if_pos hb, nI_clamp (show i < 2 ^ 31 by omega), t1, x_let t2]
      simp only [Option.bind_some]
      /- a token is added, and the rest is cut -/
      have next : ¬ isBb (τ i) = true → ∀ (a v : Int32), a = nI (tkK τ len i) → v = nI (tkV τ len i) → ∃ (N : Nat) (I' : TI), ((FO_R_addToken fu a (nI i) v I L).bind (fun u => LO_R_cutTokens_10 fu f (nI len) (nI (tkE τ len i)) (nI (it + 1)) u.2.1 u.2.2)) = some ((), I', L) ∧ N ≤ len ∧ sT τ len N = len ∧ (∀ j, j < N → sT τ len j < len) ∧ Cut τ len I0 I' (N + 1) := by
        intro nb a v ea ev
        rw [rn_f hil nb] at hr
        rw [x_tok hcut.1 (by omega)]
        exact ih (tkE τ len i) (it + 1) f (c + 1) _ (by omega) ob.2 (by omega) (by omega) (by omega) (by rw [sT, ← hr]) (fun j hj => by
          by_cases e : j = c
          · subst e; omega
          · exact hlt j (by omega)) (hcut.add (by rw [← hr]; exact ea) (by rw [← hr]) (by rw [← hr]; exact ev))
      by_cases cl : isLb (τ i) = true
      · rw [if_pos cl, if_neg i10]
        have nb : ¬ isBb (τ i) = true := fun z => (lb_b z).1 cl
        have eE : tkE τ len i = rn isLb τ len i := by unfold tkE; rw [if_neg (by omega), if_pos cl]
        have xr := x_run (fu := fu) (x3 := 1) (L := L) hfu htI (show i ≤ len by omega)
        rw [if_neg i10] at xr
        rw [xr]
        simp only [Option.bind_some]
        have hn := rn_b (P := isLb) (τ := τ) (len := len) (i := i) (by omega)
        have xw := x_word (fu := fu) (s := i) (n := rn isLb τ len i - i) (L := L) hfu htI (by omega)
        rw [show i + (rn isLb τ len i - i) = rn isLb τ len i by omega] at xw
        rw [xw]
        simp only [Option.bind_some]
        have := next nb (nI (wK τ i (rn isLb τ len i - i))) 0 (by unfold tkK; rw [if_neg (by omega), if_pos cl]) (by unfold tkV; rw [if_neg (by omega), if_pos cl]; rfl)
        rw [eE] at this
        rw [nI_1]
        exact this
      · rw [if_neg cl, if_pos rfl, x_dig t2]
        simp only [Option.bind_some]
        by_cases cd : isDb (τ i) = true
        · rw [if_pos cd, if_neg i10]
          have nb : ¬ isBb (τ i) = true := fun z => (lb_b z).2 cd
          have eE : tkE τ len i = rn isDb τ len i := by unfold tkE; rw [if_neg (by omega), if_neg cl, if_pos cd]
          have xr := x_run (fu := fu) (x3 := 0) (L := L) hfu htI (show i ≤ len by omega)
          rw [if_pos rfl] at xr
          rw [xr]
          simp only [Option.bind_some]
          have hn := rn_le (P := isDb) (τ := τ) (len := len) (len - i) i (by omega)
          have xw := x_number (fu := fu) (s := i) (n := rn isDb τ len i - i) (L := L) hfu htI (by omega) (fun u hu => (of_decide_eq_true (hn.2.2.1 (i + u) (by omega) (by omega))).1)
          rw [show i + (rn isDb τ len i - i) = rn isDb τ len i by omega] at xw
          rw [xw]
          simp only [Option.bind_some]
          have := next nb 2 (nI (nv τ i (rn isDb τ len i - i))) (by unfold tkK; rw [if_neg (by omega), if_neg cl, if_pos cd]; rfl) (by unfold tkV; rw [if_neg (by omega), if_neg cl, if_pos cd])
          rw [eE] at this
          rw [nI_1]
          exact this
        · rw [if_neg cd, if_pos rfl]
          by_cases cb : isBb (τ i) = true
          · have go := ih (i + 1) (it + 1) f c I (by omega) (by omega) (by omega) (by omega) (by omega) (by rw [← rn_t hil cb]; exact hr) hlt hcut
            have : τ i = 32 ∨ τ i = 10 := of_decide_eq_true cb
            rw [nI_1, nI_1]
            by_cases c32 : τ i = 32
            · rw [if_pos (show nI (τ i) = 32 by rw [c32]; rfl)]; exact go
            · rw [if_neg (show ¬ nI (τ i) = 32 from fun z => c32 ((nI_eq (b := 32) (by omega) (by omega)).mp z)), if_pos (show nI (τ i) = 10 by rw [this.resolve_left c32]; rfl)]; exact go
          · have c32 : ¬ τ i = 32 := fun z => cb (decide_eq_true (Or.inl z))
            have c10 : ¬ τ i = 10 := fun z => cb (decide_eq_true (Or.inr z))
            rw [if_neg (show ¬ nI (τ i) = 32 from fun z => c32 ((nI_eq (b := 32) (by omega) (by omega)).mp z)), if_neg (show ¬ nI (τ i) = 10 from fun z => c10 ((nI_eq (b := 10) (by omega) (by omega)).mp z))]
            have ev : tkV τ len i = 0 := by unfold tkV; rw [if_neg (by omega), if_neg cl, if_neg cd]
            have e1 : nI i + 1 + 0 - nI i = 1 := by rw [nI_1, show nI (i + 1) + 0 = nI (i + 1) from nI_add (i + 1) 0, pk_sub (by omega), show i + 1 - i = 1 by omega]; rfl
            have e2 : nI i + 1 + 1 - nI i = 2 := by rw [nI_1, nI_1, pk_sub (by omega), show i + 1 + 1 - i = 2 by omega]; rfl
            have e3 : nI i + 1 + 0 = nI (i + 1) := by rw [nI_1]; exact nI_add (i + 1) 0
            have e4 : nI i + 1 + 1 = nI (i + 2) := by rw [nI_1, nI_1]
            have one : ¬ two τ len i = true → ∃ (N : Nat) (I' : TI), ((FO_R_signOf fu (nI (τ i)) (nI i + 1 + 0 - nI i) I L).bind (fun u6 => (FO_R_addToken fu u6.1 (nI i) 0 u6.2.1 u6.2.2).bind (fun u7 => LO_R_cutTokens_10 fu f (nI len) (nI i + 1 + 0) (nI it + 1) u7.2.1 u7.2.2))) = some ((), I', L) ∧ N ≤ len ∧ sT τ len N = len ∧ (∀ j, j < N → sT τ len j < len) ∧ Cut τ len I0 I' (N + 1) := by
              intro ct
              have := next cb (nI (sgK (τ i))) 0 (by unfold tkK; rw [if_neg (by omega), if_neg cl, if_neg cd, if_neg ct]) (by rw [ev]; rfl)
              rw [show tkE τ len i = i + 1 from by unfold tkE; rw [if_neg (by omega), if_neg cl, if_neg cd, if_neg ct]] at this
              rw [e1, e3, x_sign hfu t2 (by decide), nI_1]
              exact this
            have dbl : two τ len i = true → ∀ a : Int32, a = nI (if τ i = 60 then 3 else 4) → ∃ (N : Nat) (I' : TI), ((FO_R_addToken fu a (nI i) 0 I L).bind (fun u7 => LO_R_cutTokens_10 fu f (nI len) (nI i + 1 + 1) (nI it + 1) u7.2.1 u7.2.2)) = some ((), I', L) ∧ N ≤ len ∧ sT τ len N = len ∧ (∀ j, j < N → sT τ len j < len) ∧ Cut τ len I0 I' (N + 1) := by
              intro ct a ha
              have := next cb a 0 (by rw [ha, show tkK τ len i = (if τ i = 60 then 3 else 4) from by unfold tkK; rw [if_neg (by omega), if_neg cl, if_neg cd, if_pos ct]]) (by rw [ev]; rfl)
              rw [show tkE τ len i = i + 2 from by unfold tkE; rw [if_neg (by omega), if_neg cl, if_neg cd, if_pos ct]] at this
              rw [e4, nI_1]
              exact this
            by_cases cn : len ≤ i + 1
            · rw [if_pos (show nI len ≤ nI i + 1 by rw [nI_1]; exact nI_le cn (by omega))]
              exact one (fun z => by have := (of_decide_eq_true z).1; omega)
            · obtain ⟨t3, t4⟩ := htI.2 (i + 1) (by omega)
              rw [if_neg (show ¬ nI len ≤ nI i + 1 by rw [nI_1]; exact nI_ge (by omega) (by omega)), if_pos (show (0 : Int32) ≤ nI i + 1 ∧ nI i + 1 < 300 by rw [nI_1]; exact ib (n := 300) rfl (by omega) (by omega))]
              rw [show I 306 (nI i + 1).toNatClampNeg = nI (τ (i + 1)) from by rw [nI_1, nI_clamp (by omega)]; exact t3]
              by_cases c61 : τ (i + 1) = 61
              · rw [if_pos (show nI (τ (i + 1)) = 61 by rw [c61]; rfl)]
                by_cases c60 : τ i = 60
                · rw [if_pos (show nI (τ i) = 60 by rw [c60]; rfl)]
                  have so : FO_R_signOf fu (nI (τ i)) (nI i + 1 + 1 - nI i) I L = some (3, I, L) := by
                    unfold FO_R_signOf
                    rw [if_pos e2, if_pos (show nI (τ i) = 60 by rw [c60]; rfl)]
                  rw [so]
                  exact dbl (decide_eq_true ⟨by omega, c61, Or.inl c60⟩) 3 (by rw [if_pos c60]; rfl)
                · rw [if_neg (show ¬ nI (τ i) = 60 from fun z => c60 ((nI_eq (b := 60) (by omega) (by omega)).mp z))]
                  by_cases c62 : τ i = 62
                  · rw [if_pos (show nI (τ i) = 62 by rw [c62]; rfl)]
                    have so : FO_R_signOf fu (nI (τ i)) (nI i + 1 + 1 - nI i) I L = some (4, I, L) := by
                      unfold FO_R_signOf
                      rw [if_pos e2, if_neg (show ¬ nI (τ i) = 60 from fun z => c60 ((nI_eq (b := 60) (by omega) (by omega)).mp z))]
                    rw [so]
                    exact dbl (decide_eq_true ⟨by omega, c61, Or.inr c62⟩) 4 (by rw [if_neg c60]; rfl)
                  · rw [if_neg (show ¬ nI (τ i) = 62 from fun z => c62 ((nI_eq (b := 62) (by omega) (by omega)).mp z))]
                    exact one (fun z => (of_decide_eq_true z).2.2.elim c60 c62)
              · rw [if_neg (show ¬ nI (τ (i + 1)) = 61 from fun z => c61 ((nI_eq (b := 61) (by omega) (by omega)).mp z))]
                exact one (fun z => c61 (of_decide_eq_true z).2.1)
