/-! the model's tokens -/
def MTap (J : TI) (τ : Nat → Nat) (len : Nat) : Prop := len ≤ 300 ∧ J 331 4 = nI len ∧ ∀ k, k < len → J 335 k = nI (τ k) ∧ τ k ≤ 255
theorem MTap.cg {J J' : TI} {τ : Nat → Nat} {len : Nat} (h : MTap J τ len) (e : J' 331 4 = J 331 4) (e2 : J' 335 = J 335) : MTap J' τ len := ⟨h.1, e.trans h.2.1, fun k hk => by rw [e2]; exact h.2.2 k hk⟩
theorem m_byte {fu i len : Nat} {τ : Nat → Nat} {J : TI} {K : TL} (h : MTap J τ len) (hi : i ≤ 1000) : FO_M_byteAt fu (nI i) J K = some (if i < len then nI (τ i) else -1, J, K) := by
  obtain ⟨h1, h2, h3⟩ := h
  unfold FO_M_byteAt
  rw [h2]
  by_cases c : i < len
  · rw [if_neg (nI_ge c (by omega)), if_pos (show (0 : Int32) ≤ nI i ∧ nI i < 300 from ib (n := 300) rfl (by omega) (by omega)), nI_clamp (show i < 2 ^ 31 by omega), (h3 i c).1, if_pos c]
  · rw [if_pos (nI_le (by omega) (by omega)), if_neg c]
def ltc (x : Int32) : Int32 := if x < 97 then (if x < 65 then 0 else (if 90 < x then 0 else 1)) else (if x ≤ 122 then 1 else (if x < 65 then 0 else (if 90 < x then 0 else 1)))
def fgc (x : Int32) : Int32 := if x < 48 then 0 else (if 57 < x then 0 else 1)
def sgc (x : Int32) : Int32 := if x = 35 then 1 else (if x = 40 then 1 else (if x = 41 then 1 else (if x = 42 then 1 else (if x = 43 then 1 else (if x = 45 then 1 else (if x = 47 then 1 else (if x = 58 then 1 else (if x = 59 then 1 else (if x = 60 then 1 else (if x = 61 then 1 else (if x = 62 then 1 else 0)))))))))))
theorem m_let {fu : Nat} {x : Int32} {J : TI} {K : TL} : FO_M_isLetterByte fu x J K = some (ltc x, J, K) := by
  unfold FO_M_isLetterByte ltc
  repeat' split
  all_goals rfl
theorem m_fgr {fu : Nat} {x : Int32} {J : TI} {K : TL} : FO_M_isFigure fu x J K = some (fgc x, J, K) := by
  unfold FO_M_isFigure fgc
  repeat' split
  all_goals rfl
theorem si_ {p : Prop} [Decidable p] {a b : Int32} {J : TI} {K : TL} {X : Option (Int32 × TI × TL)} (h : X = some (b, J, K)) : (if p then some (a, J, K) else X) = some (if p then a else b, J, K) := by
  by_cases c : p
  · rw [if_pos c, if_pos c]
  · rw [if_neg c, if_neg c, h]
theorem m_sgn {fu : Nat} {x : Int32} {J : TI} {K : TL} : FO_M_isSign fu x J K = some (sgc x, J, K) :=
  si_ (si_ (si_ (si_ (si_ (si_ (si_ (si_ (si_ (si_ (si_ (si_ rfl)))))))))))
theorem ltc_c : ∀ c, c < 256 → ltc (nI c) = if isLb c then 1 else 0 := by decide +kernel
theorem fgc_c : ∀ c, c < 256 → fgc (nI c) = if isDb c then 1 else 0 := by decide +kernel
/-- the model's sign -/
def tkS (c : Nat) : Nat := if sgc (nI c) = 1 then c else 3
def tkOK (c : Nat) : Bool := isLb c || (isDb c || (isBb c || ((decide (sgc (nI c) = 0) || decide (sgc (nI c) = 1)) && (decide (tkS c < 256) && (decide (¬ tkS c = 0) && (decide (¬ tkS c = 1) && (decide (¬ tkS c = 2) && (decide (¬ sgK c = 0) && (decide (¬ sgK c = 2) && (decide (sgK c < 30) && sgs.all (fun s => decide (tkS c = s.1) == decide (sgK c = s.2))))))))))))
theorem tkOK_c : ∀ c, c < 256 → tkOK c = true := by decide +kernel
theorem tkS_c {c : Nat} (hc : c < 256) (h1 : isLb c = false) (h2 : isDb c = false) (h3 : isBb c = false) : (sgc (nI c) = 0 ∨ sgc (nI c) = 1) ∧ tkS c < 256 ∧ ¬ tkS c = 0 ∧ ¬ tkS c = 1 ∧ ¬ tkS c = 2 ∧ ¬ sgK c = 0 ∧ ¬ sgK c = 2 ∧ sgK c < 30 ∧ sgs.all (fun s => decide (tkS c = s.1) == decide (sgK c = s.2)) = true := by
  have := tkOK_c c hc
  simp only [tkOK, h1, h2, h3, Bool.false_or, Bool.and_eq_true, Bool.or_eq_true, decide_eq_true_eq] at this
  exact this
def nM (τ : Nat → Nat) (s : Nat) : Nat → Nat
  | 0 => 0
  | n + 1 => if 99999 < nM τ s n then nM τ s n else 10 * nM τ s n + (τ (s + n) - 48)
theorem nM_v {τ : Nat → Nat} {s : Nat} : ∀ n, (∀ u, u < n → 48 ≤ τ (s + u) ∧ τ (s + u) ≤ 57) → nM τ s n < 1000000 ∧ nv τ s n = min (nM τ s n) 10000 := by
  intro n
  induction n with
  | zero => intro _; exact ⟨show 0 < 1000000 by omega, rfl⟩
  | succ n ih =>
    intro h
    obtain ⟨h1, h2⟩ := ih (fun u hu => h u (by omega))
    have h3 := h n (by omega)
    rw [nM, nv, h2]
    by_cases c : 99999 < nM τ s n
    · rw [if_pos c]; omega
    · rw [if_neg c]; omega
theorem nI_le9 {a : Nat} (h : a < 2 ^ 31) : nI a ≤ 99999 ↔ a ≤ 99999 := nI_leI (b := 99999) h (by omega)
/-- the figures of a number -/
theorem lo_fig {fu s len : Nat} {τ : Nat → Nat} {x : Int32} : ∀ (d i f : Nat) (J : TI) (K : TL), i + d = len → s ≤ i → d < f → MTap J τ len → J 331 7 = nI i → J 331 10 = nI (nM τ s (i - s)) → (∀ u, s ≤ u → u < i → 48 ≤ τ u ∧ τ u ≤ 57) → ∃ J', LO_M_nextToken_85 fu f x J K = some ((), J', K) ∧ J' 331 7 = nI (rn isDb τ len i) ∧ J' 331 10 = nI (nM τ s (rn isDb τ len i - s)) ∧ (∀ o, o ≠ 331 → J' o = J o) ∧ (∀ t, t ≠ 7 → t ≠ 10 → J' 331 t = J 331 t) := by
  intro d
  induction d with
  | zero =>
    intro i f J K hi hs hf hm h7 h10 hd
    obtain ⟨f, rfl⟩ : ∃ z, f = z + 1 := ⟨f - 1, by omega⟩
    have h1 := hm.1
    refine ⟨J, ?_, by rw [rn_e (by omega)]; exact h7, by rw [rn_e (by omega)]; exact h10, fun _ _ => rfl, fun _ _ _ => rfl⟩
    rw [LO_M_nextToken_85, h7, m_byte hm (by omega), if_neg (by omega)]
    rfl
  | succ d ih =>
    intro i f J K hi hs hf hm h7 h10 hd
    obtain ⟨f, rfl⟩ : ∃ z, f = z + 1 := ⟨f - 1, by omega⟩
    have h1 := hm.1
    have t2 := (hm.2.2 i (by omega)).2
    rw [LO_M_nextToken_85, h7, m_byte hm (by omega), if_pos (by omega)]
    simp only [Option.bind_some]
    rw [m_fgr, fgc_c _ (by omega)]
    simp only [Option.bind_some]
    by_cases c : isDb (τ i) = true
    · have td : 48 ≤ τ i ∧ τ i ≤ 57 := of_decide_eq_true c
      obtain ⟨nm1, _⟩ := nM_v (τ := τ) (s := s) (i - s) (fun u hu => hd (s + u) (by omega) (by omega))
      rw [if_pos c, if_neg i10, rn_t (by omega) c, h10]
      have es : nM τ s (i + 1 - s) = if 99999 < nM τ s (i - s) then nM τ s (i - s) else 10 * nM τ s (i - s) + (τ i - 48) := by
        rw [show i + 1 - s = (i - s) + 1 by omega, nM, show s + (i - s) = i by omega]
      by_cases c9 : nM τ s (i - s) ≤ 99999
      · rw [if_pos ((nI_le9 (by omega)).mpr c9), h7, m_byte hm (by omega), if_pos (by omega)]
        simp only [Option.bind_some]
        have e : (10 : Int32) * nI (nM τ s (i - s)) + nI (τ i) - 48 = nI (nM τ s (i + 1 - s)) := by
          rw [es, if_neg (by omega), show (10 : Int32) = nI 10 from rfl, show (48 : Int32) = nI 48 from rfl, pk_mul, nI_add, pk_sub (by omega)]
          congr 1
          omega
        rw [e, h7, nI_1]
        obtain ⟨J', r1, r2, r3, r4, r5⟩ := ih (i + 1) f (sI (sI J 331 10 (nI (nM τ s (i + 1 - s)))) 331 7 (nI (i + 1))) K (by omega) (by omega) (by omega) (hm.cg (by simp [sI_ap]) (by rw [sJ_ne (by omega), sJ_ne (by omega)])) (by simp [sI_ap]) (by simp [sI_ap]) (fun u h1 h2 => by
          by_cases e : u = i
          · subst e; exact td
          · exact hd u h1 (by omega))
        exact ⟨J', r1, r2, r3, fun o ho => by rw [r4 o ho, sJ_ne ho, sJ_ne ho], fun t a b => by rw [r5 t a b]; simp [sI_ap, a, b]⟩
      · rw [if_neg (fun z => c9 ((nI_le9 (by omega)).mp z)), h7, nI_1]
        have e : nI (nM τ s (i - s)) = nI (nM τ s (i + 1 - s)) := by rw [es, if_pos (by omega)]
        obtain ⟨J', r1, r2, r3, r4, r5⟩ := ih (i + 1) f (sI (sI J 331 10 (nI (nM τ s (i - s)))) 331 7 (nI (i + 1))) K (by omega) (by omega) (by omega) (hm.cg (by simp [sI_ap]) (by rw [sJ_ne (by omega), sJ_ne (by omega)])) (by simp [sI_ap]) (by rw [← e]; simp [sI_ap]) (fun u h1 h2 => by
          by_cases e : u = i
          · subst e; exact td
          · exact hd u h1 (by omega))
        exact ⟨J', r1, r2, r3, fun o ho => by rw [r4 o ho, sJ_ne ho, sJ_ne ho], fun t a b => by rw [r5 t a b]; simp [sI_ap, a, b]⟩
    · rw [if_neg c, if_pos rfl, rn_f (by omega) c]
      exact ⟨J, rfl, h7, h10, fun _ _ => rfl, fun _ _ _ => rfl⟩
/-- the letters of a word -/
def pW (τ : Nat → Nat) (s : Nat) : Nat → Nat
  | 0 => 0
  | n + 1 => if pW τ s n / 2 ^ 48 = 0 then pW τ s n * 256 + τ (s + n) else 1152921504606846976
theorem l_shr {n : Nat} (h : n < 2 ^ 63) : lg_cmp (lN n >>> ((48 : Int32).toInt64 &&& 63)) 0 = 0 ↔ n / 2 ^ 48 = 0 := by
  have e : lN n >>> ((48 : Int32).toInt64 &&& 63) = lN (n / 2 ^ 48) := by
    apply Int64.toInt_inj.mp
    have h2 : n / 2 ^ 48 ≤ n := Nat.div_le_self _ _
    show ((lN n).toBitVec.sshiftRight (((48 : Int32).toInt64 &&& 63).toBitVec.smod 64).toNat).toInt = _
    rw [show (((48 : Int32).toInt64 &&& 63).toBitVec.smod 64).toNat = 48 from by decide, BitVec.toInt_sshiftRight, pk_lT (by omega)]
    rw [show (lN n).toBitVec.toInt = (n : Int) from pk_lT h, Int.shiftRight_eq_div_pow]
    rfl
  rw [e]
  exact lN_e0 (by omega)
theorem l_or {n c : Nat} (h : n < 2 ^ 48) (hc : c < 256) : (lN n <<< ((8 : Int32).toInt64 &&& 63)) ||| (nI c).toInt64 = lN (n * 256 + c) := by
  rw [show (nI c).toInt64 = lN c from Int32.toInt64_ofNat' (by rw [i_mx]; omega)]
  apply Int64.toBitVec_inj.mp
  apply BitVec.eq_of_toNat_eq
  have tn : ∀ m, m < 2 ^ 64 → (lN m).toBitVec.toNat = m := fun m hm => by
    show (BitVec.ofNat 64 m).toNat = m
    rw [BitVec.toNat_ofNat, Nat.mod_eq_of_lt hm]
  show ((lN n).toBitVec <<< (((8 : Int32).toInt64 &&& 63).toBitVec.smod 64).toNat ||| (lN c).toBitVec).toNat = _
  rw [show (((8 : Int32).toInt64 &&& 63).toBitVec.smod 64).toNat = 8 from by decide, BitVec.toNat_or, BitVec.toNat_shiftLeft, tn n (by omega), tn c (by omega), tn _ (by omega), Nat.shiftLeft_eq, Nat.mod_eq_of_lt (by omega)]
  have := Nat.shiftLeft_add_eq_or_of_lt (i := 8) (b := c) (by omega) n
  rw [Nat.shiftLeft_eq] at this
  exact this.symm
theorem lo_let {fu s len : Nat} {τ : Nat → Nat} {x : Int32} : ∀ (d i f : Nat) (J : TI) (K : TL), i + d = len → s ≤ i → d < f → MTap J τ len → J 331 7 = nI i → K 331 11 = lN (pW τ s (i - s)) → pW τ s (i - s) < 2 ^ 62 → ∃ J' K', LO_M_nextToken_168 fu f x J K = some ((), J', K') ∧ J' 331 7 = nI (rn isLb τ len i) ∧ K' 331 11 = lN (pW τ s (rn isLb τ len i - s)) ∧ (∀ o, o ≠ 331 → J' o = J o) ∧ (∀ t, t ≠ 7 → J' 331 t = J 331 t) := by
  intro d
  induction d with
  | zero =>
    intro i f J K hi hs hf hm h7 h10 hp
    obtain ⟨f, rfl⟩ : ∃ z, f = z + 1 := ⟨f - 1, by omega⟩
    have h1 := hm.1
    refine ⟨J, K, ?_, by rw [rn_e (by omega)]; exact h7, by rw [rn_e (by omega)]; exact h10, fun _ _ => rfl, fun _ _ => rfl⟩
    rw [LO_M_nextToken_168, h7, m_byte hm (by omega), if_neg (by omega)]
    rfl
  | succ d ih =>
    intro i f J K hi hs hf hm h7 h10 hp
    obtain ⟨f, rfl⟩ : ∃ z, f = z + 1 := ⟨f - 1, by omega⟩
    have h1 := hm.1
    have t2 := (hm.2.2 i (by omega)).2
    rw [LO_M_nextToken_168, h7, m_byte hm (by omega), if_pos (by omega)]
    simp only [Option.bind_some]
    rw [m_let, ltc_c _ (by omega)]
    simp only [Option.bind_some]
    by_cases c : isLb (τ i) = true
    · have es : pW τ s (i + 1 - s) = if pW τ s (i - s) / 2 ^ 48 = 0 then pW τ s (i - s) * 256 + τ i else 1152921504606846976 := by
        rw [show i + 1 - s = (i - s) + 1 by omega, pW, show s + (i - s) = i by omega]
      rw [if_pos c, if_neg i10, rn_t (by omega) c, h10]
      by_cases c9 : pW τ s (i - s) / 2 ^ 48 = 0
      · rw [if_pos ((l_shr (by omega)).mpr c9), h7, m_byte hm (by omega), if_pos (by omega)]
        simp only [Option.bind_some]
        rw [l_or (by omega) (by omega), h7, nI_1]
        obtain ⟨J', K', r1, r2, r3, r4, r5⟩ := ih (i + 1) f (sI J 331 7 (nI (i + 1))) (sL K 331 11 (lN (pW τ s (i - s) * 256 + τ i))) (by omega) (by omega) (by omega) (hm.cg (by simp [sI_ap]) (sJ_ne (by omega))) (by simp [sI_ap]) (by rw [sM_at, pk_uLs, es, if_pos c9]) (by rw [es, if_pos c9]; omega)
        exact ⟨J', K', r1, r2, r3, fun o ho => by rw [r4 o ho, sJ_ne ho], fun t a => by rw [r5 t a]; simp [sI_ap, a]⟩
      · rw [if_neg (fun z => c9 ((l_shr (by omega)).mp z)), h7, nI_1]
        obtain ⟨J', K', r1, r2, r3, r4, r5⟩ := ih (i + 1) f (sI J 331 7 (nI (i + 1))) (sL K 331 11 1152921504606846976) (by omega) (by omega) (by omega) (hm.cg (by simp [sI_ap]) (sJ_ne (by omega))) (by simp [sI_ap]) (by rw [sM_at, pk_uLs, es, if_neg c9]; decide) (by rw [es, if_neg c9]; omega)
        exact ⟨J', K', r1, r2, r3, fun o ho => by rw [r4 o ho, sJ_ne ho], fun t a => by rw [r5 t a]; simp [sI_ap, a]⟩
    · rw [if_neg c, if_pos rfl, rn_f (by omega) c]
      exact ⟨J, K, rfl, h7, h10, fun _ _ => rfl, fun _ _ => rfl⟩
def vv : List Nat → Nat
  | [] => 0
  | c :: r => vv r * 256 + c
theorem vv_inj : ∀ (a b : List Nat), (∀ x, x ∈ a → 1 ≤ x ∧ x ≤ 255) → (∀ x, x ∈ b → 1 ≤ x ∧ x ≤ 255) → vv a = vv b → a = b := by
  intro a
  induction a with
  | nil =>
    intro b _ hb e
    cases b with
    | nil => rfl
    | cons c r => have := hb c (by simp); rw [vv, vv] at e; omega
  | cons c r ih =>
    intro b ha hb e
    have hc := ha c (by simp)
    cases b with
    | nil => rw [vv, vv] at e; omega
    | cons c' r' =>
      have hc' := hb c' (by simp)
      rw [vv, vv] at e
      have e1 : c = c' := by omega
      have e2 : vv r = vv r' := by omega
      rw [e1, ih r' (fun x hx => ha x (by simp [hx])) (fun x hx => hb x (by simp [hx])) e2]
theorem rl_mem {f : Nat → Nat} {s : Nat} : ∀ n x, x ∈ rl f s n → ∃ u, u < n ∧ x = f (s + u) := by
  intro n
  induction n with
  | zero => intro x h; simp [rl] at h
  | succ n ih =>
    intro x h
    rw [rl, List.mem_cons] at h
    rcases h with h | h
    · exact ⟨n, by omega, h⟩
    · obtain ⟨u, h1, h2⟩ := ih x h
      exact ⟨u, by omega, h2⟩
theorem wds_v : ∀ i, i < 26 → wds.getD i 0 = vv (rl (wch i) 0 (wn i)) ∧ wds.getD i 0 < 2 ^ 56 ∧ (∀ u, u < wn i → 1 ≤ wch i (0 + u) ∧ wch i (0 + u) ≤ 255) := by decide +kernel
theorem dct_ne : ∀ i, i < 26 → ∀ j, j < 26 → rl (wch i) 0 (wn i) = rl (wch j) 0 (wn j) → i = j := by decide +kernel
theorem wK_iff {τ : Nat → Nat} {s n : Nat} : ∀ (d j : Nat), j + d = 26 → (∀ i, j ≤ i → i < 26 → (wKf τ s n d j = 30 + i ↔ rl τ s n = rl (wch i) 0 (wn i))) ∧ (wKf τ s n d j = 1 ∨ ∃ i, j ≤ i ∧ i < 26 ∧ wKf τ s n d j = 30 + i) := by
  intro d
  induction d with
  | zero => intro j hj; exact ⟨fun i h1 h2 => by omega, Or.inl rfl⟩
  | succ d ih =>
    intro j hj
    obtain ⟨h1, h2⟩ := ih (j + 1) (by omega)
    rw [wKf]
    by_cases c : rl τ s n = rl (wch j) 0 (wn j)
    · rw [if_pos c]
      refine ⟨fun i h3 h4 => ⟨fun e => ?_, fun e => ?_⟩, Or.inr ⟨j, Nat.le_refl _, by omega, rfl⟩⟩
      · have : i = j := by omega
        subst this; exact c
      · have := dct_ne j (by omega) i h4 (c.symm.trans e)
        omega
    · rw [if_neg c]
      refine ⟨fun i h3 h4 => ?_, h2.imp id (fun z => by obtain ⟨i, a, b, e⟩ := z; exact ⟨i, by omega, b, e⟩)⟩
      by_cases e : i = j
      · subst e
        refine ⟨fun e2 => ?_, fun e2 => absurd e2 c⟩
        rcases h2 with h | ⟨i', a, b, e3⟩ <;> omega
      · exact h1 i (by omega) h4
theorem pW_v {τ : Nat → Nat} {s n : Nat} (h : ∀ u, u < n → 65 ≤ τ (s + u) ∧ τ (s + u) ≤ 122) : (n ≤ 7 → pW τ s n = vv (rl τ s n)) ∧ (8 ≤ n → pW τ s n = 1152921504606846976) ∧ pW τ s n < 2 ^ 62 := by
  have lo : ∀ m, m ≤ 7 → m ≤ n → pW τ s m = vv (rl τ s m) ∧ pW τ s m < 2 ^ (8 * m) ∧ (1 ≤ m → 2 ^ (8 * (m - 1)) ≤ pW τ s m) := by
    intro m
    induction m with
    | zero => intro _ _; exact ⟨rfl, show 0 < 2 ^ (8 * 0) by decide, fun z => by omega⟩
    | succ m ih =>
      intro h7 hn
      obtain ⟨i1, i2, i3⟩ := ih (by omega) (by omega)
      have hm := h m (by omega)
      have : m = 0 ∨ m = 1 ∨ m = 2 ∨ m = 3 ∨ m = 4 ∨ m = 5 ∨ m = 6 := by omega
      have small : pW τ s m / 2 ^ 48 = 0 := by
        rcases this with rfl | rfl | rfl | rfl | rfl | rfl | rfl <;> omega
      rw [pW, if_pos small, rl, vv, ← i1]
      refine ⟨rfl, ?_, fun _ => ?_⟩
      · rcases this with rfl | rfl | rfl | rfl | rfl | rfl | rfl <;> omega
      · rcases this with rfl | rfl | rfl | rfl | rfl | rfl | rfl <;> omega
  have hi : ∀ d, 8 + d ≤ n → pW τ s (8 + d) = 1152921504606846976 := by
    intro d
    induction d with
    | zero =>
      intro hn
      have := (lo 7 (by omega) (by omega)).2.2 (by omega)
      rw [show 8 + 0 = 7 + 1 from rfl, pW, if_neg (by omega)]
    | succ d ih =>
      intro hn
      rw [show 8 + (d + 1) = (8 + d) + 1 by omega, pW, ih (by omega), if_neg (by omega)]
  refine ⟨fun z => (lo n z (Nat.le_refl _)).1, fun z => by have := hi (n - 8) (by omega); rwa [show 8 + (n - 8) = n by omega] at this, ?_⟩
  by_cases c : n ≤ 7
  · have := (lo n c (Nat.le_refl _)).2.1
    have : n = 0 ∨ n = 1 ∨ n = 2 ∨ n = 3 ∨ n = 4 ∨ n = 5 ∨ n = 6 ∨ n = 7 := by omega
    rcases this with rfl | rfl | rfl | rfl | rfl | rfl | rfl | rfl <;> omega
  · have := hi (n - 8) (by omega)
    rw [show 8 + (n - 8) = n by omega] at this
    rw [this]; omega
theorem word_iff {τ : Nat → Nat} {s n i : Nat} (h : ∀ u, u < n → 65 ≤ τ (s + u) ∧ τ (s + u) ≤ 122) (hi : i < 26) : lN (pW τ s n) = wd i ↔ wK τ s n = 30 + i := by
  obtain ⟨p1, p2, p3⟩ := pW_v h
  obtain ⟨w1, w2, w3⟩ := wds_v i hi
  have e1 : lN (pW τ s n) = wd i ↔ pW τ s n = wds.getD i 0 := by
    show lN (pW τ s n) = lN (wds.getD i 0) ↔ _
    exact pk_lEQ (by omega) (by omega)
  rw [e1, show wK τ s n = wKf τ s n 26 0 from rfl, ((wK_iff (τ := τ) (s := s) (n := n) 26 0 rfl).1 i (by omega) hi)]
  constructor
  · intro e
    by_cases c : n ≤ 7
    · rw [p1 c, w1] at e
      refine vv_inj _ _ (fun x hx => ?_) (fun x hx => ?_) e
      · obtain ⟨u, hu, rfl⟩ := rl_mem n x hx
        have := h u hu; omega
      · obtain ⟨u, hu, rfl⟩ := rl_mem _ x hx
        exact w3 u hu
    · rw [p2 (by omega)] at e; omega
  · intro e
    have hn := ((rl_eq n (wn i)).mp e).1
    have := (wo_s i hi).2.2.2
    rw [p1 (by omega), w1, e]
def NB (fu : Nat) (I2 : TI) (L2 : TL) : Option (Unit × TI × TL) := ((FO_M_byteAt fu (I2 331 7) (sI I2 331 8 (I2 331 7)) L2).bind (fun u3 => let r3 := u3.1; let I3 := u3.2.1; let L3 := u3.2.2; if 0 ≤ r3 then ((FO_M_isFigure fu r3 I3 L3).bind (fun u4 => let r4 := u4.1; let I4 := u4.2.1; let L4 := u4.2.2; if r4 = 0 then ((FO_M_isLetterByte fu r3 I4 L4).bind (fun u5 => let r5 := u5.1; let I5 := u5.2.1; let L5 := u5.2.2; if r5 = 0 then ((FO_M_isSign fu r3 I5 L5).bind (fun u6 => let r6 := u6.1; let I6 := u6.2.1; let L6 := u6.2.2; if r6 = 0 then (if r3 = 60 then ((FO_M_byteAt fu ((I6 331 7) + 1) (sI (sI I6 331 9 3) 331 7 ((I6 331 7) + 1)) L6).bind (fun u7 => let r7 := u7.1; let I7 := u7.2.1; let L7 := u7.2.2; if r7 = 61 then (if r3 = 60 then (some ((), sI (sI I7 331 9 4) 331 7 ((I7 331 7) + 1), L7)) else (some ((), sI (sI I7 331 9 5) 331 7 ((I7 331 7) + 1), L7))) else (some ((), I7, L7)))) else (if r3 = 62 then ((FO_M_byteAt fu ((I6 331 7) + 1) (sI (sI I6 331 9 3) 331 7 ((I6 331 7) + 1)) L6).bind (fun u8 => let r8 := u8.1; let I8 := u8.2.1; let L8 := u8.2.2; if r8 = 61 then (if r3 = 60 then (some ((), sI (sI I8 331 9 4) 331 7 ((I8 331 7) + 1), L8)) else (some ((), sI (sI I8 331 9 5) 331 7 ((I8 331 7) + 1), L8))) else (some ((), I8, L8)))) else (some ((), sI (sI I6 331 9 3) 331 7 ((I6 331 7) + 1), L6)))) else (if r3 = 60 then ((FO_M_byteAt fu ((I6 331 7) + 1) (sI (sI I6 331 9 r3) 331 7 ((I6 331 7) + 1)) L6).bind (fun u9 => let r9 := u9.1; let I9 := u9.2.1; let L9 := u9.2.2; if r9 = 61 then (if r3 = 60 then (some ((), sI (sI I9 331 9 4) 331 7 ((I9 331 7) + 1), L9)) else (some ((), sI (sI I9 331 9 5) 331 7 ((I9 331 7) + 1), L9))) else (some ((), I9, L9)))) else (if r3 = 62 then ((FO_M_byteAt fu ((I6 331 7) + 1) (sI (sI I6 331 9 r3) 331 7 ((I6 331 7) + 1)) L6).bind (fun u10 => let r10 := u10.1; let I10 := u10.2.1; let L10 := u10.2.2; if r10 = 61 then (if r3 = 60 then (some ((), sI (sI I10 331 9 4) 331 7 ((I10 331 7) + 1), L10)) else (some ((), sI (sI I10 331 9 5) 331 7 ((I10 331 7) + 1), L10))) else (some ((), I10, L10)))) else (some ((), sI (sI I6 331 9 r3) 331 7 ((I6 331 7) + 1), L6)))))) else (LO_M_nextToken_168 fu fu r3 (sI I5 331 9 2) (sL L5 331 11 0)))) else (LO_M_nextToken_85 fu fu r3 (sI (sI I4 331 9 1) 331 10 0) L4))) else (some ((), sI I3 331 9 0, L3))))
