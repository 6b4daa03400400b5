/-! tokens of a tape -/
def isLb (c : Nat) : Bool := decide ((97 ≤ c ∧ c ≤ 122) ∨ (65 ≤ c ∧ c ≤ 90))
def isDb (c : Nat) : Bool := decide (48 ≤ c ∧ c ≤ 57)
def isBb (c : Nat) : Bool := decide (c = 32 ∨ c = 10)
/-- behind a run -/
def rnd (P : Nat → Bool) (τ : Nat → Nat) : Nat → Nat → Nat
  | 0, i => i
  | d + 1, i => if P (τ i) then rnd P τ d (i + 1) else i
def rn (P : Nat → Bool) (τ : Nat → Nat) (len i : Nat) : Nat := rnd P τ (len - i) i
theorem rn_t {P : Nat → Bool} {τ : Nat → Nat} {len i : Nat} (hi : i < len) (h : P (τ i) = true) : rn P τ len i = rn P τ len (i + 1) := by
  unfold rn
  rw [show len - i = (len - (i + 1)) + 1 by omega, rnd, if_pos h]
theorem rn_f {P : Nat → Bool} {τ : Nat → Nat} {len i : Nat} (hi : i < len) (h : ¬ P (τ i) = true) : rn P τ len i = i := by
  unfold rn
  rw [show len - i = (len - (i + 1)) + 1 by omega, rnd, if_neg h]
theorem rn_e {P : Nat → Bool} {τ : Nat → Nat} {len i : Nat} (hi : len ≤ i) : rn P τ len i = i := by
  unfold rn
  rw [show len - i = 0 by omega, rnd]
theorem rn_le {P : Nat → Bool} {τ : Nat → Nat} {len : Nat} : ∀ (d i : Nat), i + d = len → i ≤ rn P τ len i ∧ rn P τ len i ≤ len ∧ (∀ j, i ≤ j → j < rn P τ len i → P (τ j) = true) ∧ (rn P τ len i < len → ¬ P (τ (rn P τ len i)) = true) := by
  intro d
  induction d with
  | zero => intro i hi; rw [rn_e (by omega)]; exact ⟨Nat.le_refl _, by omega, fun j h1 h2 => by omega, fun h => by omega⟩
  | succ d ih =>
    intro i hi
    by_cases c : P (τ i) = true
    · rw [rn_t (by omega) c]
      obtain ⟨h1, h2, h3, h4⟩ := ih (i + 1) (by omega)
      refine ⟨by omega, h2, fun j h5 h6 => ?_, h4⟩
      by_cases e : j = i
      · subst e; exact c
      · exact h3 j (by omega) h6
    · rw [rn_f (by omega) c]
      exact ⟨Nat.le_refl _, by omega, fun j h1 h2 => by omega, fun _ => c⟩
/-- the last n of them, the latest first -/
def rl (f : Nat → Nat) (s : Nat) : Nat → List Nat
  | 0 => []
  | n + 1 => f (s + n) :: rl f s n
theorem rl_eq {f g : Nat → Nat} {s t : Nat} : ∀ (n m : Nat), rl f s n = rl g t m ↔ (n = m ∧ ∀ u, u < n → f (s + u) = g (t + u)) := by
  intro n
  induction n with
  | zero =>
    intro m
    cases m with
    | zero => simp [rl]
    | succ m => simp [rl]
  | succ n ih =>
    intro m
    cases m with
    | zero => simp [rl]
    | succ m =>
      rw [rl, rl, List.cons.injEq, ih m]
      constructor
      · rintro ⟨h1, h2, h3⟩
        subst h2
        refine ⟨rfl, fun u hu => ?_⟩
        by_cases c : u = n
        · subst c; exact h1
        · exact h3 u (by omega)
      · rintro ⟨h1, h2⟩
        have : n = m := by omega
        subst this
        exact ⟨h2 n (by omega), rfl, fun u hu => h2 u (by omega)⟩
def dct : List (List Nat) := [[104, 111, 117, 114], [108, 97, 116, 101], [115, 116, 97, 105, 114], [119, 101, 105, 103, 104, 116], [102, 108, 111, 111, 114], [119, 104, 111], [116, 114, 111, 100], [119, 97, 121], [116, 105, 99, 107, 115], [104, 101, 97, 114, 115], [108, 111, 100, 103, 101, 114], [117, 112], [100, 111, 119, 110], [104, 97, 110, 103], [117, 110, 104, 97, 110, 103], [110, 101, 97, 114], [99, 117, 112, 115], [105, 102], [116, 104, 101, 110], [101, 108, 115, 101], [101, 110, 100], [111, 114], [97, 110, 100], [110, 111, 116], [111, 102], [98, 121]]
def wch (j u : Nat) : Nat := (dct.getD j []).getD u 0
def wn (j : Nat) : Nat := (dct.getD j []).length
def wo (j : Nat) : Nat := ([0, 5, 10, 16, 23, 29, 33, 38, 42, 48, 54, 61, 64, 69, 74, 81, 86, 91, 94, 99, 104, 108, 111, 115, 119, 122, 125] : List Nat).getD j 0
theorem wo_s : ∀ j, j < 26 → wo (j + 1) = wo j + wn j + 1 ∧ (txt 1).getD (wo j + wn j) 0 = 32 ∧ wo (j + 1) ≤ 125 ∧ wn j ≤ 6 := by decide +kernel
theorem wo_c : ∀ j, j < 26 → ∀ u, u < wn j → (txt 1).getD (wo j + u) 0 = nI (wch j u) ∧ ¬ (txt 1).getD (wo j + u) 0 = 32 ∧ wch j u < 256 := by decide +kernel
def wKf (τ : Nat → Nat) (s n : Nat) : Nat → Nat → Nat
  | 0, _ => 1
  | d + 1, j => if rl τ s n = rl (wch j) 0 (wn j) then 30 + j else wKf τ s n d (j + 1)
def wK (τ : Nat → Nat) (s n : Nat) : Nat := wKf τ s n 26 0
/-- the tape of the class -/
def Tap (I : TI) (τ : Nat → Nat) (len : Nat) : Prop := len ≤ 300 ∧ ∀ k, k < len → I 306 k = nI (τ k) ∧ τ k ≤ 255
theorem wd_in {τ : Nat → Nat} {len fu s n j : Nat} {I : TI} {L : TL} (ht : Tap I τ len) (hs : s + n ≤ len) (hj : j < 26) : ∀ (d u f : Nat) (x5 : Int32), u + d = wn j → d < f → ((x5 = 1 ∧ u ≤ n ∧ ∀ v, v < u → τ (s + v) = wch j v) ∨ (x5 = 0 ∧ ¬ (u ≤ n ∧ ∀ v, v < u → τ (s + v) = wch j v))) → ∃ f', f = f' + (d + 1) ∧ LO_R_wordOf_12 fu f (nI s) (nI (s + n)) (nI (30 + j)) (nI (s + u)) x5 (nI (wo j + u)) I L = if rl τ s n = rl (wch j) 0 (wn j) then some (nI (30 + j), I, L) else LO_R_wordOf_12 fu f' (nI s) (nI (s + n)) (nI (30 + (j + 1))) (nI s) 1 (nI (wo (j + 1))) I L := by
  obtain ⟨hl, htp⟩ := ht
  obtain ⟨w1, w2, w3, w4⟩ := wo_s j hj
  intro d
  induction d with
  | zero =>
    intro u f x5 hu hf hx
    obtain ⟨f, rfl⟩ : ∃ z, f = z + 1 := ⟨f - 1, by omega⟩
    have hu : u = wn j := by omega
    subst hu
    refine ⟨f, by omega, ?_⟩
    rw [LO_R_wordOf_12, if_neg (show ¬ (125 : Int32) ≤ nI (wo j + wn j) from nI_ge (b := 125) (by omega) (by omega)), if_pos (show (0 : Int32) ≤ nI (wo j + wn j) ∧ nI (wo j + wn j) < 125 from ib (n := 125) rfl (by omega) (by omega)), nI_clamp (show wo j + wn j < 2 ^ 31 by omega), if_pos w2, nI_1, nI_1, show wo j + wn j + 1 = wo (j + 1) by omega, show 30 + j + 1 = 30 + (j + 1) by omega]
    rcases hx with ⟨rfl, h1, h2⟩ | ⟨rfl, h1⟩
    · rw [if_neg i10]
      by_cases c : wn j = n
      · rw [if_pos (show nI (s + wn j) = nI (s + n) by rw [c]), if_pos ((rl_eq n (wn j)).mpr ⟨c.symm, fun u hu => by rw [h2 u (by omega), Nat.zero_add]⟩)]
      · rw [if_neg (fun z => c (by have := (nI_eq (by omega) (by omega)).mp z; omega)), if_neg (fun z => c ((rl_eq n (wn j)).mp z).1.symm)]
    · rw [if_pos rfl, if_neg (fun z => h1 (by
        obtain ⟨e, h⟩ := (rl_eq n (wn j)).mp z
        exact ⟨by omega, fun v hv => by rw [h v (by omega), Nat.zero_add]⟩))]
  | succ d ih =>
    intro u f x5 hu hf hx
    obtain ⟨f, rfl⟩ : ∃ z, f = z + 1 := ⟨f - 1, by omega⟩
    obtain ⟨c1, c2, c3⟩ := wo_c j hj u (by omega)
    have go : ∀ x5', ((x5' = 1 ∧ u + 1 ≤ n ∧ ∀ v, v < u + 1 → τ (s + v) = wch j v) ∨ (x5' = 0 ∧ ¬ (u + 1 ≤ n ∧ ∀ v, v < u + 1 → τ (s + v) = wch j v))) → LO_R_wordOf_12 fu (f + 1) (nI s) (nI (s + n)) (nI (30 + j)) (nI (s + u)) x5 (nI (wo j + u)) I L = LO_R_wordOf_12 fu f (nI s) (nI (s + n)) (nI (30 + j)) (nI (s + (u + 1))) x5' (nI (wo j + (u + 1))) I L → ∃ f', f + 1 = f' + (d + 1 + 1) ∧ LO_R_wordOf_12 fu (f + 1) (nI s) (nI (s + n)) (nI (30 + j)) (nI (s + u)) x5 (nI (wo j + u)) I L = if rl τ s n = rl (wch j) 0 (wn j) then some (nI (30 + j), I, L) else LO_R_wordOf_12 fu f' (nI s) (nI (s + n)) (nI (30 + (j + 1))) (nI s) 1 (nI (wo (j + 1))) I L := by
      intro x5' hx' e
      obtain ⟨f', e1, e2⟩ := ih (u + 1) f x5' (by omega) (by omega) hx'
      exact ⟨f', by omega, by rw [e, e2]⟩
    have st : LO_R_wordOf_12 fu (f + 1) (nI s) (nI (s + n)) (nI (30 + j)) (nI (s + u)) x5 (nI (wo j + u)) I L = (if x5 = 0 then LO_R_wordOf_12 fu f (nI s) (nI (s + n)) (nI (30 + j)) (nI (s + (u + 1))) 0 (nI (wo j + (u + 1))) I L else (if nI (s + n) ≤ nI (s + u) then LO_R_wordOf_12 fu f (nI s) (nI (s + n)) (nI (30 + j)) (nI (s + (u + 1))) 0 (nI (wo j + (u + 1))) I L else (if 0 ≤ nI (s + u) ∧ nI (s + u) < 300 then (if I 306 ((nI (s + u)).toNatClampNeg) = nI (wch j u) then LO_R_wordOf_12 fu f (nI s) (nI (s + n)) (nI (30 + j)) (nI (s + (u + 1))) 1 (nI (wo j + (u + 1))) I L else LO_R_wordOf_12 fu f (nI s) (nI (s + n)) (nI (30 + j)) (nI (s + (u + 1))) 0 (nI (wo j + (u + 1))) I L) else none))) := by
      rw [LO_R_wordOf_12, if_neg (show ¬ (125 : Int32) ≤ nI (wo j + u) from nI_ge (b := 125) (by omega) (by omega)), if_pos (show (0 : Int32) ≤ nI (wo j + u) ∧ nI (wo j + u) < 125 from ib (n := 125) rfl (by omega) (by omega)), nI_clamp (show wo j + u < 2 ^ 31 by omega), if_neg c2, nI_1, nI_1, c1, show s + u + 1 = s + (u + 1) by omega, show wo j + u + 1 = wo j + (u + 1) by omega]
    rcases hx with ⟨rfl, h1, h2⟩ | ⟨rfl, h1⟩
    · by_cases c : n ≤ u
      · refine go 0 (Or.inr ⟨rfl, fun z => by omega⟩) ?_
        rw [st, if_neg i10, if_pos (nI_le (by omega) (by omega))]
      · have hb : (0 : Int32) ≤ nI (s + u) ∧ nI (s + u) < 300 := ib (n := 300) rfl (by omega) (by omega)
        obtain ⟨t1, t2⟩ := htp (s + u) (by omega)
        by_cases e : τ (s + u) = wch j u
        · refine go 1 (Or.inl ⟨rfl, by omega, fun v hv => ?_⟩) ?_
          · by_cases ev : v = u
            · subst ev; exact e
            · exact h2 v (by omega)
          · rw [st, if_neg i10, if_neg (nI_ge (by omega) (by omega)), if_pos hb, nI_clamp (show s + u < 2 ^ 31 by omega), t1, if_pos (by rw [e])]
        · refine go 0 (Or.inr ⟨rfl, fun z => e (z.2 u (by omega))⟩) ?_
          rw [st, if_neg i10, if_neg (nI_ge (by omega) (by omega)), if_pos hb, nI_clamp (show s + u < 2 ^ 31 by omega), t1, if_neg (fun z => e ((nI_eq (by omega) (by omega)).mp z))]
    · refine go 0 (Or.inr ⟨rfl, fun z => h1 ⟨by omega, fun v hv => z.2 v (by omega)⟩⟩) ?_
      rw [st, if_pos rfl]
theorem x_word {τ : Nat → Nat} {len fu s n : Nat} {I : TI} {L : TL} (hfu : 2000 ≤ fu) (ht : Tap I τ len) (hs : s + n ≤ len) : FO_R_wordOf fu (nI s) (nI (s + n)) I L = some (nI (wK τ s n), I, L) := by
  have go : ∀ (d j f : Nat), j + d = 26 → 8 * d < f → LO_R_wordOf_12 fu f (nI s) (nI (s + n)) (nI (30 + j)) (nI s) 1 (nI (wo j)) I L = some (nI (wKf τ s n d j), I, L) := by
    intro d
    induction d with
    | zero =>
      intro j f hj hf
      obtain ⟨f, rfl⟩ : ∃ z, f = z + 1 := ⟨f - 1, by omega⟩
      have : j = 26 := by omega
      subst this
      rw [LO_R_wordOf_12, if_pos (show (125 : Int32) ≤ nI (wo 26) by decide)]
      rfl
    | succ d ih =>
      intro j f hj hf
      have w4 := (wo_s j (by omega)).2.2.2
      obtain ⟨f', e1, e2⟩ := wd_in (fu := fu) (L := L) ht hs (show j < 26 by omega) (wn j) 0 f 1 (by omega) (by omega) (Or.inl ⟨rfl, by omega, fun v hv => by omega⟩)
      rw [Nat.add_zero, Nat.add_zero] at e2
      rw [e2, wKf]
      by_cases c : rl τ s n = rl (wch j) 0 (wn j)
      · rw [if_pos c, if_pos c]
      · rw [if_neg c, if_neg c]
        exact ih (j + 1) f' (by omega) (by omega)
  exact go 26 0 fu (by omega) (by omega)
def nv (τ : Nat → Nat) (s : Nat) : Nat → Nat
  | 0 => 0
  | n + 1 => min (nv τ s n * 10 + (τ (s + n) - 48)) 10000
theorem nv_le (τ : Nat → Nat) (s : Nat) : ∀ n, nv τ s n ≤ 10000 := by
  intro n
  cases n with
  | zero => exact Nat.zero_le _
  | succ n => exact Nat.min_le_right _ _
theorem x_number {τ : Nat → Nat} {len fu s n : Nat} {I : TI} {L : TL} (hfu : 2000 ≤ fu) (ht : Tap I τ len) (hs : s + n ≤ len) (hd : ∀ u, u < n → 48 ≤ τ (s + u)) : FO_R_numberOf fu (nI s) (nI (s + n)) I L = some (nI (nv τ s n), I, L) := by
  obtain ⟨hl, htp⟩ := ht
  have go : ∀ (d u f : Nat), u + d = n → d < f → LO_R_numberOf_5 fu f (nI s) (nI (s + n)) (nI (nv τ s u)) (nI (s + u)) I L = some (nI (nv τ s n), I, L) := by
    intro d
    induction d with
    | zero =>
      intro u f hu hf
      obtain ⟨f, rfl⟩ : ∃ z, f = z + 1 := ⟨f - 1, by omega⟩
      have : u = n := by omega
      subst this
      rw [LO_R_numberOf_5, if_pos (Int32.le_refl _)]
    | succ d ih =>
      intro u f hu hf
      obtain ⟨f, rfl⟩ : ∃ z, f = z + 1 := ⟨f - 1, by omega⟩
      obtain ⟨t1, t2⟩ := htp (s + u) (by omega)
      have t3 := hd u (by omega)
      have n1 := nv_le τ s u
      have e : nI (nv τ s u) * 10 + nI (τ (s + u)) - 48 = nI (nv τ s u * 10 + (τ (s + u) - 48)) := by
        rw [show (10 : Int32) = nI 10 from rfl, show (48 : Int32) = nI 48 from rfl, pk_mul, nI_add, pk_sub (by omega)]
        congr 1
        omega
      have em : F_J_min I (nI (nv τ s u * 10 + (τ (s + u) - 48))) 10000 = nI (nv τ s (u + 1)) := by
        unfold F_J_min
        rw [nv]
        by_cases c : 10000 < nv τ s u * 10 + (τ (s + u) - 48)
        · rw [if_pos (show (10000 : Int32) < _ from nI_lt (a := 10000) c (by omega)), Nat.min_eq_right (by omega)]; rfl
        · rw [if_neg (show ¬ (10000 : Int32) < _ from nI_nlt (a := 10000) (by omega) (by omega)), Nat.min_eq_left (by omega)]
      rw [LO_R_numberOf_5, if_neg (nI_ge (by omega) (by omega)), if_pos (show (0 : Int32) ≤ nI (s + u) ∧ nI (s + u) < 300 from ib (n := 300) rfl (by omega) (by omega)), nI_clamp (show s + u < 2 ^ 31 by omega), t1, e, em, nI_1]
      exact ih (u + 1) f (by omega) (by omega)
  exact go n 0 fu (by omega) (by omega)
def sgl : List Nat := [60, 62, 61, 35, 43, 45, 42, 47, 40, 41, 59]
def sgf (c : Nat) : Nat → Nat → Nat
  | 0, _ => 1
  | d + 1, i => if sgl.getD i 0 = c then 10 + i else sgf c d (i + 1)
def sgK (c : Nat) : Nat := sgf c 11 0
theorem sgt : ∀ i, i < 11 → (txt 2).getD i 0 = nI (sgl.getD i 0) ∧ sgl.getD i 0 < 256 := by decide +kernel
theorem x_sign {fu c : Nat} {x : Int32} {I : TI} {L : TL} (hfu : 2000 ≤ fu) (hc : c ≤ 255) (hx : ¬ x = 2) : FO_R_signOf fu (nI c) x I L = some (nI (sgK c), I, L) := by
  have go : ∀ (d i f : Nat), i + d = 11 → d < f → LO_R_signOf_19 fu f (nI c) x (nI i) I L = some (nI (sgf c d i), I, L) := by
    intro d
    induction d with
    | zero =>
      intro i f hi hf
      obtain ⟨f, rfl⟩ : ∃ z, f = z + 1 := ⟨f - 1, by omega⟩
      rw [LO_R_signOf_19, if_pos (show (11 : Int32) ≤ nI i from nI_le (a := 11) (by omega) (by omega))]
      rfl
    | succ d ih =>
      intro i f hi hf
      obtain ⟨f, rfl⟩ : ∃ z, f = z + 1 := ⟨f - 1, by omega⟩
      obtain ⟨t1, t2⟩ := sgt i (by omega)
      rw [LO_R_signOf_19, if_neg (show ¬ (11 : Int32) ≤ nI i from nI_ge (b := 11) (by omega) (by omega)), if_pos (show (0 : Int32) ≤ nI i ∧ nI i < 11 from ib (n := 11) rfl (by omega) (by omega)), nI_clamp (show i < 2 ^ 31 by omega), t1, sgf, nI_1]
      by_cases e : sgl.getD i 0 = c
      · rw [if_pos (by rw [e]), if_pos e, show (10 : Int32) + nI i = nI (10 + i) from nI_add 10 i]
      · rw [if_neg (fun z => e ((nI_eq (by omega) (by omega)).mp z)), if_neg e]
        exact ih (i + 1) f (by omega) (by omega)
  unfold FO_R_signOf
  rw [if_neg hx]
  exact go 11 0 fu (by omega) (by omega)
theorem x_let {fu c : Nat} {I : TI} {L : TL} (hc : c ≤ 255) : FO_R_isLetter fu (nI c) I L = some (if isLb c then 1 else 0, I, L) := by
  have e1 : ((97 : Int32) ≤ nI c ∧ nI c ≤ 122) ↔ (97 ≤ c ∧ c ≤ 122) := ⟨fun z => ⟨(nI_leI (a := 97) (by omega) (by omega)).mp z.1, (nI_leI (b := 122) (by omega) (by omega)).mp z.2⟩, fun z => ⟨nI_le (a := 97) z.1 (by omega), nI_le (b := 122) z.2 (by omega)⟩⟩
  have e2 : ((65 : Int32) ≤ nI c ∧ nI c ≤ 90) ↔ (65 ≤ c ∧ c ≤ 90) := ⟨fun z => ⟨(nI_leI (a := 65) (by omega) (by omega)).mp z.1, (nI_leI (b := 90) (by omega) (by omega)).mp z.2⟩, fun z => ⟨nI_le (a := 65) z.1 (by omega), nI_le (b := 90) z.2 (by omega)⟩⟩
  unfold FO_R_isLetter isLb
  by_cases h1 : 97 ≤ c ∧ c ≤ 122
  · rw [if_pos (e1.mpr h1), if_pos (decide_eq_true (Or.inl h1))]
  · rw [if_neg (fun z => h1 (e1.mp z))]
    by_cases h2 : 65 ≤ c ∧ c ≤ 90
    · rw [if_pos (e2.mpr h2), if_pos (decide_eq_true (Or.inr h2))]
    · rw [if_neg (fun z => h2 (e2.mp z)), if_neg (fun z => (of_decide_eq_true z).elim h1 h2)]
theorem x_dig {fu c : Nat} {I : TI} {L : TL} (hc : c ≤ 255) : FO_R_isDigit fu (nI c) I L = some (if isDb c then 1 else 0, I, L) := by
  have e1 : ((48 : Int32) ≤ nI c ∧ nI c ≤ 57) ↔ (48 ≤ c ∧ c ≤ 57) := ⟨fun z => ⟨(nI_leI (a := 48) (by omega) (by omega)).mp z.1, (nI_leI (b := 57) (by omega) (by omega)).mp z.2⟩, fun z => ⟨nI_le (a := 48) z.1 (by omega), nI_le (b := 57) z.2 (by omega)⟩⟩
  unfold FO_R_isDigit isDb bI
  by_cases h1 : 48 ≤ c ∧ c ≤ 57
  · rw [if_pos (e1.mpr h1), if_pos (decide_eq_true h1)]
  · rw [if_neg (fun z => h1 (e1.mp z)), if_neg (fun z => h1 (of_decide_eq_true z))]
/-- the class's run -/
theorem x_run {τ : Nat → Nat} {len fu s : Nat} {x3 : Int32} {I : TI} {L : TL} (hfu : 2000 ≤ fu) (ht : Tap I τ len) (hs : s ≤ len) : FO_R_behindRun fu (nI s) (nI len) x3 I L = some (nI (rn (if x3 = 0 then isDb else isLb) τ len s), I, L) := by
  obtain ⟨hl, htp⟩ := ht
  have go : ∀ (d i f : Nat), i + d = len → d < f → LO_R_behindRun_3 fu f (nI s) (nI len) x3 (nI i) I L = some (nI (rn (if x3 = 0 then isDb else isLb) τ len i), I, L) := by
    intro d
    induction d with
    | zero =>
      intro i f hi hf
      obtain ⟨f, rfl⟩ : ∃ z, f = z + 1 := ⟨f - 1, by omega⟩
      have : i = len := by omega
      subst this
      rw [LO_R_behindRun_3, if_pos (Int32.le_refl _), rn_e (Nat.le_refl _)]
    | succ d ih =>
      intro i f hi hf
      obtain ⟨f, rfl⟩ : ∃ z, f = z + 1 := ⟨f - 1, by omega⟩
      obtain ⟨t1, t2⟩ := htp i (by omega)
      have hb : (0 : Int32) ≤ nI i ∧ nI i < 300 := ib (n := 300) rfl (by omega) (by omega)
      rw [LO_R_behindRun_3, if_neg (nI_ge (by omega) (by omega)), nI_clamp (show i < 2 ^ 31 by omega), t1, nI_1]
      by_cases c : x3 = 0
      · rw [if_pos c, if_pos hb, x_dig t2]
        simp only [Option.bind_some]
        by_cases e : isDb (τ i) = true
        · rw [if_pos e, if_neg i10, rn_t (by omega) (by rw [if_pos c]; exact e)]
          exact ih (i + 1) f (by omega) (by omega)
        · rw [if_neg e, if_pos rfl, rn_f (by omega) (by rw [if_pos c]; exact e)]
      · rw [if_neg c, if_pos hb, x_let t2]
        simp only [Option.bind_some]
        by_cases e : isLb (τ i) = true
        · rw [if_pos e, if_neg i10, rn_t (by omega) (by rw [if_neg c]; exact e)]
          exact ih (i + 1) f (by omega) (by omega)
        · rw [if_neg e, if_pos rfl, rn_f (by omega) (by rw [if_neg c]; exact e)]
  exact go (len - s) s fu (by omega) (by omega)
