/-! the shortest doubt: a rest goes on by a word -/
def wst (D : Nat → Nat) (x q : Nat) : Nat → Nat := match rst x q with
  | some k => lwr D k (D x)
  | none => match rst q x with
    | some k => lwr D k (D x + lg k)
    | none => D
def wfl (D : Nat → Nat) (x q : Nat) : Int32 := match rst x q with
  | some k => if D x < D k then 1 else 0
  | none => match rst q x with
    | some k => if D x + lg k < D k then 1 else 0
    | none => 0
theorem jmx {I : TI} {a b : Nat} (h : b ≤ a) (ha : a < 1000) : F_J_max I (nI a - nI b) 0 = nI (a - b) := by
  rw [pk_sub h]
  exact jm0 (by omega)
theorem xg {fu f n k x q : Nat} {x3 : Int32} {D : Nat → Nat} {I : TI} {L : TL} (hfu : 10 ≤ fu) (hn : n ≤ 5) (hk : k < n) (e13 : I 1 13 = nI n) (eq : I 134 k = nI q) (hq : 2 ≤ q ∧ q < 64) (hx : 2 ≤ x ∧ x < 64) (h : DI D (I 326)) : ∃ I', LO_C_goOn_5 fu (f + 1) (nI x) x3 (nI k) I L = LO_C_goOn_5 fu f (nI x) (if x3 = 0 then wfl D x q else 1) (nI (k + 1)) I' L ∧ DI (wst D x q) (I' 326) ∧ (∀ o, o ≠ 326 → I' o = I o) := by
  have b64 : (0 : Int32) ≤ nI x ∧ nI x < 64 := ib (n := 64) rfl (by omega) (by omega)
  obtain ⟨ex, hx9⟩ := h x hx.2
  have lx := lg_8 x
  have lq := lg_8 q
  have X : ∀ (r6 r9 : Int32) (I1 : TI) (r8 : Int32) (I2 : TI) (r11 : Int32), FO_C_behind fu (nI x) (nI q) I L = some (r6, I, L) → (∀ I1, FO_C_behind fu (nI q) (nI x) I1 L = some (r9, I1, L)) → FO_C_lower fu r6 (nI (D x)) I L = some (r8, I1, L) → (FO_C_lower fu r9 ((I1 326 x) + (F_J_max I (nI (lg q) - nI (lg x)) 0)) I1 L = some (r11, I2, L)) → LO_C_goOn_5 fu (f + 1) (nI x) x3 (nI k) I L = (if x3 = 0 then (if r8 = 0 then (if r11 = 0 then (LO_C_goOn_5 fu f (nI x) 0 (nI (k + 1)) I2 L) else (LO_C_goOn_5 fu f (nI x) 1 (nI (k + 1)) I2 L)) else (LO_C_goOn_5 fu f (nI x) 1 (nI (k + 1)) I2 L)) else (LO_C_goOn_5 fu f (nI x) 1 (nI (k + 1)) I2 L)) := by
    intro r6 r9 I1 r8 I2 r11 k1 k2 h1 h2
    rw [LO_C_goOn_5, e13, if_neg (show ¬ nI n ≤ nI k from nI_ge (by omega) (by omega)), if_neg (show ¬ (5 : Int32) ≤ nI k from nI_ge (b := 5) (by omega) (by omega)), if_pos (show (0 : Int32) ≤ nI k ∧ nI k < 5 from ib (n := 5) rfl (by omega) (by omega)), nI_clamp (show k < 2 ^ 31 by omega), eq, x_len hfu (by omega)]
    simp only [Option.bind_some]
    rw [x_len hfu (by omega)]
    simp only [Option.bind_some]
    rw [k1]
    simp only [Option.bind_some]
    rw [if_pos b64, nI_clamp (show x < 2 ^ 31 by omega), ex, h1]
    simp only [Option.bind_some]
    rw [k2]
    simp only [Option.bind_some]
    rw [if_pos b64, h2]
    simp only [Option.bind_some]
    rw [show nI k + 1 = nI (k + 1) from nI_1 ..]
  have pick : ∀ (r8 r11 z : Int32) (I2 : TI), ((r8 = 0 ∧ r11 = z) ∨ (r8 = z ∧ r11 = 0)) → (z = 0 ∨ z = 1) → (if x3 = 0 then (if r8 = 0 then (if r11 = 0 then (LO_C_goOn_5 fu f (nI x) 0 (nI (k + 1)) I2 L) else (LO_C_goOn_5 fu f (nI x) 1 (nI (k + 1)) I2 L)) else (LO_C_goOn_5 fu f (nI x) 1 (nI (k + 1)) I2 L)) else (LO_C_goOn_5 fu f (nI x) 1 (nI (k + 1)) I2 L)) = LO_C_goOn_5 fu f (nI x) (if x3 = 0 then z else 1) (nI (k + 1)) I2 L := by
    intro r8 r11 z I2 hr hz
    by_cases c : x3 = 0
    · rw [if_pos c, if_pos c]
      rcases hr with ⟨rfl, rfl⟩ | ⟨rfl, rfl⟩
      · rw [if_pos rfl]
        rcases hz with rfl | rfl
        · rw [if_pos rfl]
        · rw [if_neg i10]
      · rcases hz with rfl | rfl
        · rw [if_pos rfl, if_pos rfl]
        · rw [if_neg i10]
    · rw [if_neg c, if_neg c]
  have z01 : ∀ c : Prop, [Decidable c] → ((if c then (1 : Int32) else 0) = 0 ∨ (if c then (1 : Int32) else 0) = 1) := fun c _ => by
    by_cases h : c
    · rw [if_pos h]; exact Or.inr rfl
    · rw [if_neg h]; exact Or.inl rfl
  unfold wst wfl
  cases r1 : rst x q with
  | none =>
    cases r2 : rst q x with
    | none =>
      refine ⟨I, ?_, h, fun _ _ => rfl⟩
      rw [X 0 0 I 0 I 0 (by rw [x_rest hfu (by omega) (by omega), r1]) (fun I1 => by rw [x_rest hfu (by omega) (by omega), r2]) x_low0 x_low0]
      exact pick 0 0 0 I (Or.inl ⟨rfl, rfl⟩) (Or.inl rfl)
    | some k' =>
      obtain ⟨a1, a2, a3, a4⟩ := rst_k hq.2 hx.2 r2
      obtain ⟨I2, g1, g2, g3⟩ := x_low (fu := fu) (k := k') (v := D x + lg k') (L := L) ⟨a1, a2⟩ (by have := lg_8 k'; omega) h
      refine ⟨I2, ?_, g2, g3⟩
      rw [X 0 (nI k') I 0 I2 _ (by rw [x_rest hfu (by omega) (by omega), r1]) (fun I1 => by rw [x_rest hfu (by omega) (by omega), r2]) x_low0 (by rw [ex, jmx a4 (by omega), ← a3, nI_add]; exact g1)]
      exact pick 0 _ _ I2 (Or.inl ⟨rfl, rfl⟩) (z01 _)
  | some k' =>
    obtain ⟨a1, a2, a3, a4⟩ := rst_k hx.2 hq.2 r1
    obtain ⟨I1, g1, g2, g3⟩ := x_low (fu := fu) (k := k') (v := D x) (L := L) ⟨a1, a2⟩ (by omega) h
    cases r2 : rst q x with
    | none =>
      refine ⟨I1, ?_, g2, g3⟩
      rw [X (nI k') 0 I1 _ I1 0 (by rw [x_rest hfu (by omega) (by omega), r1]) (fun I1 => by rw [x_rest hfu (by omega) (by omega), r2]) g1 x_low0]
      exact pick _ 0 _ I1 (Or.inr ⟨rfl, rfl⟩) (z01 _)
    | some k2 =>
      obtain ⟨b1, b2, b3⟩ := rst_2 hx.2 hq.2 r1 r2
      subst b1 b2 b3
      have ne : lwr D 1 (D x) x = D x := by unfold lwr; rw [if_neg (by omega)]
      have e1 : I1 326 x = nI (D x) := by rw [(g2 x hx.2).1, ne]
      have l1 : ¬ D x < lwr D 1 (D x) 1 := by
        unfold lwr
        by_cases c : D x < D 1
        · rw [if_pos ⟨rfl, c⟩]; omega
        · rw [if_neg (fun z => c z.2)]; exact c
      obtain ⟨I2, p1, p2, p3⟩ := x_low (fu := fu) (k := 1) (v := D x) (L := L) ⟨by omega, by omega⟩ (by omega) g2
      rw [if_neg l1] at p1
      rw [lwr_no l1] at p2
      refine ⟨I2, ?_, p2, fun o ho => (p3 o ho).trans (g3 o ho)⟩
      rw [X (nI 1) (nI 1) I1 _ I2 0 (by rw [x_rest hfu (by omega) (by omega), r1]) (fun I1 => by rw [x_rest hfu (by omega) (by omega), r2]) g1 (by rw [e1, jmx (Nat.le_refl _) (by omega), Nat.sub_self, nI_add, Nat.add_zero]; exact p1)]
      exact pick _ 0 _ I2 (Or.inr ⟨rfl, rfl⟩) (z01 _)
