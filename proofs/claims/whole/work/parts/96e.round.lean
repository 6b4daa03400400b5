/-! the shortest doubt: a round over all rests -/
def rndD (qs : Nat → Nat) (n : Nat) : Nat → Nat → (Nat → Nat) → (Nat → Nat)
  | 0, _, D => D
  | j + 1, x, D => rndD qs n j (x + 1) (if D x < 1000000 then wfo qs x n 0 D else D)
theorem lk_r {fu n : Nat} {x3 : Int32} {L K : TL} {kk k116 : Int32 → Int32 → TI → TL → Option (Int32 × TI × TL)} {qs ps : Nat → Nat} (hfu : 2000 ≤ fu) (hn : n ≤ 5) (hw : ∀ k, k < n → 1 ≤ ps k ∧ ps k ≤ 22222 ∧ Vd 8 (ps k) = some (qs k) ∧ 2 ≤ qs k ∧ qs k < 64) : ∀ (j x f g : Nat) (x2 : Int32) (D : Nat → Nat) (I J : TI), x + j = 64 → 2 ≤ x → j < f → j < g → (x2 = 0 ∨ x2 = 1) → I 1 13 = nI n → J 332 5 = nI n → (∀ k, k < n → I 134 k = nI (qs k) ∧ J 332 (66 + k) = nI (ps k)) → DI D (I 326) → DI D (J 346) → ∃ z I' J', (z = 0 ∨ z = 1) ∧ LO_C_shortestDoubt_104 fu kk f x2 x3 (nI x) I L = kk z (x3 + 1) I' L ∧ LO_M_doubt_124 fu k116 g x2 (nI x) J K = k116 z (nI 64) J' K ∧ DI (rndD qs n j x D) (I' 326) ∧ DI (rndD qs n j x D) (J' 346) ∧ (∀ o, o ≠ 326 → I' o = I o) ∧ (∀ o, o ≠ 346 → J' o = J o) ∧ (z = 0 → x2 = 0 ∧ rndD qs n j x D = D) ∧ (∀ t, rndD qs n j x D t ≤ D t) ∧ (z = 1 → x2 = 1 ∨ ∃ t, t < 64 ∧ rndD qs n j x D t < D t) := by
  intro j
  induction j with
  | zero =>
    intro x f g x2 D I J hx hx2 hf hg h2 e13 e5 hW dI dJ
    obtain ⟨f, rfl⟩ : ∃ z, f = z + 1 := ⟨f - 1, by omega⟩
    obtain ⟨g, rfl⟩ : ∃ z, g = z + 1 := ⟨g - 1, by omega⟩
    have : x = 64 := by omega
    subst this
    refine ⟨x2, I, J, h2, ?_, ?_, dI, dJ, fun _ _ => rfl, fun _ _ => rfl, fun z => ⟨z, rfl⟩, fun _ => Nat.le_refl _, fun z => Or.inl z⟩
    · rw [LO_C_shortestDoubt_104, if_pos (by decide)]
    · rw [LO_M_doubt_124, if_pos (by decide)]
  | succ j ih =>
    intro x f g x2 D I J hx hx2 hf hg h2 e13 e5 hW dI dJ
    obtain ⟨f, rfl⟩ : ∃ z, f = z + 1 := ⟨f - 1, by omega⟩
    obtain ⟨g, rfl⟩ : ∃ z, g = z + 1 := ⟨g - 1, by omega⟩
    have b64 : (0 : Int32) ≤ nI x ∧ nI x < 64 := ib (n := 64) rfl (by omega) (by omega)
    have n64 : ¬ (64 : Int32) ≤ nI x := nI_ge (b := 64) (by omega) (by omega)
    obtain ⟨dx, dx9⟩ := dI x (by omega)
    obtain ⟨dy, _⟩ := dJ x (by omega)
    rw [LO_C_shortestDoubt_104, LO_M_doubt_124, if_neg n64, if_neg n64, if_pos b64, nI_clamp (show x < 2 ^ 31 by omega), dx, show nI x + 1 = nI (x + 1) from nI_1 ..]
    rw [show rndD qs n (j + 1) x D = rndD qs n j (x + 1) (if D x < 1000000 then wfo qs x n 0 D else D) from rfl]
    by_cases c : D x < 1000000
    · rw [if_pos c, if_neg (show ¬ (1000000 : Int32) ≤ nI (D x) from nI_ge (b := 1000000) (by omega) (by omega))]
      obtain ⟨z, D', I1, J1, r0, r1, r2, r3, r4, r5, r6, r7, r8, r9, r10⟩ := lk_g (fu := fu) (n := n) (x := x) (L := L) (K := K) (k116 := k116) (k124 := fun x1 x2 I L => LO_M_doubt_124 fu k116 g x1 x2 I L) (qs := qs) (ps := ps) hfu hn ⟨hx2, by omega⟩ hw n 0 fu fu x2 0 D I J (by omega) (by omega) (by omega) h2 (Or.inl rfl) e13 e5 hW dI dJ c
      rw [← r9]
      rw [or0] at r2
      have zz : x2 ||| z = 0 ∨ x2 ||| z = 1 := by
        rcases h2 with rfl | rfl <;> rcases r0 with rfl | rfl <;> decide
      obtain ⟨z', I2, J2, s0, s1, s2, s3, s4, s5, s6, s7, s8, s9⟩ := ih (x + 1) f g (x2 ||| z) D' I1 J1 (by omega) (by omega) (by omega) (by omega) zz (by rw [r5 1 (by omega)]; exact e13) (by rw [r6 332 (by omega)]; exact e5) (fun k hk => by rw [r5 134 (by omega), r6 332 (by omega)]; exact hW k hk) r3 r4
      refine ⟨z', I2, J2, s0, ?_, r2.trans s2, s3, s4, fun o ho => (s5 o ho).trans (r5 o ho), fun o ho => (s6 o ho).trans (r6 o ho), fun hz => ?_, fun t => Nat.le_trans (s8 t) (r7 t), fun hz => ?_⟩
      · unfold FO_C_goOn
        refine Eq.trans (congrArg (fun z => Option.bind z _) r1) ?_
        simp only [Option.bind_some]
        rw [← s1]
        rcases r0 with rfl | rfl
        · rw [if_pos rfl, or0]
        · rw [if_neg i10, or11 x2 h2]
      · obtain ⟨y1, y2⟩ := s7 hz
        rcases r0 with rfl | rfl
        · rw [or0] at y1
          exact ⟨y1, y2.trans (r8 rfl).2⟩
        · rw [or11 x2 h2] at y1
          exact absurd y1 i10
      · rcases s9 hz with y | ⟨t, t1, t2⟩
        · rcases r0 with rfl | rfl
          · rw [or0] at y
            exact Or.inl y
          · rcases r10 rfl with w | ⟨t, t1, t2⟩
            · exact absurd w (by decide)
            · exact Or.inr ⟨t, t1, Nat.lt_of_le_of_lt (s8 t) t2⟩
        · exact Or.inr ⟨t, t1, Nat.lt_of_lt_of_le t2 (r7 t)⟩
    · rw [if_neg c, if_pos (show (1000000 : Int32) ≤ nI (D x) from nI_le (a := 1000000) (by omega) (by omega))]
      obtain ⟨z', I2, J2, s0, s1, s2, s3, s4, s5, s6, s7, s8, s9⟩ := ih (x + 1) f g x2 D I J (by omega) (by omega) (by omega) (by omega) h2 e13 e5 hW dI dJ
      refine ⟨z', I2, J2, s0, s1, ?_, s3, s4, s5, s6, s7, s8, s9⟩
      rw [← s2]
      obtain ⟨f', hf'⟩ : ∃ z, fu = z + 1 := ⟨fu - 1, by omega⟩
      rw [show ∀ kk, LO_M_doubt_132 fu k116 kk fu x2 (nI x) 0 J K = LO_M_doubt_132 fu k116 kk (f' + 1) x2 (nI x) 0 J K from fun kk => by rw [← hf'], LO_M_doubt_132, if_pos b64, nI_clamp (show x < 2 ^ 31 by omega), dy, if_pos (show (1000000 : Int32) ≤ nI (D x) from nI_le (a := 1000000) (by omega) (by omega)), show nI x + 1 = nI (x + 1) from nI_1 ..]
      split <;> rfl
