section
variable {kd vl sp tp : Nat → Int32} {en : Nat → Nat} {len N fu t0 : Nat}
theorem t_read (hN : kd N = 0) (nx : NX kd vl sp tp en len N fu) (hfu : 2000 ≤ fu) (ht : t0 ≤ 2043) {L : TL} {p1 : Int32} : ∀ (j f g i : Nat) (I J : TI) (K : TL) (k q w n : Nat), CS kd vl sp tp en len N t0 I J K k q w n → N - k ≤ j → j + 1 < f → j < g → i ≤ k → DBad sp t0 (LO_R_read_43 fu f p1 1 (nI i) I L) (LO_M_readText_43 fu g J K) I L J ∨ ∃ (I' J' : TI) (K' : TL) (k' q' w' n' : Nat), LO_R_read_43 fu f p1 1 (nI i) I L = some (1, I', L) ∧ FrD I I' ∧ LO_M_readText_43 fu g J K = some (0, J', K') ∧ FrC t0 J J' ∧ CS kd vl sp tp en len N t0 I' J' K' k' q' w' n' := by
  intro j
  induction j with
  | zero =>
    intro f g i I J K k q w n h hj hf hg hi
    obtain ⟨f, rfl⟩ : ∃ z, f = z + 1 := ⟨f - 1, by omega⟩
    obtain ⟨g, rfl⟩ : ∃ z, g = z + 1 := ⟨g - 1, by omega⟩
    have hX := h.1
    have hkN : k ≤ N := hX.2.2.2.2.2.2.2.2.1
    have hN3 : N ≤ 300 := hX.2.2.2.2.2.2.2.2.2
    have e0 : kd k = 0 := by rw [show k = N by omega]; exact hN
    right
    refine ⟨I, J, K, k, q, w, n, ?_, FrD.rf, ?_, FrC.rf, h⟩
    · rw [LO_R_read_43, if_neg (l300 (by omega)), if_neg i10, if_pos (hX.2.2.1.trans e0), if_pos (Or.inr rfl)]
    · rw [LO_M_readText_43, if_pos (h.2.1.2.2.2.2.1.mpr e0)]
  | succ j ih =>
    intro f g i I J K k q w n h hj hf hg hi
    obtain ⟨f, rfl⟩ : ∃ z, f = z + 1 := ⟨f - 1, by omega⟩
    obtain ⟨g, rfl⟩ : ∃ z, g = z + 1 := ⟨g - 1, by omega⟩
    have hX := h.1
    have hkN : k ≤ N := hX.2.2.2.2.2.2.2.2.1
    have hN3 : N ≤ 300 := hX.2.2.2.2.2.2.2.2.2
    by_cases e0 : kd k = 0
    · right
      refine ⟨I, J, K, k, q, w, n, ?_, FrD.rf, ?_, FrC.rf, h⟩
      · rw [LO_R_read_43, if_neg (l300 (by omega)), if_neg i10, if_pos (hX.2.2.1.trans e0), if_pos (Or.inr rfl)]
      · rw [LO_M_readText_43, if_pos (h.2.1.2.2.2.2.1.mpr e0)]
    · rw [LO_R_read_43, if_neg (l300 (by omega)), if_neg i10, if_neg (show ¬ I 307 9 = 0 by rw [hX.2.2.1]; exact e0), LO_M_readText_43, if_neg (fun z => e0 (h.2.1.2.2.2.2.1.mp z))]
      rcases t_clause (L := L) hN nx hfu ht h with ⟨e, kx, I', J', K', h1, h2, h3, h4, h5, h6, h7⟩ | ⟨I', J', K', k', q', w', h1, h2, h3, h4, h5, h6⟩
      · left
        obtain ⟨f, rfl⟩ : ∃ z, f = z + 1 := ⟨f - 1, by omega⟩
        rw [h1, h5]
        simp only [Option.bind_some]
        rw [if_neg (show ¬ nI e = 0 from nI_ne0 (by omega) (by omega)), LO_R_read_43, if_pos rfl, if_pos (Or.inl rfl)]
        refine ⟨e, kx, I', J', K', by split <;> rfl, h2, h3, h4, rfl, h6, h7⟩
      · rw [h1, h3]
        simp only [Option.bind_some]
        rw [if_pos trivial, nI_1]
        have hk'N : k' ≤ N := h5.1.2.2.2.2.2.2.2.2.1
        rcases ih f g (i + 1) I' J' K' k' q' w' (n + 1) h5 (by omega) (by omega) (by omega) (by omega) with ⟨e, kx, I2, J2, K2, g1, g2, g3, g4, g5, g6, g7⟩ | ⟨I2, J2, K2, k2, q2, w2, n2, g1, g2, g3, g4, g5⟩
        · exact Or.inl ⟨e, kx, I2, J2, K2, g1, g2, h2.tr g3, g4, g5, g6, h4.tr g7⟩
        · exact Or.inr ⟨I2, J2, K2, k2, q2, w2, n2, g1, h2.tr g2, g3, h4.tr g4, g5⟩
end
