/-! the law, on the pure machine -/
theorem law_pure {fu L : Nat} {xs : Nat → Int32} (hfu : 100000 ≤ fu) (hL : L ≤ 3072) : Wp (Ev 200) cd_L_law (mcs m_L_law) (some .boolean) 0 0 (fun r _ => r = some (.int 1)) 0 [(0, .float 0)] [] (h00 L xs) := by
  obtain ⟨I, e, r⟩ := st_RL (fu := fu) (by omega)
  have hf : mcs m_L_law = (0, 0) ∨ (349 = 0 + (mcs m_L_law).1 ∧ 19117 = 0 + (mcs m_L_law).2) := by
    first | exact Or.inl rfl | exact Or.inr ⟨rfl, rfl⟩
  exact law_start e (law_loop (all_ops hfu) (X := (L, xs)) hL hf 512 0 I (fun _ _ => 0) (by show L ≤ 0 + 6 * 512; omega) (by omega) r)
