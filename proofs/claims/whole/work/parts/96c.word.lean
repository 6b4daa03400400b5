/-! the shortest doubt: a rest goes on by a word, model -/
theorem mg {fu f n k x p q : Nat} {x1 : Int32} {D : Nat → Nat} {J : TI} {K : TL} {k116 k124 : Int32 → Int32 → TI → TL → Option (Int32 × TI × TL)} (hfu : 2000 ≤ fu) (hn : n ≤ 5) (hk : k < n) (e5 : J 332 5 = nI n) (p1 : 1 ≤ p) (p2 : p ≤ 22222) (ep : J 332 (66 + k) = nI p) (vq : Vd 8 p = some q) (hq : 2 ≤ q ∧ q < 64) (hx : 2 ≤ x ∧ x < 64) (h : DI D (J 346)) (hD : D x < 1000000) : ∃ J', LO_M_doubt_132 fu k116 k124 (f + 1) x1 (nI x) (nI k) J K = LO_M_doubt_132 fu k116 k124 f (x1 ||| wfl D x q) (nI x) (nI (k + 1)) J' K ∧ DI (wst D x q) (J' 346) ∧ (∀ o, o ≠ 346 → J' o = J o) := by
  have b64 : (0 : Int32) ≤ nI x ∧ nI x < 64 := ib (n := 64) rfl (by omega) (by omega)
  obtain ⟨ex, hx9⟩ := h x hx.2
  have X : ∀ (r3 r5 : Int32), FO_M_restOf fu (nI x) (nI q) J K = some (r3, J, K) → FO_M_restOf fu (nI q) (nI x) J K = some (r5, J, K) → LO_M_doubt_132 fu k116 k124 (f + 1) x1 (nI x) (nI k) J K = (if r3 = (-1) then (if r5 = (-1) then (LO_M_doubt_132 fu k116 k124 f x1 (nI x) (nI (k + 1)) J K) else ((FO_M_lengthOf fu r5 J K).bind (fun u7 => let r7 := u7.1; let I7 := u7.2.1; let L7 := u7.2.2; (FO_M_isFewer fu r5 (nI (D x) + r7) I7 L7).bind (fun u8 => let r8 := u8.1; let I8 := u8.2.1; let L8 := u8.2.2; LO_M_doubt_132 fu k116 k124 f (x1 ||| r8) (nI x) (nI (k + 1)) I8 L8)))) else ((FO_M_isFewer fu r3 (nI (D x)) J K).bind (fun u10 => let r10 := u10.1; let I10 := u10.2.1; let L10 := u10.2.2; LO_M_doubt_132 fu k116 k124 f (x1 ||| r10) (nI x) (nI (k + 1)) I10 L10))) := by
    intro r3 r5 h1 h2
    rw [LO_M_doubt_132, e5, if_neg (show ¬ nI n ≤ nI k from nI_ge (by omega) (by omega)), if_pos b64, nI_clamp (show x < 2 ^ 31 by omega), ex, if_neg (show ¬ (1000000 : Int32) ≤ nI (D x) from nI_ge (b := 1000000) (by omega) (by omega)), m_word hfu (by omega) p1 p2 ep vq]
    simp only [Option.bind_some]
    rw [h1]
    simp only [Option.bind_some]
    rw [m_word hfu (by omega) p1 p2 ep vq]
    simp only [Option.bind_some]
    rw [h2]
    simp only [Option.bind_some]
    rw [if_pos b64, if_pos b64, ex, show nI k + 1 = nI (k + 1) from nI_1 ..]
  unfold wst wfl
  cases r1 : rst x q with
  | none =>
    cases r2 : rst q x with
    | none =>
      refine ⟨J, ?_, h, fun _ _ => rfl⟩
      rw [X (-1) (-1) (by rw [m_rest (by omega) (by omega) (by omega), r1]) (by rw [m_rest (by omega) (by omega) (by omega), r2]), if_pos rfl, if_pos rfl]
      show _ = LO_M_doubt_132 fu k116 k124 f (x1 ||| 0) (nI x) (nI (k + 1)) J K
      rw [or0]
    | some k' =>
      obtain ⟨a1, a2, a3, a4⟩ := rst_k hq.2 hx.2 r2
      obtain ⟨J2, g1, g2, g3⟩ := m_low (fu := fu) (k := k') (v := D x + lg k') (K := K) a2 (by have := lg_8 k'; omega) h
      refine ⟨J2, ?_, g2, g3⟩
      rw [X (-1) (nI k') (by rw [m_rest (by omega) (by omega) (by omega), r1]) (by rw [m_rest (by omega) (by omega) (by omega), r2]), if_pos rfl, if_neg (show ¬ nI k' = -1 from nI_nm (by omega)), m_len (by omega) (by omega)]
      simp only [Option.bind_some]
      rw [nI_add, g1]
      rfl
  | some k' =>
    obtain ⟨a1, a2, a3, a4⟩ := rst_k hx.2 hq.2 r1
    obtain ⟨J2, g1, g2, g3⟩ := m_low (fu := fu) (k := k') (v := D x) (K := K) a2 (by omega) h
    have X2 : ∃ r5, FO_M_restOf fu (nI q) (nI x) J K = some (r5, J, K) := ⟨_, m_rest (by omega) (by omega) (by omega)⟩
    obtain ⟨r5, h5⟩ := X2
    refine ⟨J2, ?_, g2, g3⟩
    rw [X (nI k') r5 (by rw [m_rest (by omega) (by omega) (by omega), r1]) h5, if_neg (show ¬ nI k' = -1 from nI_nm (by omega)), g1]
    rfl
