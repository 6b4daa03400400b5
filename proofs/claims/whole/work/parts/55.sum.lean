/-! products and sums -/
theorem stl_pop : ∀ (n : Nat) (J : TI), stl (n + 1) J = pop (stl n J) := by
  intro n
  induction n with
  | zero => intro J; rfl
  | succ n ih => intro J; rw [stl, ih, stl]
theorem ex_open (J : TI) : ∀ m, ∃ v, OpN J m v := by
  intro m
  induction m with
  | zero => exact ⟨-1, Or.inl ⟨rfl, fun i hi => by omega⟩⟩
  | succ m ih =>
    by_cases c : J 336 m < 40
    · obtain ⟨v, hv⟩ := ih
      exact ⟨v, hv.up (Nat.le_succ m) (fun _ _ => rfl) (fun i h1 h2 => by
        have : i = m := by omega
        subst this; exact c)⟩
    · exact ⟨J 336 m, Or.inr ⟨m, by omega, rfl, Int32.not_lt.mp c, fun i h1 h2 => by omega⟩⟩
theorem na_top {fu m : Nat} {J : TI} (hfu : 2000 ≤ fu) (h16 : J 331 16 = nI (m + 1)) (hm : m < 160) (h4 : 4 ≤ rk (J 336 m)) : NAsk fu J := by
  intro K
  obtain ⟨v, hv⟩ := ex_open J (m + 1)
  have r7 := rk_7 (J 336 m)
  unfold FO_M_isAskAhead
  rw [m_open hfu h16 (by omega) hv]
  simp only [Option.bind_some]
  by_cases c : v = 42
  · rw [if_pos c, h16, nI_pred, if_pos (show (0 : Int32) ≤ nI m ∧ nI m < 160 from ib (n := 160) rfl hm (by omega)), nI_clamp (show m < 2 ^ 31 by omega), if_neg (Int32.not_le.mpr (rk_pos (by omega))), if_pos (show (0 : Int32) ≤ nI m ∧ nI m < 160 from ib (n := 160) rfl hm (by omega)), m_rank]
    simp only [Option.bind_some]
    rw [if_neg (show ¬ ((1 : Int32) ≤ nI (rk (J 336 m)) ∧ nI (rk (J 336 m)) ≤ 3) from fun z => nI_ge (a := 3) (by omega) (by omega) z.2)]
  · rw [if_neg c]
theorem na_open {fu m : Nat} {J : TI} {v : Int32} (hfu : 2000 ≤ fu) (h16 : J 331 16 = nI m) (hm : m ≤ 160) (hv : OpN J m v) (h42 : ¬ v = 42) : NAsk fu J := by
  intro K
  unfold FO_M_isAskAhead
  rw [m_open hfu h16 hm hv]
  simp only [Option.bind_some]
  rw [if_neg h42]
theorem nc0 {J : TI} {m : Nat} : ∀ n, (∀ i, i < n → 4 ≤ rk (J 336 (m + i)) ∧ rk (J 336 (m + i)) ≤ 6) → nc J m n = 0 := by
  intro n
  induction n with
  | zero => intro _; rfl
  | succ n ih =>
    intro h
    have hn := h n (by omega)
    rw [nc, ih (fun i hi => h i (by omega))]
    unfold is7
    rw [if_neg]
    intro z
    rcases z with z | z
    · omega
    · rw [z] at hn
      exact absurd hn.1 (by decide)
section
variable {kd vl sp tp : Nat → Int32} {en : Nat → Nat} {len N fu t0 so nn : Nat}
theorem one_val {F : Int32 → TI → TL → Option (Int32 × TI × TL)} {op : Nat} (h : OneOK kd vl sp tp en len N fu t0 so nn F op) : ValOK kd vl sp tp en len N fu t0 so nn (fun _ => True) 7 12 F op := by
  intro I L J K k q w m he hna htop
  have hmb : m ≤ 16 * op + 12 ∧ op ≤ 8 := ⟨he.2.2.2.2.2.1, he.2.2.2.2.2.2⟩
  rcases h I L J K k q w m he hna with r | r
  · exact Or.inl r
  · right
    obtain ⟨I', J', K', c, k', q', w', wh, h1, h2, h3, h4, h5, h6, h7, h8, h9, h10, h11⟩ := r
    have ep := e_plain (fu := fu) h7 (by omega) (by
      rcases htop with z | z
      · exact Or.inl z
      · by_cases c0 : m = 0
        · exact Or.inl c0
        · right; rw [h10 (m - 1) (by omega)]; exact z)
    refine ⟨I', sI J' 331 18 1, K', c, k', q', w', 0, h1, ⟨h2, h3, h4, by omega, fun f => ?_, h7.st (fun i a b c d => by simp [sI_ap, d]) (sJ_ne (by omega)) (by simp [sI_ap, h7.2.2.1]) (by simp [sI_ap, h7.2.2.2.1]) (by simp [sI_ap, h7.2.2.2.2.1]) (by simp [sI_ap]; rfl), h8.tr ⟨fun o a b c => sJ_ne a, fun i a b c d e f g h => by simp [sI_ap, h]⟩, fun x hx => by rw [sJ_ne (by omega)]; exact h9 x hx, fun i hi => by rw [sJ_ne (by omega)]; exact h10 i hi, fun i hi => by omega, ?_⟩, trivial⟩
    · rw [h6]
      unfold EO
      rw [ep]
      rfl
    · have e : ∀ x, stl 0 (sI J' 331 18 1) 334 (t0 + 73 + x) = J' 334 (t0 + 73 + x) := fun x => by
        show sI J' 331 18 1 334 (t0 + 73 + x) = _
        rw [sJ_ne (by omega)]
      exact h11.cg (fun _ _ _ => ⟨rfl, rfl⟩) (fun x _ _ => e x) (by omega)
end
