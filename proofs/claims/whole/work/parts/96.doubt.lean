/-! the shortest doubt: rests, and a row that is lowered -/
theorem rs_t : ∀ a, a < 64 → ∀ b, b < 64 → (match rst a b with | some k => decide (1 ≤ k ∧ k < 64 ∧ lg k = lg a - lg b ∧ lg b ≤ lg a) | none => true) = true := by decide +kernel
theorem rst_k {a b k : Nat} (ha : a < 64) (hb : b < 64) (h : rst a b = some k) : 1 ≤ k ∧ k < 64 ∧ lg k = lg a - lg b ∧ lg b ≤ lg a := by
  have := rs_t a ha b hb
  rw [h] at this
  exact of_decide_eq_true this
/-- two rests, one of the other: the two are one, and nothing is left -/
theorem rs_2 : ∀ a, a < 64 → ∀ b, b < 64 → (match rst a b, rst b a with | some k, some k' => decide (a = b ∧ k = 1 ∧ k' = 1) | _, _ => true) = true := by decide +kernel
theorem rst_2 {a b k k' : Nat} (ha : a < 64) (hb : b < 64) (h : rst a b = some k) (h' : rst b a = some k') : a = b ∧ k = 1 ∧ k' = 1 := by
  have := rs_2 a ha b hb
  rw [h, h'] at this
  exact of_decide_eq_true this
/-- a row, lowered at one place -/
def lwr (D : Nat → Nat) (k v : Nat) : Nat → Nat := fun t => if t = k ∧ v < D k then v else D t
def DI (D : Nat → Nat) (w : Nat → Int32) : Prop := ∀ t, t < 64 → w t = nI (D t) ∧ D t ≤ 1000000
theorem lwr_le {D : Nat → Nat} {k v t : Nat} : lwr D k v t ≤ D t := by
  unfold lwr
  by_cases c : t = k ∧ v < D k
  · rw [if_pos c, c.1]; omega
  · rw [if_neg c]; exact Nat.le_refl _
theorem lwr_no {D : Nat → Nat} {k v : Nat} (h : ¬ v < D k) : lwr D k v = D := by
  funext t
  unfold lwr
  rw [if_neg (fun z => h z.2)]
theorem DI.lw {D : Nat → Nat} {k v : Nat} {w : Nat → Int32} (h : DI D w) (hk : k < 64) (hv : v < D k) : DI (lwr D k v) (upd w k (nI v)) := by
  intro t ht
  have := h t ht
  have := h k hk
  unfold lwr
  by_cases e : t = k
  · subst e
    rw [pk_us, if_pos ⟨rfl, hv⟩]
    exact ⟨rfl, by omega⟩
  · rw [pk_un e, if_neg (fun z => e z.1)]
    exact h t ht
theorem x_low {fu k v : Nat} {D : Nat → Nat} {I : TI} {L : TL} (hk : 1 ≤ k ∧ k < 64) (hv : v ≤ 2000000) (h : DI D (I 326)) : ∃ I', FO_C_lower fu (nI k) (nI v) I L = some (if v < D k then 1 else 0, I', L) ∧ DI (lwr D k v) (I' 326) ∧ (∀ o, o ≠ 326 → I' o = I o) := by
  have b64 : (0 : Int32) ≤ nI k ∧ nI k < 64 := ib (n := 64) rfl (by omega) (by omega)
  obtain ⟨e1, e2⟩ := h k hk.2
  unfold FO_C_lower
  rw [if_pos (show (1 : Int32) ≤ nI k ∧ nI k ≤ 63 from ⟨nI_le (a := 1) (by omega) (by omega), nI_le (b := 63) (by omega) (by omega)⟩), if_pos b64, if_pos b64, nI_clamp (show k < 2 ^ 31 by omega), e1]
  by_cases c : v < D k
  · rw [if_pos (nI_lt c (by omega)), if_pos c]
    refine ⟨_, rfl, ?_, fun o ho => sJ_ne ho⟩
    rw [sJ_at]
    exact h.lw hk.2 c
  · rw [if_neg (nI_nlt (by omega) (by omega)), if_neg c]
    refine ⟨I, rfl, ?_, fun _ _ => rfl⟩
    rw [lwr_no c]; exact h
theorem x_low0 {fu : Nat} {v : Int32} {I : TI} {L : TL} : FO_C_lower fu 0 v I L = some (0, I, L) := by
  unfold FO_C_lower
  rw [if_neg (by decide)]
theorem m_low {fu k v : Nat} {D : Nat → Nat} {J : TI} {K : TL} (hk : k < 64) (hv : v ≤ 2000000) (h : DI D (J 346)) : ∃ J', FO_M_isFewer fu (nI k) (nI v) J K = some (if v < D k then 1 else 0, J', K) ∧ DI (lwr D k v) (J' 346) ∧ (∀ o, o ≠ 346 → J' o = J o) := by
  have b64 : (0 : Int32) ≤ nI k ∧ nI k < 64 := ib (n := 64) rfl (by omega) (by omega)
  obtain ⟨e1, e2⟩ := h k hk
  unfold FO_M_isFewer
  rw [if_pos b64, if_pos b64, nI_clamp (show k < 2 ^ 31 by omega), e1]
  by_cases c : v < D k
  · rw [if_pos (nI_lt c (by omega)), if_pos c]
    refine ⟨_, rfl, ?_, fun o ho => sJ_ne ho⟩
    rw [sJ_at]
    exact h.lw hk c
  · rw [if_neg (nI_nlt (by omega) (by omega)), if_neg c]
    refine ⟨J, rfl, ?_, fun _ _ => rfl⟩
    rw [lwr_no c]; exact h
