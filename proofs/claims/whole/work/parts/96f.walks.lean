/-! the shortest doubt: a row is done after 63 rounds -/
def Eg (qs : Nat → Nat) (n s t w : Nat) : Prop := (2 ≤ s ∧ s < 64) ∧ t < 64 ∧ ∃ k, k < n ∧ ((rst s (qs k) = some t ∧ w = 0) ∨ (rst s (qs k) = none ∧ rst (qs k) s = some t ∧ w = lg t))
/-- walks of m edges, and what they come to -/
def Wk (E : Nat → Nat → Nat → Prop) (D : Nat → Nat) : Nat → Nat → Nat → Prop
  | 0, t, v => t < 64 ∧ v = D t
  | m + 1, t, v => ∃ s u w, Wk E D m s u ∧ E s t w ∧ v = u + w
def Mn (E : Nat → Nat → Nat → Prop) (D : Nat → Nat) (m t v : Nat) : Prop := Wk E D m t v ∧ ∀ m' v', m' < m → v' ≤ v → ¬ Wk E D m' t v'
theorem Mn.ex {E : Nat → Nat → Nat → Prop} {D : Nat → Nat} {t : Nat} : ∀ m v, Wk E D m t v → ∃ m' v', v' ≤ v ∧ Mn E D m' t v' := by
  intro m
  induction m using Nat.strongRecOn with
  | _ m ih =>
    intro v h
    by_cases c : ∃ m' v', m' < m ∧ v' ≤ v ∧ Wk E D m' t v'
    · obtain ⟨m', v', h1, h2, h3⟩ := c
      obtain ⟨m2, v2, h4, h5⟩ := ih m' h1 v' h3
      exact ⟨m2, v2, by omega, h5⟩
    · exact ⟨m, v, Nat.le_refl _, h, fun m' v' h1 h2 h3 => c ⟨m', v', h1, h2, h3⟩⟩
theorem Mn.ch {E : Nat → Nat → Nat → Prop} {D : Nat → Nat} (hE : ∀ s t w, E s t w → t < 64) : ∀ m t v, Mn E D m t v → ∃ f g : Nat → Nat, g m = v ∧ (∀ i, i ≤ m → f i < 64 ∧ Mn E D i (f i) (g i)) ∧ (∀ i j, i ≤ j → j ≤ m → g i ≤ g j) := by
  intro m
  induction m with
  | zero =>
    intro t v h
    refine ⟨fun _ => t, fun _ => v, rfl, fun i hi => ?_, fun _ _ _ _ => Nat.le_refl _⟩
    have : i = 0 := by omega
    subst this
    exact ⟨h.1.1, h⟩
  | succ m ih =>
    intro t v h
    obtain ⟨s, u, w, h1, h2, h3⟩ := h.1
    have hm : Mn E D m s u := ⟨h1, fun m' v' a b c => h.2 (m' + 1) (v' + w) (by omega) (by omega) ⟨s, v', w, c, h2, rfl⟩⟩
    obtain ⟨f, g, e, a, b⟩ := ih s u hm
    refine ⟨fun i => if i = m + 1 then t else f i, fun i => if i = m + 1 then v else g i, if_pos rfl, fun i hi => ?_, fun i j hij hj => ?_⟩
    · by_cases c : i = m + 1
      · subst c
        show (if m + 1 = m + 1 then t else f (m + 1)) < 64 ∧ Mn E D (m + 1) (if m + 1 = m + 1 then t else f (m + 1)) (if m + 1 = m + 1 then v else g (m + 1))
        rw [if_pos rfl, if_pos rfl]
        exact ⟨hE _ _ _ h2, h⟩
      · show (if i = m + 1 then t else f i) < 64 ∧ Mn E D i (if i = m + 1 then t else f i) (if i = m + 1 then v else g i)
        rw [if_neg c, if_neg c]
        exact a i (by omega)
    · show (if i = m + 1 then v else g i) ≤ (if j = m + 1 then v else g j)
      by_cases c : j = m + 1
      · rw [if_pos c]
        by_cases d : i = m + 1
        · rw [if_pos d]; exact Nat.le_refl _
        · rw [if_neg d]
          have := b i m (by omega) (Nat.le_refl _)
          omega
      · rw [if_neg c, if_neg (show ¬ i = m + 1 by omega)]
        exact b i j hij (by omega)
theorem Mn.le63 {E : Nat → Nat → Nat → Prop} {D : Nat → Nat} {m t v : Nat} (hE : ∀ s t w, E s t w → t < 64) (h : Mn E D m t v) : m ≤ 63 := by
  by_cases c : m ≤ 63
  · exact c
  · exfalso
    obtain ⟨f, g, _, a, b⟩ := Mn.ch hE m t v h
    obtain ⟨i, j, h1, h2, h3⟩ := pig 64 f (fun i hi => (a i (by omega)).1)
    have x1 := (a i (by omega)).2
    have x2 := (a j (by omega)).2
    rw [h3] at x1
    exact x2.2 i (g i) h1 (b i j (by omega) (by omega)) x1.1
/-- rows that go on by edges are done after 63 of them -/
theorem rows63 {E : Nat → Nat → Nat → Prop} {V : Nat → Nat → Nat} (hE : ∀ s t w, E s t w → t < 64) (dn : ∀ k t, V (k + 1) t ≤ V k t) (ed : ∀ k s t w, E s t w → V (k + 1) t ≤ V k s + w) (wk : ∀ k t, t < 64 → ∃ m, Wk E (V 0) m t (V k t)) (t : Nat) (ht : t < 64) : V 63 t ≤ V 64 t := by
  have le : ∀ k j t, V (k + j) t ≤ V k t := by
    intro k j t
    induction j with
    | zero => exact Nat.le_refl _
    | succ j ih => exact Nat.le_trans (dn (k + j) t) ih
  have lo : ∀ m t v, Wk E (V 0) m t v → V m t ≤ v := by
    intro m
    induction m with
    | zero => intro t v h; rw [h.2]; exact Nat.le_refl _
    | succ m ih =>
      intro t v h
      obtain ⟨s, u, w, h1, h2, h3⟩ := h
      have := ed m s t w h2
      have := ih s u h1
      omega
  obtain ⟨m, hm⟩ := wk 64 t ht
  obtain ⟨m', v', h1, h2⟩ := Mn.ex m _ hm
  have h3 := h2.le63 hE
  have h4 := lo m' t v' h2.1
  have h5 := le m' (63 - m') t
  rw [show m' + (63 - m') = 63 by omega] at h5
  omega
/-! and so do the rounds -/
theorem lwr_at {D : Nat → Nat} {k v : Nat} : lwr D k v k ≤ v := by
  unfold lwr
  by_cases c : v < D k
  · rw [if_pos ⟨rfl, c⟩]; exact Nat.le_refl _
  · rw [if_neg (fun z => c z.2)]; omega
theorem wst_e {D : Nat → Nat} {s t w q : Nat} (h : (rst s q = some t ∧ w = 0) ∨ (rst s q = none ∧ rst q s = some t ∧ w = lg t)) : wst D s q t ≤ D s + w := by
  unfold wst
  rcases h with ⟨h1, h2⟩ | ⟨h1, h2, h3⟩
  · rw [h1, h2]; exact lwr_at
  · rw [h1, h2, h3]; exact lwr_at
theorem wfo_le {qs : Nat → Nat} {x t : Nat} : ∀ j k D, wfo qs x j k D t ≤ D t := by
  intro j
  induction j with
  | zero => intro k D; exact Nat.le_refl _
  | succ j ih => intro k D; exact Nat.le_trans (ih (k + 1) (wst D x (qs k))) wst_le
theorem wfo_e {qs : Nat → Nat} {n s t w i : Nat} (hw : ∀ k, k < n → 2 ≤ qs k ∧ qs k < 64) (hs : 2 ≤ s ∧ s < 64) (hi : i < n) (h : (rst s (qs i) = some t ∧ w = 0) ∨ (rst s (qs i) = none ∧ rst (qs i) s = some t ∧ w = lg t)) : ∀ j k D, k + j = n → k ≤ i → wfo qs s j k D t ≤ D s + w := by
  intro j
  induction j with
  | zero => intro k D a b; omega
  | succ j ih =>
    intro k D a b
    by_cases c : k = i
    · subst c
      exact Nat.le_trans (wfo_le j (k + 1) _) (wst_e h)
    · have := ih (k + 1) (wst D s (qs k)) (by omega) (by omega)
      rw [wst_x (hw k (by omega)) hs] at this
      exact this
theorem rnd_le {qs : Nat → Nat} {n t : Nat} : ∀ j x D, rndD qs n j x D t ≤ D t := by
  intro j
  induction j with
  | zero => intro x D; exact Nat.le_refl _
  | succ j ih =>
    intro x D
    refine Nat.le_trans (ih (x + 1) _) ?_
    by_cases c : D x < 1000000
    · rw [if_pos c]; exact wfo_le _ _ _
    · rw [if_neg c]; exact Nat.le_refl _
theorem rnd_e {qs : Nat → Nat} {n s t w : Nat} (hw : ∀ k, k < n → 2 ≤ qs k ∧ qs k < 64) (h : Eg qs n s t w) : ∀ j x D, x ≤ s → s < x + j → D t ≤ 1000000 → rndD qs n j x D t ≤ D s + w := by
  obtain ⟨hs, ht, i, hi, he⟩ := h
  intro j
  induction j with
  | zero => intro x D a b; omega
  | succ j ih =>
    intro x D a b hD
    show rndD qs n j (x + 1) (if D x < 1000000 then wfo qs x n 0 D else D) t ≤ D s + w
    by_cases c : x = s
    · subst c
      refine Nat.le_trans (rnd_le _ _ _) ?_
      by_cases c : D x < 1000000
      · rw [if_pos c]; exact wfo_e hw hs hi he n 0 D (by omega) (by omega)
      · rw [if_neg c]; omega
    · have := ih (x + 1) (if D x < 1000000 then wfo qs x n 0 D else D) (by omega) (by omega)
      by_cases c : D x < 1000000
      · rw [if_pos c] at this ⊢
        have y1 := wfo_le (qs := qs) (x := x) (t := s) n 0 D
        have y2 := wfo_le (qs := qs) (x := x) (t := t) n 0 D
        have := this (by omega)
        omega
      · rw [if_neg c] at this ⊢
        exact this hD
theorem wst_q {Q : Nat → Nat → Prop} {D : Nat → Nat} {qs : Nat → Nat} {n x k : Nat} (cl : ∀ s t u w, Eg qs n s t w → Q s u → Q t (u + w)) (hw : ∀ k, k < n → 2 ≤ qs k ∧ qs k < 64) (hx : 2 ≤ x ∧ x < 64) (hk : k < n) (h : ∀ t, t < 64 → Q t (D t)) : ∀ t, t < 64 → Q t (wst D x (qs k) t) := by
  intro t ht
  have low : ∀ k' v, Q k' v → Q t (lwr D k' v t) := by
    intro k' v hv
    unfold lwr
    by_cases c : t = k' ∧ v < D k'
    · rw [if_pos c, c.1]; exact hv
    · rw [if_neg c]; exact h t ht
  unfold wst
  cases r1 : rst x (qs k) with
  | none =>
    cases r2 : rst (qs k) x with
    | none => exact h t ht
    | some k' =>
      exact low k' _ (cl x k' (D x) (lg k') ⟨hx, (rst_k (hw k hk).2 hx.2 r2).2.1, k, hk, Or.inr ⟨r1, r2, rfl⟩⟩ (h x hx.2))
  | some k' =>
    exact low k' _ (cl x k' (D x) 0 ⟨hx, (rst_k hx.2 (hw k hk).2 r1).2.1, k, hk, Or.inl ⟨r1, rfl⟩⟩ (h x hx.2))
theorem wfo_q {Q : Nat → Nat → Prop} {qs : Nat → Nat} {n x : Nat} (cl : ∀ s t u w, Eg qs n s t w → Q s u → Q t (u + w)) (hw : ∀ k, k < n → 2 ≤ qs k ∧ qs k < 64) (hx : 2 ≤ x ∧ x < 64) : ∀ j k D, k + j = n → (∀ t, t < 64 → Q t (D t)) → ∀ t, t < 64 → Q t (wfo qs x j k D t) := by
  intro j
  induction j with
  | zero => intro k D _ h; exact h
  | succ j ih => intro k D a h; exact ih (k + 1) _ (by omega) (wst_q cl hw hx (by omega) h)
theorem rnd_q {Q : Nat → Nat → Prop} {qs : Nat → Nat} {n : Nat} (cl : ∀ s t u w, Eg qs n s t w → Q s u → Q t (u + w)) (hw : ∀ k, k < n → 2 ≤ qs k ∧ qs k < 64) : ∀ j x D, 2 ≤ x → x + j = 64 → (∀ t, t < 64 → Q t (D t)) → ∀ t, t < 64 → Q t (rndD qs n j x D t) := by
  intro j
  induction j with
  | zero => intro x D _ _ h; exact h
  | succ j ih =>
    intro x D a b h
    refine ih (x + 1) _ (by omega) (by omega) ?_
    by_cases c : D x < 1000000
    · rw [if_pos c]; exact wfo_q cl hw ⟨a, by omega⟩ n 0 D (by omega) h
    · rw [if_neg c]; exact h
def Vr (qs : Nat → Nat) (n : Nat) (D : Nat → Nat) : Nat → Nat → Nat
  | 0 => D
  | k + 1 => rndD qs n 62 2 (Vr qs n D k)
theorem Vr_63 {qs : Nat → Nat} {n : Nat} {D : Nat → Nat} (hw : ∀ k, k < n → 2 ≤ qs k ∧ qs k < 64) (hD : ∀ t, t < 64 → D t ≤ 1000000) : ∀ t, t < 64 → Vr qs n D 63 t ≤ Vr qs n D 64 t := by
  have le : ∀ k t, t < 64 → Vr qs n D k t ≤ 1000000 := by
    intro k
    induction k with
    | zero => exact hD
    | succ k ih => intro t ht; exact Nat.le_trans (rnd_le _ _ _) (ih t ht)
  refine rows63 (E := Eg qs n) (fun s t w h => h.2.1) (fun k t => rnd_le _ _ _) (fun k s t w h => ?_) (fun k => ?_)
  · have h1 := h.1
    exact rnd_e hw h 62 2 _ h1.1 (by omega) (le k t h.2.1)
  · induction k with
    | zero => intro t ht; exact ⟨0, ht, rfl⟩
    | succ k ih =>
      exact rnd_q (Q := fun t v => ∃ m, Wk (Eg qs n) (Vr qs n D 0) m t v) (fun s t u w h ⟨m, hm⟩ => ⟨m + 1, s, u, w, hm, h, rfl⟩) hw 62 2 _ (by omega) (by omega) ih
