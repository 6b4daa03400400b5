/-! WHAT THE TWO HAVE IN COMMON: the class's cells (A: those of a state) and the model's row c -/
abbrev TI : Type := Nat → Nat → Int32
abbrev TL : Type := Nat → Nat → Int64
def bd (x : Int32) (m : Nat) : Prop := ∃ n : Nat, n ≤ m ∧ x = nI n
/-- a set of stairs -/
def ss (x : Int32) : Prop := ∃ m : Nat, m ≤ 4095 ∧ x = nI (2 * m)
def HB (b : Nat) (A : TI) : Prop :=
  bd (A b 0) 9999 ∧ bd (A b 1) 30762 ∧ bd (A b 2) 9 ∧ True ∧ bd (A b 4) 30 ∧ (∀ k, k < 6 → bd (A (b + 1) k) 12 ∧ bd (A (b + 2) k) 9999) ∧
  (∀ k, k < 30 → bd (A (b + 3) (3 * k)) 9999 ∧ bd (A (b + 3) (3 * k + 1)) 12 ∧ bd (A (b + 3) (3 * k + 2)) 99)
def HR (b x y : Nat) (A : TI) (c : Nat → Int32) : Prop :=
  (∀ i, i < 5 → c (x + i) = A b i) ∧ (∀ k, k < 6 → c (x + 5 + 2 * k) = A (b + 1) k ∧ c (x + 6 + 2 * k) = A (b + 2) k) ∧
  (∀ k, k < 30 → c (y + k) = (A (b + 3) (3 * k) * 13 + A (b + 3) (3 * k + 1)) * 100 + A (b + 3) (3 * k + 2))
/-- a house of the class beside the row of the model -/
def HX (b x y : Nat) (A : TI) (c : Nat → Int32) : Prop := HB b A ∧ HR b x y A c
/-- the key of a number of digits 1 and 2: a one, then a bit a digit -/
def Vd : Nat → Nat → Option Nat
  | 0, p => if p = 0 then some 1 else none
  | n + 1, p => if p = 0 then some 1 else if p % 10 = 1 ∨ p % 10 = 2 then (Vd n (p / 10)).map (fun k => 2 * k + (p % 10 - 1)) else none
def WK (w key : Int32) : Prop := ∃ p k : Nat, 1 ≤ p ∧ p ≤ 22222 ∧ w = nI p ∧ key = nI k ∧ Vd 8 p = some k
def SR (A : TI) (c : Nat → Int32) : Prop :=
  (c 0 = A 0 2 ∧ bd (A 0 2) 6) ∧
  (c 1 = A 0 6 ∧ bd (A 0 6) 4) ∧
  (c 2 = A 0 7 ∧ -1 ≤ A 0 7 ∧ A 0 7 < A 0 6) ∧
  (c 3 = A 5 2 ∧ bd (A 5 2) 30 ∧ bd (A 5 1) 29) ∧
  (c 4 = A 0 11 ∧ bd (A 0 11) 6) ∧
  (c 5 = A 0 13 ∧ bd (A 0 13) 5) ∧
  (c 6 = A 0 16 ∧ bd (A 0 16) 8) ∧
  (HX 1 7 1511 A c) ∧
  (∀ k, k < 6 → c (24 + k) = A 127 k ∧ bd (A 127 k) 9) ∧
  (∀ k, k < 6 → c (30 + k) = A 128 k ∧ bd (A 128 k) 12) ∧
  (∀ k, k < 6 → c (36 + k) = A 129 k ∧ ss (A 129 k)) ∧
  (∀ k, k < 9 → c (42 + k) = A 130 k ∧ bd (A 130 k) 9) ∧
  (∀ k, k < 9 → c (51 + k) = A 131 k ∧ bd (A 131 k) 9) ∧
  (∀ k, k < 6 → c (60 + k) = A 132 k ∧ bd (A 132 k) 2) ∧
  (∀ k, k < 5 → nI k < A 0 13 → WK (c (66 + k)) (A 133 k)) ∧
  (∀ k, k < 6 → c (71 + k) = A 134 k ∧ 1 ≤ A 134 k ∧ bd (A 134 k) 99) ∧
  (∀ k, k < 8 → nI k < A 0 16 → (c (77 + 3 * k) = A 135 (3 * k) ∧ c (78 + 3 * k) = A 135 (3 * k + 1) ∧ c (79 + 3 * k) = A 135 (3 * k + 2)) ∧ 0 ≤ A 135 (3 * k) ∧ A 135 (3 * k) < A 0 2 ∧ 1 ≤ A 135 (3 * k + 1) ∧ bd (A 135 (3 * k + 1)) 12 ∧ bd (A 135 (3 * k + 2)) 99) ∧
  (∀ j, j < 30 → nI j < A 5 2 → HX (7 + 4 * (((A 5 1).toNatClampNeg + j) % 30)) (101 + 47 * j) (118 + 47 * j) A c)
theorem SR.n0 {A : TI} {c : Nat → Int32} (h : SR A c) : c 0 = A 0 2 ∧ bd (A 0 2) 6 := h.1
theorem SR.tx {A : TI} {c : Nat → Int32} (h : SR A c) : c 1 = A 0 6 ∧ bd (A 0 6) 4 := h.2.1
theorem SR.ru {A : TI} {c : Nat → Int32} (h : SR A c) : c 2 = A 0 7 ∧ -1 ≤ A 0 7 ∧ A 0 7 < A 0 6 := h.2.2.1
theorem SR.st {A : TI} {c : Nat → Int32} (h : SR A c) : c 3 = A 5 2 ∧ bd (A 5 2) 30 ∧ bd (A 5 1) 29 := h.2.2.2.1
theorem SR.so {A : TI} {c : Nat → Int32} (h : SR A c) : c 4 = A 0 11 ∧ bd (A 0 11) 6 := h.2.2.2.2.1
theorem SR.wo {A : TI} {c : Nat → Int32} (h : SR A c) : c 5 = A 0 13 ∧ bd (A 0 13) 5 := h.2.2.2.2.2.1
theorem SR.sa {A : TI} {c : Nat → Int32} (h : SR A c) : c 6 = A 0 16 ∧ bd (A 0 16) 8 := h.2.2.2.2.2.2.1
theorem SR.ho {A : TI} {c : Nat → Int32} (h : SR A c) : HX 1 7 1511 A c := h.2.2.2.2.2.2.2.1
theorem SR.we {A : TI} {c : Nat → Int32} (h : SR A c) : ∀ k, k < 6 → c (24 + k) = A 127 k ∧ bd (A 127 k) 9 := h.2.2.2.2.2.2.2.2.1
theorem SR.fl {A : TI} {c : Nat → Int32} (h : SR A c) : ∀ k, k < 6 → c (30 + k) = A 128 k ∧ bd (A 128 k) 12 := h.2.2.2.2.2.2.2.2.2.1
theorem SR.pr {A : TI} {c : Nat → Int32} (h : SR A c) : ∀ k, k < 6 → c (36 + k) = A 129 k ∧ ss (A 129 k) := h.2.2.2.2.2.2.2.2.2.2.1
theorem SR.ch {A : TI} {c : Nat → Int32} (h : SR A c) : ∀ k, k < 9 → c (42 + k) = A 130 k ∧ bd (A 130 k) 9 := h.2.2.2.2.2.2.2.2.2.2.2.1
theorem SR.sn {A : TI} {c : Nat → Int32} (h : SR A c) : ∀ k, k < 9 → c (51 + k) = A 131 k ∧ bd (A 131 k) 9 := h.2.2.2.2.2.2.2.2.2.2.2.2.1
theorem SR.li {A : TI} {c : Nat → Int32} (h : SR A c) : ∀ k, k < 6 → c (60 + k) = A 132 k ∧ bd (A 132 k) 2 := h.2.2.2.2.2.2.2.2.2.2.2.2.2.1
theorem SR.wd {A : TI} {c : Nat → Int32} (h : SR A c) : ∀ k, k < 5 → nI k < A 0 13 → WK (c (66 + k)) (A 133 k) := h.2.2.2.2.2.2.2.2.2.2.2.2.2.2.1
theorem SR.he {A : TI} {c : Nat → Int32} (h : SR A c) : ∀ k, k < 6 → c (71 + k) = A 134 k ∧ 1 ≤ A 134 k ∧ bd (A 134 k) 99 := h.2.2.2.2.2.2.2.2.2.2.2.2.2.2.2.1
theorem SR.sd {A : TI} {c : Nat → Int32} (h : SR A c) : ∀ k, k < 8 → nI k < A 0 16 → (c (77 + 3 * k) = A 135 (3 * k) ∧ c (78 + 3 * k) = A 135 (3 * k + 1) ∧ c (79 + 3 * k) = A 135 (3 * k + 2)) ∧ 0 ≤ A 135 (3 * k) ∧ A 135 (3 * k) < A 0 2 ∧ 1 ≤ A 135 (3 * k + 1) ∧ bd (A 135 (3 * k + 1)) 12 ∧ bd (A 135 (3 * k + 2)) 99 := h.2.2.2.2.2.2.2.2.2.2.2.2.2.2.2.2.1
theorem SR.ke {A : TI} {c : Nat → Int32} (h : SR A c) : ∀ j, j < 30 → nI j < A 5 2 → HX (7 + 4 * (((A 5 1).toNatClampNeg + j) % 30)) (101 + 47 * j) (118 + 47 * j) A c := h.2.2.2.2.2.2.2.2.2.2.2.2.2.2.2.2.2
theorem HB.cg {b : Nat} {A B : TI} (e0 : ∀ i, i < 5 → B b i = A b i) (e1 : ∀ k, k < 6 → B (b + 1) k = A (b + 1) k) (e2 : ∀ k, k < 6 → B (b + 2) k = A (b + 2) k) (e3 : ∀ k, k < 90 → B (b + 3) k = A (b + 3) k) (h : HB b A) : HB b B := by
  unfold HB at *
  rw [e0 0 (by omega), e0 1 (by omega), e0 2 (by omega), e0 4 (by omega)]
  refine ⟨h.1, h.2.1, h.2.2.1, h.2.2.2.1, h.2.2.2.2.1, fun k hk => ?_, fun k hk => ?_⟩
  · rw [e1 k hk, e2 k hk]; exact h.2.2.2.2.2.1 k hk
  · rw [e3 _ (by omega), e3 _ (by omega), e3 _ (by omega)]; exact h.2.2.2.2.2.2 k hk
theorem HR.cg {b x y : Nat} {A B : TI} {c d : Nat → Int32} (e0 : ∀ i, i < 5 → B b i = A b i) (e1 : ∀ k, k < 6 → B (b + 1) k = A (b + 1) k) (e2 : ∀ k, k < 6 → B (b + 2) k = A (b + 2) k) (e3 : ∀ k, k < 90 → B (b + 3) k = A (b + 3) k) (ex : ∀ i, i < 17 → d (x + i) = c (x + i)) (ey : ∀ i, i < 30 → d (y + i) = c (y + i)) (h : HR b x y A c) : HR b x y B d := by
  unfold HR at *
  refine ⟨fun i hi => ?_, fun k hk => ?_, fun k hk => ?_⟩
  · rw [e0 i hi, ex i (by omega)]; exact h.1 i hi
  · have a := ex (5 + 2 * k) (by omega)
    have a' := ex (6 + 2 * k) (by omega)
    rw [← Nat.add_assoc] at a a'
    rw [e1 k hk, e2 k hk, a, a']; exact h.2.1 k hk
  · rw [e3 _ (by omega), e3 _ (by omega), e3 _ (by omega), ey k hk]; exact h.2.2 k hk
/-- a house in another place, alike -/
theorem HX.mv {b b' x y x' y' : Nat} {A B : TI} {c d : Nat → Int32} (e0 : ∀ i, i < 5 → B b' i = A b i) (e1 : ∀ k, k < 6 → B (b' + 1) k = A (b + 1) k) (e2 : ∀ k, k < 6 → B (b' + 2) k = A (b + 2) k) (e3 : ∀ k, k < 90 → B (b' + 3) k = A (b + 3) k) (ex : ∀ i, i < 17 → d (x' + i) = c (x + i)) (ey : ∀ i, i < 30 → d (y' + i) = c (y + i)) (h : HX b x y A c) : HX b' x' y' B d := by
  obtain ⟨h, r⟩ := h
  unfold HX HB HR at *
  refine ⟨?_, fun i hi => ?_, fun k hk => ?_, fun k hk => ?_⟩
  · rw [e0 0 (by omega), e0 1 (by omega), e0 2 (by omega), e0 4 (by omega)]
    refine ⟨h.1, h.2.1, h.2.2.1, h.2.2.2.1, h.2.2.2.2.1, fun k hk => ?_, fun k hk => ?_⟩
    · rw [e1 k hk, e2 k hk]; exact h.2.2.2.2.2.1 k hk
    · rw [e3 _ (by omega), e3 _ (by omega), e3 _ (by omega)]; exact h.2.2.2.2.2.2 k hk
  · rw [e0 i hi, ex i (by omega)]; exact r.1 i hi
  · have a := ex (5 + 2 * k) (by omega)
    have a' := ex (6 + 2 * k) (by omega)
    rw [← Nat.add_assoc, ← Nat.add_assoc] at a a'
    rw [e1 k hk, e2 k hk, a, a']; exact r.2.1 k hk
  · rw [e3 _ (by omega), e3 _ (by omega), e3 _ (by omega), ey k hk]; exact r.2.2 k hk
theorem SR.n0_cg {A B : TI} {c d : Nat → Int32} (a0 : B 0 2 = A 0 2) (r : ∀ i, 0 ≤ i → i < 1 → d i = c i) (h : c 0 = A 0 2 ∧ bd (A 0 2) 6) : d 0 = B 0 2 ∧ bd (B 0 2) 6 := by
  rw [a0, r 0 (by omega) (by omega)]
  exact h
theorem SR.tx_cg {A B : TI} {c d : Nat → Int32} (a0 : B 0 6 = A 0 6) (r : ∀ i, 1 ≤ i → i < 2 → d i = c i) (h : c 1 = A 0 6 ∧ bd (A 0 6) 4) : d 1 = B 0 6 ∧ bd (B 0 6) 4 := by
  rw [a0, r 1 (by omega) (by omega)]
  exact h
theorem SR.ru_cg {A B : TI} {c d : Nat → Int32} (a0 : B 0 7 = A 0 7) (a1 : B 0 6 = A 0 6) (r : ∀ i, 2 ≤ i → i < 3 → d i = c i) (h : c 2 = A 0 7 ∧ -1 ≤ A 0 7 ∧ A 0 7 < A 0 6) : d 2 = B 0 7 ∧ -1 ≤ B 0 7 ∧ B 0 7 < B 0 6 := by
  rw [a0, a1, r 2 (by omega) (by omega)]
  exact h
theorem SR.st_cg {A B : TI} {c d : Nat → Int32} (a0 : B 5 2 = A 5 2) (a1 : B 5 1 = A 5 1) (r : ∀ i, 3 ≤ i → i < 4 → d i = c i) (h : c 3 = A 5 2 ∧ bd (A 5 2) 30 ∧ bd (A 5 1) 29) : d 3 = B 5 2 ∧ bd (B 5 2) 30 ∧ bd (B 5 1) 29 := by
  rw [a0, a1, r 3 (by omega) (by omega)]
  exact h
theorem SR.so_cg {A B : TI} {c d : Nat → Int32} (a0 : B 0 11 = A 0 11) (r : ∀ i, 4 ≤ i → i < 5 → d i = c i) (h : c 4 = A 0 11 ∧ bd (A 0 11) 6) : d 4 = B 0 11 ∧ bd (B 0 11) 6 := by
  rw [a0, r 4 (by omega) (by omega)]
  exact h
theorem SR.wo_cg {A B : TI} {c d : Nat → Int32} (a0 : B 0 13 = A 0 13) (r : ∀ i, 5 ≤ i → i < 6 → d i = c i) (h : c 5 = A 0 13 ∧ bd (A 0 13) 5) : d 5 = B 0 13 ∧ bd (B 0 13) 5 := by
  rw [a0, r 5 (by omega) (by omega)]
  exact h
theorem SR.sa_cg {A B : TI} {c d : Nat → Int32} (a0 : B 0 16 = A 0 16) (r : ∀ i, 6 ≤ i → i < 7 → d i = c i) (h : c 6 = A 0 16 ∧ bd (A 0 16) 8) : d 6 = B 0 16 ∧ bd (B 0 16) 8 := by
  rw [a0, r 6 (by omega) (by omega)]
  exact h
theorem SR.we_cg {A B : TI} {c d : Nat → Int32} (a0 : ∀ k, k < 6 → B 127 k = A 127 k) (r : ∀ i, 24 ≤ i → i < 30 → d i = c i) (h : ∀ k, k < 6 → c (24 + k) = A 127 k ∧ bd (A 127 k) 9) : ∀ k, k < 6 → d (24 + k) = B 127 k ∧ bd (B 127 k) 9 := by
  intro k hk
  rw [a0 k hk, r (24 + k) (by omega) (by omega)]
  exact h k hk
theorem SR.fl_cg {A B : TI} {c d : Nat → Int32} (a0 : ∀ k, k < 6 → B 128 k = A 128 k) (r : ∀ i, 30 ≤ i → i < 36 → d i = c i) (h : ∀ k, k < 6 → c (30 + k) = A 128 k ∧ bd (A 128 k) 12) : ∀ k, k < 6 → d (30 + k) = B 128 k ∧ bd (B 128 k) 12 := by
  intro k hk
  rw [a0 k hk, r (30 + k) (by omega) (by omega)]
  exact h k hk
theorem SR.pr_cg {A B : TI} {c d : Nat → Int32} (a0 : ∀ k, k < 6 → B 129 k = A 129 k) (r : ∀ i, 36 ≤ i → i < 42 → d i = c i) (h : ∀ k, k < 6 → c (36 + k) = A 129 k ∧ ss (A 129 k)) : ∀ k, k < 6 → d (36 + k) = B 129 k ∧ ss (B 129 k) := by
  intro k hk
  rw [a0 k hk, r (36 + k) (by omega) (by omega)]
  exact h k hk
theorem SR.ch_cg {A B : TI} {c d : Nat → Int32} (a0 : ∀ k, k < 9 → B 130 k = A 130 k) (r : ∀ i, 42 ≤ i → i < 51 → d i = c i) (h : ∀ k, k < 9 → c (42 + k) = A 130 k ∧ bd (A 130 k) 9) : ∀ k, k < 9 → d (42 + k) = B 130 k ∧ bd (B 130 k) 9 := by
  intro k hk
  rw [a0 k hk, r (42 + k) (by omega) (by omega)]
  exact h k hk
theorem SR.sn_cg {A B : TI} {c d : Nat → Int32} (a0 : ∀ k, k < 9 → B 131 k = A 131 k) (r : ∀ i, 51 ≤ i → i < 60 → d i = c i) (h : ∀ k, k < 9 → c (51 + k) = A 131 k ∧ bd (A 131 k) 9) : ∀ k, k < 9 → d (51 + k) = B 131 k ∧ bd (B 131 k) 9 := by
  intro k hk
  rw [a0 k hk, r (51 + k) (by omega) (by omega)]
  exact h k hk
theorem SR.li_cg {A B : TI} {c d : Nat → Int32} (a0 : ∀ k, k < 6 → B 132 k = A 132 k) (r : ∀ i, 60 ≤ i → i < 66 → d i = c i) (h : ∀ k, k < 6 → c (60 + k) = A 132 k ∧ bd (A 132 k) 2) : ∀ k, k < 6 → d (60 + k) = B 132 k ∧ bd (B 132 k) 2 := by
  intro k hk
  rw [a0 k hk, r (60 + k) (by omega) (by omega)]
  exact h k hk
theorem SR.wd_cg {A B : TI} {c d : Nat → Int32} (a0 : B 0 13 = A 0 13) (a1 : ∀ k, k < 5 → B 133 k = A 133 k) (r : ∀ i, 66 ≤ i → i < 71 → d i = c i) (h : ∀ k, k < 5 → nI k < A 0 13 → WK (c (66 + k)) (A 133 k)) : ∀ k, k < 5 → nI k < B 0 13 → WK (d (66 + k)) (B 133 k) := by
  intro k hk hl
  rw [a0] at hl
  rw [a1 k hk, r (66 + k) (by omega) (by omega)]
  exact h k hk hl
theorem SR.he_cg {A B : TI} {c d : Nat → Int32} (a0 : ∀ k, k < 6 → B 134 k = A 134 k) (r : ∀ i, 71 ≤ i → i < 77 → d i = c i) (h : ∀ k, k < 6 → c (71 + k) = A 134 k ∧ 1 ≤ A 134 k ∧ bd (A 134 k) 99) : ∀ k, k < 6 → d (71 + k) = B 134 k ∧ 1 ≤ B 134 k ∧ bd (B 134 k) 99 := by
  intro k hk
  rw [a0 k hk, r (71 + k) (by omega) (by omega)]
  exact h k hk
theorem SR.sd_cg {A B : TI} {c d : Nat → Int32} (a0 : B 0 16 = A 0 16) (a1 : B 0 2 = A 0 2) (a2 : ∀ k, k < 24 → B 135 k = A 135 k) (r : ∀ i, 77 ≤ i → i < 101 → d i = c i) (h : ∀ k, k < 8 → nI k < A 0 16 → (c (77 + 3 * k) = A 135 (3 * k) ∧ c (78 + 3 * k) = A 135 (3 * k + 1) ∧ c (79 + 3 * k) = A 135 (3 * k + 2)) ∧ 0 ≤ A 135 (3 * k) ∧ A 135 (3 * k) < A 0 2 ∧ 1 ≤ A 135 (3 * k + 1) ∧ bd (A 135 (3 * k + 1)) 12 ∧ bd (A 135 (3 * k + 2)) 99) : ∀ k, k < 8 → nI k < B 0 16 → (d (77 + 3 * k) = B 135 (3 * k) ∧ d (78 + 3 * k) = B 135 (3 * k + 1) ∧ d (79 + 3 * k) = B 135 (3 * k + 2)) ∧ 0 ≤ B 135 (3 * k) ∧ B 135 (3 * k) < B 0 2 ∧ 1 ≤ B 135 (3 * k + 1) ∧ bd (B 135 (3 * k + 1)) 12 ∧ bd (B 135 (3 * k + 2)) 99 := by
  intro k hk hl
  rw [a0] at hl
  rw [a1, a2 (3 * k) (by omega), a2 (3 * k + 1) (by omega), a2 (3 * k + 2) (by omega), r (77 + 3 * k) (by omega) (by omega), r (78 + 3 * k) (by omega) (by omega), r (79 + 3 * k) (by omega) (by omega)]
  exact h k hk hl
theorem SR.ho_cg {A B : TI} {c d : Nat → Int32} (e0 : ∀ i, i < 5 → B 1 i = A 1 i) (e1 : ∀ k, k < 6 → B 2 k = A 2 k) (e2 : ∀ k, k < 6 → B 3 k = A 3 k) (e3 : ∀ k, k < 90 → B 4 k = A 4 k) (r : ∀ i, 7 ≤ i → i < 24 → d i = c i) (r2 : ∀ i, 1511 ≤ i → i < 1541 → d i = c i) (h : HX 1 7 1511 A c) : HX 1 7 1511 B d :=
  HX.mv e0 e1 e2 e3 (fun i hi => r (7 + i) (by omega) (by omega)) (fun i hi => r2 (1511 + i) (by omega) (by omega)) h
theorem SR.ke_cg {A B : TI} {c d : Nat → Int32} (f1 : B 5 1 = A 5 1) (f2 : B 5 2 = A 5 2) (e : ∀ i, i < 30 → (∀ k, k < 5 → B (7 + 4 * i) k = A (7 + 4 * i) k) ∧ (∀ k, k < 6 → B (7 + 4 * i + 1) k = A (7 + 4 * i + 1) k) ∧ (∀ k, k < 6 → B (7 + 4 * i + 2) k = A (7 + 4 * i + 2) k) ∧ (∀ k, k < 90 → B (7 + 4 * i + 3) k = A (7 + 4 * i + 3) k)) (r : ∀ i, 101 ≤ i → i < 1511 → d i = c i) (h : ∀ j, j < 30 → nI j < A 5 2 → HX (7 + 4 * (((A 5 1).toNatClampNeg + j) % 30)) (101 + 47 * j) (118 + 47 * j) A c) : ∀ j, j < 30 → nI j < B 5 2 → HX (7 + 4 * (((B 5 1).toNatClampNeg + j) % 30)) (101 + 47 * j) (118 + 47 * j) B d := by
  intro j hj hl
  rw [f2] at hl
  rw [f1]
  have q := e (((A 5 1).toNatClampNeg + j) % 30) (Nat.mod_lt _ (by omega))
  exact HX.mv q.1 q.2.1 q.2.2.1 q.2.2.2 (fun i hi => r _ (by omega) (by omega)) (fun i hi => r _ (by omega) (by omega)) (h j hj hl)
/-- the fault and its place -/
def FT (I J : TI) : Prop := (I 307 0 = 0 ∧ J 331 5 = -1 ∧ J 331 6 = -1) ∨ (I 307 0 = 1 ∧ J 331 5 = I 307 1 ∧ J 331 6 = I 307 2)
/-- the tape -/
def TP (I J : TI) : Prop := ∃ n : Nat, n ≤ 300 ∧ I 0 4 = nI n ∧ J 331 4 = nI n ∧ ∀ k, k < n → J 335 k = I 306 k ∧ bd (I 306 k) 255
abbrev aN (I : TI) : TI := fun j => I (1 + j)
abbrev aI (I : TI) : TI := fun j => I (137 + j)
def RL (T : TI → (Nat → Int32) → Prop) (I J : TI) : Prop :=
  SR (aN I) (J 332) ∧ SR (aI I) (J 333) ∧ I 137 6 ≤ I 1 6 ∧ TP I J ∧ FT I J ∧ J 331 23 = 1 ∧ (∀ t, t < 4 → nI t < I 1 6 → T (fun i => I (274 + 8 * t + i % 8)) (fun i => J 334 (681 * t + i % 681)))
/-- a pair of calls -/
def OpR {α : Type} (T : TI → (Nat → Int32) → Prop) (f g : TI → TL → Option (α × TI × TL)) : Prop :=
  ∀ I J L K, RL T I J → ∃ r I' L' J' K', f I L = some (r, I', L') ∧ g J K = some (r, J', K') ∧ RL T I' J' ∧ (∀ o, 331 ≤ o → I' o = I o) ∧ (∀ o, o < 331 → J' o = J o)
theorem SR.cg {A B : TI} {c : Nat → Int32} (h : SR A c) (e : ∀ j, j < 136 → B j = A j) : SR B c := by
  have r : ∀ (p q : Nat) i, p ≤ i → i < q → c i = c i := fun _ _ _ _ _ => rfl
  have E : ∀ j, j < 136 → ∀ k, B j k = A j k := fun j hj k => congrFun (e j hj) k
  refine ⟨SR.n0_cg (E _ (by omega) _) (r 0 1) h.n0, SR.tx_cg (E _ (by omega) _) (r 1 2) h.tx, SR.ru_cg (E _ (by omega) _) (E _ (by omega) _) (r 2 3) h.ru, SR.st_cg (E _ (by omega) _) (E _ (by omega) _) (r 3 4) h.st, SR.so_cg (E _ (by omega) _) (r 4 5) h.so, SR.wo_cg (E _ (by omega) _) (r 5 6) h.wo, SR.sa_cg (E _ (by omega) _) (r 6 7) h.sa, SR.ho_cg (fun _ _ => E _ (by omega) _) (fun _ _ => E _ (by omega) _) (fun _ _ => E _ (by omega) _) (fun _ _ => E _ (by omega) _) (r 7 24) (r 1511 1541) h.ho, SR.we_cg (fun _ _ => E _ (by omega) _) (r 24 30) h.we, SR.fl_cg (fun _ _ => E _ (by omega) _) (r 30 36) h.fl, SR.pr_cg (fun _ _ => E _ (by omega) _) (r 36 42) h.pr, SR.ch_cg (fun _ _ => E _ (by omega) _) (r 42 51) h.ch, SR.sn_cg (fun _ _ => E _ (by omega) _) (r 51 60) h.sn, SR.li_cg (fun _ _ => E _ (by omega) _) (r 60 66) h.li, SR.wd_cg (E _ (by omega) _) (fun _ _ => E _ (by omega) _) (r 66 71) h.wd, SR.he_cg (fun _ _ => E _ (by omega) _) (r 71 77) h.he, SR.sd_cg (E _ (by omega) _) (E _ (by omega) _) (fun _ _ => E _ (by omega) _) (r 77 101) h.sd, SR.ke_cg (E _ (by omega) _) (E _ (by omega) _) (fun i hi => ⟨fun _ _ => E _ (by omega) _, fun _ _ => E _ (by omega) _, fun _ _ => E _ (by omega) _, fun _ _ => E _ (by omega) _⟩) (r 101 1511) h.ke⟩
theorem RL.cg {T : TI → (Nat → Int32) → Prop} {I J I' J' : TI} (h : RL T I J) (eI : ∀ o, o < 331 → I' o = I o) (eJ : ∀ o, 331 ≤ o → J' o = J o) : RL T I' J' := by
  obtain ⟨a, b, c, d, e, f, g⟩ := h
  unfold RL TP FT at *
  rw [eJ 331 (by omega), eJ 332 (by omega), eJ 333 (by omega), eJ 334 (by omega), eJ 335 (by omega), eI 0 (by omega), eI 1 (by omega), eI 137 (by omega), eI 306 (by omega), eI 307 (by omega)]
  refine ⟨SR.cg a (fun j hj => eI _ (by omega)), SR.cg b (fun j hj => eI _ (by omega)), c, d, e, f, fun t ht hl => ?_⟩
  rw [show (fun i => I' (274 + 8 * t + i % 8)) = (fun i => I (274 + 8 * t + i % 8)) from by funext i; exact eI _ (by omega)]
  exact g t ht hl
theorem Op2_of {α : Type} {T : TI → (Nat → Int32) → Prop} {f g : TI → TL → Option (α × TI × TL)} (h : OpR T f g) : Op2 (fun I _ => RL T I I) f g := by
  intro I L hR
  obtain ⟨r, I1, L1, _, _, e1, _, _, f1, _⟩ := h I I L L hR
  have hR1 : RL T I I1 := RL.cg hR (fun _ _ => rfl) f1
  obtain ⟨r2, I1', L1', I2, L2, e1', e2, hR2, _, f2⟩ := h I I1 L L1 hR1
  rw [e1] at e1'
  cases e1'
  exact ⟨r, I1, L1, I2, L2, e1, e2, RL.cg hR2 f2 (fun _ _ => rfl)⟩
