/-! THE SHAPE of the heap behind the two constructors: kinds, lengths, references; what changes is ints and longs alone -/
def KS (j : Nat) : Nat × Nat := bif Nat.blt j 7 then (match j with | 0 => (5, 17) | 1 => (1, 8) | 2 => (10, 6) | 3 => (10, 6) | 4 => (10, 90) | 5 => (6, 3) | _ => (14, 30))
  else bif Nat.blt j 127 then (match (j - 7) % 4 with | 0 => (1, 8) | 1 => (10, 6) | 2 => (10, 6) | _ => (10, 90))
  else (match j - 127 with | 0 => (10, 6) | 1 => (10, 6) | 2 => (10, 6) | 3 => (10, 9) | 4 => (10, 9) | 5 => (10, 6) | 6 => (10, 5) | 7 => (10, 6) | _ => (10, 24))
def KT (j : Nat) : Nat × Nat := match j with | 0 => (7, 9) | 1 => (10, 24) | 2 => (10, 24) | 3 => (10, 24) | 4 => (10, 300) | 5 => (10, 300) | _ => (10, 2)
def KR (j : Nat) : Nat × Nat := match j with | 0 => (10, 300) | 1 => (4, 12) | 10 => (10, 301) | 11 => (10, 301) | 12 => (10, 301) | 13 => (2, 3) | 14 => (10, 80) | 15 => (10, 8) | 16 => (3, 2) | 17 => (11, 18) | 18 => (11, 18) | 19 => (0, 2) | 20 => (10, 64) | 21 => (10, 9) | 22 => (10, 13) | 23 => (11, 13) | 24 => (10, 6) | j => KT (j - 2)
def KM (j : Nat) : Nat × Nat := match j with | 0 => (9, 34) | 1 => (10, 1541) | 2 => (10, 1541) | 3 => (10, 2724) | 4 => (10, 300) | 5 => (10, 160) | 6 => (10, 8) | 7 => (11, 330) | 8 => (12, 330) | 9 => (10, 24) | 10 => (10, 13) | 11 => (11, 13) | 12 => (11, 18) | 13 => (11, 18) | 14 => (11, 18) | 15 => (10, 64) | 16 => (10, 9) | 17 => (10, 6) | _ => (0, 0)
def K0 (o : Nat) : Nat × Nat := bif Nat.blt o 273 then (bif Nat.blt o 1 then (8, 12) else bif Nat.blt o 137 then KS (o - 1) else KS (o - 137)) else bif Nat.blt o 306 then (bif Nat.blt o 274 then (13, 4) else KT ((o - 274) % 8)) else bif Nat.blt o 331 then KR (o - 306) else KM (o - 331)
/-- references: of a house, of steps, of a state, of a text, of the rest -/
def RS (s j k : Nat) : Option Nat := bif Nat.blt j 7 then (match j with
    | 0 => (match k with | 0 => some (s + 1) | 1 => some (s + 5) | 3 => some (s + 127) | 4 => some (s + 128) | 5 => some (s + 129) | 8 => some (s + 130) | 9 => some (s + 131) | 10 => some (s + 132) | 12 => some (s + 133) | 14 => some (s + 134) | 15 => some (s + 135) | _ => none)
    | 1 => (match k with | 5 => some (s + 2) | 6 => some (s + 3) | 7 => some (s + 4) | _ => none)
    | 5 => (match k with | 0 => some (s + 6) | _ => none)
    | 6 => bif Nat.blt k 30 then some (s + 7 + 4 * k) else none
    | _ => none)
  else bif Nat.blt j 127 then (match (j - 7) % 4, k with | 0, 5 => some (s + j + 1) | 0, 6 => some (s + j + 2) | 0, 7 => some (s + j + 3) | _, _ => none)
  else none
def RT (o k : Nat) : Option Nat := match k with | 1 => some (o + 1) | 2 => some (o + 2) | 3 => some (o + 3) | 5 => some (o + 4) | 6 => some (o + 5) | 7 => some (o + 6) | 8 => some (o + 7) | _ => none
def RX (k : Nat) : Option Nat := match k with | 0 => some 1 | 1 => some 137 | 2 => some 273 | 3 => some 306 | 5 => some 307 | 6 => some 319 | 7 => some 322 | 8 => some 325 | 9 => some 328 | 10 => some 329 | 11 => some 330 | _ => none
def RR (j k : Nat) : Option Nat := match j with
  | 1 => (match k with | 3 => some 308 | 4 => some 316 | 5 => some 317 | 6 => some 318 | _ => none)
  | 2 => RT 308 k
  | 13 => (match k with | 0 => some 320 | 1 => some 321 | _ => none)
  | 16 => (match k with | 0 => some 323 | 1 => some 324 | _ => none)
  | 19 => (match k with | 0 => some 326 | 1 => some 327 | _ => none)
  | _ => none
def RM (k : Nat) : Option Nat := match k with | 0 => some 332 | 1 => some 333 | 2 => some 334 | 3 => some 335 | 15 => some 336 | 20 => some 337 | 21 => some 338 | 22 => some 339 | 25 => some 340 | 26 => some 341 | 27 => some 342 | 28 => some 343 | 29 => some 344 | 30 => some 345 | 31 => some 346 | 32 => some 347 | 33 => some 348 | _ => none
def R0 (o k : Nat) : Option Nat := bif Nat.blt o 273 then (bif Nat.blt o 1 then RX k else bif Nat.blt o 137 then RS 1 (o - 1) k else RS 137 (o - 137) k) else bif Nat.blt o 306 then (bif Nat.blt o 274 then (bif Nat.blt k 4 then some (274 + 8 * k) else none) else bif Nat.beq ((o - 274) % 8) 0 then RT o k else none) else bif Nat.blt o 331 then RR (o - 306) k else bif Nat.blt o 332 then RM k else none
abbrev HS (I : Nat → Nat → Int32) (L : Nat → Nat → Int64) (X : Nat × (Nat → Int32)) : PH := (349, 19117, K0, I, L, R0, X)
abbrev iR (x y : Int32) : Int32 := x - x / y * y
abbrev lR (x y : Int64) : Int64 := x - x / y * y
/-- a truth as an int -/
def bI (p : Prop) [Decidable p] : Int32 := if p then 1 else 0
theorem bI_t {p : Prop} [Decidable p] (h : p) : bI p = 1 := if_pos h
theorem bI_f {p : Prop} [Decidable p] (h : ¬ p) : bI p = 0 := if_neg h
theorem bI_0 {p : Prop} [Decidable p] : bI p = 0 ↔ ¬ p := by unfold bI; split <;> simp_all
theorem bI_1 {p : Prop} [Decidable p] : ¬ bI p = 0 ↔ p := by unfold bI; split <;> simp_all
theorem bI_b {p : Prop} [Decidable p] : bI p = 0 ∨ bI p = 1 := by unfold bI; split <;> simp
theorem bI_c {p q : Prop} [Decidable p] [Decidable q] (h : p ↔ q) : bI p = bI q := by unfold bI; simp only [h]
theorem rok_0 : rok (some .boolean) 0 := Or.inl rfl
theorem rok_1 : rok (some .boolean) 1 := Or.inr rfl
theorem rok_b {p : Prop} [Decidable p] : rok (some .boolean) (bI p) := bI_b
/-- an answer by an equal one -/
theorem qv {Q : PQ} {h : PH} {x y : Int32} (q : Q (some (.int x)) h) (e : x = y) : Q (some (.int y)) h := e ▸ q
theorem qvh {Q : PQ} {h h' : PH} {x y : Int32} (q : Q (some (.int x)) h) (e : x = y) (eh : h = h') : Q (some (.int y)) h' := e ▸ eh ▸ q
theorem qvl {Q : PQ} {h : PH} {x y : Int64} (q : Q (some (.long x)) h) (e : x = y) : Q (some (.long y)) h := e ▸ q
/-- a switch's cases as equalities of ints -/
theorem sw_v {x k : Int32} {v : Int} (h : x.toInt = v) (e : k.toInt = v) : x = k := Int32.toInt_inj.mp (h.trans e.symm)
theorem sw_w {x k : Int32} {v : Int} (h : ¬ x.toInt = v) (e : k.toInt = v) : ¬ x = k := fun z => h (by rw [z]; exact e)
theorem vpI {x : Int32} {n : Nat} (k : Int32) (hk : k.toInt = (n : Int)) (h1 : 0 ≤ x) (h2 : x < k) : vp_in x n := vp_in_iff.mpr ⟨Int32.le_iff_toInt_le.mp h1, by rw [← hk]; exact Int32.lt_iff_toInt_lt.mp h2⟩
theorem sw_e {x k : Int32} (h : x.toInt = k.toInt) : x = k := Int32.toInt_inj.mp h
theorem sw_n {x k : Int32} (h : ¬ x.toInt = k.toInt) : ¬ x = k := fun e => h (congrArg Int32.toInt e)
theorem sw_o {x k : Int32} {lo hi : Int} (h : x.toInt < lo ∨ hi < x.toInt) (hk : lo ≤ k.toInt ∧ k.toInt ≤ hi) : ¬ x = k := fun e => by subst e; omega
theorem sw_x {x k j : Int32} (h : x = k) (hk : ¬ k = j) : ¬ x = j := by rw [h]; exact hk
def iMin (a b : Int32) : Int32 := if b < a then b else a
def iMax (a b : Int32) : Int32 := if a < b then b else a
/-- a function that goes on only under a condition, or behind another one -/
theorem ois {α : Type} {c : Prop} [Decidable c] {x : Option α} {y : α} (h : (if c then x else none) = some y) : c ∧ x = some y := by
  by_cases hc : c
  · rw [if_pos hc] at h; exact ⟨hc, h⟩
  · rw [if_neg hc] at h; cases h
theorem obs {α β : Type} {x : Option α} {f : α → Option β} {y : β} (h : x.bind f = some y) : ∃ a, x = some a ∧ f a = some y := by
  cases x with
  | none => cases h
  | some a => exact ⟨a, rfl, h⟩
