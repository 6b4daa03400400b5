/-! one instruction of a law, class and model -/
theorem nI_dec (u : Nat) : nI (u + 1) + (-1) = nI u := by rw [← Int32.sub_eq_add_neg]; exact nI_pred u
theorem nI_dec2 (u : Nat) : nI (u + 2) + (-2) = nI u := by rw [← Int32.sub_eq_add_neg]; exact pk_sub (a := u + 2) (b := 2) (by omega)
theorem ib {a n : Nat} {N : Int32} (hN : N = nI n) (h : a < n) (hn : n < 2 ^ 31) : (0 : Int32) ≤ nI a ∧ nI a < N := by subst hN; exact ⟨nI_pos' (by omega), nI_lt h hn⟩
theorem ws_bin {fu o f p to u s : Nat} {x2 x3 w r : Int32} {I : TI} {L : TL} (hp : p < to) (hto : to ≤ 300) (hs : s < 300) (hu : u + 2 < 80) (hop : I (o + 4) p = w) (ht : FO_W_takenBy fu w I L = some (2, I, L)) (hj : FO_W_join fu w (I 320 u) (I 320 (u + 1)) I L = some (r, I, L)) :
    LO_W_says_40 fu o (f + 1) x2 x3 (nI p) (nI to) (nI (u + 2)) (nI s) I L = LO_W_says_40 fu o f x2 x3 (nI (p + 1)) (nI to) (nI (u + 1)) (nI (s + 1)) (sI I 320 u r) L := by
  have hb : (0 : Int32) ≤ nI p ∧ nI p < 300 := ib (n := 300) rfl (by omega) (by omega)
  rw [LO_W_says_40, if_neg (show ¬ (300 : Int32) ≤ nI s from nI_ge (b := 300) hs (by omega)), if_neg (show ¬ nI p < 0 from nI_pos (by omega)), if_neg (show ¬ nI to ≤ nI p from nI_ge hp (by omega)), if_pos hb, if_pos hb, nI_clamp (by omega), hop, ht]
  simp only [Option.bind_some]
  rw [if_neg (show ¬ nI (u + 2) < 2 from nI_nlt (b := 2) (by omega) (by omega)), if_pos (show nI (u + 2) < 80 from nI_lt (b := 80) hu (by omega)), if_pos trivial, nI_dec (u + 1), nI_pred, if_pos (show (0 : Int32) ≤ nI u ∧ nI u < 80 from ib (n := 80) rfl (by omega) (by omega)), if_pos (show (0 : Int32) ≤ nI (u + 1) ∧ nI (u + 1) < 80 from ib (n := 80) rfl (by omega) (by omega)), nI_clamp (by omega), nI_clamp (by omega), hj]
  simp only [Option.bind_some]
  rw [if_pos (show (0 : Int32) ≤ nI u ∧ nI u < 80 from ib (n := 80) rfl (by omega) (by omega)), nI_1, nI_1]
theorem ws_un {fu o f p to u s : Nat} {x2 x3 w r : Int32} {I : TI} {L : TL} (hp : p < to) (hto : to ≤ 300) (hs : s < 300) (hu : u + 1 < 80) (hop : I (o + 4) p = w) (ht : FO_W_takenBy fu w I L = some (1, I, L)) (h63 : ¬ w = 63) (h62 : ¬ w = 62) (hj : FO_W_turn fu w (I 320 u) I L = some (r, I, L)) :
    LO_W_says_40 fu o (f + 1) x2 x3 (nI p) (nI to) (nI (u + 1)) (nI s) I L = LO_W_says_40 fu o f x2 x3 (nI (p + 1)) (nI to) (nI (u + 1)) (nI (s + 1)) (sI I 320 u r) L := by
  have hb : (0 : Int32) ≤ nI p ∧ nI p < 300 := ib (n := 300) rfl (by omega) (by omega)
  rw [LO_W_says_40, if_neg (show ¬ (300 : Int32) ≤ nI s from nI_ge (b := 300) hs (by omega)), if_neg (show ¬ nI p < 0 from nI_pos (by omega)), if_neg (show ¬ nI to ≤ nI p from nI_ge hp (by omega)), if_pos hb, if_pos hb, nI_clamp (by omega), hop, ht]
  simp only [Option.bind_some]
  rw [if_neg (show ¬ nI (u + 1) < 1 from nI_nlt (b := 1) (by omega) (by omega)), if_pos (show nI (u + 1) < 80 from nI_lt (b := 80) hu (by omega)), if_neg (show ¬ (1 : Int32) = 2 by decide), if_neg h63, if_neg h62, if_pos trivial, nI_pred, if_pos (show (0 : Int32) ≤ nI u ∧ nI u < 80 from ib (n := 80) rfl (by omega) (by omega)), nI_clamp (by omega), hj]
  simp only [Option.bind_some]
  rw [if_pos (show (0 : Int32) ≤ nI u ∧ nI u < 80 from ib (n := 80) rfl (by omega) (by omega)), nI_1, nI_1]
theorem ws_num {fu o f p to t s : Nat} {x2 x3 : Int32} {I : TI} {L : TL} (hp : p < to) (hto : to ≤ 300) (hs : s < 300) (ht : t < 80) (hop : I (o + 4) p = 2) :
    LO_W_says_40 fu o (f + 1) x2 x3 (nI p) (nI to) (nI t) (nI s) I L = LO_W_says_40 fu o f x2 x3 (nI (p + 1)) (nI to) (nI (t + 1)) (nI (s + 1)) (sI I 320 t (I (o + 5) p)) L := by
  have hb : (0 : Int32) ≤ nI p ∧ nI p < 300 := ib (n := 300) rfl (by omega) (by omega)
  rw [LO_W_says_40, if_neg (show ¬ (300 : Int32) ≤ nI s from nI_ge (b := 300) hs (by omega)), if_neg (show ¬ nI p < 0 from nI_pos (by omega)), if_neg (show ¬ nI to ≤ nI p from nI_ge hp (by omega)), if_pos hb, if_pos hb, nI_clamp (by omega), hop]
  rw [show FO_W_takenBy fu 2 I L = some (0, I, L) from rfl]
  simp only [Option.bind_some]
  rw [if_neg (show ¬ nI t < 0 from nI_pos (by omega)), if_pos (show nI t < 80 from nI_lt (b := 80) ht (by omega)), if_neg (show ¬ (0 : Int32) = 2 by decide), if_neg (show ¬ (2 : Int32) = 63 by decide), if_neg (show ¬ (2 : Int32) = 62 by decide), if_neg (show ¬ (0 : Int32) = 1 by decide), if_neg (show ¬ (2 : Int32) = 60 by decide), if_pos (show (0 : Int32) ≤ nI t ∧ nI t < 80 from ib (n := 80) rfl (by omega) (by omega)), nI_clamp (by omega), nI_1, nI_1, nI_1]
theorem ws_name {fu o f p to t s x : Nat} {x2 x3 : Int32} {I : TI} {L : TL} (hp : p < to) (hto : to ≤ 300) (hs : s < 300) (ht : t < 80) (hop : I (o + 4) p = 60) (har : I (o + 5) p = nI x) (hx : x < 8) :
    LO_W_says_40 fu o (f + 1) x2 x3 (nI p) (nI to) (nI t) (nI s) I L = LO_W_says_40 fu o f x2 x3 (nI (p + 1)) (nI to) (nI (t + 1)) (nI (s + 1)) (sI I 320 t (I 321 x)) L := by
  have hb : (0 : Int32) ≤ nI p ∧ nI p < 300 := ib (n := 300) rfl (by omega) (by omega)
  rw [LO_W_says_40, if_neg (show ¬ (300 : Int32) ≤ nI s from nI_ge (b := 300) hs (by omega)), if_neg (show ¬ nI p < 0 from nI_pos (by omega)), if_neg (show ¬ nI to ≤ nI p from nI_ge hp (by omega)), if_pos hb, if_pos hb, nI_clamp (by omega), hop, har]
  rw [show FO_W_takenBy fu 60 I L = some (0, I, L) from rfl]
  simp only [Option.bind_some]
  rw [if_neg (show ¬ nI t < 0 from nI_pos (by omega)), if_pos (show nI t < 80 from nI_lt (b := 80) ht (by omega)), if_neg (show ¬ (0 : Int32) = 2 by decide), if_neg (show ¬ (60 : Int32) = 63 by decide), if_neg (show ¬ (60 : Int32) = 62 by decide), if_neg (show ¬ (0 : Int32) = 1 by decide), if_pos trivial, if_pos (show (0 : Int32) ≤ nI x ∧ nI x ≤ 7 from ⟨nI_pos' (by omega), nI_le (b := 7) (by omega) (by omega)⟩), if_pos (show (0 : Int32) ≤ nI x ∧ nI x < 8 from ib (n := 8) rfl (by omega) (by omega)), if_pos (show (0 : Int32) ≤ nI t ∧ nI t < 80 from ib (n := 80) rfl (by omega) (by omega)), nI_clamp (by omega), nI_clamp (by omega), nI_1, nI_1, nI_1]
theorem ws_unl {fu o f p to u s g : Nat} {x2 x3 : Int32} {I : TI} {L : TL} (hp : p < to) (hto : to ≤ 300) (hs : s < 300) (hu : u + 1 < 80) (hop : I (o + 4) p = 63) (har : I (o + 5) p = nI g) :
    LO_W_says_40 fu o (f + 1) x2 x3 (nI p) (nI to) (nI (u + 1)) (nI s) I L = if I 320 u = 0 then LO_W_says_40 fu o f x2 x3 (nI g) (nI to) (nI u) (nI (s + 1)) I L else LO_W_says_40 fu o f x2 x3 (nI (p + 1)) (nI to) (nI u) (nI (s + 1)) I L := by
  have hb : (0 : Int32) ≤ nI p ∧ nI p < 300 := ib (n := 300) rfl (by omega) (by omega)
  rw [LO_W_says_40, if_neg (show ¬ (300 : Int32) ≤ nI s from nI_ge (b := 300) hs (by omega)), if_neg (show ¬ nI p < 0 from nI_pos (by omega)), if_neg (show ¬ nI to ≤ nI p from nI_ge hp (by omega)), if_pos hb, if_pos hb, nI_clamp (by omega), hop, har]
  rw [show FO_W_takenBy fu 63 I L = some (1, I, L) from rfl]
  simp only [Option.bind_some]
  rw [if_neg (show ¬ nI (u + 1) < 1 from nI_nlt (b := 1) (by omega) (by omega)), if_pos (show nI (u + 1) < 80 from nI_lt (b := 80) hu (by omega)), if_neg (show ¬ (1 : Int32) = 2 by decide), if_pos trivial, nI_dec, if_pos (show (0 : Int32) ≤ nI u ∧ nI u < 80 from ib (n := 80) rfl (by omega) (by omega)), nI_clamp (by omega), nI_1, nI_1]
theorem ws_jmp {fu o f p to t s g : Nat} {x2 x3 : Int32} {I : TI} {L : TL} (hp : p < to) (hto : to ≤ 300) (hs : s < 300) (ht : t < 80) (hop : I (o + 4) p = 62) (har : I (o + 5) p = nI g) :
    LO_W_says_40 fu o (f + 1) x2 x3 (nI p) (nI to) (nI t) (nI s) I L = LO_W_says_40 fu o f x2 x3 (nI g) (nI to) (nI t) (nI (s + 1)) I L := by
  have hb : (0 : Int32) ≤ nI p ∧ nI p < 300 := ib (n := 300) rfl (by omega) (by omega)
  rw [LO_W_says_40, if_neg (show ¬ (300 : Int32) ≤ nI s from nI_ge (b := 300) hs (by omega)), if_neg (show ¬ nI p < 0 from nI_pos (by omega)), if_neg (show ¬ nI to ≤ nI p from nI_ge hp (by omega)), if_pos hb, if_pos hb, nI_clamp (by omega), hop, har]
  rw [show FO_W_takenBy fu 62 I L = some (0, I, L) from rfl]
  simp only [Option.bind_some]
  rw [if_neg (show ¬ nI t < 0 from nI_pos (by omega)), if_pos (show nI t < 80 from nI_lt (b := 80) ht (by omega)), if_neg (show ¬ (0 : Int32) = 2 by decide), if_neg (show ¬ (62 : Int32) = 63 by decide), if_pos trivial, nI_1]
/-- the clause at xx has its code up to e; code begins at b -/
def MC (I : TI) (xx b e : Nat) : Prop := xx + 2 < 2724 ∧ b + 608 ≤ 2724 ∧ e ≤ 304 ∧ I 334 (xx + 2) = nI e
theorem ms_num {fu f xx b e n m i : Nat} {x1 x2 : Int32} {I : TI} {L : TL} (h : MC I xx b e) (hi : i < e) (hn : n < 330) (hop : I 334 (b + 2 * i) = 0) :
    LO_M_summedUp_38 fu (f + 1) x1 x2 (nI xx) (nI b) (nI n) (nI m) (nI i) I L = LO_M_summedUp_38 fu f x1 x2 (nI xx) (nI b) (nI (n + 1)) (nI m) (nI (i + 1)) I (sL L 338 n (I 334 (b + 2 * i + 1)).toInt64) := by
  obtain ⟨h1, h2, h3, h4⟩ := h
  rw [LO_M_summedUp_38, show nI xx + 2 = nI (xx + 2) from nI_add xx 2, if_pos (show (0 : Int32) ≤ nI (xx + 2) ∧ nI (xx + 2) < 2724 from ib (n := 2724) rfl h1 (by omega)), nI_clamp (show xx + 2 < 2 ^ 31 by omega), h4, if_neg (show ¬ nI e ≤ nI i from nI_ge hi (by omega)), show nI b + 2 * nI i = nI (b + 2 * i) from by rw [show (2 : Int32) = nI 2 from rfl, pk_mul, nI_add], if_pos (show (0 : Int32) ≤ nI (b + 2 * i) ∧ nI (b + 2 * i) < 2724 from ib (n := 2724) rfl (by omega) (by omega)), show nI (b + 2 * i) + 1 = nI (b + 2 * i + 1) from nI_1 .., if_pos (show (0 : Int32) ≤ nI (b + 2 * i + 1) ∧ nI (b + 2 * i + 1) < 2724 from ib (n := 2724) rfl (by omega) (by omega)), nI_clamp (show b + 2 * i < 2 ^ 31 by omega), nI_clamp (show b + 2 * i + 1 < 2 ^ 31 by omega)]
  rw [hop, if_neg (show ¬ (1 : Int32) < 0 by decide), if_pos rfl, if_pos (show (0 : Int32) ≤ nI n ∧ nI n < 330 from ib (n := 330) rfl hn (by omega)), nI_clamp (show n < 2 ^ 31 by omega), nI_1, nI_1]
theorem ms_name {fu f xx b e n m i x : Nat} {x1 x2 : Int32} {I : TI} {L : TL} (h : MC I xx b e) (hi : i < e) (hn : n < 330) (hop : I 334 (b + 2 * i) = 1) (har : I 334 (b + 2 * i + 1) = nI x) (hx : x < 8) :
    LO_M_summedUp_38 fu (f + 1) x1 x2 (nI xx) (nI b) (nI n) (nI m) (nI i) I L = LO_M_summedUp_38 fu f x1 x2 (nI xx) (nI b) (nI (n + 1)) (nI m) (nI (i + 1)) I (sL L 338 n (I 337 x).toInt64) := by
  obtain ⟨h1, h2, h3, h4⟩ := h
  rw [LO_M_summedUp_38, show nI xx + 2 = nI (xx + 2) from nI_add xx 2, if_pos (show (0 : Int32) ≤ nI (xx + 2) ∧ nI (xx + 2) < 2724 from ib (n := 2724) rfl h1 (by omega)), nI_clamp (show xx + 2 < 2 ^ 31 by omega), h4, if_neg (show ¬ nI e ≤ nI i from nI_ge hi (by omega)), show nI b + 2 * nI i = nI (b + 2 * i) from by rw [show (2 : Int32) = nI 2 from rfl, pk_mul, nI_add], if_pos (show (0 : Int32) ≤ nI (b + 2 * i) ∧ nI (b + 2 * i) < 2724 from ib (n := 2724) rfl (by omega) (by omega)), show nI (b + 2 * i) + 1 = nI (b + 2 * i + 1) from nI_1 .., if_pos (show (0 : Int32) ≤ nI (b + 2 * i + 1) ∧ nI (b + 2 * i + 1) < 2724 from ib (n := 2724) rfl (by omega) (by omega)), nI_clamp (show b + 2 * i < 2 ^ 31 by omega), nI_clamp (show b + 2 * i + 1 < 2 ^ 31 by omega)]
  rw [hop, if_neg (show ¬ (1 : Int32) < 1 by decide), if_neg (show ¬ (1 : Int32) = 0 by decide), har, if_pos (show (0 : Int32) ≤ nI x ∧ nI x < 8 from ib (n := 8) rfl hx (by omega)), if_pos (show (0 : Int32) ≤ nI n ∧ nI n < 330 from ib (n := 330) rfl hn (by omega)), nI_clamp (show n < 2 ^ 31 by omega), nI_clamp (show x < 2 ^ 31 by omega), nI_1, nI_1]
theorem ms_sel {fu f xx b e n m i : Nat} {x1 x2 : Int32} {I : TI} {L : TL} (h : MC I xx b e) (hi : i < e) (hn : n + 2 ≤ 330) (hm : m < 330) (hop : I 334 (b + 2 * i) = 3) :
    LO_M_summedUp_38 fu (f + 1) x1 x2 (nI xx) (nI b) (nI (n + 2)) (nI (m + 1)) (nI i) I L = if I 339 m = 0 then LO_M_summedUp_38 fu f x1 x2 (nI xx) (nI b) (nI (n + 1)) (nI m) (nI (i + 1)) I (sL L 338 n (L 338 (n + 1))) else LO_M_summedUp_38 fu f x1 x2 (nI xx) (nI b) (nI (n + 1)) (nI m) (nI (i + 1)) I L := by
  obtain ⟨h1, h2, h3, h4⟩ := h
  rw [LO_M_summedUp_38, show nI xx + 2 = nI (xx + 2) from nI_add xx 2, if_pos (show (0 : Int32) ≤ nI (xx + 2) ∧ nI (xx + 2) < 2724 from ib (n := 2724) rfl h1 (by omega)), nI_clamp (show xx + 2 < 2 ^ 31 by omega), h4, if_neg (show ¬ nI e ≤ nI i from nI_ge hi (by omega)), show nI b + 2 * nI i = nI (b + 2 * i) from by rw [show (2 : Int32) = nI 2 from rfl, pk_mul, nI_add], if_pos (show (0 : Int32) ≤ nI (b + 2 * i) ∧ nI (b + 2 * i) < 2724 from ib (n := 2724) rfl (by omega) (by omega)), show nI (b + 2 * i) + 1 = nI (b + 2 * i + 1) from nI_1 .., if_pos (show (0 : Int32) ≤ nI (b + 2 * i + 1) ∧ nI (b + 2 * i + 1) < 2724 from ib (n := 2724) rfl (by omega) (by omega)), nI_clamp (show b + 2 * i < 2 ^ 31 by omega), nI_clamp (show b + 2 * i + 1 < 2 ^ 31 by omega)]
  rw [hop, if_pos (show (1 : Int32) < 3 by decide), if_pos rfl, nI_dec, nI_dec (n + 1), nI_pred, if_pos (show (0 : Int32) ≤ nI m ∧ nI m < 330 from ib (n := 330) rfl hm (by omega)), if_pos (show (0 : Int32) ≤ nI (n + 1) ∧ nI (n + 1) < 330 from ib (n := 330) rfl (by omega) (by omega)), if_pos (show (0 : Int32) ≤ nI n ∧ nI n < 330 from ib (n := 330) rfl (by omega) (by omega)), nI_clamp (show m < 2 ^ 31 by omega), nI_clamp (show n < 2 ^ 31 by omega), nI_clamp (show n + 1 < 2 ^ 31 by omega), nI_1]
theorem ms_neg {fu f xx b e n m i : Nat} {x1 x2 : Int32} {I : TI} {L : TL} (h : MC I xx b e) (hi : i < e) (hn : n < 330) (hop : I 334 (b + 2 * i) = 5) :
    LO_M_summedUp_38 fu (f + 1) x1 x2 (nI xx) (nI b) (nI (n + 1)) (nI m) (nI i) I L = LO_M_summedUp_38 fu f x1 x2 (nI xx) (nI b) (nI (n + 1)) (nI m) (nI (i + 1)) I (sL L 338 n (-(L 338 n))) := by
  obtain ⟨h1, h2, h3, h4⟩ := h
  rw [LO_M_summedUp_38, show nI xx + 2 = nI (xx + 2) from nI_add xx 2, if_pos (show (0 : Int32) ≤ nI (xx + 2) ∧ nI (xx + 2) < 2724 from ib (n := 2724) rfl h1 (by omega)), nI_clamp (show xx + 2 < 2 ^ 31 by omega), h4, if_neg (show ¬ nI e ≤ nI i from nI_ge hi (by omega)), show nI b + 2 * nI i = nI (b + 2 * i) from by rw [show (2 : Int32) = nI 2 from rfl, pk_mul, nI_add], if_pos (show (0 : Int32) ≤ nI (b + 2 * i) ∧ nI (b + 2 * i) < 2724 from ib (n := 2724) rfl (by omega) (by omega)), show nI (b + 2 * i) + 1 = nI (b + 2 * i + 1) from nI_1 .., if_pos (show (0 : Int32) ≤ nI (b + 2 * i + 1) ∧ nI (b + 2 * i + 1) < 2724 from ib (n := 2724) rfl (by omega) (by omega)), nI_clamp (show b + 2 * i < 2 ^ 31 by omega), nI_clamp (show b + 2 * i + 1 < 2 ^ 31 by omega)]
  rw [hop, if_pos (show (1 : Int32) < 5 by decide), if_neg (show ¬ (5 : Int32) = 3 by decide), if_pos rfl, if_pos rfl, nI_pred, if_pos (show (0 : Int32) ≤ nI n ∧ nI n < 330 from ib (n := 330) rfl hn (by omega)), if_pos (show (0 : Int32) ≤ nI n ∧ nI n < 330 from ib (n := 330) rfl hn (by omega)), nI_clamp (show n < 2 ^ 31 by omega), nI_1]
theorem ms_cup {fu f xx b e n m i : Nat} {x1 x2 : Int32} {r : Int64} {I : TI} {L : TL} (h : MC I xx b e) (hi : i < e) (hn : n < 330) (hop : I 334 (b + 2 * i) = 2) (hr : FO_M_cupOf fu (L 338 n) I L = some (r, I, L)) :
    LO_M_summedUp_38 fu (f + 1) x1 x2 (nI xx) (nI b) (nI (n + 1)) (nI m) (nI i) I L = LO_M_summedUp_38 fu f x1 x2 (nI xx) (nI b) (nI (n + 1)) (nI m) (nI (i + 1)) I (sL L 338 n r) := by
  obtain ⟨h1, h2, h3, h4⟩ := h
  rw [LO_M_summedUp_38, show nI xx + 2 = nI (xx + 2) from nI_add xx 2, if_pos (show (0 : Int32) ≤ nI (xx + 2) ∧ nI (xx + 2) < 2724 from ib (n := 2724) rfl h1 (by omega)), nI_clamp (show xx + 2 < 2 ^ 31 by omega), h4, if_neg (show ¬ nI e ≤ nI i from nI_ge hi (by omega)), show nI b + 2 * nI i = nI (b + 2 * i) from by rw [show (2 : Int32) = nI 2 from rfl, pk_mul, nI_add], if_pos (show (0 : Int32) ≤ nI (b + 2 * i) ∧ nI (b + 2 * i) < 2724 from ib (n := 2724) rfl (by omega) (by omega)), show nI (b + 2 * i) + 1 = nI (b + 2 * i + 1) from nI_1 .., if_pos (show (0 : Int32) ≤ nI (b + 2 * i + 1) ∧ nI (b + 2 * i + 1) < 2724 from ib (n := 2724) rfl (by omega) (by omega)), nI_clamp (show b + 2 * i < 2 ^ 31 by omega), nI_clamp (show b + 2 * i + 1 < 2 ^ 31 by omega)]
  rw [hop, if_pos (show (1 : Int32) < 2 by decide), if_neg (show ¬ (2 : Int32) = 3 by decide), if_neg (show ¬ (2 : Int32) = 5 by decide), if_pos rfl, if_neg (show ¬ (2 : Int32) = 5 by decide), nI_pred, if_pos (show (0 : Int32) ≤ nI n ∧ nI n < 330 from ib (n := 330) rfl hn (by omega)), nI_clamp (show n < 2 ^ 31 by omega), hr]
  simp only [Option.bind_some]
  rw [if_pos (show (0 : Int32) ≤ nI n ∧ nI n < 330 from ib (n := 330) rfl hn (by omega)), nI_1]
theorem ms_near {fu f xx b e n m i : Nat} {x1 x2 : Int32} {r : Int64} {I : TI} {L : TL} (h : MC I xx b e) (hi : i < e) (hn : n + 2 ≤ 330) (hop : I 334 (b + 2 * i) = 4) (hr : FO_M_nearOf fu (L 338 n) (L 338 (n + 1)) I L = some (r, I, L)) :
    LO_M_summedUp_38 fu (f + 1) x1 x2 (nI xx) (nI b) (nI (n + 2)) (nI m) (nI i) I L = LO_M_summedUp_38 fu f x1 x2 (nI xx) (nI b) (nI (n + 1)) (nI m) (nI (i + 1)) I (sL L 338 n r) := by
  obtain ⟨h1, h2, h3, h4⟩ := h
  rw [LO_M_summedUp_38, show nI xx + 2 = nI (xx + 2) from nI_add xx 2, if_pos (show (0 : Int32) ≤ nI (xx + 2) ∧ nI (xx + 2) < 2724 from ib (n := 2724) rfl h1 (by omega)), nI_clamp (show xx + 2 < 2 ^ 31 by omega), h4, if_neg (show ¬ nI e ≤ nI i from nI_ge hi (by omega)), show nI b + 2 * nI i = nI (b + 2 * i) from by rw [show (2 : Int32) = nI 2 from rfl, pk_mul, nI_add], if_pos (show (0 : Int32) ≤ nI (b + 2 * i) ∧ nI (b + 2 * i) < 2724 from ib (n := 2724) rfl (by omega) (by omega)), show nI (b + 2 * i) + 1 = nI (b + 2 * i + 1) from nI_1 .., if_pos (show (0 : Int32) ≤ nI (b + 2 * i + 1) ∧ nI (b + 2 * i + 1) < 2724 from ib (n := 2724) rfl (by omega) (by omega)), nI_clamp (show b + 2 * i < 2 ^ 31 by omega), nI_clamp (show b + 2 * i + 1 < 2 ^ 31 by omega)]
  rw [hop, if_pos (show (1 : Int32) < 4 by decide), if_neg (show ¬ (4 : Int32) = 3 by decide), if_neg (show ¬ (4 : Int32) = 5 by decide), if_neg (show ¬ (4 : Int32) = 2 by decide), if_neg (show ¬ (10 : Int32) ≤ 4 by decide), if_pos rfl, nI_dec (n + 1), nI_pred, if_pos (show (0 : Int32) ≤ nI n ∧ nI n < 330 from ib (n := 330) rfl (by omega) (by omega)), if_pos (show (0 : Int32) ≤ nI (n + 1) ∧ nI (n + 1) < 330 from ib (n := 330) rfl (by omega) (by omega)), nI_clamp (show n < 2 ^ 31 by omega), nI_clamp (show n + 1 < 2 ^ 31 by omega), hr]
  simp only [Option.bind_some]
  rw [if_pos (show (0 : Int32) ≤ nI n ∧ nI n < 330 from ib (n := 330) rfl (by omega) (by omega)), nI_1]
theorem ms_two {fu f xx b e n m i : Nat} {x1 x2 w : Int32} {r : Int64} {I : TI} {L : TL} (h : MC I xx b e) (hi : i < e) (hn : n + 2 ≤ 330) (hop : I 334 (b + 2 * i) = w) (hw : 6 ≤ w ∧ w ≤ 9) (hr : FO_M_two fu w (L 338 n) (L 338 (n + 1)) I L = some (r, I, L)) :
    LO_M_summedUp_38 fu (f + 1) x1 x2 (nI xx) (nI b) (nI (n + 2)) (nI m) (nI i) I L = LO_M_summedUp_38 fu f x1 x2 (nI xx) (nI b) (nI (n + 1)) (nI m) (nI (i + 1)) I (sL L 338 n r) := by
  obtain ⟨h1, h2, h3, h4⟩ := h
  rw [LO_M_summedUp_38, show nI xx + 2 = nI (xx + 2) from nI_add xx 2, if_pos (show (0 : Int32) ≤ nI (xx + 2) ∧ nI (xx + 2) < 2724 from ib (n := 2724) rfl h1 (by omega)), nI_clamp (show xx + 2 < 2 ^ 31 by omega), h4, if_neg (show ¬ nI e ≤ nI i from nI_ge hi (by omega)), show nI b + 2 * nI i = nI (b + 2 * i) from by rw [show (2 : Int32) = nI 2 from rfl, pk_mul, nI_add], if_pos (show (0 : Int32) ≤ nI (b + 2 * i) ∧ nI (b + 2 * i) < 2724 from ib (n := 2724) rfl (by omega) (by omega)), show nI (b + 2 * i) + 1 = nI (b + 2 * i + 1) from nI_1 .., if_pos (show (0 : Int32) ≤ nI (b + 2 * i + 1) ∧ nI (b + 2 * i + 1) < 2724 from ib (n := 2724) rfl (by omega) (by omega)), nI_clamp (show b + 2 * i < 2 ^ 31 by omega), nI_clamp (show b + 2 * i + 1 < 2 ^ 31 by omega)]
  have w1 : (1 : Int32) < w := by grind
  have w3 : ¬ w = 3 := by grind
  have w5 : ¬ w = 5 := by grind
  have w2 : ¬ w = 2 := by grind
  have w10 : ¬ (10 : Int32) ≤ w := by grind
  have w4 : ¬ w = 4 := by grind
  rw [hop, if_pos w1, if_neg w3, if_neg w5, if_neg w2, if_neg w10, if_neg w4, nI_dec (n + 1), nI_pred, if_pos (show (0 : Int32) ≤ nI n ∧ nI n < 330 from ib (n := 330) rfl (by omega) (by omega)), if_pos (show (0 : Int32) ≤ nI (n + 1) ∧ nI (n + 1) < 330 from ib (n := 330) rfl (by omega) (by omega)), nI_clamp (show n < 2 ^ 31 by omega), nI_clamp (show n + 1 < 2 ^ 31 by omega), hr]
  simp only [Option.bind_some]
  rw [if_pos (show (0 : Int32) ≤ nI n ∧ nI n < 330 from ib (n := 330) rfl (by omega) (by omega)), nI_1]
theorem ms_cmp {fu f xx b e n m i : Nat} {x1 x2 w r : Int32} {I : TI} {L : TL} (h : MC I xx b e) (hi : i < e) (hn : n + 2 ≤ 330) (hm : m < 330) (hop : I 334 (b + 2 * i) = w) (hw : 10 ≤ w ∧ w ≤ 15) (hr : FO_M_isAsked fu w (L 338 n) (L 338 (n + 1)) I L = some (r, I, L)) (hr2 : r = 0 ∨ r = 1) :
    LO_M_summedUp_38 fu (f + 1) x1 x2 (nI xx) (nI b) (nI (n + 2)) (nI m) (nI i) I L = LO_M_summedUp_38 fu f x1 x2 (nI xx) (nI b) (nI n) (nI (m + 1)) (nI (i + 1)) (sI I 339 m r) L := by
  obtain ⟨h1, h2, h3, h4⟩ := h
  rw [LO_M_summedUp_38, show nI xx + 2 = nI (xx + 2) from nI_add xx 2, if_pos (show (0 : Int32) ≤ nI (xx + 2) ∧ nI (xx + 2) < 2724 from ib (n := 2724) rfl h1 (by omega)), nI_clamp (show xx + 2 < 2 ^ 31 by omega), h4, if_neg (show ¬ nI e ≤ nI i from nI_ge hi (by omega)), show nI b + 2 * nI i = nI (b + 2 * i) from by rw [show (2 : Int32) = nI 2 from rfl, pk_mul, nI_add], if_pos (show (0 : Int32) ≤ nI (b + 2 * i) ∧ nI (b + 2 * i) < 2724 from ib (n := 2724) rfl (by omega) (by omega)), show nI (b + 2 * i) + 1 = nI (b + 2 * i + 1) from nI_1 .., if_pos (show (0 : Int32) ≤ nI (b + 2 * i + 1) ∧ nI (b + 2 * i + 1) < 2724 from ib (n := 2724) rfl (by omega) (by omega)), nI_clamp (show b + 2 * i < 2 ^ 31 by omega), nI_clamp (show b + 2 * i + 1 < 2 ^ 31 by omega)]
  have w1 : (1 : Int32) < w := by grind
  have w3 : ¬ w = 3 := by grind
  have w5 : ¬ w = 5 := by grind
  have w2 : ¬ w = 2 := by grind
  have w20 : ¬ (20 : Int32) ≤ w := by grind
  rw [hop, if_pos w1, if_neg w3, if_neg w5, if_neg w2, if_pos hw.1, if_neg w20, nI_dec2, nI_1, if_pos (show (0 : Int32) ≤ nI n ∧ nI n < 330 from ib (n := 330) rfl (by omega) (by omega)), if_pos (show (0 : Int32) ≤ nI (n + 1) ∧ nI (n + 1) < 330 from ib (n := 330) rfl (by omega) (by omega)), nI_clamp (show n < 2 ^ 31 by omega), nI_clamp (show n + 1 < 2 ^ 31 by omega), hr]
  simp only [Option.bind_some]
  rw [if_pos (show (0 : Int32) ≤ nI m ∧ nI m < 330 from ib (n := 330) rfl hm (by omega)), if_pos hr2, nI_clamp (show m < 2 ^ 31 by omega), nI_1, nI_1]
theorem ms_not {fu f xx b e n m i : Nat} {x1 x2 : Int32} {I : TI} {L : TL} (h : MC I xx b e) (hi : i < e) (hm : m < 330) (hop : I 334 (b + 2 * i) = 20) :
    LO_M_summedUp_38 fu (f + 1) x1 x2 (nI xx) (nI b) (nI n) (nI (m + 1)) (nI i) I L = LO_M_summedUp_38 fu f x1 x2 (nI xx) (nI b) (nI n) (nI (m + 1)) (nI (i + 1)) (sI I 339 m (if I 339 m = 0 then 1 else 0)) L := by
  obtain ⟨h1, h2, h3, h4⟩ := h
  rw [LO_M_summedUp_38, show nI xx + 2 = nI (xx + 2) from nI_add xx 2, if_pos (show (0 : Int32) ≤ nI (xx + 2) ∧ nI (xx + 2) < 2724 from ib (n := 2724) rfl h1 (by omega)), nI_clamp (show xx + 2 < 2 ^ 31 by omega), h4, if_neg (show ¬ nI e ≤ nI i from nI_ge hi (by omega)), show nI b + 2 * nI i = nI (b + 2 * i) from by rw [show (2 : Int32) = nI 2 from rfl, pk_mul, nI_add], if_pos (show (0 : Int32) ≤ nI (b + 2 * i) ∧ nI (b + 2 * i) < 2724 from ib (n := 2724) rfl (by omega) (by omega)), show nI (b + 2 * i) + 1 = nI (b + 2 * i + 1) from nI_1 .., if_pos (show (0 : Int32) ≤ nI (b + 2 * i + 1) ∧ nI (b + 2 * i + 1) < 2724 from ib (n := 2724) rfl (by omega) (by omega)), nI_clamp (show b + 2 * i < 2 ^ 31 by omega), nI_clamp (show b + 2 * i + 1 < 2 ^ 31 by omega)]
  rw [hop, if_pos (show (1 : Int32) < 20 by decide), if_neg (show ¬ (20 : Int32) = 3 by decide), if_neg (show ¬ (20 : Int32) = 5 by decide), if_neg (show ¬ (20 : Int32) = 2 by decide), if_pos (show (10 : Int32) ≤ 20 by decide), if_pos (show (20 : Int32) ≤ 20 by decide), if_pos rfl, nI_pred, if_pos (show (0 : Int32) ≤ nI m ∧ nI m < 330 from ib (n := 330) rfl hm (by omega)), if_pos (show (0 : Int32) ≤ nI m ∧ nI m < 330 from ib (n := 330) rfl hm (by omega)), if_pos (show (0 : Int32) ≤ nI m ∧ nI m < 330 from ib (n := 330) rfl hm (by omega)), nI_clamp (show m < 2 ^ 31 by omega), nI_1]
  by_cases c : I 339 m = 0
  · rw [if_pos c, if_pos c]
  · rw [if_neg c, if_neg c]
theorem ms_join {fu f xx b e n m i : Nat} {x1 x2 w r : Int32} {I : TI} {L : TL} (h : MC I xx b e) (hi : i < e) (hm : m + 2 ≤ 330) (hop : I 334 (b + 2 * i) = w) (hw : w = 21 ∨ w = 22) (hr : FO_M_joined fu w (I 339 m) (I 339 (m + 1)) I L = some (r, I, L)) (hr2 : r = 0 ∨ r = 1) :
    LO_M_summedUp_38 fu (f + 1) x1 x2 (nI xx) (nI b) (nI n) (nI (m + 2)) (nI i) I L = LO_M_summedUp_38 fu f x1 x2 (nI xx) (nI b) (nI n) (nI (m + 1)) (nI (i + 1)) (sI I 339 m r) L := by
  obtain ⟨h1, h2, h3, h4⟩ := h
  rw [LO_M_summedUp_38, show nI xx + 2 = nI (xx + 2) from nI_add xx 2, if_pos (show (0 : Int32) ≤ nI (xx + 2) ∧ nI (xx + 2) < 2724 from ib (n := 2724) rfl h1 (by omega)), nI_clamp (show xx + 2 < 2 ^ 31 by omega), h4, if_neg (show ¬ nI e ≤ nI i from nI_ge hi (by omega)), show nI b + 2 * nI i = nI (b + 2 * i) from by rw [show (2 : Int32) = nI 2 from rfl, pk_mul, nI_add], if_pos (show (0 : Int32) ≤ nI (b + 2 * i) ∧ nI (b + 2 * i) < 2724 from ib (n := 2724) rfl (by omega) (by omega)), show nI (b + 2 * i) + 1 = nI (b + 2 * i + 1) from nI_1 .., if_pos (show (0 : Int32) ≤ nI (b + 2 * i + 1) ∧ nI (b + 2 * i + 1) < 2724 from ib (n := 2724) rfl (by omega) (by omega)), nI_clamp (show b + 2 * i < 2 ^ 31 by omega), nI_clamp (show b + 2 * i + 1 < 2 ^ 31 by omega)]
  have w1 : (1 : Int32) < w := by grind
  have w3 : ¬ w = 3 := by grind
  have w5 : ¬ w = 5 := by grind
  have w2 : ¬ w = 2 := by grind
  have w10 : (10 : Int32) ≤ w := by grind
  have w20 : (20 : Int32) ≤ w := by grind
  have w20' : ¬ w = 20 := by grind
  rw [hop, if_pos w1, if_neg w3, if_neg w5, if_neg w2, if_pos w10, if_pos w20, if_neg w20', nI_dec (m + 1), nI_pred, if_pos (show (0 : Int32) ≤ nI m ∧ nI m < 330 from ib (n := 330) rfl (by omega) (by omega)), if_pos (show (0 : Int32) ≤ nI (m + 1) ∧ nI (m + 1) < 330 from ib (n := 330) rfl (by omega) (by omega)), nI_clamp (show m < 2 ^ 31 by omega), nI_clamp (show m + 1 < 2 ^ 31 by omega), hr]
  simp only [Option.bind_some]
  rw [if_pos (show (0 : Int32) ≤ nI m ∧ nI m < 330 from ib (n := 330) rfl (by omega) (by omega)), if_pos hr2, nI_1]
theorem ms_end {fu f xx b e n m i : Nat} {x1 x2 : Int32} {I : TI} {L : TL} (h : MC I xx b e) (hi : e ≤ i) (hi2 : i ≤ 1000) :
    LO_M_summedUp_38 fu (f + 1) x1 x2 (nI xx) (nI b) (nI n) (nI m) (nI i) I L = some (L 338 0, I, L) := by
  obtain ⟨h1, h2, h3, h4⟩ := h
  rw [LO_M_summedUp_38, show nI xx + 2 = nI (xx + 2) from nI_add xx 2, if_pos (show (0 : Int32) ≤ nI (xx + 2) ∧ nI (xx + 2) < 2724 from ib (n := 2724) rfl h1 (by omega)), nI_clamp (show xx + 2 < 2 ^ 31 by omega), h4, if_pos (show nI e ≤ nI i from nI_le hi (by omega))]
