/-! whole numbers in ints and longs -/
def iZ (v : Int) : Int32 := Int32.ofInt v
def lZ (v : Int) : Int64 := Int64.ofInt v
def bq (v : Int) : Prop := -2100000 ≤ v ∧ v ≤ 2100000
def bz (v : Int) : Prop := -1000000 ≤ v ∧ v ≤ 1000000
def bl (v : Int) : Prop := -4000000000000 ≤ v ∧ v ≤ 4000000000000
theorem bz.q {v : Int} (h : bz v) : bq v := by unfold bz at h; unfold bq; omega
theorem bq.l {v : Int} (h : bq v) : bl v := by unfold bq at h; unfold bl; omega
theorem iZ_t {v : Int} (h : bq v) : (iZ v).toInt = v := by
  unfold bq at h
  exact Int32.toInt_ofInt_of_le (by omega) (by omega)
theorem lZ_t {v : Int} (h : bl v) : (lZ v).toInt = v := by
  unfold bl at h
  exact Int64.toInt_ofInt_of_le (by omega) (by omega)
theorem iZ_lt {a b : Int} (ha : bq a) (hb : bq b) : iZ a < iZ b ↔ a < b := by rw [Int32.lt_iff_toInt_lt, iZ_t ha, iZ_t hb]
theorem iZ_le {a b : Int} (ha : bq a) (hb : bq b) : iZ a ≤ iZ b ↔ a ≤ b := by rw [Int32.le_iff_toInt_le, iZ_t ha, iZ_t hb]
theorem iZ_eq {a b : Int} (ha : bq a) (hb : bq b) : iZ a = iZ b ↔ a = b := by rw [← Int32.toInt_inj, iZ_t ha, iZ_t hb]
theorem lZ_lt {a b : Int} (ha : bl a) (hb : bl b) : lZ a < lZ b ↔ a < b := by rw [Int64.lt_iff_toInt_lt, lZ_t ha, lZ_t hb]
theorem lZ_le {a b : Int} (ha : bl a) (hb : bl b) : lZ a ≤ lZ b ↔ a ≤ b := by rw [Int64.le_iff_toInt_le, lZ_t ha, lZ_t hb]
theorem lZ_eq {a b : Int} (ha : bl a) (hb : bl b) : lZ a = lZ b ↔ a = b := by rw [← Int64.toInt_inj, lZ_t ha, lZ_t hb]
theorem iZ_add (a b : Int) : iZ a + iZ b = iZ (a + b) := (Int32.ofInt_add a b).symm
theorem iZ_sub (a b : Int) : iZ a - iZ b = iZ (a - b) := (Int32.ofInt_sub a b).symm
theorem iZ_mul (a b : Int) : iZ a * iZ b = iZ (a * b) := (Int32.ofInt_mul a b).symm
theorem iZ_neg (a : Int) : -iZ a = iZ (-a) := (Int32.ofInt_neg a).symm
theorem lZ_add (a b : Int) : lZ a + lZ b = lZ (a + b) := (Int64.ofInt_add a b).symm
theorem lZ_sub (a b : Int) : lZ a - lZ b = lZ (a - b) := (Int64.ofInt_sub a b).symm
theorem lZ_mul (a b : Int) : lZ a * lZ b = lZ (a * b) := (Int64.ofInt_mul a b).symm
theorem lZ_neg (a : Int) : -lZ a = lZ (-a) := (Int64.ofInt_neg a).symm
theorem i_mn : Int32.minValue.toInt = -2147483648 := by decide
theorem i_mx : Int32.maxValue.toInt = 2147483647 := by decide
theorem j_mn : Int64.minValue.toInt = -9223372036854775808 := by decide
theorem j_mx : Int64.maxValue.toInt = 9223372036854775807 := by decide
theorem iZ_div {a b : Int} (ha : bq a) (hb : bq b) : iZ a / iZ b = iZ (a.tdiv b) := by
  unfold bq at ha hb
  exact (Int32.ofInt_tdiv (by rw [i_mn]; omega) (by rw [i_mx]; omega) (by rw [i_mn]; omega) (by rw [i_mx]; omega)).symm
theorem lZ_div {a b : Int} (ha : bl a) (hb : bl b) : lZ a / lZ b = lZ (a.tdiv b) := by
  unfold bl at ha hb
  exact (Int64.ofInt_tdiv (by rw [j_mn]; omega) (by rw [j_mx]; omega) (by rw [j_mn]; omega) (by rw [j_mx]; omega)).symm
theorem iZ_rem {a b : Int} (ha : bq a) (hb : bq b) : iR (iZ a) (iZ b) = iZ (a.tmod b) := by
  unfold iR
  rw [iZ_div ha hb, iZ_mul, iZ_sub, Int.tmod_def, Int.mul_comm]
theorem lZ_rem {a b : Int} (ha : bl a) (hb : bl b) : lR (lZ a) (lZ b) = lZ (a.tmod b) := by
  unfold lR
  rw [lZ_div ha hb, lZ_mul, lZ_sub, Int.tmod_def, Int.mul_comm]
theorem iZ_64 {a : Int} (ha : bq a) : (iZ a).toInt64 = lZ a := by
  unfold bq at ha
  exact Int32.toInt64_ofInt (by rw [i_mn]; omega) (by rw [i_mx]; omega)
theorem lZ_32 (a : Int) : (lZ a).toInt32 = iZ a := Int64.toInt32_ofInt
theorem nI_Z (n : Nat) : nI n = iZ (n : Int) := (Int32.ofInt_eq_ofNat).symm
theorem zl0 : (0 : Int64) = lZ 0 := rfl
theorem zl1 : (1 : Int64) = lZ 1 := rfl
theorem zlm : (1000000 : Int64) = lZ 1000000 := by decide
theorem zlM : (-1000000 : Int64) = lZ (-1000000) := by decide
theorem zi0 : (0 : Int32) = iZ 0 := rfl
theorem zim : (1000000 : Int32) = iZ 1000000 := by decide
theorem ziM : (-1000000 : Int32) = iZ (-1000000) := by decide
theorem lc_ge (x y : Int64) : 0 ≤ lg_cmp x y ↔ y ≤ x := by unfold lg_cmp; grind
theorem lc_eq (x y : Int64) : lg_cmp x y = 0 ↔ x = y := by unfold lg_cmp; grind
theorem bq_c {v : Int} (h1 : -2100000 ≤ v) (h2 : v ≤ 2100000) : bq v := ⟨h1, h2⟩
theorem jminZ {I : TI} {a b : Int} (ha : bq a) (hb : bq b) : F_J_min I (iZ a) (iZ b) = iZ (min a b) := by
  unfold F_J_min
  by_cases h : b < a
  · rw [if_pos ((iZ_lt hb ha).mpr h), show min a b = b by omega]
  · rw [if_neg (fun z => h ((iZ_lt hb ha).mp z)), show min a b = a by omega]
theorem jmaxZ {I : TI} {a b : Int} (ha : bq a) (hb : bq b) : F_J_max I (iZ a) (iZ b) = iZ (max a b) := by
  unfold F_J_max
  by_cases h : a < b
  · rw [if_pos ((iZ_lt ha hb).mpr h), show max a b = b by omega]
  · rw [if_neg (fun z => h ((iZ_lt ha hb).mp z)), show max a b = a by omega]
theorem jabsZ {I : TI} {a : Int} (ha : bq a) : F_J_abs I (iZ a) = iZ (a.natAbs : Int) := by
  unfold F_J_abs
  by_cases h : 0 ≤ a
  · rw [if_pos (show (0 : Int32) ≤ iZ a from (iZ_le (a := 0) ⟨by omega, by omega⟩ ha).mpr h), show (a.natAbs : Int) = a by omega]
  · rw [if_neg (show ¬ (0 : Int32) ≤ iZ a from fun z => h ((iZ_le (a := 0) ⟨by omega, by omega⟩ ha).mp z)), iZ_neg, show (a.natAbs : Int) = -a by omega]
theorem jminL {I : TI} {a b : Int} (ha : bl a) (hb : bl b) : F_J_minL I (lZ a) (lZ b) = lZ (min a b) := by
  unfold F_J_minL
  by_cases h : b < a
  · rw [if_pos ((lc_gt _ _).mpr ((lZ_lt hb ha).mpr h)), show min a b = b by omega]
  · rw [if_neg (fun z => h ((lZ_lt hb ha).mp ((lc_gt _ _).mp z))), show min a b = a by omega]
theorem jmaxL {I : TI} {a b : Int} (ha : bl a) (hb : bl b) : F_J_maxL I (lZ a) (lZ b) = lZ (max a b) := by
  unfold F_J_maxL
  by_cases h : a < b
  · rw [if_pos ((lc_lt _ _).mpr ((lZ_lt ha hb).mpr h)), show max a b = b by omega]
  · rw [if_neg (fun z => h ((lZ_lt ha hb).mp ((lc_lt _ _).mp z))), show max a b = a by omega]
/-- cut to what a law can count -/
def cl (v : Int) : Int := max (-1000000) (min v 1000000)
theorem cl_b (v : Int) : bz (cl v) := by unfold cl bz; omega
theorem cl_of {v : Int} (h : bz v) : cl v = v := by unfold cl; unfold bz at h; omega
theorem mclip {fu : Nat} {v : Int} {I : TI} {L : TL} (h : bl v) : FO_M_clip fu (lZ v) I L = some (lZ (cl v), I, L) := by
  unfold FO_M_clip
  have b1 : bl 1000000 := by unfold bl; omega
  have b2 : bl (-1000000) := by unfold bl; omega
  rw [zlM, zlm]
  by_cases h1 : v ≤ 1000000
  · rw [if_pos ((lc_le _ _).mpr ((lZ_le h b1).mpr h1))]
    by_cases h2 : -1000000 ≤ v
    · rw [if_pos ((lc_ge _ _).mpr ((lZ_le b2 h).mpr h2)), show cl v = v by unfold cl; omega]
    · rw [if_neg (fun z => h2 ((lZ_le b2 h).mp ((lc_ge _ _).mp z))), show cl v = -1000000 by unfold cl; omega]
  · rw [if_neg (fun z => h1 ((lZ_le h b1).mp ((lc_le _ _).mp z))), show cl v = 1000000 by unfold cl; omega]
theorem bz_mul {a b : Int} (ha : bz a) (hb : bz b) : bl (a * b) := by
  unfold bz at ha hb
  have e : (a * b).natAbs = a.natAbs * b.natAbs := Int.natAbs_mul a b
  have h : a.natAbs * b.natAbs ≤ 1000000 * 1000000 := Nat.mul_le_mul (by omega) (by omega)
  unfold bl
  omega
theorem bz_div {a b : Int} (ha : bz a) : bz (a.tdiv b) := by
  have := Int.natAbs_tdiv_le_natAbs a b
  unfold bz at *
  omega
/-- how near a number is to a round one -/
def nea (a b : Int) : Int := if b = 0 then (a.natAbs : Int) else min ((a.natAbs % b.natAbs : Nat) : Int) ((b.natAbs : Int) - ((a.natAbs % b.natAbs : Nat) : Int))
theorem nea_b {a b : Int} (ha : bz a) (hb : bz b) : bz (nea a b) := by
  unfold nea
  unfold bz at *
  by_cases h : b = 0
  · rw [if_pos h]; omega
  · rw [if_neg h]
    have := Nat.mod_lt a.natAbs (show 0 < b.natAbs by omega)
    omega
/-- an instruction for two numbers, by the class's number of it -/
def jn (w : Nat) (a b : Int) : Int := if w = 14 then cl (a + b) else if w = 15 then cl (a - b) else if w = 16 then cl (a * b) else if w = 17 then (if b = 0 then 0 else a.tdiv b) else nea a b
theorem jn_b {w : Nat} {a b : Int} (ha : bz a) (hb : bz b) : bz (jn w a b) := by
  unfold jn
  split
  · exact cl_b _
  split
  · exact cl_b _
  split
  · exact cl_b _
  split
  · split
    · unfold bz; omega
    · exact bz_div ha
  · exact nea_b ha hb
theorem wj_14 {fu : Nat} {a b : Int} {I : TI} {L : TL} (ha : bz a) (hb : bz b) : FO_W_join fu 14 (iZ a) (iZ b) I L = some (iZ (jn 14 a b), I, L) := by
  unfold FO_W_join
  simp +decide only [↓reduceIte]
  unfold bz at ha hb
  rw [ziM, zim, iZ_add, jminZ (by unfold bq; omega) (by unfold bq; omega), jmaxZ (by unfold bq; omega) (by unfold bq; omega)]
  rfl
theorem wj_15 {fu : Nat} {a b : Int} {I : TI} {L : TL} (ha : bz a) (hb : bz b) : FO_W_join fu 15 (iZ a) (iZ b) I L = some (iZ (jn 15 a b), I, L) := by
  unfold FO_W_join
  simp +decide only [↓reduceIte]
  unfold bz at ha hb
  rw [ziM, zim, iZ_sub, jminZ (by unfold bq; omega) (by unfold bq; omega), jmaxZ (by unfold bq; omega) (by unfold bq; omega)]
  rfl
theorem wj_16 {fu : Nat} {a b : Int} {I : TI} {L : TL} (ha : bz a) (hb : bz b) : FO_W_join fu 16 (iZ a) (iZ b) I L = some (iZ (jn 16 a b), I, L) := by
  unfold FO_W_join
  simp +decide only [↓reduceIte]
  have hm := bz_mul ha hb
  rw [iZ_64 ha.q, iZ_64 hb.q, zlM, zlm, lZ_mul, jminL hm (by unfold bl; omega), jmaxL (by unfold bl; omega) (by unfold bl at *; omega), lZ_32]
  rfl
theorem wj_17 {fu : Nat} {a b : Int} {I : TI} {L : TL} (ha : bz a) (hb : bz b) : FO_W_join fu 17 (iZ a) (iZ b) I L = some (iZ (jn 17 a b), I, L) := by
  unfold FO_W_join
  simp +decide only [↓reduceIte]
  unfold jn
  simp +decide only [↓reduceIte]
  by_cases h : b = 0
  · subst h
    rw [if_pos (show iZ 0 = (0 : Int32) from rfl), if_pos rfl]
    rfl
  · have hn : ¬ iZ b = (0 : Int32) := fun z => h ((iZ_eq (b := 0) hb.q (by unfold bq; omega)).mp z)
    rw [if_neg hn, if_pos hn, if_neg h, iZ_div ha.q hb.q]
theorem wj_45 {fu : Nat} {a b : Int} {I : TI} {L : TL} (ha : bz a) (hb : bz b) : FO_W_join fu 45 (iZ a) (iZ b) I L = some (iZ (jn 45 a b), I, L) := by
  unfold FO_W_join
  simp +decide only [↓reduceIte]
  unfold jn nea
  simp +decide only [↓reduceIte]
  by_cases h : b = 0
  · subst h
    rw [if_pos (show iZ 0 = (0 : Int32) from rfl), if_pos (show iZ 0 = (0 : Int32) from rfl), if_pos rfl, jabsZ ha.q]
  · have hn : ¬ iZ b = (0 : Int32) := fun z => h ((iZ_eq (b := 0) hb.q (by unfold bq; omega)).mp z)
    have hm : (a.tmod b).natAbs = a.natAbs % b.natAbs := Int.natAbs_tmod a b
    have hl := Nat.mod_lt a.natAbs (show 0 < b.natAbs by omega)
    unfold bz at ha hb
    have qa : bq a := by unfold bq; omega
    have qb : bq b := by unfold bq; omega
    have qm : bq (a.tmod b) := by unfold bq; omega
    rw [if_neg hn, if_pos hn, if_neg hn, if_neg h, iZ_rem qa qb, jabsZ qm, jabsZ qb, iZ_sub, hm, jminZ (by unfold bq; omega) (by unfold bq; omega)]
/-- the model's number of such an instruction -/
def mop (w : Nat) : Nat := if w = 14 then 6 else if w = 15 then 7 else if w = 16 then 8 else if w = 17 then 9 else 4
theorem mt_14 {fu : Nat} {a b : Int} {I : TI} {L : TL} (ha : bz a) (hb : bz b) : FO_M_two fu 6 (lZ a) (lZ b) I L = some (lZ (jn 14 a b), I, L) := by
  unfold FO_M_two
  simp +decide only [↓reduceIte]
  unfold bz at ha hb
  rw [lZ_add, mclip (by unfold bl; omega)]
  rfl
theorem mt_15 {fu : Nat} {a b : Int} {I : TI} {L : TL} (ha : bz a) (hb : bz b) : FO_M_two fu 7 (lZ a) (lZ b) I L = some (lZ (jn 15 a b), I, L) := by
  unfold FO_M_two
  simp +decide only [↓reduceIte]
  unfold bz at ha hb
  rw [lZ_sub, mclip (by unfold bl; omega)]
  rfl
theorem mt_16 {fu : Nat} {a b : Int} {I : TI} {L : TL} (ha : bz a) (hb : bz b) : FO_M_two fu 8 (lZ a) (lZ b) I L = some (lZ (jn 16 a b), I, L) := by
  unfold FO_M_two
  simp +decide only [↓reduceIte]
  rw [lZ_mul, mclip (bz_mul ha hb)]
  rfl
theorem mt_17 {fu : Nat} {a b : Int} {I : TI} {L : TL} (ha : bz a) (hb : bz b) : FO_M_two fu 9 (lZ a) (lZ b) I L = some (lZ (jn 17 a b), I, L) := by
  unfold FO_M_two
  simp +decide only [↓reduceIte]
  unfold jn
  simp +decide only [↓reduceIte]
  by_cases h : b = 0
  · subst h
    rw [if_pos (show lg_cmp (lZ 0) 0 = 0 by decide), if_pos rfl]
    rfl
  · have hn : ¬ lZ b = (0 : Int64) := fun z => h ((lZ_eq (b := 0) hb.q.l (by unfold bl; omega)).mp z)
    rw [if_neg (fun z => hn ((lc_eq _ _).mp z)), if_pos hn, if_neg h, lZ_div ha.q.l hb.q.l, mclip (bz_div ha).q.l, cl_of (bz_div ha)]
    rfl
theorem msize {fu : Nat} {a : Int} {I : TI} {L : TL} (ha : bl a) : FO_M_size fu (lZ a) I L = some (lZ (a.natAbs : Int), I, L) := by
  unfold FO_M_size
  by_cases h : 0 ≤ a
  · rw [if_pos (show 0 ≤ lg_cmp (lZ a) 0 from (lc_ge _ _).mpr ((lZ_le (a := 0) (by unfold bl; omega) ha).mpr h)), show (a.natAbs : Int) = a by omega]
  · rw [if_neg (show ¬ 0 ≤ lg_cmp (lZ a) 0 from fun z => h ((lZ_le (a := 0) (by unfold bl; omega) ha).mp ((lc_ge _ _).mp z))), lZ_neg, show (a.natAbs : Int) = -a by omega]
theorem mt_45 {fu : Nat} {a b : Int} {I : TI} {L : TL} (ha : bz a) (hb : bz b) : FO_M_nearOf fu (lZ a) (lZ b) I L = some (lZ (jn 45 a b), I, L) := by
  unfold FO_M_nearOf
  unfold jn nea
  simp +decide only [↓reduceIte]
  by_cases h : b = 0
  · subst h
    rw [if_pos (show lg_cmp (lZ 0) 0 = 0 by decide), if_pos rfl, msize ha.q.l]
    rfl
  · have hn : ¬ lZ b = (0 : Int64) := fun z => h ((lZ_eq (b := 0) hb.q.l (by unfold bl; omega)).mp z)
    rw [if_neg (fun z => hn ((lc_eq _ _).mp z)), msize hb.q.l, if_neg h]
    simp only [Option.bind_some]
    rw [msize ha.q.l]
    simp only [Option.bind_some]
    have hl := Nat.mod_lt a.natAbs (show 0 < b.natAbs by omega)
    unfold bz at ha hb
    have b1 : bl (b.natAbs : Int) := by unfold bl; omega
    have b2 : bl (a.natAbs : Int) := by unfold bl; omega
    have hn2 : ¬ lZ (b.natAbs : Int) = (0 : Int64) := fun z => by
      have := (lZ_eq (b := 0) b1 (by unfold bl; omega)).mp z
      omega
    have et : ((a.natAbs : Int)).tmod (b.natAbs : Int) = ((a.natAbs % b.natAbs : Nat) : Int) := rfl
    rw [if_pos hn2, lZ_rem b2 b1, et, lZ_sub]
    have b3 : bl ((a.natAbs % b.natAbs : Nat) : Int) := by unfold bl; omega
    have b4 : bl ((b.natAbs : Int) - ((a.natAbs % b.natAbs : Nat) : Int)) := by unfold bl; omega
    by_cases c : (b.natAbs : Int) - ((a.natAbs % b.natAbs : Nat) : Int) ≤ ((a.natAbs % b.natAbs : Nat) : Int)
    · rw [if_pos ((lc_ge _ _).mpr ((lZ_le b4 b3).mpr c))]
      exact congrArg (fun y => some (lZ y, I, L)) (by omega)
    · rw [if_neg (fun z => c ((lZ_le b4 b3).mp ((lc_ge _ _).mp z)))]
      exact congrArg (fun y => some (lZ y, I, L)) (by omega)
/-- a comparison, by the class's number of it -/
def cq (w : Nat) (a b : Int) : Bool := if w = 3 then decide (a ≤ b) else if w = 4 then decide (b ≤ a) else if w = 10 then decide (a < b) else if w = 11 then decide (b < a) else if w = 12 then decide (a = b) else decide (¬ a = b)
def tB (w : Bool) : Int32 := if w then 1 else 0
def mcq (w : Nat) : Nat := if w = 3 then 11 else if w = 4 then 13 else if w = 10 then 10 else if w = 11 then 12 else if w = 12 then 14 else 15
theorem wc {fu w : Nat} {a b : Int} {I : TI} {L : TL} (hw : w = 3 ∨ w = 4 ∨ w = 10 ∨ w = 11 ∨ w = 12 ∨ w = 13) (ha : bz a) (hb : bz b) : FO_W_join fu (nI w) (iZ a) (iZ b) I L = some (tB (cq w a b), I, L) := by
  have qa := ha.q
  have qb := hb.q
  unfold FO_W_join
  rcases hw with rfl | rfl | rfl | rfl | rfl | rfl
  · rw [if_pos (show nI 3 = 3 from rfl)]
    by_cases h : b < a
    · rw [if_pos ((iZ_lt qb qa).mpr h)]; simp [cq, tB, h]
    · rw [if_neg (fun z => h ((iZ_lt qb qa).mp z))]; simp [cq, tB, Int.not_lt.mp h]
  · rw [if_neg (show ¬ nI 4 = 3 by decide), if_pos (show nI 4 = 4 from rfl)]
    by_cases h : a < b
    · rw [if_pos ((iZ_lt qa qb).mpr h)]; simp [cq, tB, h]
    · rw [if_neg (fun z => h ((iZ_lt qa qb).mp z))]; simp [cq, tB, Int.not_lt.mp h]
  · rw [if_neg (show ¬ nI 10 = 3 by decide), if_neg (show ¬ nI 10 = 4 by decide), if_pos (show nI 10 = 10 from rfl)]
    by_cases h : b ≤ a
    · rw [if_pos ((iZ_le qb qa).mpr h)]; simp [cq, tB, Int.not_lt.mpr h]
    · rw [if_neg (fun z => h ((iZ_le qb qa).mp z))]; simp [cq, tB, Int.not_le.mp h]
  · rw [if_neg (show ¬ nI 11 = 3 by decide), if_neg (show ¬ nI 11 = 4 by decide), if_neg (show ¬ nI 11 = 10 by decide), if_pos (show nI 11 = 11 from rfl)]
    by_cases h : a ≤ b
    · rw [if_pos ((iZ_le qa qb).mpr h)]; simp [cq, tB, Int.not_lt.mpr h]
    · rw [if_neg (fun z => h ((iZ_le qa qb).mp z))]; simp [cq, tB, Int.not_le.mp h]
  · rw [if_neg (show ¬ nI 12 = 3 by decide), if_neg (show ¬ nI 12 = 4 by decide), if_neg (show ¬ nI 12 = 10 by decide), if_neg (show ¬ nI 12 = 11 by decide), if_pos (show nI 12 = 12 from rfl)]
    by_cases h : a = b
    · rw [if_pos ((iZ_eq qa qb).mpr h)]; simp [cq, tB, h]
    · rw [if_neg (fun z => h ((iZ_eq qa qb).mp z))]; simp [cq, tB, h]
  · rw [if_neg (show ¬ nI 13 = 3 by decide), if_neg (show ¬ nI 13 = 4 by decide), if_neg (show ¬ nI 13 = 10 by decide), if_neg (show ¬ nI 13 = 11 by decide), if_neg (show ¬ nI 13 = 12 by decide), if_neg (show ¬ nI 13 = 14 by decide), if_neg (show ¬ nI 13 = 15 by decide), if_neg (show ¬ nI 13 = 16 by decide), if_neg (show ¬ nI 13 = 17 by decide), if_neg (show ¬ nI 13 = 45 by decide), if_neg (show ¬ nI 13 = 51 by decide), if_neg (show ¬ nI 13 = 52 by decide)]
    by_cases h : a = b
    · rw [if_pos ((iZ_eq qa qb).mpr h)]; simp [cq, tB, h]
    · rw [if_neg (fun z => h ((iZ_eq qa qb).mp z))]; simp [cq, tB, h]
theorem mcmp {fu w : Nat} {a b : Int} {I : TI} {L : TL} (hw : w = 3 ∨ w = 4 ∨ w = 10 ∨ w = 11 ∨ w = 12 ∨ w = 13) (ha : bz a) (hb : bz b) : FO_M_isAsked fu (nI (mcq w)) (lZ a) (lZ b) I L = some (tB (cq w a b), I, L) := by
  have qa := ha.q.l
  have qb := hb.q.l
  unfold FO_M_isAsked
  rcases hw with rfl | rfl | rfl | rfl | rfl | rfl
  · rw [if_neg (show ¬ nI (mcq 3) = 10 by decide), if_pos (show nI (mcq 3) = 11 by decide)]
    by_cases h : b < a
    · rw [if_pos ((lc_gt _ _).mpr ((lZ_lt qb qa).mpr h))]; simp [cq, tB, h]
    · rw [if_neg (fun z => h ((lZ_lt qb qa).mp ((lc_gt _ _).mp z)))]; simp [cq, tB, Int.not_lt.mp h]
  · rw [if_neg (show ¬ nI (mcq 4) = 10 by decide), if_neg (show ¬ nI (mcq 4) = 11 by decide), if_neg (show ¬ nI (mcq 4) = 12 by decide), if_pos (show nI (mcq 4) = 13 by decide)]
    by_cases h : a < b
    · rw [if_pos ((lc_lt _ _).mpr ((lZ_lt qa qb).mpr h))]; simp [cq, tB, h]
    · rw [if_neg (fun z => h ((lZ_lt qa qb).mp ((lc_lt _ _).mp z)))]; simp [cq, tB, Int.not_lt.mp h]
  · rw [if_pos (show nI (mcq 10) = 10 by decide)]
    by_cases h : b ≤ a
    · rw [if_pos ((lc_ge _ _).mpr ((lZ_le qb qa).mpr h))]; simp [cq, tB, Int.not_lt.mpr h]
    · rw [if_neg (fun z => h ((lZ_le qb qa).mp ((lc_ge _ _).mp z)))]; simp [cq, tB, Int.not_le.mp h]
  · rw [if_neg (show ¬ nI (mcq 11) = 10 by decide), if_neg (show ¬ nI (mcq 11) = 11 by decide), if_pos (show nI (mcq 11) = 12 by decide)]
    by_cases h : a ≤ b
    · rw [if_pos ((lc_le _ _).mpr ((lZ_le qa qb).mpr h))]; simp [cq, tB, Int.not_lt.mpr h]
    · rw [if_neg (fun z => h ((lZ_le qa qb).mp ((lc_le _ _).mp z)))]; simp [cq, tB, Int.not_le.mp h]
  · rw [if_neg (show ¬ nI (mcq 12) = 10 by decide), if_neg (show ¬ nI (mcq 12) = 11 by decide), if_neg (show ¬ nI (mcq 12) = 12 by decide), if_neg (show ¬ nI (mcq 12) = 13 by decide), if_pos (show nI (mcq 12) = 14 by decide)]
    by_cases h : a = b
    · rw [if_pos ((lc_eq _ _).mpr ((lZ_eq qa qb).mpr h))]; simp [cq, tB, h]
    · rw [if_neg (fun z => h ((lZ_eq qa qb).mp ((lc_eq _ _).mp z)))]; simp [cq, tB, h]
  · rw [if_neg (show ¬ nI (mcq 13) = 10 by decide), if_neg (show ¬ nI (mcq 13) = 11 by decide), if_neg (show ¬ nI (mcq 13) = 12 by decide), if_neg (show ¬ nI (mcq 13) = 13 by decide), if_neg (show ¬ nI (mcq 13) = 14 by decide)]
    by_cases h : a = b
    · rw [if_pos ((lc_eq _ _).mpr ((lZ_eq qa qb).mpr h))]; simp [cq, tB, h]
    · rw [if_neg (fun z => h ((lZ_eq qa qb).mp ((lc_eq _ _).mp z)))]; simp [cq, tB, h]
/-- whether a stair has a cup, for a law -/
def cuv (cu : Int32) (a : Int) : Int := if 1 ≤ a ∧ a ≤ 12 then (if (cu >>> (iZ a &&& 31)) &&& 1 = 1 then 1 else 0) else 0
theorem cuv_b (cu : Int32) (a : Int) : bz (cuv cu a) := by unfold cuv bz; split <;> (try split) <;> omega
theorem wt_cup {fu : Nat} {a : Int} {cu : Int32} {I : TI} {L : TL} (ha : bz a) (hc : I 319 2 = cu) : FO_W_turn fu 46 (iZ a) I L = some (iZ (cuv cu a), I, L) := by
  unfold FO_W_turn cuv
  simp +decide only [↓reduceIte]
  rw [hc]
  have e1 : (1 : Int32) ≤ iZ a ↔ 1 ≤ a := iZ_le (a := 1) (by unfold bq; omega) ha.q
  have e2 : iZ a ≤ (12 : Int32) ↔ a ≤ 12 := iZ_le (b := 12) ha.q (by unfold bq; omega)
  by_cases h : 1 ≤ a ∧ a ≤ 12
  · rw [if_pos ⟨e1.mpr h.1, e2.mpr h.2⟩, if_pos h]
    rcases and1 (cu >>> (iZ a &&& 31)) with z | z
    · rw [z, if_neg (by decide)]; rfl
    · rw [z, if_pos (by decide)]; rfl
  · rw [if_neg (fun z => h ⟨e1.mp z.1, e2.mp z.2⟩), if_neg h]; rfl
theorem mt_cup {fu : Nat} {a : Int} {cu : Int32} {I : TI} {L : TL} (ha : bz a) (hc : I 332 10 = cu) : FO_M_cupOf fu (lZ a) I L = some (lZ (cuv cu a), I, L) := by
  unfold FO_M_cupOf cuv
  have b1 : bl 1 := by unfold bl; omega
  have b12 : bl 12 := by unfold bl; omega
  have e1 : lg_cmp (lZ a) 1 < 0 ↔ a < 1 := (lc_lt _ _).trans (lZ_lt ha.q.l b1)
  have e2 : 0 < lg_cmp (lZ a) 12 ↔ 12 < a := (lc_gt _ _).trans (lZ_lt b12 ha.q.l)
  by_cases h1 : a < 1
  · rw [if_pos (e1.mpr h1), if_neg (by omega)]; rfl
  · rw [if_neg (fun z => h1 (e1.mp z))]
    by_cases h2 : 12 < a
    · rw [if_pos (e2.mpr h2), if_neg (by omega)]; rfl
    · rw [if_neg (fun z => h2 (e2.mp z)), if_pos (by omega), lZ_32]
      have f1 : (1 : Int32) ≤ iZ a := (iZ_le (a := 1) (by unfold bq; omega) ha.q).mpr (by omega)
      have f2 : iZ a ≤ (12 : Int32) := (iZ_le (b := 12) ha.q (by unfold bq; omega)).mpr (by omega)
      unfold FO_M_hasCup FO_M_has
      rw [if_pos ⟨f1, f2⟩, hc]
      by_cases z : (cu >>> (iZ a &&& 31)) &&& 1 = 1
      · rw [if_pos z, if_pos z]; rfl
      · rw [if_neg z, if_neg z]; rfl
