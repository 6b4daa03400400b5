/-! CONSTRUCTORS: the first n cells of the final shape, os the cells that nothing shows yet -/
def slt : Nat → Nat
  | 0 => 0
  | n + 1 => slt n + (K0 n).2
def cutK (n : Nat) : Nat → Nat × Nat := fun o => bif Nat.blt o n then K0 o else (0, 0)
def RD (n : Nat) (os : List Nat) : Nat → Nat → Option Nat := fun o k => (R0 o k).bind (fun q => if q < n ∧ ¬ q ∈ os then some q else none)
abbrev HN (n : Nat) (os : List Nat) (I : Nat → Nat → Int32) (X : Nat × (Nat → Int32)) : PH := (n, slt n, cutK n, I, fun _ _ => 0, RD n os, X)
def Zf (n : Nat) (I : Nat → Nat → Int32) : Prop := ∀ o, n ≤ o → I o = fun _ => 0
theorem Zn {n : Nat} {I : Nat → Nat → Int32} (h : Zf n I) : Zf (n + 1) I := fun o ho => h o (by omega)
theorem Zv {n o : Nat} {f : Nat → Int32} {I : Nat → Nat → Int32} (ho : o < n) (h : Zf n I) : Zf n (va_up I o f) := fun p hp => by
  have : ¬ p = o := by omega
  unfold va_up
  rw [if_neg this]
  exact h p hp
theorem Zs {n o k : Nat} {v : Int32} {I : Nat → Nat → Int32} (ho : o < n) (h : Zf n I) : Zf n (sI I o k v) := Zv ho h
theorem cutk {n o : Nat} {x : Nat × Nat} (h : o < n) (k : K0 o = x) : (cutK n o).1 = x.1 := by
  unfold cutK
  rw [show Nat.blt o n = true from Nat.ble_eq.mpr h]
  exact congrArg Prod.fst k
theorem RX_k {k q : Nat} (h : RX k = some q) : k < 34 := by
  unfold RX at h
  split at h <;> first | omega | (simp at h; done)
theorem RM_k {k q : Nat} (h : RM k = some q) : k < 34 := by
  unfold RM at h
  split at h <;> first | omega | (simp at h; done)
theorem RT_k {o k q : Nat} (h : RT o k = some q) : k < 34 := by
  unfold RT at h
  split at h <;> first | omega | (simp at h; done)
theorem RS_k {s j k q : Nat} (h : RS s j k = some q) : k < 34 := by
  unfold RS at h
  simp only [Bool.cond_eq_ite, Nat.blt_eq] at h
  split at h
  · split at h
    · split at h <;> first | omega | (simp at h; done)
    · split at h <;> first | omega | (simp at h; done)
    · split at h <;> first | omega | (simp at h; done)
    · split at h <;> first | omega | (simp at h; done)
    · simp at h
  · split at h
    · split at h <;> first | omega | (simp at h; done)
    · simp at h
theorem RR_k {j k q : Nat} (h : RR j k = some q) : k < 34 := by
  unfold RR at h
  split at h
  · split at h <;> first | omega | (simp at h; done)
  · exact RT_k h
  · split at h <;> first | omega | (simp at h; done)
  · split at h <;> first | omega | (simp at h; done)
  · split at h <;> first | omega | (simp at h; done)
  · simp at h
theorem R0_some {o k q : Nat} (h : R0 o k = some q) : o < 349 ∧ k < 34 := by
  unfold R0 at h
  simp only [Bool.cond_eq_ite, Nat.blt_eq, Nat.beq_eq] at h
  split at h
  · split at h
    · exact ⟨by omega, RX_k h⟩
    · split at h
      · exact ⟨by omega, RS_k h⟩
      · exact ⟨by omega, RS_k h⟩
  · split at h
    · split at h
      · split at h
        · exact ⟨by omega, by omega⟩
        · simp at h
      · split at h
        · exact ⟨by omega, RT_k h⟩
        · simp at h
    · split at h
      · exact ⟨by omega, RR_k h⟩
      · split at h
        · exact ⟨by omega, RM_k h⟩
        · simp at h
def pqL : List (Nat × Nat) := [(0, 99), (0, 0), (1, 0), (2, 5), (2, 6), (2, 7), (1, 1), (6, 0), (7, 0), (8, 5), (8, 6), (8, 7), (7, 1), (12, 5), (12, 6), (12, 7), (7, 2), (16, 5), (16, 6), (16, 7), (7, 3), (20, 5), (20, 6), (20, 7), (7, 4), (24, 5), (24, 6), (24, 7), (7, 5), (28, 5), (28, 6), (28, 7), (7, 6), (32, 5), (32, 6), (32, 7), (7, 7), (36, 5), (36, 6), (36, 7), (7, 8), (40, 5), (40, 6), (40, 7), (7, 9), (44, 5), (44, 6), (44, 7), (7, 10), (48, 5), (48, 6), (48, 7), (7, 11), (52, 5), (52, 6), (52, 7), (7, 12), (56, 5), (56, 6), (56, 7), (7, 13), (60, 5), (60, 6), (60, 7), (7, 14), (64, 5), (64, 6), (64, 7), (7, 15), (68, 5), (68, 6), (68, 7), (7, 16), (72, 5), (72, 6), (72, 7), (7, 17), (76, 5), (76, 6), (76, 7), (7, 18), (80, 5), (80, 6), (80, 7), (7, 19), (84, 5), (84, 6), (84, 7), (7, 20), (88, 5), (88, 6), (88, 7), (7, 21), (92, 5), (92, 6), (92, 7), (7, 22), (96, 5), (96, 6), (96, 7), (7, 23), (100, 5), (100, 6), (100, 7), (7, 24), (104, 5), (104, 6), (104, 7), (7, 25), (108, 5), (108, 6), (108, 7), (7, 26), (112, 5), (112, 6), (112, 7), (7, 27), (116, 5), (116, 6), (116, 7), (7, 28), (120, 5), (120, 6), (120, 7), (7, 29), (124, 5), (124, 6), (124, 7), (1, 3), (1, 4), (1, 5), (1, 8), (1, 9), (1, 10), (1, 12), (1, 14), (1, 15), (0, 1), (137, 0), (138, 5), (138, 6), (138, 7), (137, 1), (142, 0), (143, 0), (144, 5), (144, 6), (144, 7), (143, 1), (148, 5), (148, 6), (148, 7), (143, 2), (152, 5), (152, 6), (152, 7), (143, 3), (156, 5), (156, 6), (156, 7), (143, 4), (160, 5), (160, 6), (160, 7), (143, 5), (164, 5), (164, 6), (164, 7), (143, 6), (168, 5), (168, 6), (168, 7), (143, 7), (172, 5), (172, 6), (172, 7), (143, 8), (176, 5), (176, 6), (176, 7), (143, 9), (180, 5), (180, 6), (180, 7), (143, 10), (184, 5), (184, 6), (184, 7), (143, 11), (188, 5), (188, 6), (188, 7), (143, 12), (192, 5), (192, 6), (192, 7), (143, 13), (196, 5), (196, 6), (196, 7), (143, 14), (200, 5), (200, 6), (200, 7), (143, 15), (204, 5), (204, 6), (204, 7), (143, 16), (208, 5), (208, 6), (208, 7), (143, 17), (212, 5), (212, 6), (212, 7), (143, 18), (216, 5), (216, 6), (216, 7), (143, 19), (220, 5), (220, 6), (220, 7), (143, 20), (224, 5), (224, 6), (224, 7), (143, 21), (228, 5), (228, 6), (228, 7), (143, 22), (232, 5), (232, 6), (232, 7), (143, 23), (236, 5), (236, 6), (236, 7), (143, 24), (240, 5), (240, 6), (240, 7), (143, 25), (244, 5), (244, 6), (244, 7), (143, 26), (248, 5), (248, 6), (248, 7), (143, 27), (252, 5), (252, 6), (252, 7), (143, 28), (256, 5), (256, 6), (256, 7), (143, 29), (260, 5), (260, 6), (260, 7), (137, 3), (137, 4), (137, 5), (137, 8), (137, 9), (137, 10), (137, 12), (137, 14), (137, 15), (0, 2), (273, 0), (274, 1), (274, 2), (274, 3), (274, 5), (274, 6), (274, 7), (274, 8), (273, 1), (282, 1), (282, 2), (282, 3), (282, 5), (282, 6), (282, 7), (282, 8), (273, 2), (290, 1), (290, 2), (290, 3), (290, 5), (290, 6), (290, 7), (290, 8), (273, 3), (298, 1), (298, 2), (298, 3), (298, 5), (298, 6), (298, 7), (298, 8), (0, 3), (0, 5), (307, 3), (308, 1), (308, 2), (308, 3), (308, 5), (308, 6), (308, 7), (308, 8), (307, 4), (307, 5), (307, 6), (0, 6), (319, 0), (319, 1), (0, 7), (322, 0), (322, 1), (0, 8), (325, 0), (325, 1), (0, 9), (0, 10), (0, 11), (0, 99), (331, 0), (331, 1), (331, 2), (331, 3), (331, 15), (331, 20), (331, 21), (331, 22), (331, 25), (331, 26), (331, 27), (331, 28), (331, 29), (331, 30), (331, 31), (331, 32), (331, 33)]
theorem R0_all : ∀ o, o < 349 → ∀ k, k < 34 → (match R0 o k with | some q => Nat.blt o q && Nat.blt q 349 && !(Nat.beq q 331) && (pqL.getD q (0, 0) == (o, k)) | none => true) = true := by decide +kernel
theorem R0_fact {o k q : Nat} (h : R0 o k = some q) : o < q ∧ q < 349 ∧ ¬ q = 331 ∧ pqL.getD q (0, 0) = (o, k) := by
  have b := R0_some h
  have a := R0_all o b.1 k b.2
  rw [h] at a
  simp only [Bool.and_eq_true, Nat.blt_eq, Bool.not_eq_true', beq_iff_eq] at a
  refine ⟨a.1.1.1, a.1.1.2, fun e => ?_, a.2⟩
  rw [e] at a
  exact absurd a.1.2 (by decide)
theorem hn_new {n k len : Nat} {os : List Nat} {I : Nat → Nat → Int32} {X : Nat × (Nat → Int32)} (hk : K0 n = (k, len)) (hz : Zf n I) : puN (HN n os I X) k len = HN (n + 1) (n :: os) I X := by
  have e1 : slt n + len = slt (n + 1) := by show _ = slt n + (K0 n).2; rw [hk]
  have e2 : va_up (cutK n) n (k, len) = cutK (n + 1) := by
    funext o
    unfold va_up cutK
    by_cases ho : o = n
    · subst ho
      rw [if_pos rfl, show Nat.blt o (o + 1) = true from Nat.ble_eq.mpr (by omega)]
      exact hk.symm
    · rw [if_neg ho]
      by_cases h2 : o < n
      · rw [show Nat.blt o n = true from Nat.ble_eq.mpr h2, show Nat.blt o (n + 1) = true from Nat.ble_eq.mpr (by omega)]
      · rw [show Nat.blt o n = false from by rw [← Bool.not_eq_true]; exact fun e => h2 (Nat.ble_eq.mp e), show Nat.blt o (n + 1) = false from by rw [← Bool.not_eq_true]; exact fun e => by have := Nat.ble_eq.mp e; omega]
  have e3 : va_up I n (fun _ => 0) = I := by
    funext o
    unfold va_up
    by_cases ho : o = n
    · subst ho; rw [if_pos rfl]; exact (hz o (Nat.le_refl _)).symm
    · rw [if_neg ho]
  have e4 : va_up (fun (_ : Nat) (_ : Nat) => (0 : Int64)) n (fun _ => 0) = fun (_ : Nat) (_ : Nat) => (0 : Int64) := by
    funext o
    unfold va_up
    split <;> rfl
  have e5 : va_up (RD n os) n (fun _ => none) = RD (n + 1) (n :: os) := by
    funext o k
    unfold va_up RD
    by_cases ho : o = n
    · subst ho
      rw [if_pos rfl]
      cases h : R0 o k with
      | none => rfl
      | some q =>
        have := (R0_fact h).1
        exact (if_neg (by omega)).symm
    · rw [if_neg ho]
      cases h : R0 o k with
      | none => rfl
      | some q =>
        show (if q < n ∧ ¬ q ∈ os then some q else none) = (if q < n + 1 ∧ ¬ q ∈ n :: os then some q else none)
        by_cases hq : q = n
        · rw [if_neg (by omega), if_neg (by simp [hq])]
        · have : (q < n ∧ ¬ q ∈ os) = (q < n + 1 ∧ ¬ q ∈ n :: os) := by
            rw [List.mem_cons]
            apply propext
            constructor
            · exact fun ⟨a, b⟩ => ⟨by omega, fun e => e.elim hq b⟩
            · exact fun ⟨a, b⟩ => ⟨by omega, fun e => b (Or.inr e)⟩
          simp only [this]
  unfold puN HN
  dsimp only
  rw [e1, e2, e3, e4, e5]
theorem hn_link {n o k q : Nat} {os : List Nat} {I : Nat → Nat → Int32} {X : Nat × (Nat → Int32)} (hr : R0 o k = some q) (hq : q < n) (hn : ¬ q ∈ os) : puR (HN n (q :: os) I X) o k (some q) = HN n os I X := by
  have e : sR (RD n (q :: os)) o k (some q) = RD n os := by
    funext o2 k2
    unfold sR va_up RD
    by_cases ho : o2 = o ∧ k2 = k
    · obtain ⟨ha, hb⟩ := ho
      subst ha; subst hb
      rw [if_pos rfl, if_pos rfl, hr]
      exact (if_pos ⟨hq, hn⟩).symm
    · have e1 : (if o2 = o then (fun x => if x = k then some q else (R0 o x).bind (fun q_1 => if q_1 < n ∧ ¬ q_1 ∈ q :: os then some q_1 else none)) else fun k => (R0 o2 k).bind (fun q_1 => if q_1 < n ∧ ¬ q_1 ∈ q :: os then some q_1 else none)) k2 = (R0 o2 k2).bind (fun q_1 => if q_1 < n ∧ ¬ q_1 ∈ q :: os then some q_1 else none) := by
        by_cases ha : o2 = o
        · subst ha
          rw [if_pos rfl]
          have hb : ¬ k2 = k := fun e => ho ⟨rfl, e⟩
          show (if k2 = k then _ else _) = _
          rw [if_neg hb]
        · rw [if_neg ha]
      refine e1.trans ?_
      cases h : R0 o2 k2 with
      | none => rfl
      | some p =>
        show (if p < n ∧ ¬ p ∈ q :: os then some p else none) = (if p < n ∧ ¬ p ∈ os then some p else none)
        have hp : ¬ p = q := fun e => by
          subst e
          have a := (R0_fact h).2.2.2
          rw [(R0_fact hr).2.2.2] at a
          have b := Prod.mk.inj a
          exact ho ⟨b.1.symm, b.2.symm⟩
        have : (p < n ∧ ¬ p ∈ q :: os) = (p < n ∧ ¬ p ∈ os) := by
          rw [List.mem_cons]
          apply propext
          exact ⟨fun ⟨a, b⟩ => ⟨a, fun e => b (Or.inr e)⟩, fun ⟨a, b⟩ => ⟨a, fun e => e.elim hp b⟩⟩
        simp only [this]
  unfold HN
  show (n, slt n, cutK n, I, (fun _ _ => (0 : Int64)), sR (RD n (q :: os)) o k (some q), X) = _
  rw [e]
theorem nin {q b : Nat} {os : List Nat} (hos : ∀ x ∈ os, x < b) (h : b < q) : ¬ q ∈ b :: os := by
  intro e
  rcases List.mem_cons.mp e with e | e
  · omega
  · have := hos _ e; omega
theorem subos {b q : Nat} {os : List Nat} (h : b < q) (hos : ∀ x ∈ os, x < b) : ∀ x ∈ b :: os, x < q := by
  intro x e
  rcases List.mem_cons.mp e with e | e
  · omega
  · have := hos _ e; omega
theorem l_fill_g {d n0 s0 : Nat} {h : PH} {Q : PQ} {o n : Nat} {v : Int32} (ho : o < hN h) (hk : hK h o = (10, n)) (hn : n < 2 ^ 31) (q : Q none (puA h o (fillF (hI h o) v n))) :
    ∀ (m i : Nat), i + m = n → Wp (Ev d) cd_J_fill (0, 0) none n0 s0 Q 5 [(0, .ref o), (1, .int v), (2, .int (nI i)), (3, .int (nI n))] [] (puA h o (fillF (hI h o) v i)) := by
  intro m
  induction m with
  | zero =>
    intro i hi
    have : i = n := by omega
    subst this
    refine w_iload_n (Ev.cm _) rfl rfl ?_
    refine w_iload_n (Ev.cm _) rfl rfl ?_
    refine w_icmp_ge (Ev.cm _) rfl (fun _ => ?_) (fun c => absurd (Int32.le_refl _) c)
    exact w_return (Ev.cm _) rfl rfl rf0 q
  | succ m ih =>
    intro i hi
    have hlt : i < n := by omega
    refine w_iload_n (Ev.cm _) rfl rfl ?_
    refine w_iload_n (Ev.cm _) rfl rfl ?_
    refine w_icmp_ge (Ev.cm _) rfl (fun c => absurd c (nI_ge hlt hn)) (fun _ => ?_)
    refine w_aload_n (Ev.cm _) rfl rfl ?_
    refine w_iload_n (Ev.cm _) rfl rfl ?_
    refine w_iload_n (Ev.cm _) rfl rfl ?_
    refine w_iast (Ev.cm _) rfl ho (by show (hK h o).1 = 10; rw [hk]) (by show vp_in (nI i) (hK h o).2; rw [hk]; exact vp_in_nI hlt hn) ?_
    rw [nI_clamp (by omega)]
    show Wp _ _ _ _ _ _ _ 14 _ [] (h.1, h.2.1, h.2.2.1, sI (va_up (hI h) o (fillF (hI h o) v i)) o i v, h.2.2.2.2)
    rw [fillF_s]
    refine w_iinc (ls2 := [(0, .ref o), (1, .int v), (2, .int (nI i + 1)), (3, .int (nI n))]) (Ev.cm _) rfl rfl rfl ?_
    rw [nI_1]
    refine w_goto (Ev.cm _) rfl ?_
    exact ih (i + 1) (by omega)
theorem e_fill_g {d : Nat} {h : PH} {Q : PQ} {o n : Nat} {v : Int32} (ho : o < hN h) (hk : hK h o = (10, n)) (hn : n < 2 ^ 31) (q : Q none (puA h o (fillF (hI h o) v n))) : Ev (d + 1) m_J_fill [.ref o, .int v] h Q := by
  refine ev_start (d := d + 0) rfl rfl rfl (Nat.le_of_ble_eq_true rfl) ?_
  show Wp (Ev (d + 0)) cd_J_fill (0, 0) none _ _ Q 0 [(0, .ref o), (1, .int v)] [] h
  refine w_iconst (Ev.cm _) rfl ?_
  refine w_istore_n (ls2 := [(0, .ref o), (1, .int v), (2, .int 0)]) (Ev.cm _) rfl rfl ?_
  refine w_aload_n (Ev.cm _) rfl rfl ?_
  refine w_alen (Ev.cm _) rfl ho (by rw [hk]; exact Nat.le_of_ble_eq_true rfl) (by rw [hk]; exact Nat.le_of_ble_eq_true rfl) ?_
  rw [hk]
  refine w_istore_n (ls2 := [(0, .ref o), (1, .int v), (2, .int 0), (3, .int (nI n))]) (Ev.cm _) rfl rfl ?_
  have := l_fill_g (d := d + 0) (n0 := hN h) (s0 := hSl h) (Q := Q) ho hk hn q n 0 (by omega)
  have e : puA h o (fillF (hI h o) v 0) = h := by
    show (h.1, h.2.1, h.2.2.1, va_up (hI h) o (fillF (hI h o) v 0), h.2.2.2.2) = h
    rw [fillF_0]
  rw [e] at this
  exact this
theorem cutk2 {n o : Nat} {x : Nat × Nat} (h : o < n) (k : K0 o = x) : cutK n o = x := by
  unfold cutK
  rw [show Nat.blt o n = true from Nat.ble_eq.mpr h]
  exact k
theorem rd_get {n o k q : Nat} {os : List Nat} (hr : R0 o k = some q) (hq : q < n) (hn : ¬ q ∈ os) : RD n os o k = some q := by
  unfold RD
  rw [hr]
  exact if_pos ⟨hq, hn⟩
def iH (b : Nat) (I : Nat → Nat → Int32) : Nat → Nat → Int32 := sI (sI (sI (sI (sI I b 0 0) b 1 293) b 2 0) b 3 8190) b 4 0
theorem iH_z {b : Nat} {I : Nat → Nat → Int32} (hz : Zf (b + 1) I) : Zf (b + 4) (iH b I) := by
  unfold iH
  have z1 : Zf (b + 1) (sI I b 0 0) := (Zs (show b < b + 1 by omega) hz)
  have z2 : Zf (b + 1) (sI (sI I b 0 0) b 1 293) := (Zs (show b < b + 1 by omega) z1)
  have z3 : Zf (b + 1) (sI (sI (sI I b 0 0) b 1 293) b 2 0) := (Zs (show b < b + 1 by omega) z2)
  have z4 : Zf (b + 1) (sI (sI (sI (sI I b 0 0) b 1 293) b 2 0) b 3 8190) := (Zs (show b < b + 1 by omega) z3)
  have z5 : Zf (b + 1) (sI (sI (sI (sI (sI I b 0 0) b 1 293) b 2 0) b 3 8190) b 4 0) := (Zs (show b < b + 1 by omega) z4)
  have z6 : Zf (b + 2) (sI (sI (sI (sI (sI I b 0 0) b 1 293) b 2 0) b 3 8190) b 4 0) := (Zn z5)
  have z7 : Zf (b + 3) (sI (sI (sI (sI (sI I b 0 0) b 1 293) b 2 0) b 3 8190) b 4 0) := (Zn z6)
  have z8 : Zf (b + 4) (sI (sI (sI (sI (sI I b 0 0) b 1 293) b 2 0) b 3 8190) b 4 0) := (Zn z7)
  exact z8
set_option maxHeartbeats 20000000 in
set_option maxRecDepth 20000 in
theorem e_iH {d : Nat} {b : Nat} (hb : isH b) {os : List Nat} {I : Nat → Nat → Int32} {X : Nat × (Nat → Int32)} {Q : PQ} (hos : ∀ x ∈ os, x < b) (hz : Zf (b + 1) I) (q : Q none (HN (b + 4) (b :: os) (iH b I) X)) : Ev (d + 1) m_H_new [.ref b] (HN (b + 1) (b :: os) I X) Q := by
  have hk0 := isH_k0 hb
  have hk1 := isH_k1 hb
  have hk2 := isH_k2 hb
  have hk3 := isH_k3 hb
  have hr5 := isH_r5 hb
  have hr6 := isH_r6 hb
  have hr7 := isH_r7 hb
  have sl1 : slt (b + 2) = slt (b + 1) + 6 := by show slt (b + 1) + (K0 (b + 1)).2 = _; rw [hk1]
  have sl2 : slt (b + 3) = slt (b + 2) + 6 := by show slt (b + 2) + (K0 (b + 2)).2 = _; rw [hk2]
  have sl3 : slt (b + 4) = slt (b + 3) + 90 := by show slt (b + 3) + (K0 (b + 3)).2 = _; rw [hk3]
  unfold iH at q
  refine ev_start (d := d + 0) rfl rfl rfl (Nat.le_of_ble_eq_true rfl) ?_
  show Wp (Ev (d + 0)) cd_H_new (mcs m_H_new) none _ _ Q 0 [(0, .ref b)] [] (HN (b + 1) (b :: os) I X)
  refine w_aload_n (Ev.cm _) rfl rfl ?_
  refine w_objI (Ev.cm _) rfl (Nat.le_of_ble_eq_true rfl) ?_
  refine w_aload_n (Ev.cm _) rfl rfl ?_
  refine w_iconst (Ev.cm _) rfl ?_
  refine w_putI (Ev.cm _) rfl (show b < b + 1 by omega) (cutk (show b < b + 1 by omega) hk0) ?_
  have z1 : Zf (b + 1) (sI I b 0 0) := (Zs (show b < b + 1 by omega) hz)
  show Wp _ _ _ _ _ _ _ 9 [(0, .ref b)] [] (HN (b + 1) (b :: os) (sI I b 0 0) X)
  refine w_aload_n (Ev.cm _) rfl rfl ?_
  refine w_sipush (Ev.cm _) rfl ?_
  refine w_putI (Ev.cm _) rfl (show b < b + 1 by omega) (cutk (show b < b + 1 by omega) hk0) ?_
  have z2 : Zf (b + 1) (sI (sI I b 0 0) b 1 293) := (Zs (show b < b + 1 by omega) z1)
  show Wp _ _ _ _ _ _ _ 16 [(0, .ref b)] [] (HN (b + 1) (b :: os) (sI (sI I b 0 0) b 1 293) X)
  refine w_aload_n (Ev.cm _) rfl rfl ?_
  refine w_iconst (Ev.cm _) rfl ?_
  refine w_putI (Ev.cm _) rfl (show b < b + 1 by omega) (cutk (show b < b + 1 by omega) hk0) ?_
  have z3 : Zf (b + 1) (sI (sI (sI I b 0 0) b 1 293) b 2 0) := (Zs (show b < b + 1 by omega) z2)
  show Wp _ _ _ _ _ _ _ 21 [(0, .ref b)] [] (HN (b + 1) (b :: os) (sI (sI (sI I b 0 0) b 1 293) b 2 0) X)
  refine w_aload_n (Ev.cm _) rfl rfl ?_
  refine w_sipush (Ev.cm _) rfl ?_
  refine w_putI (Ev.cm _) rfl (show b < b + 1 by omega) (cutk (show b < b + 1 by omega) hk0) ?_
  have z4 : Zf (b + 1) (sI (sI (sI (sI I b 0 0) b 1 293) b 2 0) b 3 8190) := (Zs (show b < b + 1 by omega) z3)
  show Wp _ _ _ _ _ _ _ 28 [(0, .ref b)] [] (HN (b + 1) (b :: os) (sI (sI (sI (sI I b 0 0) b 1 293) b 2 0) b 3 8190) X)
  refine w_aload_n (Ev.cm _) rfl rfl ?_
  refine w_iconst (Ev.cm _) rfl ?_
  refine w_putI (Ev.cm _) rfl (show b < b + 1 by omega) (cutk (show b < b + 1 by omega) hk0) ?_
  have z5 : Zf (b + 1) (sI (sI (sI (sI (sI I b 0 0) b 1 293) b 2 0) b 3 8190) b 4 0) := (Zs (show b < b + 1 by omega) z4)
  show Wp _ _ _ _ _ _ _ 33 [(0, .ref b)] [] (HN (b + 1) (b :: os) (sI (sI (sI (sI (sI I b 0 0) b 1 293) b 2 0) b 3 8190) b 4 0) X)
  refine w_aload_n (Ev.cm _) rfl rfl ?_
  refine w_bipush (Ev.cm _) rfl ?_
  refine w_newa (Ev.cm _) rfl (by decide) (by decide) (show _ ∧ _ from ⟨by show b + 1 + 1 ≤ b + 1 + 3; omega, by show slt (b + 1) + 6 ≤ slt (b + 1) + 102; omega⟩) ?_
  show Wp _ _ _ _ _ _ _ 38 [(0, .ref b)] [.ref (b + 1), .ref b] (puN (HN (b + 1) (b :: os) (sI (sI (sI (sI (sI I b 0 0) b 1 293) b 2 0) b 3 8190) b 4 0) X) 10 6)
  rw [hn_new (n := b + 1) (k := 10) (len := 6) hk1 z5]
  have z6 : Zf (b + 2) (sI (sI (sI (sI (sI I b 0 0) b 1 293) b 2 0) b 3 8190) b 4 0) := (Zn z5)
  refine w_putR (Ev.cm _) rfl (show b < b + 2 by omega) (cutk (show b < b + 2 by omega) hk0) ?_
  show Wp _ _ _ _ _ _ _ 41 [(0, .ref b)] [] (puR (HN (b + 2) ((b + 1) :: b :: os) (sI (sI (sI (sI (sI I b 0 0) b 1 293) b 2 0) b 3 8190) b 4 0) X) b 5 (some (b + 1)))
  rw [hn_link (o := b) (k := 5) (q := b + 1) hr5 (show b + 1 < b + 2 by omega) (nin hos (by omega))]
  refine w_aload_n (Ev.cm _) rfl rfl ?_
  refine w_bipush (Ev.cm _) rfl ?_
  refine w_newa (Ev.cm _) rfl (by decide) (by decide) (show _ ∧ _ from ⟨by show b + 2 + 1 ≤ b + 1 + 3; omega, by show slt (b + 2) + 6 ≤ slt (b + 1) + 102; omega⟩) ?_
  show Wp _ _ _ _ _ _ _ 46 [(0, .ref b)] [.ref (b + 2), .ref b] (puN (HN (b + 2) (b :: os) (sI (sI (sI (sI (sI I b 0 0) b 1 293) b 2 0) b 3 8190) b 4 0) X) 10 6)
  rw [hn_new (n := b + 2) (k := 10) (len := 6) hk2 z6]
  have z7 : Zf (b + 3) (sI (sI (sI (sI (sI I b 0 0) b 1 293) b 2 0) b 3 8190) b 4 0) := (Zn z6)
  refine w_putR (Ev.cm _) rfl (show b < b + 3 by omega) (cutk (show b < b + 3 by omega) hk0) ?_
  show Wp _ _ _ _ _ _ _ 49 [(0, .ref b)] [] (puR (HN (b + 3) ((b + 2) :: b :: os) (sI (sI (sI (sI (sI I b 0 0) b 1 293) b 2 0) b 3 8190) b 4 0) X) b 6 (some (b + 2)))
  rw [hn_link (o := b) (k := 6) (q := b + 2) hr6 (show b + 2 < b + 3 by omega) (nin hos (by omega))]
  refine w_aload_n (Ev.cm _) rfl rfl ?_
  refine w_bipush (Ev.cm _) rfl ?_
  refine w_newa (Ev.cm _) rfl (by decide) (by decide) (show _ ∧ _ from ⟨by show b + 3 + 1 ≤ b + 1 + 3; omega, by show slt (b + 3) + 90 ≤ slt (b + 1) + 102; omega⟩) ?_
  show Wp _ _ _ _ _ _ _ 54 [(0, .ref b)] [.ref (b + 3), .ref b] (puN (HN (b + 3) (b :: os) (sI (sI (sI (sI (sI I b 0 0) b 1 293) b 2 0) b 3 8190) b 4 0) X) 10 90)
  rw [hn_new (n := b + 3) (k := 10) (len := 90) hk3 z7]
  have z8 : Zf (b + 4) (sI (sI (sI (sI (sI I b 0 0) b 1 293) b 2 0) b 3 8190) b 4 0) := (Zn z7)
  refine w_putR (Ev.cm _) rfl (show b < b + 4 by omega) (cutk (show b < b + 4 by omega) hk0) ?_
  show Wp _ _ _ _ _ _ _ 57 [(0, .ref b)] [] (puR (HN (b + 4) ((b + 3) :: b :: os) (sI (sI (sI (sI (sI I b 0 0) b 1 293) b 2 0) b 3 8190) b 4 0) X) b 7 (some (b + 3)))
  rw [hn_link (o := b) (k := 7) (q := b + 3) hr7 (show b + 3 < b + 4 by omega) (nin hos (by omega))]
  refine w_return (Ev.cm _) rfl rfl (Or.inr ⟨(show b + 4 = b + 1 + 3 by omega), (show slt (b + 4) = slt (b + 1) + 102 by omega)⟩) ?_
  exact q
def iS_6 (I : Nat → Nat → Int32) : Nat → Nat → Int32 := sI (sI (iH 124 (iH 120 (iH 116 (iH 112 (iH 108 (iH 104 (iH 100 (iH 96 (iH 92 (iH 88 (iH 84 (iH 80 (iH 76 (iH 72 (iH 68 (iH 64 (iH 60 (iH 56 (iH 52 (iH 48 (iH 44 (iH 40 (iH 36 (iH 32 (iH 28 (iH 24 (iH 20 (iH 16 (iH 12 (iH 8 I)))))))))))))))))))))))))))))) 6 1 0) 6 2 0
theorem iS_6_z {I : Nat → Nat → Int32} (hz : Zf 7 I) : Zf (128) (iS_6 I) := by
  unfold iS_6
  have z1 : Zf 8 I := (Zn hz)
  have z2 : Zf 9 I := (Zn z1)
  have z3 : Zf 12 (iH 8 I) := (iH_z (b := 8) z2)
  have z4 : Zf 13 (iH 8 I) := (Zn z3)
  have z5 : Zf 16 (iH 12 (iH 8 I)) := (iH_z (b := 12) z4)
  have z6 : Zf 17 (iH 12 (iH 8 I)) := (Zn z5)
  have z7 : Zf 20 (iH 16 (iH 12 (iH 8 I))) := (iH_z (b := 16) z6)
  have z8 : Zf 21 (iH 16 (iH 12 (iH 8 I))) := (Zn z7)
  have z9 : Zf 24 (iH 20 (iH 16 (iH 12 (iH 8 I)))) := (iH_z (b := 20) z8)
  have z10 : Zf 25 (iH 20 (iH 16 (iH 12 (iH 8 I)))) := (Zn z9)
  have z11 : Zf 28 (iH 24 (iH 20 (iH 16 (iH 12 (iH 8 I))))) := (iH_z (b := 24) z10)
  have z12 : Zf 29 (iH 24 (iH 20 (iH 16 (iH 12 (iH 8 I))))) := (Zn z11)
  have z13 : Zf 32 (iH 28 (iH 24 (iH 20 (iH 16 (iH 12 (iH 8 I)))))) := (iH_z (b := 28) z12)
  have z14 : Zf 33 (iH 28 (iH 24 (iH 20 (iH 16 (iH 12 (iH 8 I)))))) := (Zn z13)
  have z15 : Zf 36 (iH 32 (iH 28 (iH 24 (iH 20 (iH 16 (iH 12 (iH 8 I))))))) := (iH_z (b := 32) z14)
  have z16 : Zf 37 (iH 32 (iH 28 (iH 24 (iH 20 (iH 16 (iH 12 (iH 8 I))))))) := (Zn z15)
  have z17 : Zf 40 (iH 36 (iH 32 (iH 28 (iH 24 (iH 20 (iH 16 (iH 12 (iH 8 I)))))))) := (iH_z (b := 36) z16)
  have z18 : Zf 41 (iH 36 (iH 32 (iH 28 (iH 24 (iH 20 (iH 16 (iH 12 (iH 8 I)))))))) := (Zn z17)
  have z19 : Zf 44 (iH 40 (iH 36 (iH 32 (iH 28 (iH 24 (iH 20 (iH 16 (iH 12 (iH 8 I))))))))) := (iH_z (b := 40) z18)
  have z20 : Zf 45 (iH 40 (iH 36 (iH 32 (iH 28 (iH 24 (iH 20 (iH 16 (iH 12 (iH 8 I))))))))) := (Zn z19)
  have z21 : Zf 48 (iH 44 (iH 40 (iH 36 (iH 32 (iH 28 (iH 24 (iH 20 (iH 16 (iH 12 (iH 8 I)))))))))) := (iH_z (b := 44) z20)
  have z22 : Zf 49 (iH 44 (iH 40 (iH 36 (iH 32 (iH 28 (iH 24 (iH 20 (iH 16 (iH 12 (iH 8 I)))))))))) := (Zn z21)
  have z23 : Zf 52 (iH 48 (iH 44 (iH 40 (iH 36 (iH 32 (iH 28 (iH 24 (iH 20 (iH 16 (iH 12 (iH 8 I))))))))))) := (iH_z (b := 48) z22)
  have z24 : Zf 53 (iH 48 (iH 44 (iH 40 (iH 36 (iH 32 (iH 28 (iH 24 (iH 20 (iH 16 (iH 12 (iH 8 I))))))))))) := (Zn z23)
  have z25 : Zf 56 (iH 52 (iH 48 (iH 44 (iH 40 (iH 36 (iH 32 (iH 28 (iH 24 (iH 20 (iH 16 (iH 12 (iH 8 I)))))))))))) := (iH_z (b := 52) z24)
  have z26 : Zf 57 (iH 52 (iH 48 (iH 44 (iH 40 (iH 36 (iH 32 (iH 28 (iH 24 (iH 20 (iH 16 (iH 12 (iH 8 I)))))))))))) := (Zn z25)
  have z27 : Zf 60 (iH 56 (iH 52 (iH 48 (iH 44 (iH 40 (iH 36 (iH 32 (iH 28 (iH 24 (iH 20 (iH 16 (iH 12 (iH 8 I))))))))))))) := (iH_z (b := 56) z26)
  have z28 : Zf 61 (iH 56 (iH 52 (iH 48 (iH 44 (iH 40 (iH 36 (iH 32 (iH 28 (iH 24 (iH 20 (iH 16 (iH 12 (iH 8 I))))))))))))) := (Zn z27)
  have z29 : Zf 64 (iH 60 (iH 56 (iH 52 (iH 48 (iH 44 (iH 40 (iH 36 (iH 32 (iH 28 (iH 24 (iH 20 (iH 16 (iH 12 (iH 8 I)))))))))))))) := (iH_z (b := 60) z28)
  have z30 : Zf 65 (iH 60 (iH 56 (iH 52 (iH 48 (iH 44 (iH 40 (iH 36 (iH 32 (iH 28 (iH 24 (iH 20 (iH 16 (iH 12 (iH 8 I)))))))))))))) := (Zn z29)
  have z31 : Zf 68 (iH 64 (iH 60 (iH 56 (iH 52 (iH 48 (iH 44 (iH 40 (iH 36 (iH 32 (iH 28 (iH 24 (iH 20 (iH 16 (iH 12 (iH 8 I))))))))))))))) := (iH_z (b := 64) z30)
  have z32 : Zf 69 (iH 64 (iH 60 (iH 56 (iH 52 (iH 48 (iH 44 (iH 40 (iH 36 (iH 32 (iH 28 (iH 24 (iH 20 (iH 16 (iH 12 (iH 8 I))))))))))))))) := (Zn z31)
  have z33 : Zf 72 (iH 68 (iH 64 (iH 60 (iH 56 (iH 52 (iH 48 (iH 44 (iH 40 (iH 36 (iH 32 (iH 28 (iH 24 (iH 20 (iH 16 (iH 12 (iH 8 I)))))))))))))))) := (iH_z (b := 68) z32)
  have z34 : Zf 73 (iH 68 (iH 64 (iH 60 (iH 56 (iH 52 (iH 48 (iH 44 (iH 40 (iH 36 (iH 32 (iH 28 (iH 24 (iH 20 (iH 16 (iH 12 (iH 8 I)))))))))))))))) := (Zn z33)
  have z35 : Zf 76 (iH 72 (iH 68 (iH 64 (iH 60 (iH 56 (iH 52 (iH 48 (iH 44 (iH 40 (iH 36 (iH 32 (iH 28 (iH 24 (iH 20 (iH 16 (iH 12 (iH 8 I))))))))))))))))) := (iH_z (b := 72) z34)
  have z36 : Zf 77 (iH 72 (iH 68 (iH 64 (iH 60 (iH 56 (iH 52 (iH 48 (iH 44 (iH 40 (iH 36 (iH 32 (iH 28 (iH 24 (iH 20 (iH 16 (iH 12 (iH 8 I))))))))))))))))) := (Zn z35)
  have z37 : Zf 80 (iH 76 (iH 72 (iH 68 (iH 64 (iH 60 (iH 56 (iH 52 (iH 48 (iH 44 (iH 40 (iH 36 (iH 32 (iH 28 (iH 24 (iH 20 (iH 16 (iH 12 (iH 8 I)))))))))))))))))) := (iH_z (b := 76) z36)
  have z38 : Zf 81 (iH 76 (iH 72 (iH 68 (iH 64 (iH 60 (iH 56 (iH 52 (iH 48 (iH 44 (iH 40 (iH 36 (iH 32 (iH 28 (iH 24 (iH 20 (iH 16 (iH 12 (iH 8 I)))))))))))))))))) := (Zn z37)
  have z39 : Zf 84 (iH 80 (iH 76 (iH 72 (iH 68 (iH 64 (iH 60 (iH 56 (iH 52 (iH 48 (iH 44 (iH 40 (iH 36 (iH 32 (iH 28 (iH 24 (iH 20 (iH 16 (iH 12 (iH 8 I))))))))))))))))))) := (iH_z (b := 80) z38)
  have z40 : Zf 85 (iH 80 (iH 76 (iH 72 (iH 68 (iH 64 (iH 60 (iH 56 (iH 52 (iH 48 (iH 44 (iH 40 (iH 36 (iH 32 (iH 28 (iH 24 (iH 20 (iH 16 (iH 12 (iH 8 I))))))))))))))))))) := (Zn z39)
  have z41 : Zf 88 (iH 84 (iH 80 (iH 76 (iH 72 (iH 68 (iH 64 (iH 60 (iH 56 (iH 52 (iH 48 (iH 44 (iH 40 (iH 36 (iH 32 (iH 28 (iH 24 (iH 20 (iH 16 (iH 12 (iH 8 I)))))))))))))))))))) := (iH_z (b := 84) z40)
  have z42 : Zf 89 (iH 84 (iH 80 (iH 76 (iH 72 (iH 68 (iH 64 (iH 60 (iH 56 (iH 52 (iH 48 (iH 44 (iH 40 (iH 36 (iH 32 (iH 28 (iH 24 (iH 20 (iH 16 (iH 12 (iH 8 I)))))))))))))))))))) := (Zn z41)
  have z43 : Zf 92 (iH 88 (iH 84 (iH 80 (iH 76 (iH 72 (iH 68 (iH 64 (iH 60 (iH 56 (iH 52 (iH 48 (iH 44 (iH 40 (iH 36 (iH 32 (iH 28 (iH 24 (iH 20 (iH 16 (iH 12 (iH 8 I))))))))))))))))))))) := (iH_z (b := 88) z42)
  have z44 : Zf 93 (iH 88 (iH 84 (iH 80 (iH 76 (iH 72 (iH 68 (iH 64 (iH 60 (iH 56 (iH 52 (iH 48 (iH 44 (iH 40 (iH 36 (iH 32 (iH 28 (iH 24 (iH 20 (iH 16 (iH 12 (iH 8 I))))))))))))))))))))) := (Zn z43)
  have z45 : Zf 96 (iH 92 (iH 88 (iH 84 (iH 80 (iH 76 (iH 72 (iH 68 (iH 64 (iH 60 (iH 56 (iH 52 (iH 48 (iH 44 (iH 40 (iH 36 (iH 32 (iH 28 (iH 24 (iH 20 (iH 16 (iH 12 (iH 8 I)))))))))))))))))))))) := (iH_z (b := 92) z44)
  have z46 : Zf 97 (iH 92 (iH 88 (iH 84 (iH 80 (iH 76 (iH 72 (iH 68 (iH 64 (iH 60 (iH 56 (iH 52 (iH 48 (iH 44 (iH 40 (iH 36 (iH 32 (iH 28 (iH 24 (iH 20 (iH 16 (iH 12 (iH 8 I)))))))))))))))))))))) := (Zn z45)
  have z47 : Zf 100 (iH 96 (iH 92 (iH 88 (iH 84 (iH 80 (iH 76 (iH 72 (iH 68 (iH 64 (iH 60 (iH 56 (iH 52 (iH 48 (iH 44 (iH 40 (iH 36 (iH 32 (iH 28 (iH 24 (iH 20 (iH 16 (iH 12 (iH 8 I))))))))))))))))))))))) := (iH_z (b := 96) z46)
  have z48 : Zf 101 (iH 96 (iH 92 (iH 88 (iH 84 (iH 80 (iH 76 (iH 72 (iH 68 (iH 64 (iH 60 (iH 56 (iH 52 (iH 48 (iH 44 (iH 40 (iH 36 (iH 32 (iH 28 (iH 24 (iH 20 (iH 16 (iH 12 (iH 8 I))))))))))))))))))))))) := (Zn z47)
  have z49 : Zf 104 (iH 100 (iH 96 (iH 92 (iH 88 (iH 84 (iH 80 (iH 76 (iH 72 (iH 68 (iH 64 (iH 60 (iH 56 (iH 52 (iH 48 (iH 44 (iH 40 (iH 36 (iH 32 (iH 28 (iH 24 (iH 20 (iH 16 (iH 12 (iH 8 I)))))))))))))))))))))))) := (iH_z (b := 100) z48)
  have z50 : Zf 105 (iH 100 (iH 96 (iH 92 (iH 88 (iH 84 (iH 80 (iH 76 (iH 72 (iH 68 (iH 64 (iH 60 (iH 56 (iH 52 (iH 48 (iH 44 (iH 40 (iH 36 (iH 32 (iH 28 (iH 24 (iH 20 (iH 16 (iH 12 (iH 8 I)))))))))))))))))))))))) := (Zn z49)
  have z51 : Zf 108 (iH 104 (iH 100 (iH 96 (iH 92 (iH 88 (iH 84 (iH 80 (iH 76 (iH 72 (iH 68 (iH 64 (iH 60 (iH 56 (iH 52 (iH 48 (iH 44 (iH 40 (iH 36 (iH 32 (iH 28 (iH 24 (iH 20 (iH 16 (iH 12 (iH 8 I))))))))))))))))))))))))) := (iH_z (b := 104) z50)
  have z52 : Zf 109 (iH 104 (iH 100 (iH 96 (iH 92 (iH 88 (iH 84 (iH 80 (iH 76 (iH 72 (iH 68 (iH 64 (iH 60 (iH 56 (iH 52 (iH 48 (iH 44 (iH 40 (iH 36 (iH 32 (iH 28 (iH 24 (iH 20 (iH 16 (iH 12 (iH 8 I))))))))))))))))))))))))) := (Zn z51)
  have z53 : Zf 112 (iH 108 (iH 104 (iH 100 (iH 96 (iH 92 (iH 88 (iH 84 (iH 80 (iH 76 (iH 72 (iH 68 (iH 64 (iH 60 (iH 56 (iH 52 (iH 48 (iH 44 (iH 40 (iH 36 (iH 32 (iH 28 (iH 24 (iH 20 (iH 16 (iH 12 (iH 8 I)))))))))))))))))))))))))) := (iH_z (b := 108) z52)
  have z54 : Zf 113 (iH 108 (iH 104 (iH 100 (iH 96 (iH 92 (iH 88 (iH 84 (iH 80 (iH 76 (iH 72 (iH 68 (iH 64 (iH 60 (iH 56 (iH 52 (iH 48 (iH 44 (iH 40 (iH 36 (iH 32 (iH 28 (iH 24 (iH 20 (iH 16 (iH 12 (iH 8 I)))))))))))))))))))))))))) := (Zn z53)
  have z55 : Zf 116 (iH 112 (iH 108 (iH 104 (iH 100 (iH 96 (iH 92 (iH 88 (iH 84 (iH 80 (iH 76 (iH 72 (iH 68 (iH 64 (iH 60 (iH 56 (iH 52 (iH 48 (iH 44 (iH 40 (iH 36 (iH 32 (iH 28 (iH 24 (iH 20 (iH 16 (iH 12 (iH 8 I))))))))))))))))))))))))))) := (iH_z (b := 112) z54)
  have z56 : Zf 117 (iH 112 (iH 108 (iH 104 (iH 100 (iH 96 (iH 92 (iH 88 (iH 84 (iH 80 (iH 76 (iH 72 (iH 68 (iH 64 (iH 60 (iH 56 (iH 52 (iH 48 (iH 44 (iH 40 (iH 36 (iH 32 (iH 28 (iH 24 (iH 20 (iH 16 (iH 12 (iH 8 I))))))))))))))))))))))))))) := (Zn z55)
  have z57 : Zf 120 (iH 116 (iH 112 (iH 108 (iH 104 (iH 100 (iH 96 (iH 92 (iH 88 (iH 84 (iH 80 (iH 76 (iH 72 (iH 68 (iH 64 (iH 60 (iH 56 (iH 52 (iH 48 (iH 44 (iH 40 (iH 36 (iH 32 (iH 28 (iH 24 (iH 20 (iH 16 (iH 12 (iH 8 I)))))))))))))))))))))))))))) := (iH_z (b := 116) z56)
  have z58 : Zf 121 (iH 116 (iH 112 (iH 108 (iH 104 (iH 100 (iH 96 (iH 92 (iH 88 (iH 84 (iH 80 (iH 76 (iH 72 (iH 68 (iH 64 (iH 60 (iH 56 (iH 52 (iH 48 (iH 44 (iH 40 (iH 36 (iH 32 (iH 28 (iH 24 (iH 20 (iH 16 (iH 12 (iH 8 I)))))))))))))))))))))))))))) := (Zn z57)
  have z59 : Zf 124 (iH 120 (iH 116 (iH 112 (iH 108 (iH 104 (iH 100 (iH 96 (iH 92 (iH 88 (iH 84 (iH 80 (iH 76 (iH 72 (iH 68 (iH 64 (iH 60 (iH 56 (iH 52 (iH 48 (iH 44 (iH 40 (iH 36 (iH 32 (iH 28 (iH 24 (iH 20 (iH 16 (iH 12 (iH 8 I))))))))))))))))))))))))))))) := (iH_z (b := 120) z58)
  have z60 : Zf 125 (iH 120 (iH 116 (iH 112 (iH 108 (iH 104 (iH 100 (iH 96 (iH 92 (iH 88 (iH 84 (iH 80 (iH 76 (iH 72 (iH 68 (iH 64 (iH 60 (iH 56 (iH 52 (iH 48 (iH 44 (iH 40 (iH 36 (iH 32 (iH 28 (iH 24 (iH 20 (iH 16 (iH 12 (iH 8 I))))))))))))))))))))))))))))) := (Zn z59)
  have z61 : Zf 128 (iH 124 (iH 120 (iH 116 (iH 112 (iH 108 (iH 104 (iH 100 (iH 96 (iH 92 (iH 88 (iH 84 (iH 80 (iH 76 (iH 72 (iH 68 (iH 64 (iH 60 (iH 56 (iH 52 (iH 48 (iH 44 (iH 40 (iH 36 (iH 32 (iH 28 (iH 24 (iH 20 (iH 16 (iH 12 (iH 8 I)))))))))))))))))))))))))))))) := (iH_z (b := 124) z60)
  have z62 : Zf 128 (sI (iH 124 (iH 120 (iH 116 (iH 112 (iH 108 (iH 104 (iH 100 (iH 96 (iH 92 (iH 88 (iH 84 (iH 80 (iH 76 (iH 72 (iH 68 (iH 64 (iH 60 (iH 56 (iH 52 (iH 48 (iH 44 (iH 40 (iH 36 (iH 32 (iH 28 (iH 24 (iH 20 (iH 16 (iH 12 (iH 8 I)))))))))))))))))))))))))))))) 6 1 0) := (Zs (Nat.le_of_ble_eq_true rfl) z61)
  have z63 : Zf 128 (sI (sI (iH 124 (iH 120 (iH 116 (iH 112 (iH 108 (iH 104 (iH 100 (iH 96 (iH 92 (iH 88 (iH 84 (iH 80 (iH 76 (iH 72 (iH 68 (iH 64 (iH 60 (iH 56 (iH 52 (iH 48 (iH 44 (iH 40 (iH 36 (iH 32 (iH 28 (iH 24 (iH 20 (iH 16 (iH 12 (iH 8 I)))))))))))))))))))))))))))))) 6 1 0) 6 2 0) := (Zs (Nat.le_of_ble_eq_true rfl) z62)
  exact z63
set_option maxHeartbeats 20000000 in
set_option maxRecDepth 20000 in
theorem e_iS_6 {d : Nat} {os : List Nat} {I : Nat → Nat → Int32} {X : Nat × (Nat → Int32)} {Q : PQ} (hos : ∀ x ∈ os, x < 6) (hz : Zf 7 I) (q : Q none (HN (128) (6 :: os) (iS_6 I) X)) : Ev (d + 2) m_S_new [.ref 6] (HN 7 (6 :: os) I X) Q := by
  unfold iS_6 at q
  refine ev_start (d := d + 1) rfl rfl rfl (Nat.le_of_ble_eq_true rfl) ?_
  show Wp (Ev (d + 1)) cd_S_new (mcs m_S_new) none _ _ Q 0 [(0, .ref 6)] [] (HN 7 (6 :: os) I X)
  refine w_aload_n (Ev.cm _) rfl rfl ?_
  refine w_objI (Ev.cm _) rfl (Nat.le_of_ble_eq_true rfl) ?_
  refine w_aload_n (Ev.cm _) rfl rfl ?_
  refine w_bipush (Ev.cm _) rfl ?_
  refine w_newr (Ev.cm _) rfl (by decide) (by decide) (show _ ∧ _ from ⟨show 7 + 1 ≤ 7 + (mcs m_S_new).1 by decide +kernel, show slt 7 + 30 ≤ slt 7 + (mcs m_S_new).2 by decide +kernel⟩) ?_
  show Wp _ _ _ _ _ _ _ 10 [(0, .ref 6)] [.ref 7, .ref 6] (puN (HN 7 (6 :: os) I X) 14 30)
  rw [hn_new (n := 7) (k := 14) (len := 30) rfl hz]
  have z1 : Zf 8 I := (Zn hz)
  refine w_putR (Ev.cm _) rfl (Nat.le_of_ble_eq_true rfl) rfl ?_
  show Wp _ _ _ _ _ _ _ 13 [(0, .ref 6)] [] (puR (HN 8 (7 :: 6 :: os) I X) 6 0 (some 7))
  rw [hn_link (o := 6) (k := 0) (q := 7) rfl (Nat.le_of_ble_eq_true rfl) (nin hos (Nat.le_of_ble_eq_true rfl))]
  refine w_iconst (Ev.cm _) rfl ?_
  refine w_istore_n (ls2 := [(0, .ref 6), (1, .int 0)]) (Ev.cm _) rfl rfl ?_
  refine w_iload_n (Ev.cm _) rfl rfl ?_
  refine w_bipush (Ev.cm _) rfl ?_
  refine w_icmp_ge (Ev.cm _) rfl (fun q => absurd q (by decide)) (fun _ => ?_)
  refine w_aload_n (Ev.cm _) rfl rfl ?_
  refine w_getR (q := 7) (Ev.cm _) rfl (Nat.le_of_ble_eq_true rfl) rfl (rd_get (n := 8) (o := 6) (k := 0) (q := 7) rfl (Nat.le_of_ble_eq_true rfl) (nin hos (Nat.le_of_ble_eq_true rfl))) ?_
  refine w_iload_n (Ev.cm _) rfl rfl ?_
  refine w_new (Ev.cm _) rfl (show _ ∧ _ from ⟨show 8 + 1 ≤ 7 + (mcs m_S_new).1 by decide +kernel, show slt 8 + 8 ≤ slt 7 + (mcs m_S_new).2 by decide +kernel⟩) ?_
  show Wp _ _ _ _ _ _ _ 29 [(0, .ref 6), (1, .int 0)] [.ref 8, .int 0, .ref 7] (puN (HN 8 (6 :: os) I X) 1 8)
  rw [hn_new (n := 8) (k := 1) (len := 8) rfl z1]
  have z2 : Zf 9 I := (Zn z1)
  refine w_dup (Ev.cm _) rfl rfl ?_
  refine w_cinit (as := []) (o := 8) (st := [.ref 8, .int 0, .ref 7]) (Ev.cm _) rfl rfl rfl (Nat.le_of_ble_eq_true rfl) (show _ ∧ _ from ⟨show 9 + (mcs m_H_new).1 ≤ 7 + (mcs m_S_new).1 by decide +kernel, show slt 9 + (mcs m_H_new).2 ≤ slt 7 + (mcs m_S_new).2 by decide +kernel⟩) (Nat.le_of_ble_eq_true rfl) (e_iH (show isH 8 from Or.inr (Or.inr (Or.inl ⟨0, (Nat.le_of_ble_eq_true rfl), rfl⟩))) (subos (Nat.le_of_ble_eq_true rfl) hos) z2 ?_)
  have z3 : Zf 12 (iH 8 I) := (iH_z (b := 8) z2)
  show Wp _ _ _ _ _ _ _ 33 [(0, .ref 6), (1, .int 0)] [.ref 8, .int 0, .ref 7] (HN 12 (8 :: 6 :: os) (iH 8 I) X)
  refine w_aast (Ev.cm _) rfl (Nat.le_of_ble_eq_true rfl) rfl (show vp_in 0 30 from vpI 30 (by decide) (by decide) (by decide)) (Nat.le_of_ble_eq_true rfl) rfl ?_
  show Wp _ _ _ _ _ _ _ 34 [(0, .ref 6), (1, .int 0)] [] (puR (HN 12 (8 :: 6 :: os) (iH 8 I) X) 7 0 (some 8))
  rw [hn_link (o := 7) (k := 0) (q := 8) rfl (Nat.le_of_ble_eq_true rfl) (nin hos (Nat.le_of_ble_eq_true rfl))]
  refine w_iinc (ls2 := [(0, .ref 6), (1, .int 1)]) (Ev.cm _) rfl rfl rfl ?_
  refine w_goto (Ev.cm _) rfl ?_
  refine w_iload_n (Ev.cm _) rfl rfl ?_
  refine w_bipush (Ev.cm _) rfl ?_
  refine w_icmp_ge (Ev.cm _) rfl (fun q => absurd q (by decide)) (fun _ => ?_)
  refine w_aload_n (Ev.cm _) rfl rfl ?_
  refine w_getR (q := 7) (Ev.cm _) rfl (Nat.le_of_ble_eq_true rfl) rfl (rd_get (n := 12) (o := 6) (k := 0) (q := 7) rfl (Nat.le_of_ble_eq_true rfl) (nin hos (Nat.le_of_ble_eq_true rfl))) ?_
  refine w_iload_n (Ev.cm _) rfl rfl ?_
  refine w_new (Ev.cm _) rfl (show _ ∧ _ from ⟨show 12 + 1 ≤ 7 + (mcs m_S_new).1 by decide +kernel, show slt 12 + 8 ≤ slt 7 + (mcs m_S_new).2 by decide +kernel⟩) ?_
  show Wp _ _ _ _ _ _ _ 29 [(0, .ref 6), (1, .int 1)] [.ref 12, .int 1, .ref 7] (puN (HN 12 (6 :: os) (iH 8 I) X) 1 8)
  rw [hn_new (n := 12) (k := 1) (len := 8) rfl z3]
  have z4 : Zf 13 (iH 8 I) := (Zn z3)
  refine w_dup (Ev.cm _) rfl rfl ?_
  refine w_cinit (as := []) (o := 12) (st := [.ref 12, .int 1, .ref 7]) (Ev.cm _) rfl rfl rfl (Nat.le_of_ble_eq_true rfl) (show _ ∧ _ from ⟨show 13 + (mcs m_H_new).1 ≤ 7 + (mcs m_S_new).1 by decide +kernel, show slt 13 + (mcs m_H_new).2 ≤ slt 7 + (mcs m_S_new).2 by decide +kernel⟩) (Nat.le_of_ble_eq_true rfl) (e_iH (show isH 12 from Or.inr (Or.inr (Or.inl ⟨1, (Nat.le_of_ble_eq_true rfl), rfl⟩))) (subos (Nat.le_of_ble_eq_true rfl) hos) z4 ?_)
  have z5 : Zf 16 (iH 12 (iH 8 I)) := (iH_z (b := 12) z4)
  show Wp _ _ _ _ _ _ _ 33 [(0, .ref 6), (1, .int 1)] [.ref 12, .int 1, .ref 7] (HN 16 (12 :: 6 :: os) (iH 12 (iH 8 I)) X)
  refine w_aast (Ev.cm _) rfl (Nat.le_of_ble_eq_true rfl) rfl (show vp_in 1 30 from vpI 30 (by decide) (by decide) (by decide)) (Nat.le_of_ble_eq_true rfl) rfl ?_
  show Wp _ _ _ _ _ _ _ 34 [(0, .ref 6), (1, .int 1)] [] (puR (HN 16 (12 :: 6 :: os) (iH 12 (iH 8 I)) X) 7 1 (some 12))
  rw [hn_link (o := 7) (k := 1) (q := 12) rfl (Nat.le_of_ble_eq_true rfl) (nin hos (Nat.le_of_ble_eq_true rfl))]
  refine w_iinc (ls2 := [(0, .ref 6), (1, .int 2)]) (Ev.cm _) rfl rfl rfl ?_
  refine w_goto (Ev.cm _) rfl ?_
  refine w_iload_n (Ev.cm _) rfl rfl ?_
  refine w_bipush (Ev.cm _) rfl ?_
  refine w_icmp_ge (Ev.cm _) rfl (fun q => absurd q (by decide)) (fun _ => ?_)
  refine w_aload_n (Ev.cm _) rfl rfl ?_
  refine w_getR (q := 7) (Ev.cm _) rfl (Nat.le_of_ble_eq_true rfl) rfl (rd_get (n := 16) (o := 6) (k := 0) (q := 7) rfl (Nat.le_of_ble_eq_true rfl) (nin hos (Nat.le_of_ble_eq_true rfl))) ?_
  refine w_iload_n (Ev.cm _) rfl rfl ?_
  refine w_new (Ev.cm _) rfl (show _ ∧ _ from ⟨show 16 + 1 ≤ 7 + (mcs m_S_new).1 by decide +kernel, show slt 16 + 8 ≤ slt 7 + (mcs m_S_new).2 by decide +kernel⟩) ?_
  show Wp _ _ _ _ _ _ _ 29 [(0, .ref 6), (1, .int 2)] [.ref 16, .int 2, .ref 7] (puN (HN 16 (6 :: os) (iH 12 (iH 8 I)) X) 1 8)
  rw [hn_new (n := 16) (k := 1) (len := 8) rfl z5]
  have z6 : Zf 17 (iH 12 (iH 8 I)) := (Zn z5)
  refine w_dup (Ev.cm _) rfl rfl ?_
  refine w_cinit (as := []) (o := 16) (st := [.ref 16, .int 2, .ref 7]) (Ev.cm _) rfl rfl rfl (Nat.le_of_ble_eq_true rfl) (show _ ∧ _ from ⟨show 17 + (mcs m_H_new).1 ≤ 7 + (mcs m_S_new).1 by decide +kernel, show slt 17 + (mcs m_H_new).2 ≤ slt 7 + (mcs m_S_new).2 by decide +kernel⟩) (Nat.le_of_ble_eq_true rfl) (e_iH (show isH 16 from Or.inr (Or.inr (Or.inl ⟨2, (Nat.le_of_ble_eq_true rfl), rfl⟩))) (subos (Nat.le_of_ble_eq_true rfl) hos) z6 ?_)
  have z7 : Zf 20 (iH 16 (iH 12 (iH 8 I))) := (iH_z (b := 16) z6)
  show Wp _ _ _ _ _ _ _ 33 [(0, .ref 6), (1, .int 2)] [.ref 16, .int 2, .ref 7] (HN 20 (16 :: 6 :: os) (iH 16 (iH 12 (iH 8 I))) X)
  refine w_aast (Ev.cm _) rfl (Nat.le_of_ble_eq_true rfl) rfl (show vp_in 2 30 from vpI 30 (by decide) (by decide) (by decide)) (Nat.le_of_ble_eq_true rfl) rfl ?_
  show Wp _ _ _ _ _ _ _ 34 [(0, .ref 6), (1, .int 2)] [] (puR (HN 20 (16 :: 6 :: os) (iH 16 (iH 12 (iH 8 I))) X) 7 2 (some 16))
  rw [hn_link (o := 7) (k := 2) (q := 16) rfl (Nat.le_of_ble_eq_true rfl) (nin hos (Nat.le_of_ble_eq_true rfl))]
  refine w_iinc (ls2 := [(0, .ref 6), (1, .int 3)]) (Ev.cm _) rfl rfl rfl ?_
  refine w_goto (Ev.cm _) rfl ?_
  refine w_iload_n (Ev.cm _) rfl rfl ?_
  refine w_bipush (Ev.cm _) rfl ?_
  refine w_icmp_ge (Ev.cm _) rfl (fun q => absurd q (by decide)) (fun _ => ?_)
  refine w_aload_n (Ev.cm _) rfl rfl ?_
  refine w_getR (q := 7) (Ev.cm _) rfl (Nat.le_of_ble_eq_true rfl) rfl (rd_get (n := 20) (o := 6) (k := 0) (q := 7) rfl (Nat.le_of_ble_eq_true rfl) (nin hos (Nat.le_of_ble_eq_true rfl))) ?_
  refine w_iload_n (Ev.cm _) rfl rfl ?_
  refine w_new (Ev.cm _) rfl (show _ ∧ _ from ⟨show 20 + 1 ≤ 7 + (mcs m_S_new).1 by decide +kernel, show slt 20 + 8 ≤ slt 7 + (mcs m_S_new).2 by decide +kernel⟩) ?_
  show Wp _ _ _ _ _ _ _ 29 [(0, .ref 6), (1, .int 3)] [.ref 20, .int 3, .ref 7] (puN (HN 20 (6 :: os) (iH 16 (iH 12 (iH 8 I))) X) 1 8)
  rw [hn_new (n := 20) (k := 1) (len := 8) rfl z7]
  have z8 : Zf 21 (iH 16 (iH 12 (iH 8 I))) := (Zn z7)
  refine w_dup (Ev.cm _) rfl rfl ?_
  refine w_cinit (as := []) (o := 20) (st := [.ref 20, .int 3, .ref 7]) (Ev.cm _) rfl rfl rfl (Nat.le_of_ble_eq_true rfl) (show _ ∧ _ from ⟨show 21 + (mcs m_H_new).1 ≤ 7 + (mcs m_S_new).1 by decide +kernel, show slt 21 + (mcs m_H_new).2 ≤ slt 7 + (mcs m_S_new).2 by decide +kernel⟩) (Nat.le_of_ble_eq_true rfl) (e_iH (show isH 20 from Or.inr (Or.inr (Or.inl ⟨3, (Nat.le_of_ble_eq_true rfl), rfl⟩))) (subos (Nat.le_of_ble_eq_true rfl) hos) z8 ?_)
  have z9 : Zf 24 (iH 20 (iH 16 (iH 12 (iH 8 I)))) := (iH_z (b := 20) z8)
  show Wp _ _ _ _ _ _ _ 33 [(0, .ref 6), (1, .int 3)] [.ref 20, .int 3, .ref 7] (HN 24 (20 :: 6 :: os) (iH 20 (iH 16 (iH 12 (iH 8 I)))) X)
  refine w_aast (Ev.cm _) rfl (Nat.le_of_ble_eq_true rfl) rfl (show vp_in 3 30 from vpI 30 (by decide) (by decide) (by decide)) (Nat.le_of_ble_eq_true rfl) rfl ?_
  show Wp _ _ _ _ _ _ _ 34 [(0, .ref 6), (1, .int 3)] [] (puR (HN 24 (20 :: 6 :: os) (iH 20 (iH 16 (iH 12 (iH 8 I)))) X) 7 3 (some 20))
  rw [hn_link (o := 7) (k := 3) (q := 20) rfl (Nat.le_of_ble_eq_true rfl) (nin hos (Nat.le_of_ble_eq_true rfl))]
  refine w_iinc (ls2 := [(0, .ref 6), (1, .int 4)]) (Ev.cm _) rfl rfl rfl ?_
  refine w_goto (Ev.cm _) rfl ?_
  refine w_iload_n (Ev.cm _) rfl rfl ?_
  refine w_bipush (Ev.cm _) rfl ?_
  refine w_icmp_ge (Ev.cm _) rfl (fun q => absurd q (by decide)) (fun _ => ?_)
  refine w_aload_n (Ev.cm _) rfl rfl ?_
  refine w_getR (q := 7) (Ev.cm _) rfl (Nat.le_of_ble_eq_true rfl) rfl (rd_get (n := 24) (o := 6) (k := 0) (q := 7) rfl (Nat.le_of_ble_eq_true rfl) (nin hos (Nat.le_of_ble_eq_true rfl))) ?_
  refine w_iload_n (Ev.cm _) rfl rfl ?_
  refine w_new (Ev.cm _) rfl (show _ ∧ _ from ⟨show 24 + 1 ≤ 7 + (mcs m_S_new).1 by decide +kernel, show slt 24 + 8 ≤ slt 7 + (mcs m_S_new).2 by decide +kernel⟩) ?_
  show Wp _ _ _ _ _ _ _ 29 [(0, .ref 6), (1, .int 4)] [.ref 24, .int 4, .ref 7] (puN (HN 24 (6 :: os) (iH 20 (iH 16 (iH 12 (iH 8 I)))) X) 1 8)
  rw [hn_new (n := 24) (k := 1) (len := 8) rfl z9]
  have z10 : Zf 25 (iH 20 (iH 16 (iH 12 (iH 8 I)))) := (Zn z9)
  refine w_dup (Ev.cm _) rfl rfl ?_
  refine w_cinit (as := []) (o := 24) (st := [.ref 24, .int 4, .ref 7]) (Ev.cm _) rfl rfl rfl (Nat.le_of_ble_eq_true rfl) (show _ ∧ _ from ⟨show 25 + (mcs m_H_new).1 ≤ 7 + (mcs m_S_new).1 by decide +kernel, show slt 25 + (mcs m_H_new).2 ≤ slt 7 + (mcs m_S_new).2 by decide +kernel⟩) (Nat.le_of_ble_eq_true rfl) (e_iH (show isH 24 from Or.inr (Or.inr (Or.inl ⟨4, (Nat.le_of_ble_eq_true rfl), rfl⟩))) (subos (Nat.le_of_ble_eq_true rfl) hos) z10 ?_)
  have z11 : Zf 28 (iH 24 (iH 20 (iH 16 (iH 12 (iH 8 I))))) := (iH_z (b := 24) z10)
  show Wp _ _ _ _ _ _ _ 33 [(0, .ref 6), (1, .int 4)] [.ref 24, .int 4, .ref 7] (HN 28 (24 :: 6 :: os) (iH 24 (iH 20 (iH 16 (iH 12 (iH 8 I))))) X)
  refine w_aast (Ev.cm _) rfl (Nat.le_of_ble_eq_true rfl) rfl (show vp_in 4 30 from vpI 30 (by decide) (by decide) (by decide)) (Nat.le_of_ble_eq_true rfl) rfl ?_
  show Wp _ _ _ _ _ _ _ 34 [(0, .ref 6), (1, .int 4)] [] (puR (HN 28 (24 :: 6 :: os) (iH 24 (iH 20 (iH 16 (iH 12 (iH 8 I))))) X) 7 4 (some 24))
  rw [hn_link (o := 7) (k := 4) (q := 24) rfl (Nat.le_of_ble_eq_true rfl) (nin hos (Nat.le_of_ble_eq_true rfl))]
  refine w_iinc (ls2 := [(0, .ref 6), (1, .int 5)]) (Ev.cm _) rfl rfl rfl ?_
  refine w_goto (Ev.cm _) rfl ?_
  refine w_iload_n (Ev.cm _) rfl rfl ?_
  refine w_bipush (Ev.cm _) rfl ?_
  refine w_icmp_ge (Ev.cm _) rfl (fun q => absurd q (by decide)) (fun _ => ?_)
  refine w_aload_n (Ev.cm _) rfl rfl ?_
  refine w_getR (q := 7) (Ev.cm _) rfl (Nat.le_of_ble_eq_true rfl) rfl (rd_get (n := 28) (o := 6) (k := 0) (q := 7) rfl (Nat.le_of_ble_eq_true rfl) (nin hos (Nat.le_of_ble_eq_true rfl))) ?_
  refine w_iload_n (Ev.cm _) rfl rfl ?_
  refine w_new (Ev.cm _) rfl (show _ ∧ _ from ⟨show 28 + 1 ≤ 7 + (mcs m_S_new).1 by decide +kernel, show slt 28 + 8 ≤ slt 7 + (mcs m_S_new).2 by decide +kernel⟩) ?_
  show Wp _ _ _ _ _ _ _ 29 [(0, .ref 6), (1, .int 5)] [.ref 28, .int 5, .ref 7] (puN (HN 28 (6 :: os) (iH 24 (iH 20 (iH 16 (iH 12 (iH 8 I))))) X) 1 8)
  rw [hn_new (n := 28) (k := 1) (len := 8) rfl z11]
  have z12 : Zf 29 (iH 24 (iH 20 (iH 16 (iH 12 (iH 8 I))))) := (Zn z11)
  refine w_dup (Ev.cm _) rfl rfl ?_
  refine w_cinit (as := []) (o := 28) (st := [.ref 28, .int 5, .ref 7]) (Ev.cm _) rfl rfl rfl (Nat.le_of_ble_eq_true rfl) (show _ ∧ _ from ⟨show 29 + (mcs m_H_new).1 ≤ 7 + (mcs m_S_new).1 by decide +kernel, show slt 29 + (mcs m_H_new).2 ≤ slt 7 + (mcs m_S_new).2 by decide +kernel⟩) (Nat.le_of_ble_eq_true rfl) (e_iH (show isH 28 from Or.inr (Or.inr (Or.inl ⟨5, (Nat.le_of_ble_eq_true rfl), rfl⟩))) (subos (Nat.le_of_ble_eq_true rfl) hos) z12 ?_)
  have z13 : Zf 32 (iH 28 (iH 24 (iH 20 (iH 16 (iH 12 (iH 8 I)))))) := (iH_z (b := 28) z12)
  show Wp _ _ _ _ _ _ _ 33 [(0, .ref 6), (1, .int 5)] [.ref 28, .int 5, .ref 7] (HN 32 (28 :: 6 :: os) (iH 28 (iH 24 (iH 20 (iH 16 (iH 12 (iH 8 I)))))) X)
  refine w_aast (Ev.cm _) rfl (Nat.le_of_ble_eq_true rfl) rfl (show vp_in 5 30 from vpI 30 (by decide) (by decide) (by decide)) (Nat.le_of_ble_eq_true rfl) rfl ?_
  show Wp _ _ _ _ _ _ _ 34 [(0, .ref 6), (1, .int 5)] [] (puR (HN 32 (28 :: 6 :: os) (iH 28 (iH 24 (iH 20 (iH 16 (iH 12 (iH 8 I)))))) X) 7 5 (some 28))
  rw [hn_link (o := 7) (k := 5) (q := 28) rfl (Nat.le_of_ble_eq_true rfl) (nin hos (Nat.le_of_ble_eq_true rfl))]
  refine w_iinc (ls2 := [(0, .ref 6), (1, .int 6)]) (Ev.cm _) rfl rfl rfl ?_
  refine w_goto (Ev.cm _) rfl ?_
  refine w_iload_n (Ev.cm _) rfl rfl ?_
  refine w_bipush (Ev.cm _) rfl ?_
  refine w_icmp_ge (Ev.cm _) rfl (fun q => absurd q (by decide)) (fun _ => ?_)
  refine w_aload_n (Ev.cm _) rfl rfl ?_
  refine w_getR (q := 7) (Ev.cm _) rfl (Nat.le_of_ble_eq_true rfl) rfl (rd_get (n := 32) (o := 6) (k := 0) (q := 7) rfl (Nat.le_of_ble_eq_true rfl) (nin hos (Nat.le_of_ble_eq_true rfl))) ?_
  refine w_iload_n (Ev.cm _) rfl rfl ?_
  refine w_new (Ev.cm _) rfl (show _ ∧ _ from ⟨show 32 + 1 ≤ 7 + (mcs m_S_new).1 by decide +kernel, show slt 32 + 8 ≤ slt 7 + (mcs m_S_new).2 by decide +kernel⟩) ?_
  show Wp _ _ _ _ _ _ _ 29 [(0, .ref 6), (1, .int 6)] [.ref 32, .int 6, .ref 7] (puN (HN 32 (6 :: os) (iH 28 (iH 24 (iH 20 (iH 16 (iH 12 (iH 8 I)))))) X) 1 8)
  rw [hn_new (n := 32) (k := 1) (len := 8) rfl z13]
  have z14 : Zf 33 (iH 28 (iH 24 (iH 20 (iH 16 (iH 12 (iH 8 I)))))) := (Zn z13)
  refine w_dup (Ev.cm _) rfl rfl ?_
  refine w_cinit (as := []) (o := 32) (st := [.ref 32, .int 6, .ref 7]) (Ev.cm _) rfl rfl rfl (Nat.le_of_ble_eq_true rfl) (show _ ∧ _ from ⟨show 33 + (mcs m_H_new).1 ≤ 7 + (mcs m_S_new).1 by decide +kernel, show slt 33 + (mcs m_H_new).2 ≤ slt 7 + (mcs m_S_new).2 by decide +kernel⟩) (Nat.le_of_ble_eq_true rfl) (e_iH (show isH 32 from Or.inr (Or.inr (Or.inl ⟨6, (Nat.le_of_ble_eq_true rfl), rfl⟩))) (subos (Nat.le_of_ble_eq_true rfl) hos) z14 ?_)
  have z15 : Zf 36 (iH 32 (iH 28 (iH 24 (iH 20 (iH 16 (iH 12 (iH 8 I))))))) := (iH_z (b := 32) z14)
  show Wp _ _ _ _ _ _ _ 33 [(0, .ref 6), (1, .int 6)] [.ref 32, .int 6, .ref 7] (HN 36 (32 :: 6 :: os) (iH 32 (iH 28 (iH 24 (iH 20 (iH 16 (iH 12 (iH 8 I))))))) X)
  refine w_aast (Ev.cm _) rfl (Nat.le_of_ble_eq_true rfl) rfl (show vp_in 6 30 from vpI 30 (by decide) (by decide) (by decide)) (Nat.le_of_ble_eq_true rfl) rfl ?_
  show Wp _ _ _ _ _ _ _ 34 [(0, .ref 6), (1, .int 6)] [] (puR (HN 36 (32 :: 6 :: os) (iH 32 (iH 28 (iH 24 (iH 20 (iH 16 (iH 12 (iH 8 I))))))) X) 7 6 (some 32))
  rw [hn_link (o := 7) (k := 6) (q := 32) rfl (Nat.le_of_ble_eq_true rfl) (nin hos (Nat.le_of_ble_eq_true rfl))]
  refine w_iinc (ls2 := [(0, .ref 6), (1, .int 7)]) (Ev.cm _) rfl rfl rfl ?_
  refine w_goto (Ev.cm _) rfl ?_
  refine w_iload_n (Ev.cm _) rfl rfl ?_
  refine w_bipush (Ev.cm _) rfl ?_
  refine w_icmp_ge (Ev.cm _) rfl (fun q => absurd q (by decide)) (fun _ => ?_)
  refine w_aload_n (Ev.cm _) rfl rfl ?_
  refine w_getR (q := 7) (Ev.cm _) rfl (Nat.le_of_ble_eq_true rfl) rfl (rd_get (n := 36) (o := 6) (k := 0) (q := 7) rfl (Nat.le_of_ble_eq_true rfl) (nin hos (Nat.le_of_ble_eq_true rfl))) ?_
  refine w_iload_n (Ev.cm _) rfl rfl ?_
  refine w_new (Ev.cm _) rfl (show _ ∧ _ from ⟨show 36 + 1 ≤ 7 + (mcs m_S_new).1 by decide +kernel, show slt 36 + 8 ≤ slt 7 + (mcs m_S_new).2 by decide +kernel⟩) ?_
  show Wp _ _ _ _ _ _ _ 29 [(0, .ref 6), (1, .int 7)] [.ref 36, .int 7, .ref 7] (puN (HN 36 (6 :: os) (iH 32 (iH 28 (iH 24 (iH 20 (iH 16 (iH 12 (iH 8 I))))))) X) 1 8)
  rw [hn_new (n := 36) (k := 1) (len := 8) rfl z15]
  have z16 : Zf 37 (iH 32 (iH 28 (iH 24 (iH 20 (iH 16 (iH 12 (iH 8 I))))))) := (Zn z15)
  refine w_dup (Ev.cm _) rfl rfl ?_
  refine w_cinit (as := []) (o := 36) (st := [.ref 36, .int 7, .ref 7]) (Ev.cm _) rfl rfl rfl (Nat.le_of_ble_eq_true rfl) (show _ ∧ _ from ⟨show 37 + (mcs m_H_new).1 ≤ 7 + (mcs m_S_new).1 by decide +kernel, show slt 37 + (mcs m_H_new).2 ≤ slt 7 + (mcs m_S_new).2 by decide +kernel⟩) (Nat.le_of_ble_eq_true rfl) (e_iH (show isH 36 from Or.inr (Or.inr (Or.inl ⟨7, (Nat.le_of_ble_eq_true rfl), rfl⟩))) (subos (Nat.le_of_ble_eq_true rfl) hos) z16 ?_)
  have z17 : Zf 40 (iH 36 (iH 32 (iH 28 (iH 24 (iH 20 (iH 16 (iH 12 (iH 8 I)))))))) := (iH_z (b := 36) z16)
  show Wp _ _ _ _ _ _ _ 33 [(0, .ref 6), (1, .int 7)] [.ref 36, .int 7, .ref 7] (HN 40 (36 :: 6 :: os) (iH 36 (iH 32 (iH 28 (iH 24 (iH 20 (iH 16 (iH 12 (iH 8 I)))))))) X)
  refine w_aast (Ev.cm _) rfl (Nat.le_of_ble_eq_true rfl) rfl (show vp_in 7 30 from vpI 30 (by decide) (by decide) (by decide)) (Nat.le_of_ble_eq_true rfl) rfl ?_
  show Wp _ _ _ _ _ _ _ 34 [(0, .ref 6), (1, .int 7)] [] (puR (HN 40 (36 :: 6 :: os) (iH 36 (iH 32 (iH 28 (iH 24 (iH 20 (iH 16 (iH 12 (iH 8 I)))))))) X) 7 7 (some 36))
  rw [hn_link (o := 7) (k := 7) (q := 36) rfl (Nat.le_of_ble_eq_true rfl) (nin hos (Nat.le_of_ble_eq_true rfl))]
  refine w_iinc (ls2 := [(0, .ref 6), (1, .int 8)]) (Ev.cm _) rfl rfl rfl ?_
  refine w_goto (Ev.cm _) rfl ?_
  refine w_iload_n (Ev.cm _) rfl rfl ?_
  refine w_bipush (Ev.cm _) rfl ?_
  refine w_icmp_ge (Ev.cm _) rfl (fun q => absurd q (by decide)) (fun _ => ?_)
  refine w_aload_n (Ev.cm _) rfl rfl ?_
  refine w_getR (q := 7) (Ev.cm _) rfl (Nat.le_of_ble_eq_true rfl) rfl (rd_get (n := 40) (o := 6) (k := 0) (q := 7) rfl (Nat.le_of_ble_eq_true rfl) (nin hos (Nat.le_of_ble_eq_true rfl))) ?_
  refine w_iload_n (Ev.cm _) rfl rfl ?_
  refine w_new (Ev.cm _) rfl (show _ ∧ _ from ⟨show 40 + 1 ≤ 7 + (mcs m_S_new).1 by decide +kernel, show slt 40 + 8 ≤ slt 7 + (mcs m_S_new).2 by decide +kernel⟩) ?_
  show Wp _ _ _ _ _ _ _ 29 [(0, .ref 6), (1, .int 8)] [.ref 40, .int 8, .ref 7] (puN (HN 40 (6 :: os) (iH 36 (iH 32 (iH 28 (iH 24 (iH 20 (iH 16 (iH 12 (iH 8 I)))))))) X) 1 8)
  rw [hn_new (n := 40) (k := 1) (len := 8) rfl z17]
  have z18 : Zf 41 (iH 36 (iH 32 (iH 28 (iH 24 (iH 20 (iH 16 (iH 12 (iH 8 I)))))))) := (Zn z17)
  refine w_dup (Ev.cm _) rfl rfl ?_
  refine w_cinit (as := []) (o := 40) (st := [.ref 40, .int 8, .ref 7]) (Ev.cm _) rfl rfl rfl (Nat.le_of_ble_eq_true rfl) (show _ ∧ _ from ⟨show 41 + (mcs m_H_new).1 ≤ 7 + (mcs m_S_new).1 by decide +kernel, show slt 41 + (mcs m_H_new).2 ≤ slt 7 + (mcs m_S_new).2 by decide +kernel⟩) (Nat.le_of_ble_eq_true rfl) (e_iH (show isH 40 from Or.inr (Or.inr (Or.inl ⟨8, (Nat.le_of_ble_eq_true rfl), rfl⟩))) (subos (Nat.le_of_ble_eq_true rfl) hos) z18 ?_)
  have z19 : Zf 44 (iH 40 (iH 36 (iH 32 (iH 28 (iH 24 (iH 20 (iH 16 (iH 12 (iH 8 I))))))))) := (iH_z (b := 40) z18)
  show Wp _ _ _ _ _ _ _ 33 [(0, .ref 6), (1, .int 8)] [.ref 40, .int 8, .ref 7] (HN 44 (40 :: 6 :: os) (iH 40 (iH 36 (iH 32 (iH 28 (iH 24 (iH 20 (iH 16 (iH 12 (iH 8 I))))))))) X)
  refine w_aast (Ev.cm _) rfl (Nat.le_of_ble_eq_true rfl) rfl (show vp_in 8 30 from vpI 30 (by decide) (by decide) (by decide)) (Nat.le_of_ble_eq_true rfl) rfl ?_
  show Wp _ _ _ _ _ _ _ 34 [(0, .ref 6), (1, .int 8)] [] (puR (HN 44 (40 :: 6 :: os) (iH 40 (iH 36 (iH 32 (iH 28 (iH 24 (iH 20 (iH 16 (iH 12 (iH 8 I))))))))) X) 7 8 (some 40))
  rw [hn_link (o := 7) (k := 8) (q := 40) rfl (Nat.le_of_ble_eq_true rfl) (nin hos (Nat.le_of_ble_eq_true rfl))]
  refine w_iinc (ls2 := [(0, .ref 6), (1, .int 9)]) (Ev.cm _) rfl rfl rfl ?_
  refine w_goto (Ev.cm _) rfl ?_
  refine w_iload_n (Ev.cm _) rfl rfl ?_
  refine w_bipush (Ev.cm _) rfl ?_
  refine w_icmp_ge (Ev.cm _) rfl (fun q => absurd q (by decide)) (fun _ => ?_)
  refine w_aload_n (Ev.cm _) rfl rfl ?_
  refine w_getR (q := 7) (Ev.cm _) rfl (Nat.le_of_ble_eq_true rfl) rfl (rd_get (n := 44) (o := 6) (k := 0) (q := 7) rfl (Nat.le_of_ble_eq_true rfl) (nin hos (Nat.le_of_ble_eq_true rfl))) ?_
  refine w_iload_n (Ev.cm _) rfl rfl ?_
  refine w_new (Ev.cm _) rfl (show _ ∧ _ from ⟨show 44 + 1 ≤ 7 + (mcs m_S_new).1 by decide +kernel, show slt 44 + 8 ≤ slt 7 + (mcs m_S_new).2 by decide +kernel⟩) ?_
  show Wp _ _ _ _ _ _ _ 29 [(0, .ref 6), (1, .int 9)] [.ref 44, .int 9, .ref 7] (puN (HN 44 (6 :: os) (iH 40 (iH 36 (iH 32 (iH 28 (iH 24 (iH 20 (iH 16 (iH 12 (iH 8 I))))))))) X) 1 8)
  rw [hn_new (n := 44) (k := 1) (len := 8) rfl z19]
  have z20 : Zf 45 (iH 40 (iH 36 (iH 32 (iH 28 (iH 24 (iH 20 (iH 16 (iH 12 (iH 8 I))))))))) := (Zn z19)
  refine w_dup (Ev.cm _) rfl rfl ?_
  refine w_cinit (as := []) (o := 44) (st := [.ref 44, .int 9, .ref 7]) (Ev.cm _) rfl rfl rfl (Nat.le_of_ble_eq_true rfl) (show _ ∧ _ from ⟨show 45 + (mcs m_H_new).1 ≤ 7 + (mcs m_S_new).1 by decide +kernel, show slt 45 + (mcs m_H_new).2 ≤ slt 7 + (mcs m_S_new).2 by decide +kernel⟩) (Nat.le_of_ble_eq_true rfl) (e_iH (show isH 44 from Or.inr (Or.inr (Or.inl ⟨9, (Nat.le_of_ble_eq_true rfl), rfl⟩))) (subos (Nat.le_of_ble_eq_true rfl) hos) z20 ?_)
  have z21 : Zf 48 (iH 44 (iH 40 (iH 36 (iH 32 (iH 28 (iH 24 (iH 20 (iH 16 (iH 12 (iH 8 I)))))))))) := (iH_z (b := 44) z20)
  show Wp _ _ _ _ _ _ _ 33 [(0, .ref 6), (1, .int 9)] [.ref 44, .int 9, .ref 7] (HN 48 (44 :: 6 :: os) (iH 44 (iH 40 (iH 36 (iH 32 (iH 28 (iH 24 (iH 20 (iH 16 (iH 12 (iH 8 I)))))))))) X)
  refine w_aast (Ev.cm _) rfl (Nat.le_of_ble_eq_true rfl) rfl (show vp_in 9 30 from vpI 30 (by decide) (by decide) (by decide)) (Nat.le_of_ble_eq_true rfl) rfl ?_
  show Wp _ _ _ _ _ _ _ 34 [(0, .ref 6), (1, .int 9)] [] (puR (HN 48 (44 :: 6 :: os) (iH 44 (iH 40 (iH 36 (iH 32 (iH 28 (iH 24 (iH 20 (iH 16 (iH 12 (iH 8 I)))))))))) X) 7 9 (some 44))
  rw [hn_link (o := 7) (k := 9) (q := 44) rfl (Nat.le_of_ble_eq_true rfl) (nin hos (Nat.le_of_ble_eq_true rfl))]
  refine w_iinc (ls2 := [(0, .ref 6), (1, .int 10)]) (Ev.cm _) rfl rfl rfl ?_
  refine w_goto (Ev.cm _) rfl ?_
  refine w_iload_n (Ev.cm _) rfl rfl ?_
  refine w_bipush (Ev.cm _) rfl ?_
  refine w_icmp_ge (Ev.cm _) rfl (fun q => absurd q (by decide)) (fun _ => ?_)
  refine w_aload_n (Ev.cm _) rfl rfl ?_
  refine w_getR (q := 7) (Ev.cm _) rfl (Nat.le_of_ble_eq_true rfl) rfl (rd_get (n := 48) (o := 6) (k := 0) (q := 7) rfl (Nat.le_of_ble_eq_true rfl) (nin hos (Nat.le_of_ble_eq_true rfl))) ?_
  refine w_iload_n (Ev.cm _) rfl rfl ?_
  refine w_new (Ev.cm _) rfl (show _ ∧ _ from ⟨show 48 + 1 ≤ 7 + (mcs m_S_new).1 by decide +kernel, show slt 48 + 8 ≤ slt 7 + (mcs m_S_new).2 by decide +kernel⟩) ?_
  show Wp _ _ _ _ _ _ _ 29 [(0, .ref 6), (1, .int 10)] [.ref 48, .int 10, .ref 7] (puN (HN 48 (6 :: os) (iH 44 (iH 40 (iH 36 (iH 32 (iH 28 (iH 24 (iH 20 (iH 16 (iH 12 (iH 8 I)))))))))) X) 1 8)
  rw [hn_new (n := 48) (k := 1) (len := 8) rfl z21]
  have z22 : Zf 49 (iH 44 (iH 40 (iH 36 (iH 32 (iH 28 (iH 24 (iH 20 (iH 16 (iH 12 (iH 8 I)))))))))) := (Zn z21)
  refine w_dup (Ev.cm _) rfl rfl ?_
  refine w_cinit (as := []) (o := 48) (st := [.ref 48, .int 10, .ref 7]) (Ev.cm _) rfl rfl rfl (Nat.le_of_ble_eq_true rfl) (show _ ∧ _ from ⟨show 49 + (mcs m_H_new).1 ≤ 7 + (mcs m_S_new).1 by decide +kernel, show slt 49 + (mcs m_H_new).2 ≤ slt 7 + (mcs m_S_new).2 by decide +kernel⟩) (Nat.le_of_ble_eq_true rfl) (e_iH (show isH 48 from Or.inr (Or.inr (Or.inl ⟨10, (Nat.le_of_ble_eq_true rfl), rfl⟩))) (subos (Nat.le_of_ble_eq_true rfl) hos) z22 ?_)
  have z23 : Zf 52 (iH 48 (iH 44 (iH 40 (iH 36 (iH 32 (iH 28 (iH 24 (iH 20 (iH 16 (iH 12 (iH 8 I))))))))))) := (iH_z (b := 48) z22)
  show Wp _ _ _ _ _ _ _ 33 [(0, .ref 6), (1, .int 10)] [.ref 48, .int 10, .ref 7] (HN 52 (48 :: 6 :: os) (iH 48 (iH 44 (iH 40 (iH 36 (iH 32 (iH 28 (iH 24 (iH 20 (iH 16 (iH 12 (iH 8 I))))))))))) X)
  refine w_aast (Ev.cm _) rfl (Nat.le_of_ble_eq_true rfl) rfl (show vp_in 10 30 from vpI 30 (by decide) (by decide) (by decide)) (Nat.le_of_ble_eq_true rfl) rfl ?_
  show Wp _ _ _ _ _ _ _ 34 [(0, .ref 6), (1, .int 10)] [] (puR (HN 52 (48 :: 6 :: os) (iH 48 (iH 44 (iH 40 (iH 36 (iH 32 (iH 28 (iH 24 (iH 20 (iH 16 (iH 12 (iH 8 I))))))))))) X) 7 10 (some 48))
  rw [hn_link (o := 7) (k := 10) (q := 48) rfl (Nat.le_of_ble_eq_true rfl) (nin hos (Nat.le_of_ble_eq_true rfl))]
  refine w_iinc (ls2 := [(0, .ref 6), (1, .int 11)]) (Ev.cm _) rfl rfl rfl ?_
  refine w_goto (Ev.cm _) rfl ?_
  refine w_iload_n (Ev.cm _) rfl rfl ?_
  refine w_bipush (Ev.cm _) rfl ?_
  refine w_icmp_ge (Ev.cm _) rfl (fun q => absurd q (by decide)) (fun _ => ?_)
  refine w_aload_n (Ev.cm _) rfl rfl ?_
  refine w_getR (q := 7) (Ev.cm _) rfl (Nat.le_of_ble_eq_true rfl) rfl (rd_get (n := 52) (o := 6) (k := 0) (q := 7) rfl (Nat.le_of_ble_eq_true rfl) (nin hos (Nat.le_of_ble_eq_true rfl))) ?_
  refine w_iload_n (Ev.cm _) rfl rfl ?_
  refine w_new (Ev.cm _) rfl (show _ ∧ _ from ⟨show 52 + 1 ≤ 7 + (mcs m_S_new).1 by decide +kernel, show slt 52 + 8 ≤ slt 7 + (mcs m_S_new).2 by decide +kernel⟩) ?_
  show Wp _ _ _ _ _ _ _ 29 [(0, .ref 6), (1, .int 11)] [.ref 52, .int 11, .ref 7] (puN (HN 52 (6 :: os) (iH 48 (iH 44 (iH 40 (iH 36 (iH 32 (iH 28 (iH 24 (iH 20 (iH 16 (iH 12 (iH 8 I))))))))))) X) 1 8)
  rw [hn_new (n := 52) (k := 1) (len := 8) rfl z23]
  have z24 : Zf 53 (iH 48 (iH 44 (iH 40 (iH 36 (iH 32 (iH 28 (iH 24 (iH 20 (iH 16 (iH 12 (iH 8 I))))))))))) := (Zn z23)
  refine w_dup (Ev.cm _) rfl rfl ?_
  refine w_cinit (as := []) (o := 52) (st := [.ref 52, .int 11, .ref 7]) (Ev.cm _) rfl rfl rfl (Nat.le_of_ble_eq_true rfl) (show _ ∧ _ from ⟨show 53 + (mcs m_H_new).1 ≤ 7 + (mcs m_S_new).1 by decide +kernel, show slt 53 + (mcs m_H_new).2 ≤ slt 7 + (mcs m_S_new).2 by decide +kernel⟩) (Nat.le_of_ble_eq_true rfl) (e_iH (show isH 52 from Or.inr (Or.inr (Or.inl ⟨11, (Nat.le_of_ble_eq_true rfl), rfl⟩))) (subos (Nat.le_of_ble_eq_true rfl) hos) z24 ?_)
  have z25 : Zf 56 (iH 52 (iH 48 (iH 44 (iH 40 (iH 36 (iH 32 (iH 28 (iH 24 (iH 20 (iH 16 (iH 12 (iH 8 I)))))))))))) := (iH_z (b := 52) z24)
  show Wp _ _ _ _ _ _ _ 33 [(0, .ref 6), (1, .int 11)] [.ref 52, .int 11, .ref 7] (HN 56 (52 :: 6 :: os) (iH 52 (iH 48 (iH 44 (iH 40 (iH 36 (iH 32 (iH 28 (iH 24 (iH 20 (iH 16 (iH 12 (iH 8 I)))))))))))) X)
  refine w_aast (Ev.cm _) rfl (Nat.le_of_ble_eq_true rfl) rfl (show vp_in 11 30 from vpI 30 (by decide) (by decide) (by decide)) (Nat.le_of_ble_eq_true rfl) rfl ?_
  show Wp _ _ _ _ _ _ _ 34 [(0, .ref 6), (1, .int 11)] [] (puR (HN 56 (52 :: 6 :: os) (iH 52 (iH 48 (iH 44 (iH 40 (iH 36 (iH 32 (iH 28 (iH 24 (iH 20 (iH 16 (iH 12 (iH 8 I)))))))))))) X) 7 11 (some 52))
  rw [hn_link (o := 7) (k := 11) (q := 52) rfl (Nat.le_of_ble_eq_true rfl) (nin hos (Nat.le_of_ble_eq_true rfl))]
  refine w_iinc (ls2 := [(0, .ref 6), (1, .int 12)]) (Ev.cm _) rfl rfl rfl ?_
  refine w_goto (Ev.cm _) rfl ?_
  refine w_iload_n (Ev.cm _) rfl rfl ?_
  refine w_bipush (Ev.cm _) rfl ?_
  refine w_icmp_ge (Ev.cm _) rfl (fun q => absurd q (by decide)) (fun _ => ?_)
  refine w_aload_n (Ev.cm _) rfl rfl ?_
  refine w_getR (q := 7) (Ev.cm _) rfl (Nat.le_of_ble_eq_true rfl) rfl (rd_get (n := 56) (o := 6) (k := 0) (q := 7) rfl (Nat.le_of_ble_eq_true rfl) (nin hos (Nat.le_of_ble_eq_true rfl))) ?_
  refine w_iload_n (Ev.cm _) rfl rfl ?_
  refine w_new (Ev.cm _) rfl (show _ ∧ _ from ⟨show 56 + 1 ≤ 7 + (mcs m_S_new).1 by decide +kernel, show slt 56 + 8 ≤ slt 7 + (mcs m_S_new).2 by decide +kernel⟩) ?_
  show Wp _ _ _ _ _ _ _ 29 [(0, .ref 6), (1, .int 12)] [.ref 56, .int 12, .ref 7] (puN (HN 56 (6 :: os) (iH 52 (iH 48 (iH 44 (iH 40 (iH 36 (iH 32 (iH 28 (iH 24 (iH 20 (iH 16 (iH 12 (iH 8 I)))))))))))) X) 1 8)
  rw [hn_new (n := 56) (k := 1) (len := 8) rfl z25]
  have z26 : Zf 57 (iH 52 (iH 48 (iH 44 (iH 40 (iH 36 (iH 32 (iH 28 (iH 24 (iH 20 (iH 16 (iH 12 (iH 8 I)))))))))))) := (Zn z25)
  refine w_dup (Ev.cm _) rfl rfl ?_
  refine w_cinit (as := []) (o := 56) (st := [.ref 56, .int 12, .ref 7]) (Ev.cm _) rfl rfl rfl (Nat.le_of_ble_eq_true rfl) (show _ ∧ _ from ⟨show 57 + (mcs m_H_new).1 ≤ 7 + (mcs m_S_new).1 by decide +kernel, show slt 57 + (mcs m_H_new).2 ≤ slt 7 + (mcs m_S_new).2 by decide +kernel⟩) (Nat.le_of_ble_eq_true rfl) (e_iH (show isH 56 from Or.inr (Or.inr (Or.inl ⟨12, (Nat.le_of_ble_eq_true rfl), rfl⟩))) (subos (Nat.le_of_ble_eq_true rfl) hos) z26 ?_)
  have z27 : Zf 60 (iH 56 (iH 52 (iH 48 (iH 44 (iH 40 (iH 36 (iH 32 (iH 28 (iH 24 (iH 20 (iH 16 (iH 12 (iH 8 I))))))))))))) := (iH_z (b := 56) z26)
  show Wp _ _ _ _ _ _ _ 33 [(0, .ref 6), (1, .int 12)] [.ref 56, .int 12, .ref 7] (HN 60 (56 :: 6 :: os) (iH 56 (iH 52 (iH 48 (iH 44 (iH 40 (iH 36 (iH 32 (iH 28 (iH 24 (iH 20 (iH 16 (iH 12 (iH 8 I))))))))))))) X)
  refine w_aast (Ev.cm _) rfl (Nat.le_of_ble_eq_true rfl) rfl (show vp_in 12 30 from vpI 30 (by decide) (by decide) (by decide)) (Nat.le_of_ble_eq_true rfl) rfl ?_
  show Wp _ _ _ _ _ _ _ 34 [(0, .ref 6), (1, .int 12)] [] (puR (HN 60 (56 :: 6 :: os) (iH 56 (iH 52 (iH 48 (iH 44 (iH 40 (iH 36 (iH 32 (iH 28 (iH 24 (iH 20 (iH 16 (iH 12 (iH 8 I))))))))))))) X) 7 12 (some 56))
  rw [hn_link (o := 7) (k := 12) (q := 56) rfl (Nat.le_of_ble_eq_true rfl) (nin hos (Nat.le_of_ble_eq_true rfl))]
  refine w_iinc (ls2 := [(0, .ref 6), (1, .int 13)]) (Ev.cm _) rfl rfl rfl ?_
  refine w_goto (Ev.cm _) rfl ?_
  refine w_iload_n (Ev.cm _) rfl rfl ?_
  refine w_bipush (Ev.cm _) rfl ?_
  refine w_icmp_ge (Ev.cm _) rfl (fun q => absurd q (by decide)) (fun _ => ?_)
  refine w_aload_n (Ev.cm _) rfl rfl ?_
  refine w_getR (q := 7) (Ev.cm _) rfl (Nat.le_of_ble_eq_true rfl) rfl (rd_get (n := 60) (o := 6) (k := 0) (q := 7) rfl (Nat.le_of_ble_eq_true rfl) (nin hos (Nat.le_of_ble_eq_true rfl))) ?_
  refine w_iload_n (Ev.cm _) rfl rfl ?_
  refine w_new (Ev.cm _) rfl (show _ ∧ _ from ⟨show 60 + 1 ≤ 7 + (mcs m_S_new).1 by decide +kernel, show slt 60 + 8 ≤ slt 7 + (mcs m_S_new).2 by decide +kernel⟩) ?_
  show Wp _ _ _ _ _ _ _ 29 [(0, .ref 6), (1, .int 13)] [.ref 60, .int 13, .ref 7] (puN (HN 60 (6 :: os) (iH 56 (iH 52 (iH 48 (iH 44 (iH 40 (iH 36 (iH 32 (iH 28 (iH 24 (iH 20 (iH 16 (iH 12 (iH 8 I))))))))))))) X) 1 8)
  rw [hn_new (n := 60) (k := 1) (len := 8) rfl z27]
  have z28 : Zf 61 (iH 56 (iH 52 (iH 48 (iH 44 (iH 40 (iH 36 (iH 32 (iH 28 (iH 24 (iH 20 (iH 16 (iH 12 (iH 8 I))))))))))))) := (Zn z27)
  refine w_dup (Ev.cm _) rfl rfl ?_
  refine w_cinit (as := []) (o := 60) (st := [.ref 60, .int 13, .ref 7]) (Ev.cm _) rfl rfl rfl (Nat.le_of_ble_eq_true rfl) (show _ ∧ _ from ⟨show 61 + (mcs m_H_new).1 ≤ 7 + (mcs m_S_new).1 by decide +kernel, show slt 61 + (mcs m_H_new).2 ≤ slt 7 + (mcs m_S_new).2 by decide +kernel⟩) (Nat.le_of_ble_eq_true rfl) (e_iH (show isH 60 from Or.inr (Or.inr (Or.inl ⟨13, (Nat.le_of_ble_eq_true rfl), rfl⟩))) (subos (Nat.le_of_ble_eq_true rfl) hos) z28 ?_)
  have z29 : Zf 64 (iH 60 (iH 56 (iH 52 (iH 48 (iH 44 (iH 40 (iH 36 (iH 32 (iH 28 (iH 24 (iH 20 (iH 16 (iH 12 (iH 8 I)))))))))))))) := (iH_z (b := 60) z28)
  show Wp _ _ _ _ _ _ _ 33 [(0, .ref 6), (1, .int 13)] [.ref 60, .int 13, .ref 7] (HN 64 (60 :: 6 :: os) (iH 60 (iH 56 (iH 52 (iH 48 (iH 44 (iH 40 (iH 36 (iH 32 (iH 28 (iH 24 (iH 20 (iH 16 (iH 12 (iH 8 I)))))))))))))) X)
  refine w_aast (Ev.cm _) rfl (Nat.le_of_ble_eq_true rfl) rfl (show vp_in 13 30 from vpI 30 (by decide) (by decide) (by decide)) (Nat.le_of_ble_eq_true rfl) rfl ?_
  show Wp _ _ _ _ _ _ _ 34 [(0, .ref 6), (1, .int 13)] [] (puR (HN 64 (60 :: 6 :: os) (iH 60 (iH 56 (iH 52 (iH 48 (iH 44 (iH 40 (iH 36 (iH 32 (iH 28 (iH 24 (iH 20 (iH 16 (iH 12 (iH 8 I)))))))))))))) X) 7 13 (some 60))
  rw [hn_link (o := 7) (k := 13) (q := 60) rfl (Nat.le_of_ble_eq_true rfl) (nin hos (Nat.le_of_ble_eq_true rfl))]
  refine w_iinc (ls2 := [(0, .ref 6), (1, .int 14)]) (Ev.cm _) rfl rfl rfl ?_
  refine w_goto (Ev.cm _) rfl ?_
  refine w_iload_n (Ev.cm _) rfl rfl ?_
  refine w_bipush (Ev.cm _) rfl ?_
  refine w_icmp_ge (Ev.cm _) rfl (fun q => absurd q (by decide)) (fun _ => ?_)
  refine w_aload_n (Ev.cm _) rfl rfl ?_
  refine w_getR (q := 7) (Ev.cm _) rfl (Nat.le_of_ble_eq_true rfl) rfl (rd_get (n := 64) (o := 6) (k := 0) (q := 7) rfl (Nat.le_of_ble_eq_true rfl) (nin hos (Nat.le_of_ble_eq_true rfl))) ?_
  refine w_iload_n (Ev.cm _) rfl rfl ?_
  refine w_new (Ev.cm _) rfl (show _ ∧ _ from ⟨show 64 + 1 ≤ 7 + (mcs m_S_new).1 by decide +kernel, show slt 64 + 8 ≤ slt 7 + (mcs m_S_new).2 by decide +kernel⟩) ?_
  show Wp _ _ _ _ _ _ _ 29 [(0, .ref 6), (1, .int 14)] [.ref 64, .int 14, .ref 7] (puN (HN 64 (6 :: os) (iH 60 (iH 56 (iH 52 (iH 48 (iH 44 (iH 40 (iH 36 (iH 32 (iH 28 (iH 24 (iH 20 (iH 16 (iH 12 (iH 8 I)))))))))))))) X) 1 8)
  rw [hn_new (n := 64) (k := 1) (len := 8) rfl z29]
  have z30 : Zf 65 (iH 60 (iH 56 (iH 52 (iH 48 (iH 44 (iH 40 (iH 36 (iH 32 (iH 28 (iH 24 (iH 20 (iH 16 (iH 12 (iH 8 I)))))))))))))) := (Zn z29)
  refine w_dup (Ev.cm _) rfl rfl ?_
  refine w_cinit (as := []) (o := 64) (st := [.ref 64, .int 14, .ref 7]) (Ev.cm _) rfl rfl rfl (Nat.le_of_ble_eq_true rfl) (show _ ∧ _ from ⟨show 65 + (mcs m_H_new).1 ≤ 7 + (mcs m_S_new).1 by decide +kernel, show slt 65 + (mcs m_H_new).2 ≤ slt 7 + (mcs m_S_new).2 by decide +kernel⟩) (Nat.le_of_ble_eq_true rfl) (e_iH (show isH 64 from Or.inr (Or.inr (Or.inl ⟨14, (Nat.le_of_ble_eq_true rfl), rfl⟩))) (subos (Nat.le_of_ble_eq_true rfl) hos) z30 ?_)
  have z31 : Zf 68 (iH 64 (iH 60 (iH 56 (iH 52 (iH 48 (iH 44 (iH 40 (iH 36 (iH 32 (iH 28 (iH 24 (iH 20 (iH 16 (iH 12 (iH 8 I))))))))))))))) := (iH_z (b := 64) z30)
  show Wp _ _ _ _ _ _ _ 33 [(0, .ref 6), (1, .int 14)] [.ref 64, .int 14, .ref 7] (HN 68 (64 :: 6 :: os) (iH 64 (iH 60 (iH 56 (iH 52 (iH 48 (iH 44 (iH 40 (iH 36 (iH 32 (iH 28 (iH 24 (iH 20 (iH 16 (iH 12 (iH 8 I))))))))))))))) X)
  refine w_aast (Ev.cm _) rfl (Nat.le_of_ble_eq_true rfl) rfl (show vp_in 14 30 from vpI 30 (by decide) (by decide) (by decide)) (Nat.le_of_ble_eq_true rfl) rfl ?_
  show Wp _ _ _ _ _ _ _ 34 [(0, .ref 6), (1, .int 14)] [] (puR (HN 68 (64 :: 6 :: os) (iH 64 (iH 60 (iH 56 (iH 52 (iH 48 (iH 44 (iH 40 (iH 36 (iH 32 (iH 28 (iH 24 (iH 20 (iH 16 (iH 12 (iH 8 I))))))))))))))) X) 7 14 (some 64))
  rw [hn_link (o := 7) (k := 14) (q := 64) rfl (Nat.le_of_ble_eq_true rfl) (nin hos (Nat.le_of_ble_eq_true rfl))]
  refine w_iinc (ls2 := [(0, .ref 6), (1, .int 15)]) (Ev.cm _) rfl rfl rfl ?_
  refine w_goto (Ev.cm _) rfl ?_
  refine w_iload_n (Ev.cm _) rfl rfl ?_
  refine w_bipush (Ev.cm _) rfl ?_
  refine w_icmp_ge (Ev.cm _) rfl (fun q => absurd q (by decide)) (fun _ => ?_)
  refine w_aload_n (Ev.cm _) rfl rfl ?_
  refine w_getR (q := 7) (Ev.cm _) rfl (Nat.le_of_ble_eq_true rfl) rfl (rd_get (n := 68) (o := 6) (k := 0) (q := 7) rfl (Nat.le_of_ble_eq_true rfl) (nin hos (Nat.le_of_ble_eq_true rfl))) ?_
  refine w_iload_n (Ev.cm _) rfl rfl ?_
  refine w_new (Ev.cm _) rfl (show _ ∧ _ from ⟨show 68 + 1 ≤ 7 + (mcs m_S_new).1 by decide +kernel, show slt 68 + 8 ≤ slt 7 + (mcs m_S_new).2 by decide +kernel⟩) ?_
  show Wp _ _ _ _ _ _ _ 29 [(0, .ref 6), (1, .int 15)] [.ref 68, .int 15, .ref 7] (puN (HN 68 (6 :: os) (iH 64 (iH 60 (iH 56 (iH 52 (iH 48 (iH 44 (iH 40 (iH 36 (iH 32 (iH 28 (iH 24 (iH 20 (iH 16 (iH 12 (iH 8 I))))))))))))))) X) 1 8)
  rw [hn_new (n := 68) (k := 1) (len := 8) rfl z31]
  have z32 : Zf 69 (iH 64 (iH 60 (iH 56 (iH 52 (iH 48 (iH 44 (iH 40 (iH 36 (iH 32 (iH 28 (iH 24 (iH 20 (iH 16 (iH 12 (iH 8 I))))))))))))))) := (Zn z31)
  refine w_dup (Ev.cm _) rfl rfl ?_
  refine w_cinit (as := []) (o := 68) (st := [.ref 68, .int 15, .ref 7]) (Ev.cm _) rfl rfl rfl (Nat.le_of_ble_eq_true rfl) (show _ ∧ _ from ⟨show 69 + (mcs m_H_new).1 ≤ 7 + (mcs m_S_new).1 by decide +kernel, show slt 69 + (mcs m_H_new).2 ≤ slt 7 + (mcs m_S_new).2 by decide +kernel⟩) (Nat.le_of_ble_eq_true rfl) (e_iH (show isH 68 from Or.inr (Or.inr (Or.inl ⟨15, (Nat.le_of_ble_eq_true rfl), rfl⟩))) (subos (Nat.le_of_ble_eq_true rfl) hos) z32 ?_)
  have z33 : Zf 72 (iH 68 (iH 64 (iH 60 (iH 56 (iH 52 (iH 48 (iH 44 (iH 40 (iH 36 (iH 32 (iH 28 (iH 24 (iH 20 (iH 16 (iH 12 (iH 8 I)))))))))))))))) := (iH_z (b := 68) z32)
  show Wp _ _ _ _ _ _ _ 33 [(0, .ref 6), (1, .int 15)] [.ref 68, .int 15, .ref 7] (HN 72 (68 :: 6 :: os) (iH 68 (iH 64 (iH 60 (iH 56 (iH 52 (iH 48 (iH 44 (iH 40 (iH 36 (iH 32 (iH 28 (iH 24 (iH 20 (iH 16 (iH 12 (iH 8 I)))))))))))))))) X)
  refine w_aast (Ev.cm _) rfl (Nat.le_of_ble_eq_true rfl) rfl (show vp_in 15 30 from vpI 30 (by decide) (by decide) (by decide)) (Nat.le_of_ble_eq_true rfl) rfl ?_
  show Wp _ _ _ _ _ _ _ 34 [(0, .ref 6), (1, .int 15)] [] (puR (HN 72 (68 :: 6 :: os) (iH 68 (iH 64 (iH 60 (iH 56 (iH 52 (iH 48 (iH 44 (iH 40 (iH 36 (iH 32 (iH 28 (iH 24 (iH 20 (iH 16 (iH 12 (iH 8 I)))))))))))))))) X) 7 15 (some 68))
  rw [hn_link (o := 7) (k := 15) (q := 68) rfl (Nat.le_of_ble_eq_true rfl) (nin hos (Nat.le_of_ble_eq_true rfl))]
  refine w_iinc (ls2 := [(0, .ref 6), (1, .int 16)]) (Ev.cm _) rfl rfl rfl ?_
  refine w_goto (Ev.cm _) rfl ?_
  refine w_iload_n (Ev.cm _) rfl rfl ?_
  refine w_bipush (Ev.cm _) rfl ?_
  refine w_icmp_ge (Ev.cm _) rfl (fun q => absurd q (by decide)) (fun _ => ?_)
  refine w_aload_n (Ev.cm _) rfl rfl ?_
  refine w_getR (q := 7) (Ev.cm _) rfl (Nat.le_of_ble_eq_true rfl) rfl (rd_get (n := 72) (o := 6) (k := 0) (q := 7) rfl (Nat.le_of_ble_eq_true rfl) (nin hos (Nat.le_of_ble_eq_true rfl))) ?_
  refine w_iload_n (Ev.cm _) rfl rfl ?_
  refine w_new (Ev.cm _) rfl (show _ ∧ _ from ⟨show 72 + 1 ≤ 7 + (mcs m_S_new).1 by decide +kernel, show slt 72 + 8 ≤ slt 7 + (mcs m_S_new).2 by decide +kernel⟩) ?_
  show Wp _ _ _ _ _ _ _ 29 [(0, .ref 6), (1, .int 16)] [.ref 72, .int 16, .ref 7] (puN (HN 72 (6 :: os) (iH 68 (iH 64 (iH 60 (iH 56 (iH 52 (iH 48 (iH 44 (iH 40 (iH 36 (iH 32 (iH 28 (iH 24 (iH 20 (iH 16 (iH 12 (iH 8 I)))))))))))))))) X) 1 8)
  rw [hn_new (n := 72) (k := 1) (len := 8) rfl z33]
  have z34 : Zf 73 (iH 68 (iH 64 (iH 60 (iH 56 (iH 52 (iH 48 (iH 44 (iH 40 (iH 36 (iH 32 (iH 28 (iH 24 (iH 20 (iH 16 (iH 12 (iH 8 I)))))))))))))))) := (Zn z33)
  refine w_dup (Ev.cm _) rfl rfl ?_
  refine w_cinit (as := []) (o := 72) (st := [.ref 72, .int 16, .ref 7]) (Ev.cm _) rfl rfl rfl (Nat.le_of_ble_eq_true rfl) (show _ ∧ _ from ⟨show 73 + (mcs m_H_new).1 ≤ 7 + (mcs m_S_new).1 by decide +kernel, show slt 73 + (mcs m_H_new).2 ≤ slt 7 + (mcs m_S_new).2 by decide +kernel⟩) (Nat.le_of_ble_eq_true rfl) (e_iH (show isH 72 from Or.inr (Or.inr (Or.inl ⟨16, (Nat.le_of_ble_eq_true rfl), rfl⟩))) (subos (Nat.le_of_ble_eq_true rfl) hos) z34 ?_)
  have z35 : Zf 76 (iH 72 (iH 68 (iH 64 (iH 60 (iH 56 (iH 52 (iH 48 (iH 44 (iH 40 (iH 36 (iH 32 (iH 28 (iH 24 (iH 20 (iH 16 (iH 12 (iH 8 I))))))))))))))))) := (iH_z (b := 72) z34)
  show Wp _ _ _ _ _ _ _ 33 [(0, .ref 6), (1, .int 16)] [.ref 72, .int 16, .ref 7] (HN 76 (72 :: 6 :: os) (iH 72 (iH 68 (iH 64 (iH 60 (iH 56 (iH 52 (iH 48 (iH 44 (iH 40 (iH 36 (iH 32 (iH 28 (iH 24 (iH 20 (iH 16 (iH 12 (iH 8 I))))))))))))))))) X)
  refine w_aast (Ev.cm _) rfl (Nat.le_of_ble_eq_true rfl) rfl (show vp_in 16 30 from vpI 30 (by decide) (by decide) (by decide)) (Nat.le_of_ble_eq_true rfl) rfl ?_
  show Wp _ _ _ _ _ _ _ 34 [(0, .ref 6), (1, .int 16)] [] (puR (HN 76 (72 :: 6 :: os) (iH 72 (iH 68 (iH 64 (iH 60 (iH 56 (iH 52 (iH 48 (iH 44 (iH 40 (iH 36 (iH 32 (iH 28 (iH 24 (iH 20 (iH 16 (iH 12 (iH 8 I))))))))))))))))) X) 7 16 (some 72))
  rw [hn_link (o := 7) (k := 16) (q := 72) rfl (Nat.le_of_ble_eq_true rfl) (nin hos (Nat.le_of_ble_eq_true rfl))]
  refine w_iinc (ls2 := [(0, .ref 6), (1, .int 17)]) (Ev.cm _) rfl rfl rfl ?_
  refine w_goto (Ev.cm _) rfl ?_
  refine w_iload_n (Ev.cm _) rfl rfl ?_
  refine w_bipush (Ev.cm _) rfl ?_
  refine w_icmp_ge (Ev.cm _) rfl (fun q => absurd q (by decide)) (fun _ => ?_)
  refine w_aload_n (Ev.cm _) rfl rfl ?_
  refine w_getR (q := 7) (Ev.cm _) rfl (Nat.le_of_ble_eq_true rfl) rfl (rd_get (n := 76) (o := 6) (k := 0) (q := 7) rfl (Nat.le_of_ble_eq_true rfl) (nin hos (Nat.le_of_ble_eq_true rfl))) ?_
  refine w_iload_n (Ev.cm _) rfl rfl ?_
  refine w_new (Ev.cm _) rfl (show _ ∧ _ from ⟨show 76 + 1 ≤ 7 + (mcs m_S_new).1 by decide +kernel, show slt 76 + 8 ≤ slt 7 + (mcs m_S_new).2 by decide +kernel⟩) ?_
  show Wp _ _ _ _ _ _ _ 29 [(0, .ref 6), (1, .int 17)] [.ref 76, .int 17, .ref 7] (puN (HN 76 (6 :: os) (iH 72 (iH 68 (iH 64 (iH 60 (iH 56 (iH 52 (iH 48 (iH 44 (iH 40 (iH 36 (iH 32 (iH 28 (iH 24 (iH 20 (iH 16 (iH 12 (iH 8 I))))))))))))))))) X) 1 8)
  rw [hn_new (n := 76) (k := 1) (len := 8) rfl z35]
  have z36 : Zf 77 (iH 72 (iH 68 (iH 64 (iH 60 (iH 56 (iH 52 (iH 48 (iH 44 (iH 40 (iH 36 (iH 32 (iH 28 (iH 24 (iH 20 (iH 16 (iH 12 (iH 8 I))))))))))))))))) := (Zn z35)
  refine w_dup (Ev.cm _) rfl rfl ?_
  refine w_cinit (as := []) (o := 76) (st := [.ref 76, .int 17, .ref 7]) (Ev.cm _) rfl rfl rfl (Nat.le_of_ble_eq_true rfl) (show _ ∧ _ from ⟨show 77 + (mcs m_H_new).1 ≤ 7 + (mcs m_S_new).1 by decide +kernel, show slt 77 + (mcs m_H_new).2 ≤ slt 7 + (mcs m_S_new).2 by decide +kernel⟩) (Nat.le_of_ble_eq_true rfl) (e_iH (show isH 76 from Or.inr (Or.inr (Or.inl ⟨17, (Nat.le_of_ble_eq_true rfl), rfl⟩))) (subos (Nat.le_of_ble_eq_true rfl) hos) z36 ?_)
  have z37 : Zf 80 (iH 76 (iH 72 (iH 68 (iH 64 (iH 60 (iH 56 (iH 52 (iH 48 (iH 44 (iH 40 (iH 36 (iH 32 (iH 28 (iH 24 (iH 20 (iH 16 (iH 12 (iH 8 I)))))))))))))))))) := (iH_z (b := 76) z36)
  show Wp _ _ _ _ _ _ _ 33 [(0, .ref 6), (1, .int 17)] [.ref 76, .int 17, .ref 7] (HN 80 (76 :: 6 :: os) (iH 76 (iH 72 (iH 68 (iH 64 (iH 60 (iH 56 (iH 52 (iH 48 (iH 44 (iH 40 (iH 36 (iH 32 (iH 28 (iH 24 (iH 20 (iH 16 (iH 12 (iH 8 I)))))))))))))))))) X)
  refine w_aast (Ev.cm _) rfl (Nat.le_of_ble_eq_true rfl) rfl (show vp_in 17 30 from vpI 30 (by decide) (by decide) (by decide)) (Nat.le_of_ble_eq_true rfl) rfl ?_
  show Wp _ _ _ _ _ _ _ 34 [(0, .ref 6), (1, .int 17)] [] (puR (HN 80 (76 :: 6 :: os) (iH 76 (iH 72 (iH 68 (iH 64 (iH 60 (iH 56 (iH 52 (iH 48 (iH 44 (iH 40 (iH 36 (iH 32 (iH 28 (iH 24 (iH 20 (iH 16 (iH 12 (iH 8 I)))))))))))))))))) X) 7 17 (some 76))
  rw [hn_link (o := 7) (k := 17) (q := 76) rfl (Nat.le_of_ble_eq_true rfl) (nin hos (Nat.le_of_ble_eq_true rfl))]
  refine w_iinc (ls2 := [(0, .ref 6), (1, .int 18)]) (Ev.cm _) rfl rfl rfl ?_
  refine w_goto (Ev.cm _) rfl ?_
  refine w_iload_n (Ev.cm _) rfl rfl ?_
  refine w_bipush (Ev.cm _) rfl ?_
  refine w_icmp_ge (Ev.cm _) rfl (fun q => absurd q (by decide)) (fun _ => ?_)
  refine w_aload_n (Ev.cm _) rfl rfl ?_
  refine w_getR (q := 7) (Ev.cm _) rfl (Nat.le_of_ble_eq_true rfl) rfl (rd_get (n := 80) (o := 6) (k := 0) (q := 7) rfl (Nat.le_of_ble_eq_true rfl) (nin hos (Nat.le_of_ble_eq_true rfl))) ?_
  refine w_iload_n (Ev.cm _) rfl rfl ?_
  refine w_new (Ev.cm _) rfl (show _ ∧ _ from ⟨show 80 + 1 ≤ 7 + (mcs m_S_new).1 by decide +kernel, show slt 80 + 8 ≤ slt 7 + (mcs m_S_new).2 by decide +kernel⟩) ?_
  show Wp _ _ _ _ _ _ _ 29 [(0, .ref 6), (1, .int 18)] [.ref 80, .int 18, .ref 7] (puN (HN 80 (6 :: os) (iH 76 (iH 72 (iH 68 (iH 64 (iH 60 (iH 56 (iH 52 (iH 48 (iH 44 (iH 40 (iH 36 (iH 32 (iH 28 (iH 24 (iH 20 (iH 16 (iH 12 (iH 8 I)))))))))))))))))) X) 1 8)
  rw [hn_new (n := 80) (k := 1) (len := 8) rfl z37]
  have z38 : Zf 81 (iH 76 (iH 72 (iH 68 (iH 64 (iH 60 (iH 56 (iH 52 (iH 48 (iH 44 (iH 40 (iH 36 (iH 32 (iH 28 (iH 24 (iH 20 (iH 16 (iH 12 (iH 8 I)))))))))))))))))) := (Zn z37)
  refine w_dup (Ev.cm _) rfl rfl ?_
  refine w_cinit (as := []) (o := 80) (st := [.ref 80, .int 18, .ref 7]) (Ev.cm _) rfl rfl rfl (Nat.le_of_ble_eq_true rfl) (show _ ∧ _ from ⟨show 81 + (mcs m_H_new).1 ≤ 7 + (mcs m_S_new).1 by decide +kernel, show slt 81 + (mcs m_H_new).2 ≤ slt 7 + (mcs m_S_new).2 by decide +kernel⟩) (Nat.le_of_ble_eq_true rfl) (e_iH (show isH 80 from Or.inr (Or.inr (Or.inl ⟨18, (Nat.le_of_ble_eq_true rfl), rfl⟩))) (subos (Nat.le_of_ble_eq_true rfl) hos) z38 ?_)
  have z39 : Zf 84 (iH 80 (iH 76 (iH 72 (iH 68 (iH 64 (iH 60 (iH 56 (iH 52 (iH 48 (iH 44 (iH 40 (iH 36 (iH 32 (iH 28 (iH 24 (iH 20 (iH 16 (iH 12 (iH 8 I))))))))))))))))))) := (iH_z (b := 80) z38)
  show Wp _ _ _ _ _ _ _ 33 [(0, .ref 6), (1, .int 18)] [.ref 80, .int 18, .ref 7] (HN 84 (80 :: 6 :: os) (iH 80 (iH 76 (iH 72 (iH 68 (iH 64 (iH 60 (iH 56 (iH 52 (iH 48 (iH 44 (iH 40 (iH 36 (iH 32 (iH 28 (iH 24 (iH 20 (iH 16 (iH 12 (iH 8 I))))))))))))))))))) X)
  refine w_aast (Ev.cm _) rfl (Nat.le_of_ble_eq_true rfl) rfl (show vp_in 18 30 from vpI 30 (by decide) (by decide) (by decide)) (Nat.le_of_ble_eq_true rfl) rfl ?_
  show Wp _ _ _ _ _ _ _ 34 [(0, .ref 6), (1, .int 18)] [] (puR (HN 84 (80 :: 6 :: os) (iH 80 (iH 76 (iH 72 (iH 68 (iH 64 (iH 60 (iH 56 (iH 52 (iH 48 (iH 44 (iH 40 (iH 36 (iH 32 (iH 28 (iH 24 (iH 20 (iH 16 (iH 12 (iH 8 I))))))))))))))))))) X) 7 18 (some 80))
  rw [hn_link (o := 7) (k := 18) (q := 80) rfl (Nat.le_of_ble_eq_true rfl) (nin hos (Nat.le_of_ble_eq_true rfl))]
  refine w_iinc (ls2 := [(0, .ref 6), (1, .int 19)]) (Ev.cm _) rfl rfl rfl ?_
  refine w_goto (Ev.cm _) rfl ?_
  refine w_iload_n (Ev.cm _) rfl rfl ?_
  refine w_bipush (Ev.cm _) rfl ?_
  refine w_icmp_ge (Ev.cm _) rfl (fun q => absurd q (by decide)) (fun _ => ?_)
  refine w_aload_n (Ev.cm _) rfl rfl ?_
  refine w_getR (q := 7) (Ev.cm _) rfl (Nat.le_of_ble_eq_true rfl) rfl (rd_get (n := 84) (o := 6) (k := 0) (q := 7) rfl (Nat.le_of_ble_eq_true rfl) (nin hos (Nat.le_of_ble_eq_true rfl))) ?_
  refine w_iload_n (Ev.cm _) rfl rfl ?_
  refine w_new (Ev.cm _) rfl (show _ ∧ _ from ⟨show 84 + 1 ≤ 7 + (mcs m_S_new).1 by decide +kernel, show slt 84 + 8 ≤ slt 7 + (mcs m_S_new).2 by decide +kernel⟩) ?_
  show Wp _ _ _ _ _ _ _ 29 [(0, .ref 6), (1, .int 19)] [.ref 84, .int 19, .ref 7] (puN (HN 84 (6 :: os) (iH 80 (iH 76 (iH 72 (iH 68 (iH 64 (iH 60 (iH 56 (iH 52 (iH 48 (iH 44 (iH 40 (iH 36 (iH 32 (iH 28 (iH 24 (iH 20 (iH 16 (iH 12 (iH 8 I))))))))))))))))))) X) 1 8)
  rw [hn_new (n := 84) (k := 1) (len := 8) rfl z39]
  have z40 : Zf 85 (iH 80 (iH 76 (iH 72 (iH 68 (iH 64 (iH 60 (iH 56 (iH 52 (iH 48 (iH 44 (iH 40 (iH 36 (iH 32 (iH 28 (iH 24 (iH 20 (iH 16 (iH 12 (iH 8 I))))))))))))))))))) := (Zn z39)
  refine w_dup (Ev.cm _) rfl rfl ?_
  refine w_cinit (as := []) (o := 84) (st := [.ref 84, .int 19, .ref 7]) (Ev.cm _) rfl rfl rfl (Nat.le_of_ble_eq_true rfl) (show _ ∧ _ from ⟨show 85 + (mcs m_H_new).1 ≤ 7 + (mcs m_S_new).1 by decide +kernel, show slt 85 + (mcs m_H_new).2 ≤ slt 7 + (mcs m_S_new).2 by decide +kernel⟩) (Nat.le_of_ble_eq_true rfl) (e_iH (show isH 84 from Or.inr (Or.inr (Or.inl ⟨19, (Nat.le_of_ble_eq_true rfl), rfl⟩))) (subos (Nat.le_of_ble_eq_true rfl) hos) z40 ?_)
  have z41 : Zf 88 (iH 84 (iH 80 (iH 76 (iH 72 (iH 68 (iH 64 (iH 60 (iH 56 (iH 52 (iH 48 (iH 44 (iH 40 (iH 36 (iH 32 (iH 28 (iH 24 (iH 20 (iH 16 (iH 12 (iH 8 I)))))))))))))))))))) := (iH_z (b := 84) z40)
  show Wp _ _ _ _ _ _ _ 33 [(0, .ref 6), (1, .int 19)] [.ref 84, .int 19, .ref 7] (HN 88 (84 :: 6 :: os) (iH 84 (iH 80 (iH 76 (iH 72 (iH 68 (iH 64 (iH 60 (iH 56 (iH 52 (iH 48 (iH 44 (iH 40 (iH 36 (iH 32 (iH 28 (iH 24 (iH 20 (iH 16 (iH 12 (iH 8 I)))))))))))))))))))) X)
  refine w_aast (Ev.cm _) rfl (Nat.le_of_ble_eq_true rfl) rfl (show vp_in 19 30 from vpI 30 (by decide) (by decide) (by decide)) (Nat.le_of_ble_eq_true rfl) rfl ?_
  show Wp _ _ _ _ _ _ _ 34 [(0, .ref 6), (1, .int 19)] [] (puR (HN 88 (84 :: 6 :: os) (iH 84 (iH 80 (iH 76 (iH 72 (iH 68 (iH 64 (iH 60 (iH 56 (iH 52 (iH 48 (iH 44 (iH 40 (iH 36 (iH 32 (iH 28 (iH 24 (iH 20 (iH 16 (iH 12 (iH 8 I)))))))))))))))))))) X) 7 19 (some 84))
  rw [hn_link (o := 7) (k := 19) (q := 84) rfl (Nat.le_of_ble_eq_true rfl) (nin hos (Nat.le_of_ble_eq_true rfl))]
  refine w_iinc (ls2 := [(0, .ref 6), (1, .int 20)]) (Ev.cm _) rfl rfl rfl ?_
  refine w_goto (Ev.cm _) rfl ?_
  refine w_iload_n (Ev.cm _) rfl rfl ?_
  refine w_bipush (Ev.cm _) rfl ?_
  refine w_icmp_ge (Ev.cm _) rfl (fun q => absurd q (by decide)) (fun _ => ?_)
  refine w_aload_n (Ev.cm _) rfl rfl ?_
  refine w_getR (q := 7) (Ev.cm _) rfl (Nat.le_of_ble_eq_true rfl) rfl (rd_get (n := 88) (o := 6) (k := 0) (q := 7) rfl (Nat.le_of_ble_eq_true rfl) (nin hos (Nat.le_of_ble_eq_true rfl))) ?_
  refine w_iload_n (Ev.cm _) rfl rfl ?_
  refine w_new (Ev.cm _) rfl (show _ ∧ _ from ⟨show 88 + 1 ≤ 7 + (mcs m_S_new).1 by decide +kernel, show slt 88 + 8 ≤ slt 7 + (mcs m_S_new).2 by decide +kernel⟩) ?_
  show Wp _ _ _ _ _ _ _ 29 [(0, .ref 6), (1, .int 20)] [.ref 88, .int 20, .ref 7] (puN (HN 88 (6 :: os) (iH 84 (iH 80 (iH 76 (iH 72 (iH 68 (iH 64 (iH 60 (iH 56 (iH 52 (iH 48 (iH 44 (iH 40 (iH 36 (iH 32 (iH 28 (iH 24 (iH 20 (iH 16 (iH 12 (iH 8 I)))))))))))))))))))) X) 1 8)
  rw [hn_new (n := 88) (k := 1) (len := 8) rfl z41]
  have z42 : Zf 89 (iH 84 (iH 80 (iH 76 (iH 72 (iH 68 (iH 64 (iH 60 (iH 56 (iH 52 (iH 48 (iH 44 (iH 40 (iH 36 (iH 32 (iH 28 (iH 24 (iH 20 (iH 16 (iH 12 (iH 8 I)))))))))))))))))))) := (Zn z41)
  refine w_dup (Ev.cm _) rfl rfl ?_
  refine w_cinit (as := []) (o := 88) (st := [.ref 88, .int 20, .ref 7]) (Ev.cm _) rfl rfl rfl (Nat.le_of_ble_eq_true rfl) (show _ ∧ _ from ⟨show 89 + (mcs m_H_new).1 ≤ 7 + (mcs m_S_new).1 by decide +kernel, show slt 89 + (mcs m_H_new).2 ≤ slt 7 + (mcs m_S_new).2 by decide +kernel⟩) (Nat.le_of_ble_eq_true rfl) (e_iH (show isH 88 from Or.inr (Or.inr (Or.inl ⟨20, (Nat.le_of_ble_eq_true rfl), rfl⟩))) (subos (Nat.le_of_ble_eq_true rfl) hos) z42 ?_)
  have z43 : Zf 92 (iH 88 (iH 84 (iH 80 (iH 76 (iH 72 (iH 68 (iH 64 (iH 60 (iH 56 (iH 52 (iH 48 (iH 44 (iH 40 (iH 36 (iH 32 (iH 28 (iH 24 (iH 20 (iH 16 (iH 12 (iH 8 I))))))))))))))))))))) := (iH_z (b := 88) z42)
  show Wp _ _ _ _ _ _ _ 33 [(0, .ref 6), (1, .int 20)] [.ref 88, .int 20, .ref 7] (HN 92 (88 :: 6 :: os) (iH 88 (iH 84 (iH 80 (iH 76 (iH 72 (iH 68 (iH 64 (iH 60 (iH 56 (iH 52 (iH 48 (iH 44 (iH 40 (iH 36 (iH 32 (iH 28 (iH 24 (iH 20 (iH 16 (iH 12 (iH 8 I))))))))))))))))))))) X)
  refine w_aast (Ev.cm _) rfl (Nat.le_of_ble_eq_true rfl) rfl (show vp_in 20 30 from vpI 30 (by decide) (by decide) (by decide)) (Nat.le_of_ble_eq_true rfl) rfl ?_
  show Wp _ _ _ _ _ _ _ 34 [(0, .ref 6), (1, .int 20)] [] (puR (HN 92 (88 :: 6 :: os) (iH 88 (iH 84 (iH 80 (iH 76 (iH 72 (iH 68 (iH 64 (iH 60 (iH 56 (iH 52 (iH 48 (iH 44 (iH 40 (iH 36 (iH 32 (iH 28 (iH 24 (iH 20 (iH 16 (iH 12 (iH 8 I))))))))))))))))))))) X) 7 20 (some 88))
  rw [hn_link (o := 7) (k := 20) (q := 88) rfl (Nat.le_of_ble_eq_true rfl) (nin hos (Nat.le_of_ble_eq_true rfl))]
  refine w_iinc (ls2 := [(0, .ref 6), (1, .int 21)]) (Ev.cm _) rfl rfl rfl ?_
  refine w_goto (Ev.cm _) rfl ?_
  refine w_iload_n (Ev.cm _) rfl rfl ?_
  refine w_bipush (Ev.cm _) rfl ?_
  refine w_icmp_ge (Ev.cm _) rfl (fun q => absurd q (by decide)) (fun _ => ?_)
  refine w_aload_n (Ev.cm _) rfl rfl ?_
  refine w_getR (q := 7) (Ev.cm _) rfl (Nat.le_of_ble_eq_true rfl) rfl (rd_get (n := 92) (o := 6) (k := 0) (q := 7) rfl (Nat.le_of_ble_eq_true rfl) (nin hos (Nat.le_of_ble_eq_true rfl))) ?_
  refine w_iload_n (Ev.cm _) rfl rfl ?_
  refine w_new (Ev.cm _) rfl (show _ ∧ _ from ⟨show 92 + 1 ≤ 7 + (mcs m_S_new).1 by decide +kernel, show slt 92 + 8 ≤ slt 7 + (mcs m_S_new).2 by decide +kernel⟩) ?_
  show Wp _ _ _ _ _ _ _ 29 [(0, .ref 6), (1, .int 21)] [.ref 92, .int 21, .ref 7] (puN (HN 92 (6 :: os) (iH 88 (iH 84 (iH 80 (iH 76 (iH 72 (iH 68 (iH 64 (iH 60 (iH 56 (iH 52 (iH 48 (iH 44 (iH 40 (iH 36 (iH 32 (iH 28 (iH 24 (iH 20 (iH 16 (iH 12 (iH 8 I))))))))))))))))))))) X) 1 8)
  rw [hn_new (n := 92) (k := 1) (len := 8) rfl z43]
  have z44 : Zf 93 (iH 88 (iH 84 (iH 80 (iH 76 (iH 72 (iH 68 (iH 64 (iH 60 (iH 56 (iH 52 (iH 48 (iH 44 (iH 40 (iH 36 (iH 32 (iH 28 (iH 24 (iH 20 (iH 16 (iH 12 (iH 8 I))))))))))))))))))))) := (Zn z43)
  refine w_dup (Ev.cm _) rfl rfl ?_
  refine w_cinit (as := []) (o := 92) (st := [.ref 92, .int 21, .ref 7]) (Ev.cm _) rfl rfl rfl (Nat.le_of_ble_eq_true rfl) (show _ ∧ _ from ⟨show 93 + (mcs m_H_new).1 ≤ 7 + (mcs m_S_new).1 by decide +kernel, show slt 93 + (mcs m_H_new).2 ≤ slt 7 + (mcs m_S_new).2 by decide +kernel⟩) (Nat.le_of_ble_eq_true rfl) (e_iH (show isH 92 from Or.inr (Or.inr (Or.inl ⟨21, (Nat.le_of_ble_eq_true rfl), rfl⟩))) (subos (Nat.le_of_ble_eq_true rfl) hos) z44 ?_)
  have z45 : Zf 96 (iH 92 (iH 88 (iH 84 (iH 80 (iH 76 (iH 72 (iH 68 (iH 64 (iH 60 (iH 56 (iH 52 (iH 48 (iH 44 (iH 40 (iH 36 (iH 32 (iH 28 (iH 24 (iH 20 (iH 16 (iH 12 (iH 8 I)))))))))))))))))))))) := (iH_z (b := 92) z44)
  show Wp _ _ _ _ _ _ _ 33 [(0, .ref 6), (1, .int 21)] [.ref 92, .int 21, .ref 7] (HN 96 (92 :: 6 :: os) (iH 92 (iH 88 (iH 84 (iH 80 (iH 76 (iH 72 (iH 68 (iH 64 (iH 60 (iH 56 (iH 52 (iH 48 (iH 44 (iH 40 (iH 36 (iH 32 (iH 28 (iH 24 (iH 20 (iH 16 (iH 12 (iH 8 I)))))))))))))))))))))) X)
  refine w_aast (Ev.cm _) rfl (Nat.le_of_ble_eq_true rfl) rfl (show vp_in 21 30 from vpI 30 (by decide) (by decide) (by decide)) (Nat.le_of_ble_eq_true rfl) rfl ?_
  show Wp _ _ _ _ _ _ _ 34 [(0, .ref 6), (1, .int 21)] [] (puR (HN 96 (92 :: 6 :: os) (iH 92 (iH 88 (iH 84 (iH 80 (iH 76 (iH 72 (iH 68 (iH 64 (iH 60 (iH 56 (iH 52 (iH 48 (iH 44 (iH 40 (iH 36 (iH 32 (iH 28 (iH 24 (iH 20 (iH 16 (iH 12 (iH 8 I)))))))))))))))))))))) X) 7 21 (some 92))
  rw [hn_link (o := 7) (k := 21) (q := 92) rfl (Nat.le_of_ble_eq_true rfl) (nin hos (Nat.le_of_ble_eq_true rfl))]
  refine w_iinc (ls2 := [(0, .ref 6), (1, .int 22)]) (Ev.cm _) rfl rfl rfl ?_
  refine w_goto (Ev.cm _) rfl ?_
  refine w_iload_n (Ev.cm _) rfl rfl ?_
  refine w_bipush (Ev.cm _) rfl ?_
  refine w_icmp_ge (Ev.cm _) rfl (fun q => absurd q (by decide)) (fun _ => ?_)
  refine w_aload_n (Ev.cm _) rfl rfl ?_
  refine w_getR (q := 7) (Ev.cm _) rfl (Nat.le_of_ble_eq_true rfl) rfl (rd_get (n := 96) (o := 6) (k := 0) (q := 7) rfl (Nat.le_of_ble_eq_true rfl) (nin hos (Nat.le_of_ble_eq_true rfl))) ?_
  refine w_iload_n (Ev.cm _) rfl rfl ?_
  refine w_new (Ev.cm _) rfl (show _ ∧ _ from ⟨show 96 + 1 ≤ 7 + (mcs m_S_new).1 by decide +kernel, show slt 96 + 8 ≤ slt 7 + (mcs m_S_new).2 by decide +kernel⟩) ?_
  show Wp _ _ _ _ _ _ _ 29 [(0, .ref 6), (1, .int 22)] [.ref 96, .int 22, .ref 7] (puN (HN 96 (6 :: os) (iH 92 (iH 88 (iH 84 (iH 80 (iH 76 (iH 72 (iH 68 (iH 64 (iH 60 (iH 56 (iH 52 (iH 48 (iH 44 (iH 40 (iH 36 (iH 32 (iH 28 (iH 24 (iH 20 (iH 16 (iH 12 (iH 8 I)))))))))))))))))))))) X) 1 8)
  rw [hn_new (n := 96) (k := 1) (len := 8) rfl z45]
  have z46 : Zf 97 (iH 92 (iH 88 (iH 84 (iH 80 (iH 76 (iH 72 (iH 68 (iH 64 (iH 60 (iH 56 (iH 52 (iH 48 (iH 44 (iH 40 (iH 36 (iH 32 (iH 28 (iH 24 (iH 20 (iH 16 (iH 12 (iH 8 I)))))))))))))))))))))) := (Zn z45)
  refine w_dup (Ev.cm _) rfl rfl ?_
  refine w_cinit (as := []) (o := 96) (st := [.ref 96, .int 22, .ref 7]) (Ev.cm _) rfl rfl rfl (Nat.le_of_ble_eq_true rfl) (show _ ∧ _ from ⟨show 97 + (mcs m_H_new).1 ≤ 7 + (mcs m_S_new).1 by decide +kernel, show slt 97 + (mcs m_H_new).2 ≤ slt 7 + (mcs m_S_new).2 by decide +kernel⟩) (Nat.le_of_ble_eq_true rfl) (e_iH (show isH 96 from Or.inr (Or.inr (Or.inl ⟨22, (Nat.le_of_ble_eq_true rfl), rfl⟩))) (subos (Nat.le_of_ble_eq_true rfl) hos) z46 ?_)
  have z47 : Zf 100 (iH 96 (iH 92 (iH 88 (iH 84 (iH 80 (iH 76 (iH 72 (iH 68 (iH 64 (iH 60 (iH 56 (iH 52 (iH 48 (iH 44 (iH 40 (iH 36 (iH 32 (iH 28 (iH 24 (iH 20 (iH 16 (iH 12 (iH 8 I))))))))))))))))))))))) := (iH_z (b := 96) z46)
  show Wp _ _ _ _ _ _ _ 33 [(0, .ref 6), (1, .int 22)] [.ref 96, .int 22, .ref 7] (HN 100 (96 :: 6 :: os) (iH 96 (iH 92 (iH 88 (iH 84 (iH 80 (iH 76 (iH 72 (iH 68 (iH 64 (iH 60 (iH 56 (iH 52 (iH 48 (iH 44 (iH 40 (iH 36 (iH 32 (iH 28 (iH 24 (iH 20 (iH 16 (iH 12 (iH 8 I))))))))))))))))))))))) X)
  refine w_aast (Ev.cm _) rfl (Nat.le_of_ble_eq_true rfl) rfl (show vp_in 22 30 from vpI 30 (by decide) (by decide) (by decide)) (Nat.le_of_ble_eq_true rfl) rfl ?_
  show Wp _ _ _ _ _ _ _ 34 [(0, .ref 6), (1, .int 22)] [] (puR (HN 100 (96 :: 6 :: os) (iH 96 (iH 92 (iH 88 (iH 84 (iH 80 (iH 76 (iH 72 (iH 68 (iH 64 (iH 60 (iH 56 (iH 52 (iH 48 (iH 44 (iH 40 (iH 36 (iH 32 (iH 28 (iH 24 (iH 20 (iH 16 (iH 12 (iH 8 I))))))))))))))))))))))) X) 7 22 (some 96))
  rw [hn_link (o := 7) (k := 22) (q := 96) rfl (Nat.le_of_ble_eq_true rfl) (nin hos (Nat.le_of_ble_eq_true rfl))]
  refine w_iinc (ls2 := [(0, .ref 6), (1, .int 23)]) (Ev.cm _) rfl rfl rfl ?_
  refine w_goto (Ev.cm _) rfl ?_
  refine w_iload_n (Ev.cm _) rfl rfl ?_
  refine w_bipush (Ev.cm _) rfl ?_
  refine w_icmp_ge (Ev.cm _) rfl (fun q => absurd q (by decide)) (fun _ => ?_)
  refine w_aload_n (Ev.cm _) rfl rfl ?_
  refine w_getR (q := 7) (Ev.cm _) rfl (Nat.le_of_ble_eq_true rfl) rfl (rd_get (n := 100) (o := 6) (k := 0) (q := 7) rfl (Nat.le_of_ble_eq_true rfl) (nin hos (Nat.le_of_ble_eq_true rfl))) ?_
  refine w_iload_n (Ev.cm _) rfl rfl ?_
  refine w_new (Ev.cm _) rfl (show _ ∧ _ from ⟨show 100 + 1 ≤ 7 + (mcs m_S_new).1 by decide +kernel, show slt 100 + 8 ≤ slt 7 + (mcs m_S_new).2 by decide +kernel⟩) ?_
  show Wp _ _ _ _ _ _ _ 29 [(0, .ref 6), (1, .int 23)] [.ref 100, .int 23, .ref 7] (puN (HN 100 (6 :: os) (iH 96 (iH 92 (iH 88 (iH 84 (iH 80 (iH 76 (iH 72 (iH 68 (iH 64 (iH 60 (iH 56 (iH 52 (iH 48 (iH 44 (iH 40 (iH 36 (iH 32 (iH 28 (iH 24 (iH 20 (iH 16 (iH 12 (iH 8 I))))))))))))))))))))))) X) 1 8)
  rw [hn_new (n := 100) (k := 1) (len := 8) rfl z47]
  have z48 : Zf 101 (iH 96 (iH 92 (iH 88 (iH 84 (iH 80 (iH 76 (iH 72 (iH 68 (iH 64 (iH 60 (iH 56 (iH 52 (iH 48 (iH 44 (iH 40 (iH 36 (iH 32 (iH 28 (iH 24 (iH 20 (iH 16 (iH 12 (iH 8 I))))))))))))))))))))))) := (Zn z47)
  refine w_dup (Ev.cm _) rfl rfl ?_
  refine w_cinit (as := []) (o := 100) (st := [.ref 100, .int 23, .ref 7]) (Ev.cm _) rfl rfl rfl (Nat.le_of_ble_eq_true rfl) (show _ ∧ _ from ⟨show 101 + (mcs m_H_new).1 ≤ 7 + (mcs m_S_new).1 by decide +kernel, show slt 101 + (mcs m_H_new).2 ≤ slt 7 + (mcs m_S_new).2 by decide +kernel⟩) (Nat.le_of_ble_eq_true rfl) (e_iH (show isH 100 from Or.inr (Or.inr (Or.inl ⟨23, (Nat.le_of_ble_eq_true rfl), rfl⟩))) (subos (Nat.le_of_ble_eq_true rfl) hos) z48 ?_)
  have z49 : Zf 104 (iH 100 (iH 96 (iH 92 (iH 88 (iH 84 (iH 80 (iH 76 (iH 72 (iH 68 (iH 64 (iH 60 (iH 56 (iH 52 (iH 48 (iH 44 (iH 40 (iH 36 (iH 32 (iH 28 (iH 24 (iH 20 (iH 16 (iH 12 (iH 8 I)))))))))))))))))))))))) := (iH_z (b := 100) z48)
  show Wp _ _ _ _ _ _ _ 33 [(0, .ref 6), (1, .int 23)] [.ref 100, .int 23, .ref 7] (HN 104 (100 :: 6 :: os) (iH 100 (iH 96 (iH 92 (iH 88 (iH 84 (iH 80 (iH 76 (iH 72 (iH 68 (iH 64 (iH 60 (iH 56 (iH 52 (iH 48 (iH 44 (iH 40 (iH 36 (iH 32 (iH 28 (iH 24 (iH 20 (iH 16 (iH 12 (iH 8 I)))))))))))))))))))))))) X)
  refine w_aast (Ev.cm _) rfl (Nat.le_of_ble_eq_true rfl) rfl (show vp_in 23 30 from vpI 30 (by decide) (by decide) (by decide)) (Nat.le_of_ble_eq_true rfl) rfl ?_
  show Wp _ _ _ _ _ _ _ 34 [(0, .ref 6), (1, .int 23)] [] (puR (HN 104 (100 :: 6 :: os) (iH 100 (iH 96 (iH 92 (iH 88 (iH 84 (iH 80 (iH 76 (iH 72 (iH 68 (iH 64 (iH 60 (iH 56 (iH 52 (iH 48 (iH 44 (iH 40 (iH 36 (iH 32 (iH 28 (iH 24 (iH 20 (iH 16 (iH 12 (iH 8 I)))))))))))))))))))))))) X) 7 23 (some 100))
  rw [hn_link (o := 7) (k := 23) (q := 100) rfl (Nat.le_of_ble_eq_true rfl) (nin hos (Nat.le_of_ble_eq_true rfl))]
  refine w_iinc (ls2 := [(0, .ref 6), (1, .int 24)]) (Ev.cm _) rfl rfl rfl ?_
  refine w_goto (Ev.cm _) rfl ?_
  refine w_iload_n (Ev.cm _) rfl rfl ?_
  refine w_bipush (Ev.cm _) rfl ?_
  refine w_icmp_ge (Ev.cm _) rfl (fun q => absurd q (by decide)) (fun _ => ?_)
  refine w_aload_n (Ev.cm _) rfl rfl ?_
  refine w_getR (q := 7) (Ev.cm _) rfl (Nat.le_of_ble_eq_true rfl) rfl (rd_get (n := 104) (o := 6) (k := 0) (q := 7) rfl (Nat.le_of_ble_eq_true rfl) (nin hos (Nat.le_of_ble_eq_true rfl))) ?_
  refine w_iload_n (Ev.cm _) rfl rfl ?_
  refine w_new (Ev.cm _) rfl (show _ ∧ _ from ⟨show 104 + 1 ≤ 7 + (mcs m_S_new).1 by decide +kernel, show slt 104 + 8 ≤ slt 7 + (mcs m_S_new).2 by decide +kernel⟩) ?_
  show Wp _ _ _ _ _ _ _ 29 [(0, .ref 6), (1, .int 24)] [.ref 104, .int 24, .ref 7] (puN (HN 104 (6 :: os) (iH 100 (iH 96 (iH 92 (iH 88 (iH 84 (iH 80 (iH 76 (iH 72 (iH 68 (iH 64 (iH 60 (iH 56 (iH 52 (iH 48 (iH 44 (iH 40 (iH 36 (iH 32 (iH 28 (iH 24 (iH 20 (iH 16 (iH 12 (iH 8 I)))))))))))))))))))))))) X) 1 8)
  rw [hn_new (n := 104) (k := 1) (len := 8) rfl z49]
  have z50 : Zf 105 (iH 100 (iH 96 (iH 92 (iH 88 (iH 84 (iH 80 (iH 76 (iH 72 (iH 68 (iH 64 (iH 60 (iH 56 (iH 52 (iH 48 (iH 44 (iH 40 (iH 36 (iH 32 (iH 28 (iH 24 (iH 20 (iH 16 (iH 12 (iH 8 I)))))))))))))))))))))))) := (Zn z49)
  refine w_dup (Ev.cm _) rfl rfl ?_
  refine w_cinit (as := []) (o := 104) (st := [.ref 104, .int 24, .ref 7]) (Ev.cm _) rfl rfl rfl (Nat.le_of_ble_eq_true rfl) (show _ ∧ _ from ⟨show 105 + (mcs m_H_new).1 ≤ 7 + (mcs m_S_new).1 by decide +kernel, show slt 105 + (mcs m_H_new).2 ≤ slt 7 + (mcs m_S_new).2 by decide +kernel⟩) (Nat.le_of_ble_eq_true rfl) (e_iH (show isH 104 from Or.inr (Or.inr (Or.inl ⟨24, (Nat.le_of_ble_eq_true rfl), rfl⟩))) (subos (Nat.le_of_ble_eq_true rfl) hos) z50 ?_)
  have z51 : Zf 108 (iH 104 (iH 100 (iH 96 (iH 92 (iH 88 (iH 84 (iH 80 (iH 76 (iH 72 (iH 68 (iH 64 (iH 60 (iH 56 (iH 52 (iH 48 (iH 44 (iH 40 (iH 36 (iH 32 (iH 28 (iH 24 (iH 20 (iH 16 (iH 12 (iH 8 I))))))))))))))))))))))))) := (iH_z (b := 104) z50)
  show Wp _ _ _ _ _ _ _ 33 [(0, .ref 6), (1, .int 24)] [.ref 104, .int 24, .ref 7] (HN 108 (104 :: 6 :: os) (iH 104 (iH 100 (iH 96 (iH 92 (iH 88 (iH 84 (iH 80 (iH 76 (iH 72 (iH 68 (iH 64 (iH 60 (iH 56 (iH 52 (iH 48 (iH 44 (iH 40 (iH 36 (iH 32 (iH 28 (iH 24 (iH 20 (iH 16 (iH 12 (iH 8 I))))))))))))))))))))))))) X)
  refine w_aast (Ev.cm _) rfl (Nat.le_of_ble_eq_true rfl) rfl (show vp_in 24 30 from vpI 30 (by decide) (by decide) (by decide)) (Nat.le_of_ble_eq_true rfl) rfl ?_
  show Wp _ _ _ _ _ _ _ 34 [(0, .ref 6), (1, .int 24)] [] (puR (HN 108 (104 :: 6 :: os) (iH 104 (iH 100 (iH 96 (iH 92 (iH 88 (iH 84 (iH 80 (iH 76 (iH 72 (iH 68 (iH 64 (iH 60 (iH 56 (iH 52 (iH 48 (iH 44 (iH 40 (iH 36 (iH 32 (iH 28 (iH 24 (iH 20 (iH 16 (iH 12 (iH 8 I))))))))))))))))))))))))) X) 7 24 (some 104))
  rw [hn_link (o := 7) (k := 24) (q := 104) rfl (Nat.le_of_ble_eq_true rfl) (nin hos (Nat.le_of_ble_eq_true rfl))]
  refine w_iinc (ls2 := [(0, .ref 6), (1, .int 25)]) (Ev.cm _) rfl rfl rfl ?_
  refine w_goto (Ev.cm _) rfl ?_
  refine w_iload_n (Ev.cm _) rfl rfl ?_
  refine w_bipush (Ev.cm _) rfl ?_
  refine w_icmp_ge (Ev.cm _) rfl (fun q => absurd q (by decide)) (fun _ => ?_)
  refine w_aload_n (Ev.cm _) rfl rfl ?_
  refine w_getR (q := 7) (Ev.cm _) rfl (Nat.le_of_ble_eq_true rfl) rfl (rd_get (n := 108) (o := 6) (k := 0) (q := 7) rfl (Nat.le_of_ble_eq_true rfl) (nin hos (Nat.le_of_ble_eq_true rfl))) ?_
  refine w_iload_n (Ev.cm _) rfl rfl ?_
  refine w_new (Ev.cm _) rfl (show _ ∧ _ from ⟨show 108 + 1 ≤ 7 + (mcs m_S_new).1 by decide +kernel, show slt 108 + 8 ≤ slt 7 + (mcs m_S_new).2 by decide +kernel⟩) ?_
  show Wp _ _ _ _ _ _ _ 29 [(0, .ref 6), (1, .int 25)] [.ref 108, .int 25, .ref 7] (puN (HN 108 (6 :: os) (iH 104 (iH 100 (iH 96 (iH 92 (iH 88 (iH 84 (iH 80 (iH 76 (iH 72 (iH 68 (iH 64 (iH 60 (iH 56 (iH 52 (iH 48 (iH 44 (iH 40 (iH 36 (iH 32 (iH 28 (iH 24 (iH 20 (iH 16 (iH 12 (iH 8 I))))))))))))))))))))))))) X) 1 8)
  rw [hn_new (n := 108) (k := 1) (len := 8) rfl z51]
  have z52 : Zf 109 (iH 104 (iH 100 (iH 96 (iH 92 (iH 88 (iH 84 (iH 80 (iH 76 (iH 72 (iH 68 (iH 64 (iH 60 (iH 56 (iH 52 (iH 48 (iH 44 (iH 40 (iH 36 (iH 32 (iH 28 (iH 24 (iH 20 (iH 16 (iH 12 (iH 8 I))))))))))))))))))))))))) := (Zn z51)
  refine w_dup (Ev.cm _) rfl rfl ?_
  refine w_cinit (as := []) (o := 108) (st := [.ref 108, .int 25, .ref 7]) (Ev.cm _) rfl rfl rfl (Nat.le_of_ble_eq_true rfl) (show _ ∧ _ from ⟨show 109 + (mcs m_H_new).1 ≤ 7 + (mcs m_S_new).1 by decide +kernel, show slt 109 + (mcs m_H_new).2 ≤ slt 7 + (mcs m_S_new).2 by decide +kernel⟩) (Nat.le_of_ble_eq_true rfl) (e_iH (show isH 108 from Or.inr (Or.inr (Or.inl ⟨25, (Nat.le_of_ble_eq_true rfl), rfl⟩))) (subos (Nat.le_of_ble_eq_true rfl) hos) z52 ?_)
  have z53 : Zf 112 (iH 108 (iH 104 (iH 100 (iH 96 (iH 92 (iH 88 (iH 84 (iH 80 (iH 76 (iH 72 (iH 68 (iH 64 (iH 60 (iH 56 (iH 52 (iH 48 (iH 44 (iH 40 (iH 36 (iH 32 (iH 28 (iH 24 (iH 20 (iH 16 (iH 12 (iH 8 I)))))))))))))))))))))))))) := (iH_z (b := 108) z52)
  show Wp _ _ _ _ _ _ _ 33 [(0, .ref 6), (1, .int 25)] [.ref 108, .int 25, .ref 7] (HN 112 (108 :: 6 :: os) (iH 108 (iH 104 (iH 100 (iH 96 (iH 92 (iH 88 (iH 84 (iH 80 (iH 76 (iH 72 (iH 68 (iH 64 (iH 60 (iH 56 (iH 52 (iH 48 (iH 44 (iH 40 (iH 36 (iH 32 (iH 28 (iH 24 (iH 20 (iH 16 (iH 12 (iH 8 I)))))))))))))))))))))))))) X)
  refine w_aast (Ev.cm _) rfl (Nat.le_of_ble_eq_true rfl) rfl (show vp_in 25 30 from vpI 30 (by decide) (by decide) (by decide)) (Nat.le_of_ble_eq_true rfl) rfl ?_
  show Wp _ _ _ _ _ _ _ 34 [(0, .ref 6), (1, .int 25)] [] (puR (HN 112 (108 :: 6 :: os) (iH 108 (iH 104 (iH 100 (iH 96 (iH 92 (iH 88 (iH 84 (iH 80 (iH 76 (iH 72 (iH 68 (iH 64 (iH 60 (iH 56 (iH 52 (iH 48 (iH 44 (iH 40 (iH 36 (iH 32 (iH 28 (iH 24 (iH 20 (iH 16 (iH 12 (iH 8 I)))))))))))))))))))))))))) X) 7 25 (some 108))
  rw [hn_link (o := 7) (k := 25) (q := 108) rfl (Nat.le_of_ble_eq_true rfl) (nin hos (Nat.le_of_ble_eq_true rfl))]
  refine w_iinc (ls2 := [(0, .ref 6), (1, .int 26)]) (Ev.cm _) rfl rfl rfl ?_
  refine w_goto (Ev.cm _) rfl ?_
  refine w_iload_n (Ev.cm _) rfl rfl ?_
  refine w_bipush (Ev.cm _) rfl ?_
  refine w_icmp_ge (Ev.cm _) rfl (fun q => absurd q (by decide)) (fun _ => ?_)
  refine w_aload_n (Ev.cm _) rfl rfl ?_
  refine w_getR (q := 7) (Ev.cm _) rfl (Nat.le_of_ble_eq_true rfl) rfl (rd_get (n := 112) (o := 6) (k := 0) (q := 7) rfl (Nat.le_of_ble_eq_true rfl) (nin hos (Nat.le_of_ble_eq_true rfl))) ?_
  refine w_iload_n (Ev.cm _) rfl rfl ?_
  refine w_new (Ev.cm _) rfl (show _ ∧ _ from ⟨show 112 + 1 ≤ 7 + (mcs m_S_new).1 by decide +kernel, show slt 112 + 8 ≤ slt 7 + (mcs m_S_new).2 by decide +kernel⟩) ?_
  show Wp _ _ _ _ _ _ _ 29 [(0, .ref 6), (1, .int 26)] [.ref 112, .int 26, .ref 7] (puN (HN 112 (6 :: os) (iH 108 (iH 104 (iH 100 (iH 96 (iH 92 (iH 88 (iH 84 (iH 80 (iH 76 (iH 72 (iH 68 (iH 64 (iH 60 (iH 56 (iH 52 (iH 48 (iH 44 (iH 40 (iH 36 (iH 32 (iH 28 (iH 24 (iH 20 (iH 16 (iH 12 (iH 8 I)))))))))))))))))))))))))) X) 1 8)
  rw [hn_new (n := 112) (k := 1) (len := 8) rfl z53]
  have z54 : Zf 113 (iH 108 (iH 104 (iH 100 (iH 96 (iH 92 (iH 88 (iH 84 (iH 80 (iH 76 (iH 72 (iH 68 (iH 64 (iH 60 (iH 56 (iH 52 (iH 48 (iH 44 (iH 40 (iH 36 (iH 32 (iH 28 (iH 24 (iH 20 (iH 16 (iH 12 (iH 8 I)))))))))))))))))))))))))) := (Zn z53)
  refine w_dup (Ev.cm _) rfl rfl ?_
  refine w_cinit (as := []) (o := 112) (st := [.ref 112, .int 26, .ref 7]) (Ev.cm _) rfl rfl rfl (Nat.le_of_ble_eq_true rfl) (show _ ∧ _ from ⟨show 113 + (mcs m_H_new).1 ≤ 7 + (mcs m_S_new).1 by decide +kernel, show slt 113 + (mcs m_H_new).2 ≤ slt 7 + (mcs m_S_new).2 by decide +kernel⟩) (Nat.le_of_ble_eq_true rfl) (e_iH (show isH 112 from Or.inr (Or.inr (Or.inl ⟨26, (Nat.le_of_ble_eq_true rfl), rfl⟩))) (subos (Nat.le_of_ble_eq_true rfl) hos) z54 ?_)
  have z55 : Zf 116 (iH 112 (iH 108 (iH 104 (iH 100 (iH 96 (iH 92 (iH 88 (iH 84 (iH 80 (iH 76 (iH 72 (iH 68 (iH 64 (iH 60 (iH 56 (iH 52 (iH 48 (iH 44 (iH 40 (iH 36 (iH 32 (iH 28 (iH 24 (iH 20 (iH 16 (iH 12 (iH 8 I))))))))))))))))))))))))))) := (iH_z (b := 112) z54)
  show Wp _ _ _ _ _ _ _ 33 [(0, .ref 6), (1, .int 26)] [.ref 112, .int 26, .ref 7] (HN 116 (112 :: 6 :: os) (iH 112 (iH 108 (iH 104 (iH 100 (iH 96 (iH 92 (iH 88 (iH 84 (iH 80 (iH 76 (iH 72 (iH 68 (iH 64 (iH 60 (iH 56 (iH 52 (iH 48 (iH 44 (iH 40 (iH 36 (iH 32 (iH 28 (iH 24 (iH 20 (iH 16 (iH 12 (iH 8 I))))))))))))))))))))))))))) X)
  refine w_aast (Ev.cm _) rfl (Nat.le_of_ble_eq_true rfl) rfl (show vp_in 26 30 from vpI 30 (by decide) (by decide) (by decide)) (Nat.le_of_ble_eq_true rfl) rfl ?_
  show Wp _ _ _ _ _ _ _ 34 [(0, .ref 6), (1, .int 26)] [] (puR (HN 116 (112 :: 6 :: os) (iH 112 (iH 108 (iH 104 (iH 100 (iH 96 (iH 92 (iH 88 (iH 84 (iH 80 (iH 76 (iH 72 (iH 68 (iH 64 (iH 60 (iH 56 (iH 52 (iH 48 (iH 44 (iH 40 (iH 36 (iH 32 (iH 28 (iH 24 (iH 20 (iH 16 (iH 12 (iH 8 I))))))))))))))))))))))))))) X) 7 26 (some 112))
  rw [hn_link (o := 7) (k := 26) (q := 112) rfl (Nat.le_of_ble_eq_true rfl) (nin hos (Nat.le_of_ble_eq_true rfl))]
  refine w_iinc (ls2 := [(0, .ref 6), (1, .int 27)]) (Ev.cm _) rfl rfl rfl ?_
  refine w_goto (Ev.cm _) rfl ?_
  refine w_iload_n (Ev.cm _) rfl rfl ?_
  refine w_bipush (Ev.cm _) rfl ?_
  refine w_icmp_ge (Ev.cm _) rfl (fun q => absurd q (by decide)) (fun _ => ?_)
  refine w_aload_n (Ev.cm _) rfl rfl ?_
  refine w_getR (q := 7) (Ev.cm _) rfl (Nat.le_of_ble_eq_true rfl) rfl (rd_get (n := 116) (o := 6) (k := 0) (q := 7) rfl (Nat.le_of_ble_eq_true rfl) (nin hos (Nat.le_of_ble_eq_true rfl))) ?_
  refine w_iload_n (Ev.cm _) rfl rfl ?_
  refine w_new (Ev.cm _) rfl (show _ ∧ _ from ⟨show 116 + 1 ≤ 7 + (mcs m_S_new).1 by decide +kernel, show slt 116 + 8 ≤ slt 7 + (mcs m_S_new).2 by decide +kernel⟩) ?_
  show Wp _ _ _ _ _ _ _ 29 [(0, .ref 6), (1, .int 27)] [.ref 116, .int 27, .ref 7] (puN (HN 116 (6 :: os) (iH 112 (iH 108 (iH 104 (iH 100 (iH 96 (iH 92 (iH 88 (iH 84 (iH 80 (iH 76 (iH 72 (iH 68 (iH 64 (iH 60 (iH 56 (iH 52 (iH 48 (iH 44 (iH 40 (iH 36 (iH 32 (iH 28 (iH 24 (iH 20 (iH 16 (iH 12 (iH 8 I))))))))))))))))))))))))))) X) 1 8)
  rw [hn_new (n := 116) (k := 1) (len := 8) rfl z55]
  have z56 : Zf 117 (iH 112 (iH 108 (iH 104 (iH 100 (iH 96 (iH 92 (iH 88 (iH 84 (iH 80 (iH 76 (iH 72 (iH 68 (iH 64 (iH 60 (iH 56 (iH 52 (iH 48 (iH 44 (iH 40 (iH 36 (iH 32 (iH 28 (iH 24 (iH 20 (iH 16 (iH 12 (iH 8 I))))))))))))))))))))))))))) := (Zn z55)
  refine w_dup (Ev.cm _) rfl rfl ?_
  refine w_cinit (as := []) (o := 116) (st := [.ref 116, .int 27, .ref 7]) (Ev.cm _) rfl rfl rfl (Nat.le_of_ble_eq_true rfl) (show _ ∧ _ from ⟨show 117 + (mcs m_H_new).1 ≤ 7 + (mcs m_S_new).1 by decide +kernel, show slt 117 + (mcs m_H_new).2 ≤ slt 7 + (mcs m_S_new).2 by decide +kernel⟩) (Nat.le_of_ble_eq_true rfl) (e_iH (show isH 116 from Or.inr (Or.inr (Or.inl ⟨27, (Nat.le_of_ble_eq_true rfl), rfl⟩))) (subos (Nat.le_of_ble_eq_true rfl) hos) z56 ?_)
  have z57 : Zf 120 (iH 116 (iH 112 (iH 108 (iH 104 (iH 100 (iH 96 (iH 92 (iH 88 (iH 84 (iH 80 (iH 76 (iH 72 (iH 68 (iH 64 (iH 60 (iH 56 (iH 52 (iH 48 (iH 44 (iH 40 (iH 36 (iH 32 (iH 28 (iH 24 (iH 20 (iH 16 (iH 12 (iH 8 I)))))))))))))))))))))))))))) := (iH_z (b := 116) z56)
  show Wp _ _ _ _ _ _ _ 33 [(0, .ref 6), (1, .int 27)] [.ref 116, .int 27, .ref 7] (HN 120 (116 :: 6 :: os) (iH 116 (iH 112 (iH 108 (iH 104 (iH 100 (iH 96 (iH 92 (iH 88 (iH 84 (iH 80 (iH 76 (iH 72 (iH 68 (iH 64 (iH 60 (iH 56 (iH 52 (iH 48 (iH 44 (iH 40 (iH 36 (iH 32 (iH 28 (iH 24 (iH 20 (iH 16 (iH 12 (iH 8 I)))))))))))))))))))))))))))) X)
  refine w_aast (Ev.cm _) rfl (Nat.le_of_ble_eq_true rfl) rfl (show vp_in 27 30 from vpI 30 (by decide) (by decide) (by decide)) (Nat.le_of_ble_eq_true rfl) rfl ?_
  show Wp _ _ _ _ _ _ _ 34 [(0, .ref 6), (1, .int 27)] [] (puR (HN 120 (116 :: 6 :: os) (iH 116 (iH 112 (iH 108 (iH 104 (iH 100 (iH 96 (iH 92 (iH 88 (iH 84 (iH 80 (iH 76 (iH 72 (iH 68 (iH 64 (iH 60 (iH 56 (iH 52 (iH 48 (iH 44 (iH 40 (iH 36 (iH 32 (iH 28 (iH 24 (iH 20 (iH 16 (iH 12 (iH 8 I)))))))))))))))))))))))))))) X) 7 27 (some 116))
  rw [hn_link (o := 7) (k := 27) (q := 116) rfl (Nat.le_of_ble_eq_true rfl) (nin hos (Nat.le_of_ble_eq_true rfl))]
  refine w_iinc (ls2 := [(0, .ref 6), (1, .int 28)]) (Ev.cm _) rfl rfl rfl ?_
  refine w_goto (Ev.cm _) rfl ?_
  refine w_iload_n (Ev.cm _) rfl rfl ?_
  refine w_bipush (Ev.cm _) rfl ?_
  refine w_icmp_ge (Ev.cm _) rfl (fun q => absurd q (by decide)) (fun _ => ?_)
  refine w_aload_n (Ev.cm _) rfl rfl ?_
  refine w_getR (q := 7) (Ev.cm _) rfl (Nat.le_of_ble_eq_true rfl) rfl (rd_get (n := 120) (o := 6) (k := 0) (q := 7) rfl (Nat.le_of_ble_eq_true rfl) (nin hos (Nat.le_of_ble_eq_true rfl))) ?_
  refine w_iload_n (Ev.cm _) rfl rfl ?_
  refine w_new (Ev.cm _) rfl (show _ ∧ _ from ⟨show 120 + 1 ≤ 7 + (mcs m_S_new).1 by decide +kernel, show slt 120 + 8 ≤ slt 7 + (mcs m_S_new).2 by decide +kernel⟩) ?_
  show Wp _ _ _ _ _ _ _ 29 [(0, .ref 6), (1, .int 28)] [.ref 120, .int 28, .ref 7] (puN (HN 120 (6 :: os) (iH 116 (iH 112 (iH 108 (iH 104 (iH 100 (iH 96 (iH 92 (iH 88 (iH 84 (iH 80 (iH 76 (iH 72 (iH 68 (iH 64 (iH 60 (iH 56 (iH 52 (iH 48 (iH 44 (iH 40 (iH 36 (iH 32 (iH 28 (iH 24 (iH 20 (iH 16 (iH 12 (iH 8 I)))))))))))))))))))))))))))) X) 1 8)
  rw [hn_new (n := 120) (k := 1) (len := 8) rfl z57]
  have z58 : Zf 121 (iH 116 (iH 112 (iH 108 (iH 104 (iH 100 (iH 96 (iH 92 (iH 88 (iH 84 (iH 80 (iH 76 (iH 72 (iH 68 (iH 64 (iH 60 (iH 56 (iH 52 (iH 48 (iH 44 (iH 40 (iH 36 (iH 32 (iH 28 (iH 24 (iH 20 (iH 16 (iH 12 (iH 8 I)))))))))))))))))))))))))))) := (Zn z57)
  refine w_dup (Ev.cm _) rfl rfl ?_
  refine w_cinit (as := []) (o := 120) (st := [.ref 120, .int 28, .ref 7]) (Ev.cm _) rfl rfl rfl (Nat.le_of_ble_eq_true rfl) (show _ ∧ _ from ⟨show 121 + (mcs m_H_new).1 ≤ 7 + (mcs m_S_new).1 by decide +kernel, show slt 121 + (mcs m_H_new).2 ≤ slt 7 + (mcs m_S_new).2 by decide +kernel⟩) (Nat.le_of_ble_eq_true rfl) (e_iH (show isH 120 from Or.inr (Or.inr (Or.inl ⟨28, (Nat.le_of_ble_eq_true rfl), rfl⟩))) (subos (Nat.le_of_ble_eq_true rfl) hos) z58 ?_)
  have z59 : Zf 124 (iH 120 (iH 116 (iH 112 (iH 108 (iH 104 (iH 100 (iH 96 (iH 92 (iH 88 (iH 84 (iH 80 (iH 76 (iH 72 (iH 68 (iH 64 (iH 60 (iH 56 (iH 52 (iH 48 (iH 44 (iH 40 (iH 36 (iH 32 (iH 28 (iH 24 (iH 20 (iH 16 (iH 12 (iH 8 I))))))))))))))))))))))))))))) := (iH_z (b := 120) z58)
  show Wp _ _ _ _ _ _ _ 33 [(0, .ref 6), (1, .int 28)] [.ref 120, .int 28, .ref 7] (HN 124 (120 :: 6 :: os) (iH 120 (iH 116 (iH 112 (iH 108 (iH 104 (iH 100 (iH 96 (iH 92 (iH 88 (iH 84 (iH 80 (iH 76 (iH 72 (iH 68 (iH 64 (iH 60 (iH 56 (iH 52 (iH 48 (iH 44 (iH 40 (iH 36 (iH 32 (iH 28 (iH 24 (iH 20 (iH 16 (iH 12 (iH 8 I))))))))))))))))))))))))))))) X)
  refine w_aast (Ev.cm _) rfl (Nat.le_of_ble_eq_true rfl) rfl (show vp_in 28 30 from vpI 30 (by decide) (by decide) (by decide)) (Nat.le_of_ble_eq_true rfl) rfl ?_
  show Wp _ _ _ _ _ _ _ 34 [(0, .ref 6), (1, .int 28)] [] (puR (HN 124 (120 :: 6 :: os) (iH 120 (iH 116 (iH 112 (iH 108 (iH 104 (iH 100 (iH 96 (iH 92 (iH 88 (iH 84 (iH 80 (iH 76 (iH 72 (iH 68 (iH 64 (iH 60 (iH 56 (iH 52 (iH 48 (iH 44 (iH 40 (iH 36 (iH 32 (iH 28 (iH 24 (iH 20 (iH 16 (iH 12 (iH 8 I))))))))))))))))))))))))))))) X) 7 28 (some 120))
  rw [hn_link (o := 7) (k := 28) (q := 120) rfl (Nat.le_of_ble_eq_true rfl) (nin hos (Nat.le_of_ble_eq_true rfl))]
  refine w_iinc (ls2 := [(0, .ref 6), (1, .int 29)]) (Ev.cm _) rfl rfl rfl ?_
  refine w_goto (Ev.cm _) rfl ?_
  refine w_iload_n (Ev.cm _) rfl rfl ?_
  refine w_bipush (Ev.cm _) rfl ?_
  refine w_icmp_ge (Ev.cm _) rfl (fun q => absurd q (by decide)) (fun _ => ?_)
  refine w_aload_n (Ev.cm _) rfl rfl ?_
  refine w_getR (q := 7) (Ev.cm _) rfl (Nat.le_of_ble_eq_true rfl) rfl (rd_get (n := 124) (o := 6) (k := 0) (q := 7) rfl (Nat.le_of_ble_eq_true rfl) (nin hos (Nat.le_of_ble_eq_true rfl))) ?_
  refine w_iload_n (Ev.cm _) rfl rfl ?_
  refine w_new (Ev.cm _) rfl (show _ ∧ _ from ⟨show 124 + 1 ≤ 7 + (mcs m_S_new).1 by decide +kernel, show slt 124 + 8 ≤ slt 7 + (mcs m_S_new).2 by decide +kernel⟩) ?_
  show Wp _ _ _ _ _ _ _ 29 [(0, .ref 6), (1, .int 29)] [.ref 124, .int 29, .ref 7] (puN (HN 124 (6 :: os) (iH 120 (iH 116 (iH 112 (iH 108 (iH 104 (iH 100 (iH 96 (iH 92 (iH 88 (iH 84 (iH 80 (iH 76 (iH 72 (iH 68 (iH 64 (iH 60 (iH 56 (iH 52 (iH 48 (iH 44 (iH 40 (iH 36 (iH 32 (iH 28 (iH 24 (iH 20 (iH 16 (iH 12 (iH 8 I))))))))))))))))))))))))))))) X) 1 8)
  rw [hn_new (n := 124) (k := 1) (len := 8) rfl z59]
  have z60 : Zf 125 (iH 120 (iH 116 (iH 112 (iH 108 (iH 104 (iH 100 (iH 96 (iH 92 (iH 88 (iH 84 (iH 80 (iH 76 (iH 72 (iH 68 (iH 64 (iH 60 (iH 56 (iH 52 (iH 48 (iH 44 (iH 40 (iH 36 (iH 32 (iH 28 (iH 24 (iH 20 (iH 16 (iH 12 (iH 8 I))))))))))))))))))))))))))))) := (Zn z59)
  refine w_dup (Ev.cm _) rfl rfl ?_
  refine w_cinit (as := []) (o := 124) (st := [.ref 124, .int 29, .ref 7]) (Ev.cm _) rfl rfl rfl (Nat.le_of_ble_eq_true rfl) (show _ ∧ _ from ⟨show 125 + (mcs m_H_new).1 ≤ 7 + (mcs m_S_new).1 by decide +kernel, show slt 125 + (mcs m_H_new).2 ≤ slt 7 + (mcs m_S_new).2 by decide +kernel⟩) (Nat.le_of_ble_eq_true rfl) (e_iH (show isH 124 from Or.inr (Or.inr (Or.inl ⟨29, (Nat.le_of_ble_eq_true rfl), rfl⟩))) (subos (Nat.le_of_ble_eq_true rfl) hos) z60 ?_)
  have z61 : Zf 128 (iH 124 (iH 120 (iH 116 (iH 112 (iH 108 (iH 104 (iH 100 (iH 96 (iH 92 (iH 88 (iH 84 (iH 80 (iH 76 (iH 72 (iH 68 (iH 64 (iH 60 (iH 56 (iH 52 (iH 48 (iH 44 (iH 40 (iH 36 (iH 32 (iH 28 (iH 24 (iH 20 (iH 16 (iH 12 (iH 8 I)))))))))))))))))))))))))))))) := (iH_z (b := 124) z60)
  show Wp _ _ _ _ _ _ _ 33 [(0, .ref 6), (1, .int 29)] [.ref 124, .int 29, .ref 7] (HN 128 (124 :: 6 :: os) (iH 124 (iH 120 (iH 116 (iH 112 (iH 108 (iH 104 (iH 100 (iH 96 (iH 92 (iH 88 (iH 84 (iH 80 (iH 76 (iH 72 (iH 68 (iH 64 (iH 60 (iH 56 (iH 52 (iH 48 (iH 44 (iH 40 (iH 36 (iH 32 (iH 28 (iH 24 (iH 20 (iH 16 (iH 12 (iH 8 I)))))))))))))))))))))))))))))) X)
  refine w_aast (Ev.cm _) rfl (Nat.le_of_ble_eq_true rfl) rfl (show vp_in 29 30 from vpI 30 (by decide) (by decide) (by decide)) (Nat.le_of_ble_eq_true rfl) rfl ?_
  show Wp _ _ _ _ _ _ _ 34 [(0, .ref 6), (1, .int 29)] [] (puR (HN 128 (124 :: 6 :: os) (iH 124 (iH 120 (iH 116 (iH 112 (iH 108 (iH 104 (iH 100 (iH 96 (iH 92 (iH 88 (iH 84 (iH 80 (iH 76 (iH 72 (iH 68 (iH 64 (iH 60 (iH 56 (iH 52 (iH 48 (iH 44 (iH 40 (iH 36 (iH 32 (iH 28 (iH 24 (iH 20 (iH 16 (iH 12 (iH 8 I)))))))))))))))))))))))))))))) X) 7 29 (some 124))
  rw [hn_link (o := 7) (k := 29) (q := 124) rfl (Nat.le_of_ble_eq_true rfl) (nin hos (Nat.le_of_ble_eq_true rfl))]
  refine w_iinc (ls2 := [(0, .ref 6), (1, .int 30)]) (Ev.cm _) rfl rfl rfl ?_
  refine w_goto (Ev.cm _) rfl ?_
  refine w_iload_n (Ev.cm _) rfl rfl ?_
  refine w_bipush (Ev.cm _) rfl ?_
  refine w_icmp_ge (Ev.cm _) rfl (fun _ => ?_) (fun q => absurd (by decide) q)
  refine w_aload_n (Ev.cm _) rfl rfl ?_
  refine w_iconst (Ev.cm _) rfl ?_
  refine w_putI (Ev.cm _) rfl (Nat.le_of_ble_eq_true rfl) rfl ?_
  have z62 : Zf 128 (sI (iH 124 (iH 120 (iH 116 (iH 112 (iH 108 (iH 104 (iH 100 (iH 96 (iH 92 (iH 88 (iH 84 (iH 80 (iH 76 (iH 72 (iH 68 (iH 64 (iH 60 (iH 56 (iH 52 (iH 48 (iH 44 (iH 40 (iH 36 (iH 32 (iH 28 (iH 24 (iH 20 (iH 16 (iH 12 (iH 8 I)))))))))))))))))))))))))))))) 6 1 0) := (Zs (Nat.le_of_ble_eq_true rfl) z61)
  show Wp _ _ _ _ _ _ _ 45 [(0, .ref 6), (1, .int 30)] [] (HN 128 (6 :: os) (sI (iH 124 (iH 120 (iH 116 (iH 112 (iH 108 (iH 104 (iH 100 (iH 96 (iH 92 (iH 88 (iH 84 (iH 80 (iH 76 (iH 72 (iH 68 (iH 64 (iH 60 (iH 56 (iH 52 (iH 48 (iH 44 (iH 40 (iH 36 (iH 32 (iH 28 (iH 24 (iH 20 (iH 16 (iH 12 (iH 8 I)))))))))))))))))))))))))))))) 6 1 0) X)
  refine w_aload_n (Ev.cm _) rfl rfl ?_
  refine w_iconst (Ev.cm _) rfl ?_
  refine w_putI (Ev.cm _) rfl (Nat.le_of_ble_eq_true rfl) rfl ?_
  have z63 : Zf 128 (sI (sI (iH 124 (iH 120 (iH 116 (iH 112 (iH 108 (iH 104 (iH 100 (iH 96 (iH 92 (iH 88 (iH 84 (iH 80 (iH 76 (iH 72 (iH 68 (iH 64 (iH 60 (iH 56 (iH 52 (iH 48 (iH 44 (iH 40 (iH 36 (iH 32 (iH 28 (iH 24 (iH 20 (iH 16 (iH 12 (iH 8 I)))))))))))))))))))))))))))))) 6 1 0) 6 2 0) := (Zs (Nat.le_of_ble_eq_true rfl) z62)
  show Wp _ _ _ _ _ _ _ 50 [(0, .ref 6), (1, .int 30)] [] (HN 128 (6 :: os) (sI (sI (iH 124 (iH 120 (iH 116 (iH 112 (iH 108 (iH 104 (iH 100 (iH 96 (iH 92 (iH 88 (iH 84 (iH 80 (iH 76 (iH 72 (iH 68 (iH 64 (iH 60 (iH 56 (iH 52 (iH 48 (iH 44 (iH 40 (iH 36 (iH 32 (iH 28 (iH 24 (iH 20 (iH 16 (iH 12 (iH 8 I)))))))))))))))))))))))))))))) 6 1 0) 6 2 0) X)
  refine w_return (Ev.cm _) rfl rfl (Or.inr ⟨(show 128 = 7 + (mcs m_S_new).1 by decide +kernel), (show slt 128 = slt 7 + (mcs m_S_new).2 by decide +kernel)⟩) ?_
  exact q
def iS_142 (I : Nat → Nat → Int32) : Nat → Nat → Int32 := sI (sI (iH 260 (iH 256 (iH 252 (iH 248 (iH 244 (iH 240 (iH 236 (iH 232 (iH 228 (iH 224 (iH 220 (iH 216 (iH 212 (iH 208 (iH 204 (iH 200 (iH 196 (iH 192 (iH 188 (iH 184 (iH 180 (iH 176 (iH 172 (iH 168 (iH 164 (iH 160 (iH 156 (iH 152 (iH 148 (iH 144 I)))))))))))))))))))))))))))))) 142 1 0) 142 2 0
theorem iS_142_z {I : Nat → Nat → Int32} (hz : Zf 143 I) : Zf (264) (iS_142 I) := by
  unfold iS_142
  have z1 : Zf 144 I := (Zn hz)
  have z2 : Zf 145 I := (Zn z1)
  have z3 : Zf 148 (iH 144 I) := (iH_z (b := 144) z2)
  have z4 : Zf 149 (iH 144 I) := (Zn z3)
  have z5 : Zf 152 (iH 148 (iH 144 I)) := (iH_z (b := 148) z4)
  have z6 : Zf 153 (iH 148 (iH 144 I)) := (Zn z5)
  have z7 : Zf 156 (iH 152 (iH 148 (iH 144 I))) := (iH_z (b := 152) z6)
  have z8 : Zf 157 (iH 152 (iH 148 (iH 144 I))) := (Zn z7)
  have z9 : Zf 160 (iH 156 (iH 152 (iH 148 (iH 144 I)))) := (iH_z (b := 156) z8)
  have z10 : Zf 161 (iH 156 (iH 152 (iH 148 (iH 144 I)))) := (Zn z9)
  have z11 : Zf 164 (iH 160 (iH 156 (iH 152 (iH 148 (iH 144 I))))) := (iH_z (b := 160) z10)
  have z12 : Zf 165 (iH 160 (iH 156 (iH 152 (iH 148 (iH 144 I))))) := (Zn z11)
  have z13 : Zf 168 (iH 164 (iH 160 (iH 156 (iH 152 (iH 148 (iH 144 I)))))) := (iH_z (b := 164) z12)
  have z14 : Zf 169 (iH 164 (iH 160 (iH 156 (iH 152 (iH 148 (iH 144 I)))))) := (Zn z13)
  have z15 : Zf 172 (iH 168 (iH 164 (iH 160 (iH 156 (iH 152 (iH 148 (iH 144 I))))))) := (iH_z (b := 168) z14)
  have z16 : Zf 173 (iH 168 (iH 164 (iH 160 (iH 156 (iH 152 (iH 148 (iH 144 I))))))) := (Zn z15)
  have z17 : Zf 176 (iH 172 (iH 168 (iH 164 (iH 160 (iH 156 (iH 152 (iH 148 (iH 144 I)))))))) := (iH_z (b := 172) z16)
  have z18 : Zf 177 (iH 172 (iH 168 (iH 164 (iH 160 (iH 156 (iH 152 (iH 148 (iH 144 I)))))))) := (Zn z17)
  have z19 : Zf 180 (iH 176 (iH 172 (iH 168 (iH 164 (iH 160 (iH 156 (iH 152 (iH 148 (iH 144 I))))))))) := (iH_z (b := 176) z18)
  have z20 : Zf 181 (iH 176 (iH 172 (iH 168 (iH 164 (iH 160 (iH 156 (iH 152 (iH 148 (iH 144 I))))))))) := (Zn z19)
  have z21 : Zf 184 (iH 180 (iH 176 (iH 172 (iH 168 (iH 164 (iH 160 (iH 156 (iH 152 (iH 148 (iH 144 I)))))))))) := (iH_z (b := 180) z20)
  have z22 : Zf 185 (iH 180 (iH 176 (iH 172 (iH 168 (iH 164 (iH 160 (iH 156 (iH 152 (iH 148 (iH 144 I)))))))))) := (Zn z21)
  have z23 : Zf 188 (iH 184 (iH 180 (iH 176 (iH 172 (iH 168 (iH 164 (iH 160 (iH 156 (iH 152 (iH 148 (iH 144 I))))))))))) := (iH_z (b := 184) z22)
  have z24 : Zf 189 (iH 184 (iH 180 (iH 176 (iH 172 (iH 168 (iH 164 (iH 160 (iH 156 (iH 152 (iH 148 (iH 144 I))))))))))) := (Zn z23)
  have z25 : Zf 192 (iH 188 (iH 184 (iH 180 (iH 176 (iH 172 (iH 168 (iH 164 (iH 160 (iH 156 (iH 152 (iH 148 (iH 144 I)))))))))))) := (iH_z (b := 188) z24)
  have z26 : Zf 193 (iH 188 (iH 184 (iH 180 (iH 176 (iH 172 (iH 168 (iH 164 (iH 160 (iH 156 (iH 152 (iH 148 (iH 144 I)))))))))))) := (Zn z25)
  have z27 : Zf 196 (iH 192 (iH 188 (iH 184 (iH 180 (iH 176 (iH 172 (iH 168 (iH 164 (iH 160 (iH 156 (iH 152 (iH 148 (iH 144 I))))))))))))) := (iH_z (b := 192) z26)
  have z28 : Zf 197 (iH 192 (iH 188 (iH 184 (iH 180 (iH 176 (iH 172 (iH 168 (iH 164 (iH 160 (iH 156 (iH 152 (iH 148 (iH 144 I))))))))))))) := (Zn z27)
  have z29 : Zf 200 (iH 196 (iH 192 (iH 188 (iH 184 (iH 180 (iH 176 (iH 172 (iH 168 (iH 164 (iH 160 (iH 156 (iH 152 (iH 148 (iH 144 I)))))))))))))) := (iH_z (b := 196) z28)
  have z30 : Zf 201 (iH 196 (iH 192 (iH 188 (iH 184 (iH 180 (iH 176 (iH 172 (iH 168 (iH 164 (iH 160 (iH 156 (iH 152 (iH 148 (iH 144 I)))))))))))))) := (Zn z29)
  have z31 : Zf 204 (iH 200 (iH 196 (iH 192 (iH 188 (iH 184 (iH 180 (iH 176 (iH 172 (iH 168 (iH 164 (iH 160 (iH 156 (iH 152 (iH 148 (iH 144 I))))))))))))))) := (iH_z (b := 200) z30)
  have z32 : Zf 205 (iH 200 (iH 196 (iH 192 (iH 188 (iH 184 (iH 180 (iH 176 (iH 172 (iH 168 (iH 164 (iH 160 (iH 156 (iH 152 (iH 148 (iH 144 I))))))))))))))) := (Zn z31)
  have z33 : Zf 208 (iH 204 (iH 200 (iH 196 (iH 192 (iH 188 (iH 184 (iH 180 (iH 176 (iH 172 (iH 168 (iH 164 (iH 160 (iH 156 (iH 152 (iH 148 (iH 144 I)))))))))))))))) := (iH_z (b := 204) z32)
  have z34 : Zf 209 (iH 204 (iH 200 (iH 196 (iH 192 (iH 188 (iH 184 (iH 180 (iH 176 (iH 172 (iH 168 (iH 164 (iH 160 (iH 156 (iH 152 (iH 148 (iH 144 I)))))))))))))))) := (Zn z33)
  have z35 : Zf 212 (iH 208 (iH 204 (iH 200 (iH 196 (iH 192 (iH 188 (iH 184 (iH 180 (iH 176 (iH 172 (iH 168 (iH 164 (iH 160 (iH 156 (iH 152 (iH 148 (iH 144 I))))))))))))))))) := (iH_z (b := 208) z34)
  have z36 : Zf 213 (iH 208 (iH 204 (iH 200 (iH 196 (iH 192 (iH 188 (iH 184 (iH 180 (iH 176 (iH 172 (iH 168 (iH 164 (iH 160 (iH 156 (iH 152 (iH 148 (iH 144 I))))))))))))))))) := (Zn z35)
  have z37 : Zf 216 (iH 212 (iH 208 (iH 204 (iH 200 (iH 196 (iH 192 (iH 188 (iH 184 (iH 180 (iH 176 (iH 172 (iH 168 (iH 164 (iH 160 (iH 156 (iH 152 (iH 148 (iH 144 I)))))))))))))))))) := (iH_z (b := 212) z36)
  have z38 : Zf 217 (iH 212 (iH 208 (iH 204 (iH 200 (iH 196 (iH 192 (iH 188 (iH 184 (iH 180 (iH 176 (iH 172 (iH 168 (iH 164 (iH 160 (iH 156 (iH 152 (iH 148 (iH 144 I)))))))))))))))))) := (Zn z37)
  have z39 : Zf 220 (iH 216 (iH 212 (iH 208 (iH 204 (iH 200 (iH 196 (iH 192 (iH 188 (iH 184 (iH 180 (iH 176 (iH 172 (iH 168 (iH 164 (iH 160 (iH 156 (iH 152 (iH 148 (iH 144 I))))))))))))))))))) := (iH_z (b := 216) z38)
  have z40 : Zf 221 (iH 216 (iH 212 (iH 208 (iH 204 (iH 200 (iH 196 (iH 192 (iH 188 (iH 184 (iH 180 (iH 176 (iH 172 (iH 168 (iH 164 (iH 160 (iH 156 (iH 152 (iH 148 (iH 144 I))))))))))))))))))) := (Zn z39)
  have z41 : Zf 224 (iH 220 (iH 216 (iH 212 (iH 208 (iH 204 (iH 200 (iH 196 (iH 192 (iH 188 (iH 184 (iH 180 (iH 176 (iH 172 (iH 168 (iH 164 (iH 160 (iH 156 (iH 152 (iH 148 (iH 144 I)))))))))))))))))))) := (iH_z (b := 220) z40)
  have z42 : Zf 225 (iH 220 (iH 216 (iH 212 (iH 208 (iH 204 (iH 200 (iH 196 (iH 192 (iH 188 (iH 184 (iH 180 (iH 176 (iH 172 (iH 168 (iH 164 (iH 160 (iH 156 (iH 152 (iH 148 (iH 144 I)))))))))))))))))))) := (Zn z41)
  have z43 : Zf 228 (iH 224 (iH 220 (iH 216 (iH 212 (iH 208 (iH 204 (iH 200 (iH 196 (iH 192 (iH 188 (iH 184 (iH 180 (iH 176 (iH 172 (iH 168 (iH 164 (iH 160 (iH 156 (iH 152 (iH 148 (iH 144 I))))))))))))))))))))) := (iH_z (b := 224) z42)
  have z44 : Zf 229 (iH 224 (iH 220 (iH 216 (iH 212 (iH 208 (iH 204 (iH 200 (iH 196 (iH 192 (iH 188 (iH 184 (iH 180 (iH 176 (iH 172 (iH 168 (iH 164 (iH 160 (iH 156 (iH 152 (iH 148 (iH 144 I))))))))))))))))))))) := (Zn z43)
  have z45 : Zf 232 (iH 228 (iH 224 (iH 220 (iH 216 (iH 212 (iH 208 (iH 204 (iH 200 (iH 196 (iH 192 (iH 188 (iH 184 (iH 180 (iH 176 (iH 172 (iH 168 (iH 164 (iH 160 (iH 156 (iH 152 (iH 148 (iH 144 I)))))))))))))))))))))) := (iH_z (b := 228) z44)
  have z46 : Zf 233 (iH 228 (iH 224 (iH 220 (iH 216 (iH 212 (iH 208 (iH 204 (iH 200 (iH 196 (iH 192 (iH 188 (iH 184 (iH 180 (iH 176 (iH 172 (iH 168 (iH 164 (iH 160 (iH 156 (iH 152 (iH 148 (iH 144 I)))))))))))))))))))))) := (Zn z45)
  have z47 : Zf 236 (iH 232 (iH 228 (iH 224 (iH 220 (iH 216 (iH 212 (iH 208 (iH 204 (iH 200 (iH 196 (iH 192 (iH 188 (iH 184 (iH 180 (iH 176 (iH 172 (iH 168 (iH 164 (iH 160 (iH 156 (iH 152 (iH 148 (iH 144 I))))))))))))))))))))))) := (iH_z (b := 232) z46)
  have z48 : Zf 237 (iH 232 (iH 228 (iH 224 (iH 220 (iH 216 (iH 212 (iH 208 (iH 204 (iH 200 (iH 196 (iH 192 (iH 188 (iH 184 (iH 180 (iH 176 (iH 172 (iH 168 (iH 164 (iH 160 (iH 156 (iH 152 (iH 148 (iH 144 I))))))))))))))))))))))) := (Zn z47)
  have z49 : Zf 240 (iH 236 (iH 232 (iH 228 (iH 224 (iH 220 (iH 216 (iH 212 (iH 208 (iH 204 (iH 200 (iH 196 (iH 192 (iH 188 (iH 184 (iH 180 (iH 176 (iH 172 (iH 168 (iH 164 (iH 160 (iH 156 (iH 152 (iH 148 (iH 144 I)))))))))))))))))))))))) := (iH_z (b := 236) z48)
  have z50 : Zf 241 (iH 236 (iH 232 (iH 228 (iH 224 (iH 220 (iH 216 (iH 212 (iH 208 (iH 204 (iH 200 (iH 196 (iH 192 (iH 188 (iH 184 (iH 180 (iH 176 (iH 172 (iH 168 (iH 164 (iH 160 (iH 156 (iH 152 (iH 148 (iH 144 I)))))))))))))))))))))))) := (Zn z49)
  have z51 : Zf 244 (iH 240 (iH 236 (iH 232 (iH 228 (iH 224 (iH 220 (iH 216 (iH 212 (iH 208 (iH 204 (iH 200 (iH 196 (iH 192 (iH 188 (iH 184 (iH 180 (iH 176 (iH 172 (iH 168 (iH 164 (iH 160 (iH 156 (iH 152 (iH 148 (iH 144 I))))))))))))))))))))))))) := (iH_z (b := 240) z50)
  have z52 : Zf 245 (iH 240 (iH 236 (iH 232 (iH 228 (iH 224 (iH 220 (iH 216 (iH 212 (iH 208 (iH 204 (iH 200 (iH 196 (iH 192 (iH 188 (iH 184 (iH 180 (iH 176 (iH 172 (iH 168 (iH 164 (iH 160 (iH 156 (iH 152 (iH 148 (iH 144 I))))))))))))))))))))))))) := (Zn z51)
  have z53 : Zf 248 (iH 244 (iH 240 (iH 236 (iH 232 (iH 228 (iH 224 (iH 220 (iH 216 (iH 212 (iH 208 (iH 204 (iH 200 (iH 196 (iH 192 (iH 188 (iH 184 (iH 180 (iH 176 (iH 172 (iH 168 (iH 164 (iH 160 (iH 156 (iH 152 (iH 148 (iH 144 I)))))))))))))))))))))))))) := (iH_z (b := 244) z52)
  have z54 : Zf 249 (iH 244 (iH 240 (iH 236 (iH 232 (iH 228 (iH 224 (iH 220 (iH 216 (iH 212 (iH 208 (iH 204 (iH 200 (iH 196 (iH 192 (iH 188 (iH 184 (iH 180 (iH 176 (iH 172 (iH 168 (iH 164 (iH 160 (iH 156 (iH 152 (iH 148 (iH 144 I)))))))))))))))))))))))))) := (Zn z53)
  have z55 : Zf 252 (iH 248 (iH 244 (iH 240 (iH 236 (iH 232 (iH 228 (iH 224 (iH 220 (iH 216 (iH 212 (iH 208 (iH 204 (iH 200 (iH 196 (iH 192 (iH 188 (iH 184 (iH 180 (iH 176 (iH 172 (iH 168 (iH 164 (iH 160 (iH 156 (iH 152 (iH 148 (iH 144 I))))))))))))))))))))))))))) := (iH_z (b := 248) z54)
  have z56 : Zf 253 (iH 248 (iH 244 (iH 240 (iH 236 (iH 232 (iH 228 (iH 224 (iH 220 (iH 216 (iH 212 (iH 208 (iH 204 (iH 200 (iH 196 (iH 192 (iH 188 (iH 184 (iH 180 (iH 176 (iH 172 (iH 168 (iH 164 (iH 160 (iH 156 (iH 152 (iH 148 (iH 144 I))))))))))))))))))))))))))) := (Zn z55)
  have z57 : Zf 256 (iH 252 (iH 248 (iH 244 (iH 240 (iH 236 (iH 232 (iH 228 (iH 224 (iH 220 (iH 216 (iH 212 (iH 208 (iH 204 (iH 200 (iH 196 (iH 192 (iH 188 (iH 184 (iH 180 (iH 176 (iH 172 (iH 168 (iH 164 (iH 160 (iH 156 (iH 152 (iH 148 (iH 144 I)))))))))))))))))))))))))))) := (iH_z (b := 252) z56)
  have z58 : Zf 257 (iH 252 (iH 248 (iH 244 (iH 240 (iH 236 (iH 232 (iH 228 (iH 224 (iH 220 (iH 216 (iH 212 (iH 208 (iH 204 (iH 200 (iH 196 (iH 192 (iH 188 (iH 184 (iH 180 (iH 176 (iH 172 (iH 168 (iH 164 (iH 160 (iH 156 (iH 152 (iH 148 (iH 144 I)))))))))))))))))))))))))))) := (Zn z57)
  have z59 : Zf 260 (iH 256 (iH 252 (iH 248 (iH 244 (iH 240 (iH 236 (iH 232 (iH 228 (iH 224 (iH 220 (iH 216 (iH 212 (iH 208 (iH 204 (iH 200 (iH 196 (iH 192 (iH 188 (iH 184 (iH 180 (iH 176 (iH 172 (iH 168 (iH 164 (iH 160 (iH 156 (iH 152 (iH 148 (iH 144 I))))))))))))))))))))))))))))) := (iH_z (b := 256) z58)
  have z60 : Zf 261 (iH 256 (iH 252 (iH 248 (iH 244 (iH 240 (iH 236 (iH 232 (iH 228 (iH 224 (iH 220 (iH 216 (iH 212 (iH 208 (iH 204 (iH 200 (iH 196 (iH 192 (iH 188 (iH 184 (iH 180 (iH 176 (iH 172 (iH 168 (iH 164 (iH 160 (iH 156 (iH 152 (iH 148 (iH 144 I))))))))))))))))))))))))))))) := (Zn z59)
  have z61 : Zf 264 (iH 260 (iH 256 (iH 252 (iH 248 (iH 244 (iH 240 (iH 236 (iH 232 (iH 228 (iH 224 (iH 220 (iH 216 (iH 212 (iH 208 (iH 204 (iH 200 (iH 196 (iH 192 (iH 188 (iH 184 (iH 180 (iH 176 (iH 172 (iH 168 (iH 164 (iH 160 (iH 156 (iH 152 (iH 148 (iH 144 I)))))))))))))))))))))))))))))) := (iH_z (b := 260) z60)
  have z62 : Zf 264 (sI (iH 260 (iH 256 (iH 252 (iH 248 (iH 244 (iH 240 (iH 236 (iH 232 (iH 228 (iH 224 (iH 220 (iH 216 (iH 212 (iH 208 (iH 204 (iH 200 (iH 196 (iH 192 (iH 188 (iH 184 (iH 180 (iH 176 (iH 172 (iH 168 (iH 164 (iH 160 (iH 156 (iH 152 (iH 148 (iH 144 I)))))))))))))))))))))))))))))) 142 1 0) := (Zs (Nat.le_of_ble_eq_true rfl) z61)
  have z63 : Zf 264 (sI (sI (iH 260 (iH 256 (iH 252 (iH 248 (iH 244 (iH 240 (iH 236 (iH 232 (iH 228 (iH 224 (iH 220 (iH 216 (iH 212 (iH 208 (iH 204 (iH 200 (iH 196 (iH 192 (iH 188 (iH 184 (iH 180 (iH 176 (iH 172 (iH 168 (iH 164 (iH 160 (iH 156 (iH 152 (iH 148 (iH 144 I)))))))))))))))))))))))))))))) 142 1 0) 142 2 0) := (Zs (Nat.le_of_ble_eq_true rfl) z62)
  exact z63
set_option maxHeartbeats 20000000 in
set_option maxRecDepth 20000 in
theorem e_iS_142 {d : Nat} {os : List Nat} {I : Nat → Nat → Int32} {X : Nat × (Nat → Int32)} {Q : PQ} (hos : ∀ x ∈ os, x < 142) (hz : Zf 143 I) (q : Q none (HN (264) (142 :: os) (iS_142 I) X)) : Ev (d + 2) m_S_new [.ref 142] (HN 143 (142 :: os) I X) Q := by
  unfold iS_142 at q
  refine ev_start (d := d + 1) rfl rfl rfl (Nat.le_of_ble_eq_true rfl) ?_
  show Wp (Ev (d + 1)) cd_S_new (mcs m_S_new) none _ _ Q 0 [(0, .ref 142)] [] (HN 143 (142 :: os) I X)
  refine w_aload_n (Ev.cm _) rfl rfl ?_
  refine w_objI (Ev.cm _) rfl (Nat.le_of_ble_eq_true rfl) ?_
  refine w_aload_n (Ev.cm _) rfl rfl ?_
  refine w_bipush (Ev.cm _) rfl ?_
  refine w_newr (Ev.cm _) rfl (by decide) (by decide) (show _ ∧ _ from ⟨show 143 + 1 ≤ 143 + (mcs m_S_new).1 by decide +kernel, show slt 143 + 30 ≤ slt 143 + (mcs m_S_new).2 by decide +kernel⟩) ?_
  show Wp _ _ _ _ _ _ _ 10 [(0, .ref 142)] [.ref 143, .ref 142] (puN (HN 143 (142 :: os) I X) 14 30)
  rw [hn_new (n := 143) (k := 14) (len := 30) rfl hz]
  have z1 : Zf 144 I := (Zn hz)
  refine w_putR (Ev.cm _) rfl (Nat.le_of_ble_eq_true rfl) rfl ?_
  show Wp _ _ _ _ _ _ _ 13 [(0, .ref 142)] [] (puR (HN 144 (143 :: 142 :: os) I X) 142 0 (some 143))
  rw [hn_link (o := 142) (k := 0) (q := 143) rfl (Nat.le_of_ble_eq_true rfl) (nin hos (Nat.le_of_ble_eq_true rfl))]
  refine w_iconst (Ev.cm _) rfl ?_
  refine w_istore_n (ls2 := [(0, .ref 142), (1, .int 0)]) (Ev.cm _) rfl rfl ?_
  refine w_iload_n (Ev.cm _) rfl rfl ?_
  refine w_bipush (Ev.cm _) rfl ?_
  refine w_icmp_ge (Ev.cm _) rfl (fun q => absurd q (by decide)) (fun _ => ?_)
  refine w_aload_n (Ev.cm _) rfl rfl ?_
  refine w_getR (q := 143) (Ev.cm _) rfl (Nat.le_of_ble_eq_true rfl) rfl (rd_get (n := 144) (o := 142) (k := 0) (q := 143) rfl (Nat.le_of_ble_eq_true rfl) (nin hos (Nat.le_of_ble_eq_true rfl))) ?_
  refine w_iload_n (Ev.cm _) rfl rfl ?_
  refine w_new (Ev.cm _) rfl (show _ ∧ _ from ⟨show 144 + 1 ≤ 143 + (mcs m_S_new).1 by decide +kernel, show slt 144 + 8 ≤ slt 143 + (mcs m_S_new).2 by decide +kernel⟩) ?_
  show Wp _ _ _ _ _ _ _ 29 [(0, .ref 142), (1, .int 0)] [.ref 144, .int 0, .ref 143] (puN (HN 144 (142 :: os) I X) 1 8)
  rw [hn_new (n := 144) (k := 1) (len := 8) rfl z1]
  have z2 : Zf 145 I := (Zn z1)
  refine w_dup (Ev.cm _) rfl rfl ?_
  refine w_cinit (as := []) (o := 144) (st := [.ref 144, .int 0, .ref 143]) (Ev.cm _) rfl rfl rfl (Nat.le_of_ble_eq_true rfl) (show _ ∧ _ from ⟨show 145 + (mcs m_H_new).1 ≤ 143 + (mcs m_S_new).1 by decide +kernel, show slt 145 + (mcs m_H_new).2 ≤ slt 143 + (mcs m_S_new).2 by decide +kernel⟩) (Nat.le_of_ble_eq_true rfl) (e_iH (show isH 144 from Or.inr (Or.inr (Or.inr ⟨0, (Nat.le_of_ble_eq_true rfl), rfl⟩))) (subos (Nat.le_of_ble_eq_true rfl) hos) z2 ?_)
  have z3 : Zf 148 (iH 144 I) := (iH_z (b := 144) z2)
  show Wp _ _ _ _ _ _ _ 33 [(0, .ref 142), (1, .int 0)] [.ref 144, .int 0, .ref 143] (HN 148 (144 :: 142 :: os) (iH 144 I) X)
  refine w_aast (Ev.cm _) rfl (Nat.le_of_ble_eq_true rfl) rfl (show vp_in 0 30 from vpI 30 (by decide) (by decide) (by decide)) (Nat.le_of_ble_eq_true rfl) rfl ?_
  show Wp _ _ _ _ _ _ _ 34 [(0, .ref 142), (1, .int 0)] [] (puR (HN 148 (144 :: 142 :: os) (iH 144 I) X) 143 0 (some 144))
  rw [hn_link (o := 143) (k := 0) (q := 144) rfl (Nat.le_of_ble_eq_true rfl) (nin hos (Nat.le_of_ble_eq_true rfl))]
  refine w_iinc (ls2 := [(0, .ref 142), (1, .int 1)]) (Ev.cm _) rfl rfl rfl ?_
  refine w_goto (Ev.cm _) rfl ?_
  refine w_iload_n (Ev.cm _) rfl rfl ?_
  refine w_bipush (Ev.cm _) rfl ?_
  refine w_icmp_ge (Ev.cm _) rfl (fun q => absurd q (by decide)) (fun _ => ?_)
  refine w_aload_n (Ev.cm _) rfl rfl ?_
  refine w_getR (q := 143) (Ev.cm _) rfl (Nat.le_of_ble_eq_true rfl) rfl (rd_get (n := 148) (o := 142) (k := 0) (q := 143) rfl (Nat.le_of_ble_eq_true rfl) (nin hos (Nat.le_of_ble_eq_true rfl))) ?_
  refine w_iload_n (Ev.cm _) rfl rfl ?_
  refine w_new (Ev.cm _) rfl (show _ ∧ _ from ⟨show 148 + 1 ≤ 143 + (mcs m_S_new).1 by decide +kernel, show slt 148 + 8 ≤ slt 143 + (mcs m_S_new).2 by decide +kernel⟩) ?_
  show Wp _ _ _ _ _ _ _ 29 [(0, .ref 142), (1, .int 1)] [.ref 148, .int 1, .ref 143] (puN (HN 148 (142 :: os) (iH 144 I) X) 1 8)
  rw [hn_new (n := 148) (k := 1) (len := 8) rfl z3]
  have z4 : Zf 149 (iH 144 I) := (Zn z3)
  refine w_dup (Ev.cm _) rfl rfl ?_
  refine w_cinit (as := []) (o := 148) (st := [.ref 148, .int 1, .ref 143]) (Ev.cm _) rfl rfl rfl (Nat.le_of_ble_eq_true rfl) (show _ ∧ _ from ⟨show 149 + (mcs m_H_new).1 ≤ 143 + (mcs m_S_new).1 by decide +kernel, show slt 149 + (mcs m_H_new).2 ≤ slt 143 + (mcs m_S_new).2 by decide +kernel⟩) (Nat.le_of_ble_eq_true rfl) (e_iH (show isH 148 from Or.inr (Or.inr (Or.inr ⟨1, (Nat.le_of_ble_eq_true rfl), rfl⟩))) (subos (Nat.le_of_ble_eq_true rfl) hos) z4 ?_)
  have z5 : Zf 152 (iH 148 (iH 144 I)) := (iH_z (b := 148) z4)
  show Wp _ _ _ _ _ _ _ 33 [(0, .ref 142), (1, .int 1)] [.ref 148, .int 1, .ref 143] (HN 152 (148 :: 142 :: os) (iH 148 (iH 144 I)) X)
  refine w_aast (Ev.cm _) rfl (Nat.le_of_ble_eq_true rfl) rfl (show vp_in 1 30 from vpI 30 (by decide) (by decide) (by decide)) (Nat.le_of_ble_eq_true rfl) rfl ?_
  show Wp _ _ _ _ _ _ _ 34 [(0, .ref 142), (1, .int 1)] [] (puR (HN 152 (148 :: 142 :: os) (iH 148 (iH 144 I)) X) 143 1 (some 148))
  rw [hn_link (o := 143) (k := 1) (q := 148) rfl (Nat.le_of_ble_eq_true rfl) (nin hos (Nat.le_of_ble_eq_true rfl))]
  refine w_iinc (ls2 := [(0, .ref 142), (1, .int 2)]) (Ev.cm _) rfl rfl rfl ?_
  refine w_goto (Ev.cm _) rfl ?_
  refine w_iload_n (Ev.cm _) rfl rfl ?_
  refine w_bipush (Ev.cm _) rfl ?_
  refine w_icmp_ge (Ev.cm _) rfl (fun q => absurd q (by decide)) (fun _ => ?_)
  refine w_aload_n (Ev.cm _) rfl rfl ?_
  refine w_getR (q := 143) (Ev.cm _) rfl (Nat.le_of_ble_eq_true rfl) rfl (rd_get (n := 152) (o := 142) (k := 0) (q := 143) rfl (Nat.le_of_ble_eq_true rfl) (nin hos (Nat.le_of_ble_eq_true rfl))) ?_
  refine w_iload_n (Ev.cm _) rfl rfl ?_
  refine w_new (Ev.cm _) rfl (show _ ∧ _ from ⟨show 152 + 1 ≤ 143 + (mcs m_S_new).1 by decide +kernel, show slt 152 + 8 ≤ slt 143 + (mcs m_S_new).2 by decide +kernel⟩) ?_
  show Wp _ _ _ _ _ _ _ 29 [(0, .ref 142), (1, .int 2)] [.ref 152, .int 2, .ref 143] (puN (HN 152 (142 :: os) (iH 148 (iH 144 I)) X) 1 8)
  rw [hn_new (n := 152) (k := 1) (len := 8) rfl z5]
  have z6 : Zf 153 (iH 148 (iH 144 I)) := (Zn z5)
  refine w_dup (Ev.cm _) rfl rfl ?_
  refine w_cinit (as := []) (o := 152) (st := [.ref 152, .int 2, .ref 143]) (Ev.cm _) rfl rfl rfl (Nat.le_of_ble_eq_true rfl) (show _ ∧ _ from ⟨show 153 + (mcs m_H_new).1 ≤ 143 + (mcs m_S_new).1 by decide +kernel, show slt 153 + (mcs m_H_new).2 ≤ slt 143 + (mcs m_S_new).2 by decide +kernel⟩) (Nat.le_of_ble_eq_true rfl) (e_iH (show isH 152 from Or.inr (Or.inr (Or.inr ⟨2, (Nat.le_of_ble_eq_true rfl), rfl⟩))) (subos (Nat.le_of_ble_eq_true rfl) hos) z6 ?_)
  have z7 : Zf 156 (iH 152 (iH 148 (iH 144 I))) := (iH_z (b := 152) z6)
  show Wp _ _ _ _ _ _ _ 33 [(0, .ref 142), (1, .int 2)] [.ref 152, .int 2, .ref 143] (HN 156 (152 :: 142 :: os) (iH 152 (iH 148 (iH 144 I))) X)
  refine w_aast (Ev.cm _) rfl (Nat.le_of_ble_eq_true rfl) rfl (show vp_in 2 30 from vpI 30 (by decide) (by decide) (by decide)) (Nat.le_of_ble_eq_true rfl) rfl ?_
  show Wp _ _ _ _ _ _ _ 34 [(0, .ref 142), (1, .int 2)] [] (puR (HN 156 (152 :: 142 :: os) (iH 152 (iH 148 (iH 144 I))) X) 143 2 (some 152))
  rw [hn_link (o := 143) (k := 2) (q := 152) rfl (Nat.le_of_ble_eq_true rfl) (nin hos (Nat.le_of_ble_eq_true rfl))]
  refine w_iinc (ls2 := [(0, .ref 142), (1, .int 3)]) (Ev.cm _) rfl rfl rfl ?_
  refine w_goto (Ev.cm _) rfl ?_
  refine w_iload_n (Ev.cm _) rfl rfl ?_
  refine w_bipush (Ev.cm _) rfl ?_
  refine w_icmp_ge (Ev.cm _) rfl (fun q => absurd q (by decide)) (fun _ => ?_)
  refine w_aload_n (Ev.cm _) rfl rfl ?_
  refine w_getR (q := 143) (Ev.cm _) rfl (Nat.le_of_ble_eq_true rfl) rfl (rd_get (n := 156) (o := 142) (k := 0) (q := 143) rfl (Nat.le_of_ble_eq_true rfl) (nin hos (Nat.le_of_ble_eq_true rfl))) ?_
  refine w_iload_n (Ev.cm _) rfl rfl ?_
  refine w_new (Ev.cm _) rfl (show _ ∧ _ from ⟨show 156 + 1 ≤ 143 + (mcs m_S_new).1 by decide +kernel, show slt 156 + 8 ≤ slt 143 + (mcs m_S_new).2 by decide +kernel⟩) ?_
  show Wp _ _ _ _ _ _ _ 29 [(0, .ref 142), (1, .int 3)] [.ref 156, .int 3, .ref 143] (puN (HN 156 (142 :: os) (iH 152 (iH 148 (iH 144 I))) X) 1 8)
  rw [hn_new (n := 156) (k := 1) (len := 8) rfl z7]
  have z8 : Zf 157 (iH 152 (iH 148 (iH 144 I))) := (Zn z7)
  refine w_dup (Ev.cm _) rfl rfl ?_
  refine w_cinit (as := []) (o := 156) (st := [.ref 156, .int 3, .ref 143]) (Ev.cm _) rfl rfl rfl (Nat.le_of_ble_eq_true rfl) (show _ ∧ _ from ⟨show 157 + (mcs m_H_new).1 ≤ 143 + (mcs m_S_new).1 by decide +kernel, show slt 157 + (mcs m_H_new).2 ≤ slt 143 + (mcs m_S_new).2 by decide +kernel⟩) (Nat.le_of_ble_eq_true rfl) (e_iH (show isH 156 from Or.inr (Or.inr (Or.inr ⟨3, (Nat.le_of_ble_eq_true rfl), rfl⟩))) (subos (Nat.le_of_ble_eq_true rfl) hos) z8 ?_)
  have z9 : Zf 160 (iH 156 (iH 152 (iH 148 (iH 144 I)))) := (iH_z (b := 156) z8)
  show Wp _ _ _ _ _ _ _ 33 [(0, .ref 142), (1, .int 3)] [.ref 156, .int 3, .ref 143] (HN 160 (156 :: 142 :: os) (iH 156 (iH 152 (iH 148 (iH 144 I)))) X)
  refine w_aast (Ev.cm _) rfl (Nat.le_of_ble_eq_true rfl) rfl (show vp_in 3 30 from vpI 30 (by decide) (by decide) (by decide)) (Nat.le_of_ble_eq_true rfl) rfl ?_
  show Wp _ _ _ _ _ _ _ 34 [(0, .ref 142), (1, .int 3)] [] (puR (HN 160 (156 :: 142 :: os) (iH 156 (iH 152 (iH 148 (iH 144 I)))) X) 143 3 (some 156))
  rw [hn_link (o := 143) (k := 3) (q := 156) rfl (Nat.le_of_ble_eq_true rfl) (nin hos (Nat.le_of_ble_eq_true rfl))]
  refine w_iinc (ls2 := [(0, .ref 142), (1, .int 4)]) (Ev.cm _) rfl rfl rfl ?_
  refine w_goto (Ev.cm _) rfl ?_
  refine w_iload_n (Ev.cm _) rfl rfl ?_
  refine w_bipush (Ev.cm _) rfl ?_
  refine w_icmp_ge (Ev.cm _) rfl (fun q => absurd q (by decide)) (fun _ => ?_)
  refine w_aload_n (Ev.cm _) rfl rfl ?_
  refine w_getR (q := 143) (Ev.cm _) rfl (Nat.le_of_ble_eq_true rfl) rfl (rd_get (n := 160) (o := 142) (k := 0) (q := 143) rfl (Nat.le_of_ble_eq_true rfl) (nin hos (Nat.le_of_ble_eq_true rfl))) ?_
  refine w_iload_n (Ev.cm _) rfl rfl ?_
  refine w_new (Ev.cm _) rfl (show _ ∧ _ from ⟨show 160 + 1 ≤ 143 + (mcs m_S_new).1 by decide +kernel, show slt 160 + 8 ≤ slt 143 + (mcs m_S_new).2 by decide +kernel⟩) ?_
  show Wp _ _ _ _ _ _ _ 29 [(0, .ref 142), (1, .int 4)] [.ref 160, .int 4, .ref 143] (puN (HN 160 (142 :: os) (iH 156 (iH 152 (iH 148 (iH 144 I)))) X) 1 8)
  rw [hn_new (n := 160) (k := 1) (len := 8) rfl z9]
  have z10 : Zf 161 (iH 156 (iH 152 (iH 148 (iH 144 I)))) := (Zn z9)
  refine w_dup (Ev.cm _) rfl rfl ?_
  refine w_cinit (as := []) (o := 160) (st := [.ref 160, .int 4, .ref 143]) (Ev.cm _) rfl rfl rfl (Nat.le_of_ble_eq_true rfl) (show _ ∧ _ from ⟨show 161 + (mcs m_H_new).1 ≤ 143 + (mcs m_S_new).1 by decide +kernel, show slt 161 + (mcs m_H_new).2 ≤ slt 143 + (mcs m_S_new).2 by decide +kernel⟩) (Nat.le_of_ble_eq_true rfl) (e_iH (show isH 160 from Or.inr (Or.inr (Or.inr ⟨4, (Nat.le_of_ble_eq_true rfl), rfl⟩))) (subos (Nat.le_of_ble_eq_true rfl) hos) z10 ?_)
  have z11 : Zf 164 (iH 160 (iH 156 (iH 152 (iH 148 (iH 144 I))))) := (iH_z (b := 160) z10)
  show Wp _ _ _ _ _ _ _ 33 [(0, .ref 142), (1, .int 4)] [.ref 160, .int 4, .ref 143] (HN 164 (160 :: 142 :: os) (iH 160 (iH 156 (iH 152 (iH 148 (iH 144 I))))) X)
  refine w_aast (Ev.cm _) rfl (Nat.le_of_ble_eq_true rfl) rfl (show vp_in 4 30 from vpI 30 (by decide) (by decide) (by decide)) (Nat.le_of_ble_eq_true rfl) rfl ?_
  show Wp _ _ _ _ _ _ _ 34 [(0, .ref 142), (1, .int 4)] [] (puR (HN 164 (160 :: 142 :: os) (iH 160 (iH 156 (iH 152 (iH 148 (iH 144 I))))) X) 143 4 (some 160))
  rw [hn_link (o := 143) (k := 4) (q := 160) rfl (Nat.le_of_ble_eq_true rfl) (nin hos (Nat.le_of_ble_eq_true rfl))]
  refine w_iinc (ls2 := [(0, .ref 142), (1, .int 5)]) (Ev.cm _) rfl rfl rfl ?_
  refine w_goto (Ev.cm _) rfl ?_
  refine w_iload_n (Ev.cm _) rfl rfl ?_
  refine w_bipush (Ev.cm _) rfl ?_
  refine w_icmp_ge (Ev.cm _) rfl (fun q => absurd q (by decide)) (fun _ => ?_)
  refine w_aload_n (Ev.cm _) rfl rfl ?_
  refine w_getR (q := 143) (Ev.cm _) rfl (Nat.le_of_ble_eq_true rfl) rfl (rd_get (n := 164) (o := 142) (k := 0) (q := 143) rfl (Nat.le_of_ble_eq_true rfl) (nin hos (Nat.le_of_ble_eq_true rfl))) ?_
  refine w_iload_n (Ev.cm _) rfl rfl ?_
  refine w_new (Ev.cm _) rfl (show _ ∧ _ from ⟨show 164 + 1 ≤ 143 + (mcs m_S_new).1 by decide +kernel, show slt 164 + 8 ≤ slt 143 + (mcs m_S_new).2 by decide +kernel⟩) ?_
  show Wp _ _ _ _ _ _ _ 29 [(0, .ref 142), (1, .int 5)] [.ref 164, .int 5, .ref 143] (puN (HN 164 (142 :: os) (iH 160 (iH 156 (iH 152 (iH 148 (iH 144 I))))) X) 1 8)
  rw [hn_new (n := 164) (k := 1) (len := 8) rfl z11]
  have z12 : Zf 165 (iH 160 (iH 156 (iH 152 (iH 148 (iH 144 I))))) := (Zn z11)
  refine w_dup (Ev.cm _) rfl rfl ?_
  refine w_cinit (as := []) (o := 164) (st := [.ref 164, .int 5, .ref 143]) (Ev.cm _) rfl rfl rfl (Nat.le_of_ble_eq_true rfl) (show _ ∧ _ from ⟨show 165 + (mcs m_H_new).1 ≤ 143 + (mcs m_S_new).1 by decide +kernel, show slt 165 + (mcs m_H_new).2 ≤ slt 143 + (mcs m_S_new).2 by decide +kernel⟩) (Nat.le_of_ble_eq_true rfl) (e_iH (show isH 164 from Or.inr (Or.inr (Or.inr ⟨5, (Nat.le_of_ble_eq_true rfl), rfl⟩))) (subos (Nat.le_of_ble_eq_true rfl) hos) z12 ?_)
  have z13 : Zf 168 (iH 164 (iH 160 (iH 156 (iH 152 (iH 148 (iH 144 I)))))) := (iH_z (b := 164) z12)
  show Wp _ _ _ _ _ _ _ 33 [(0, .ref 142), (1, .int 5)] [.ref 164, .int 5, .ref 143] (HN 168 (164 :: 142 :: os) (iH 164 (iH 160 (iH 156 (iH 152 (iH 148 (iH 144 I)))))) X)
  refine w_aast (Ev.cm _) rfl (Nat.le_of_ble_eq_true rfl) rfl (show vp_in 5 30 from vpI 30 (by decide) (by decide) (by decide)) (Nat.le_of_ble_eq_true rfl) rfl ?_
  show Wp _ _ _ _ _ _ _ 34 [(0, .ref 142), (1, .int 5)] [] (puR (HN 168 (164 :: 142 :: os) (iH 164 (iH 160 (iH 156 (iH 152 (iH 148 (iH 144 I)))))) X) 143 5 (some 164))
  rw [hn_link (o := 143) (k := 5) (q := 164) rfl (Nat.le_of_ble_eq_true rfl) (nin hos (Nat.le_of_ble_eq_true rfl))]
  refine w_iinc (ls2 := [(0, .ref 142), (1, .int 6)]) (Ev.cm _) rfl rfl rfl ?_
  refine w_goto (Ev.cm _) rfl ?_
  refine w_iload_n (Ev.cm _) rfl rfl ?_
  refine w_bipush (Ev.cm _) rfl ?_
  refine w_icmp_ge (Ev.cm _) rfl (fun q => absurd q (by decide)) (fun _ => ?_)
  refine w_aload_n (Ev.cm _) rfl rfl ?_
  refine w_getR (q := 143) (Ev.cm _) rfl (Nat.le_of_ble_eq_true rfl) rfl (rd_get (n := 168) (o := 142) (k := 0) (q := 143) rfl (Nat.le_of_ble_eq_true rfl) (nin hos (Nat.le_of_ble_eq_true rfl))) ?_
  refine w_iload_n (Ev.cm _) rfl rfl ?_
  refine w_new (Ev.cm _) rfl (show _ ∧ _ from ⟨show 168 + 1 ≤ 143 + (mcs m_S_new).1 by decide +kernel, show slt 168 + 8 ≤ slt 143 + (mcs m_S_new).2 by decide +kernel⟩) ?_
  show Wp _ _ _ _ _ _ _ 29 [(0, .ref 142), (1, .int 6)] [.ref 168, .int 6, .ref 143] (puN (HN 168 (142 :: os) (iH 164 (iH 160 (iH 156 (iH 152 (iH 148 (iH 144 I)))))) X) 1 8)
  rw [hn_new (n := 168) (k := 1) (len := 8) rfl z13]
  have z14 : Zf 169 (iH 164 (iH 160 (iH 156 (iH 152 (iH 148 (iH 144 I)))))) := (Zn z13)
  refine w_dup (Ev.cm _) rfl rfl ?_
  refine w_cinit (as := []) (o := 168) (st := [.ref 168, .int 6, .ref 143]) (Ev.cm _) rfl rfl rfl (Nat.le_of_ble_eq_true rfl) (show _ ∧ _ from ⟨show 169 + (mcs m_H_new).1 ≤ 143 + (mcs m_S_new).1 by decide +kernel, show slt 169 + (mcs m_H_new).2 ≤ slt 143 + (mcs m_S_new).2 by decide +kernel⟩) (Nat.le_of_ble_eq_true rfl) (e_iH (show isH 168 from Or.inr (Or.inr (Or.inr ⟨6, (Nat.le_of_ble_eq_true rfl), rfl⟩))) (subos (Nat.le_of_ble_eq_true rfl) hos) z14 ?_)
  have z15 : Zf 172 (iH 168 (iH 164 (iH 160 (iH 156 (iH 152 (iH 148 (iH 144 I))))))) := (iH_z (b := 168) z14)
  show Wp _ _ _ _ _ _ _ 33 [(0, .ref 142), (1, .int 6)] [.ref 168, .int 6, .ref 143] (HN 172 (168 :: 142 :: os) (iH 168 (iH 164 (iH 160 (iH 156 (iH 152 (iH 148 (iH 144 I))))))) X)
  refine w_aast (Ev.cm _) rfl (Nat.le_of_ble_eq_true rfl) rfl (show vp_in 6 30 from vpI 30 (by decide) (by decide) (by decide)) (Nat.le_of_ble_eq_true rfl) rfl ?_
  show Wp _ _ _ _ _ _ _ 34 [(0, .ref 142), (1, .int 6)] [] (puR (HN 172 (168 :: 142 :: os) (iH 168 (iH 164 (iH 160 (iH 156 (iH 152 (iH 148 (iH 144 I))))))) X) 143 6 (some 168))
  rw [hn_link (o := 143) (k := 6) (q := 168) rfl (Nat.le_of_ble_eq_true rfl) (nin hos (Nat.le_of_ble_eq_true rfl))]
  refine w_iinc (ls2 := [(0, .ref 142), (1, .int 7)]) (Ev.cm _) rfl rfl rfl ?_
  refine w_goto (Ev.cm _) rfl ?_
  refine w_iload_n (Ev.cm _) rfl rfl ?_
  refine w_bipush (Ev.cm _) rfl ?_
  refine w_icmp_ge (Ev.cm _) rfl (fun q => absurd q (by decide)) (fun _ => ?_)
  refine w_aload_n (Ev.cm _) rfl rfl ?_
  refine w_getR (q := 143) (Ev.cm _) rfl (Nat.le_of_ble_eq_true rfl) rfl (rd_get (n := 172) (o := 142) (k := 0) (q := 143) rfl (Nat.le_of_ble_eq_true rfl) (nin hos (Nat.le_of_ble_eq_true rfl))) ?_
  refine w_iload_n (Ev.cm _) rfl rfl ?_
  refine w_new (Ev.cm _) rfl (show _ ∧ _ from ⟨show 172 + 1 ≤ 143 + (mcs m_S_new).1 by decide +kernel, show slt 172 + 8 ≤ slt 143 + (mcs m_S_new).2 by decide +kernel⟩) ?_
  show Wp _ _ _ _ _ _ _ 29 [(0, .ref 142), (1, .int 7)] [.ref 172, .int 7, .ref 143] (puN (HN 172 (142 :: os) (iH 168 (iH 164 (iH 160 (iH 156 (iH 152 (iH 148 (iH 144 I))))))) X) 1 8)
  rw [hn_new (n := 172) (k := 1) (len := 8) rfl z15]
  have z16 : Zf 173 (iH 168 (iH 164 (iH 160 (iH 156 (iH 152 (iH 148 (iH 144 I))))))) := (Zn z15)
  refine w_dup (Ev.cm _) rfl rfl ?_
  refine w_cinit (as := []) (o := 172) (st := [.ref 172, .int 7, .ref 143]) (Ev.cm _) rfl rfl rfl (Nat.le_of_ble_eq_true rfl) (show _ ∧ _ from ⟨show 173 + (mcs m_H_new).1 ≤ 143 + (mcs m_S_new).1 by decide +kernel, show slt 173 + (mcs m_H_new).2 ≤ slt 143 + (mcs m_S_new).2 by decide +kernel⟩) (Nat.le_of_ble_eq_true rfl) (e_iH (show isH 172 from Or.inr (Or.inr (Or.inr ⟨7, (Nat.le_of_ble_eq_true rfl), rfl⟩))) (subos (Nat.le_of_ble_eq_true rfl) hos) z16 ?_)
  have z17 : Zf 176 (iH 172 (iH 168 (iH 164 (iH 160 (iH 156 (iH 152 (iH 148 (iH 144 I)))))))) := (iH_z (b := 172) z16)
  show Wp _ _ _ _ _ _ _ 33 [(0, .ref 142), (1, .int 7)] [.ref 172, .int 7, .ref 143] (HN 176 (172 :: 142 :: os) (iH 172 (iH 168 (iH 164 (iH 160 (iH 156 (iH 152 (iH 148 (iH 144 I)))))))) X)
  refine w_aast (Ev.cm _) rfl (Nat.le_of_ble_eq_true rfl) rfl (show vp_in 7 30 from vpI 30 (by decide) (by decide) (by decide)) (Nat.le_of_ble_eq_true rfl) rfl ?_
  show Wp _ _ _ _ _ _ _ 34 [(0, .ref 142), (1, .int 7)] [] (puR (HN 176 (172 :: 142 :: os) (iH 172 (iH 168 (iH 164 (iH 160 (iH 156 (iH 152 (iH 148 (iH 144 I)))))))) X) 143 7 (some 172))
  rw [hn_link (o := 143) (k := 7) (q := 172) rfl (Nat.le_of_ble_eq_true rfl) (nin hos (Nat.le_of_ble_eq_true rfl))]
  refine w_iinc (ls2 := [(0, .ref 142), (1, .int 8)]) (Ev.cm _) rfl rfl rfl ?_
  refine w_goto (Ev.cm _) rfl ?_
  refine w_iload_n (Ev.cm _) rfl rfl ?_
  refine w_bipush (Ev.cm _) rfl ?_
  refine w_icmp_ge (Ev.cm _) rfl (fun q => absurd q (by decide)) (fun _ => ?_)
  refine w_aload_n (Ev.cm _) rfl rfl ?_
  refine w_getR (q := 143) (Ev.cm _) rfl (Nat.le_of_ble_eq_true rfl) rfl (rd_get (n := 176) (o := 142) (k := 0) (q := 143) rfl (Nat.le_of_ble_eq_true rfl) (nin hos (Nat.le_of_ble_eq_true rfl))) ?_
  refine w_iload_n (Ev.cm _) rfl rfl ?_
  refine w_new (Ev.cm _) rfl (show _ ∧ _ from ⟨show 176 + 1 ≤ 143 + (mcs m_S_new).1 by decide +kernel, show slt 176 + 8 ≤ slt 143 + (mcs m_S_new).2 by decide +kernel⟩) ?_
  show Wp _ _ _ _ _ _ _ 29 [(0, .ref 142), (1, .int 8)] [.ref 176, .int 8, .ref 143] (puN (HN 176 (142 :: os) (iH 172 (iH 168 (iH 164 (iH 160 (iH 156 (iH 152 (iH 148 (iH 144 I)))))))) X) 1 8)
  rw [hn_new (n := 176) (k := 1) (len := 8) rfl z17]
  have z18 : Zf 177 (iH 172 (iH 168 (iH 164 (iH 160 (iH 156 (iH 152 (iH 148 (iH 144 I)))))))) := (Zn z17)
  refine w_dup (Ev.cm _) rfl rfl ?_
  refine w_cinit (as := []) (o := 176) (st := [.ref 176, .int 8, .ref 143]) (Ev.cm _) rfl rfl rfl (Nat.le_of_ble_eq_true rfl) (show _ ∧ _ from ⟨show 177 + (mcs m_H_new).1 ≤ 143 + (mcs m_S_new).1 by decide +kernel, show slt 177 + (mcs m_H_new).2 ≤ slt 143 + (mcs m_S_new).2 by decide +kernel⟩) (Nat.le_of_ble_eq_true rfl) (e_iH (show isH 176 from Or.inr (Or.inr (Or.inr ⟨8, (Nat.le_of_ble_eq_true rfl), rfl⟩))) (subos (Nat.le_of_ble_eq_true rfl) hos) z18 ?_)
  have z19 : Zf 180 (iH 176 (iH 172 (iH 168 (iH 164 (iH 160 (iH 156 (iH 152 (iH 148 (iH 144 I))))))))) := (iH_z (b := 176) z18)
  show Wp _ _ _ _ _ _ _ 33 [(0, .ref 142), (1, .int 8)] [.ref 176, .int 8, .ref 143] (HN 180 (176 :: 142 :: os) (iH 176 (iH 172 (iH 168 (iH 164 (iH 160 (iH 156 (iH 152 (iH 148 (iH 144 I))))))))) X)
  refine w_aast (Ev.cm _) rfl (Nat.le_of_ble_eq_true rfl) rfl (show vp_in 8 30 from vpI 30 (by decide) (by decide) (by decide)) (Nat.le_of_ble_eq_true rfl) rfl ?_
  show Wp _ _ _ _ _ _ _ 34 [(0, .ref 142), (1, .int 8)] [] (puR (HN 180 (176 :: 142 :: os) (iH 176 (iH 172 (iH 168 (iH 164 (iH 160 (iH 156 (iH 152 (iH 148 (iH 144 I))))))))) X) 143 8 (some 176))
  rw [hn_link (o := 143) (k := 8) (q := 176) rfl (Nat.le_of_ble_eq_true rfl) (nin hos (Nat.le_of_ble_eq_true rfl))]
  refine w_iinc (ls2 := [(0, .ref 142), (1, .int 9)]) (Ev.cm _) rfl rfl rfl ?_
  refine w_goto (Ev.cm _) rfl ?_
  refine w_iload_n (Ev.cm _) rfl rfl ?_
  refine w_bipush (Ev.cm _) rfl ?_
  refine w_icmp_ge (Ev.cm _) rfl (fun q => absurd q (by decide)) (fun _ => ?_)
  refine w_aload_n (Ev.cm _) rfl rfl ?_
  refine w_getR (q := 143) (Ev.cm _) rfl (Nat.le_of_ble_eq_true rfl) rfl (rd_get (n := 180) (o := 142) (k := 0) (q := 143) rfl (Nat.le_of_ble_eq_true rfl) (nin hos (Nat.le_of_ble_eq_true rfl))) ?_
  refine w_iload_n (Ev.cm _) rfl rfl ?_
  refine w_new (Ev.cm _) rfl (show _ ∧ _ from ⟨show 180 + 1 ≤ 143 + (mcs m_S_new).1 by decide +kernel, show slt 180 + 8 ≤ slt 143 + (mcs m_S_new).2 by decide +kernel⟩) ?_
  show Wp _ _ _ _ _ _ _ 29 [(0, .ref 142), (1, .int 9)] [.ref 180, .int 9, .ref 143] (puN (HN 180 (142 :: os) (iH 176 (iH 172 (iH 168 (iH 164 (iH 160 (iH 156 (iH 152 (iH 148 (iH 144 I))))))))) X) 1 8)
  rw [hn_new (n := 180) (k := 1) (len := 8) rfl z19]
  have z20 : Zf 181 (iH 176 (iH 172 (iH 168 (iH 164 (iH 160 (iH 156 (iH 152 (iH 148 (iH 144 I))))))))) := (Zn z19)
  refine w_dup (Ev.cm _) rfl rfl ?_
  refine w_cinit (as := []) (o := 180) (st := [.ref 180, .int 9, .ref 143]) (Ev.cm _) rfl rfl rfl (Nat.le_of_ble_eq_true rfl) (show _ ∧ _ from ⟨show 181 + (mcs m_H_new).1 ≤ 143 + (mcs m_S_new).1 by decide +kernel, show slt 181 + (mcs m_H_new).2 ≤ slt 143 + (mcs m_S_new).2 by decide +kernel⟩) (Nat.le_of_ble_eq_true rfl) (e_iH (show isH 180 from Or.inr (Or.inr (Or.inr ⟨9, (Nat.le_of_ble_eq_true rfl), rfl⟩))) (subos (Nat.le_of_ble_eq_true rfl) hos) z20 ?_)
  have z21 : Zf 184 (iH 180 (iH 176 (iH 172 (iH 168 (iH 164 (iH 160 (iH 156 (iH 152 (iH 148 (iH 144 I)))))))))) := (iH_z (b := 180) z20)
  show Wp _ _ _ _ _ _ _ 33 [(0, .ref 142), (1, .int 9)] [.ref 180, .int 9, .ref 143] (HN 184 (180 :: 142 :: os) (iH 180 (iH 176 (iH 172 (iH 168 (iH 164 (iH 160 (iH 156 (iH 152 (iH 148 (iH 144 I)))))))))) X)
  refine w_aast (Ev.cm _) rfl (Nat.le_of_ble_eq_true rfl) rfl (show vp_in 9 30 from vpI 30 (by decide) (by decide) (by decide)) (Nat.le_of_ble_eq_true rfl) rfl ?_
  show Wp _ _ _ _ _ _ _ 34 [(0, .ref 142), (1, .int 9)] [] (puR (HN 184 (180 :: 142 :: os) (iH 180 (iH 176 (iH 172 (iH 168 (iH 164 (iH 160 (iH 156 (iH 152 (iH 148 (iH 144 I)))))))))) X) 143 9 (some 180))
  rw [hn_link (o := 143) (k := 9) (q := 180) rfl (Nat.le_of_ble_eq_true rfl) (nin hos (Nat.le_of_ble_eq_true rfl))]
  refine w_iinc (ls2 := [(0, .ref 142), (1, .int 10)]) (Ev.cm _) rfl rfl rfl ?_
  refine w_goto (Ev.cm _) rfl ?_
  refine w_iload_n (Ev.cm _) rfl rfl ?_
  refine w_bipush (Ev.cm _) rfl ?_
  refine w_icmp_ge (Ev.cm _) rfl (fun q => absurd q (by decide)) (fun _ => ?_)
  refine w_aload_n (Ev.cm _) rfl rfl ?_
  refine w_getR (q := 143) (Ev.cm _) rfl (Nat.le_of_ble_eq_true rfl) rfl (rd_get (n := 184) (o := 142) (k := 0) (q := 143) rfl (Nat.le_of_ble_eq_true rfl) (nin hos (Nat.le_of_ble_eq_true rfl))) ?_
  refine w_iload_n (Ev.cm _) rfl rfl ?_
  refine w_new (Ev.cm _) rfl (show _ ∧ _ from ⟨show 184 + 1 ≤ 143 + (mcs m_S_new).1 by decide +kernel, show slt 184 + 8 ≤ slt 143 + (mcs m_S_new).2 by decide +kernel⟩) ?_
  show Wp _ _ _ _ _ _ _ 29 [(0, .ref 142), (1, .int 10)] [.ref 184, .int 10, .ref 143] (puN (HN 184 (142 :: os) (iH 180 (iH 176 (iH 172 (iH 168 (iH 164 (iH 160 (iH 156 (iH 152 (iH 148 (iH 144 I)))))))))) X) 1 8)
  rw [hn_new (n := 184) (k := 1) (len := 8) rfl z21]
  have z22 : Zf 185 (iH 180 (iH 176 (iH 172 (iH 168 (iH 164 (iH 160 (iH 156 (iH 152 (iH 148 (iH 144 I)))))))))) := (Zn z21)
  refine w_dup (Ev.cm _) rfl rfl ?_
  refine w_cinit (as := []) (o := 184) (st := [.ref 184, .int 10, .ref 143]) (Ev.cm _) rfl rfl rfl (Nat.le_of_ble_eq_true rfl) (show _ ∧ _ from ⟨show 185 + (mcs m_H_new).1 ≤ 143 + (mcs m_S_new).1 by decide +kernel, show slt 185 + (mcs m_H_new).2 ≤ slt 143 + (mcs m_S_new).2 by decide +kernel⟩) (Nat.le_of_ble_eq_true rfl) (e_iH (show isH 184 from Or.inr (Or.inr (Or.inr ⟨10, (Nat.le_of_ble_eq_true rfl), rfl⟩))) (subos (Nat.le_of_ble_eq_true rfl) hos) z22 ?_)
  have z23 : Zf 188 (iH 184 (iH 180 (iH 176 (iH 172 (iH 168 (iH 164 (iH 160 (iH 156 (iH 152 (iH 148 (iH 144 I))))))))))) := (iH_z (b := 184) z22)
  show Wp _ _ _ _ _ _ _ 33 [(0, .ref 142), (1, .int 10)] [.ref 184, .int 10, .ref 143] (HN 188 (184 :: 142 :: os) (iH 184 (iH 180 (iH 176 (iH 172 (iH 168 (iH 164 (iH 160 (iH 156 (iH 152 (iH 148 (iH 144 I))))))))))) X)
  refine w_aast (Ev.cm _) rfl (Nat.le_of_ble_eq_true rfl) rfl (show vp_in 10 30 from vpI 30 (by decide) (by decide) (by decide)) (Nat.le_of_ble_eq_true rfl) rfl ?_
  show Wp _ _ _ _ _ _ _ 34 [(0, .ref 142), (1, .int 10)] [] (puR (HN 188 (184 :: 142 :: os) (iH 184 (iH 180 (iH 176 (iH 172 (iH 168 (iH 164 (iH 160 (iH 156 (iH 152 (iH 148 (iH 144 I))))))))))) X) 143 10 (some 184))
  rw [hn_link (o := 143) (k := 10) (q := 184) rfl (Nat.le_of_ble_eq_true rfl) (nin hos (Nat.le_of_ble_eq_true rfl))]
  refine w_iinc (ls2 := [(0, .ref 142), (1, .int 11)]) (Ev.cm _) rfl rfl rfl ?_
  refine w_goto (Ev.cm _) rfl ?_
  refine w_iload_n (Ev.cm _) rfl rfl ?_
  refine w_bipush (Ev.cm _) rfl ?_
  refine w_icmp_ge (Ev.cm _) rfl (fun q => absurd q (by decide)) (fun _ => ?_)
  refine w_aload_n (Ev.cm _) rfl rfl ?_
  refine w_getR (q := 143) (Ev.cm _) rfl (Nat.le_of_ble_eq_true rfl) rfl (rd_get (n := 188) (o := 142) (k := 0) (q := 143) rfl (Nat.le_of_ble_eq_true rfl) (nin hos (Nat.le_of_ble_eq_true rfl))) ?_
  refine w_iload_n (Ev.cm _) rfl rfl ?_
  refine w_new (Ev.cm _) rfl (show _ ∧ _ from ⟨show 188 + 1 ≤ 143 + (mcs m_S_new).1 by decide +kernel, show slt 188 + 8 ≤ slt 143 + (mcs m_S_new).2 by decide +kernel⟩) ?_
  show Wp _ _ _ _ _ _ _ 29 [(0, .ref 142), (1, .int 11)] [.ref 188, .int 11, .ref 143] (puN (HN 188 (142 :: os) (iH 184 (iH 180 (iH 176 (iH 172 (iH 168 (iH 164 (iH 160 (iH 156 (iH 152 (iH 148 (iH 144 I))))))))))) X) 1 8)
  rw [hn_new (n := 188) (k := 1) (len := 8) rfl z23]
  have z24 : Zf 189 (iH 184 (iH 180 (iH 176 (iH 172 (iH 168 (iH 164 (iH 160 (iH 156 (iH 152 (iH 148 (iH 144 I))))))))))) := (Zn z23)
  refine w_dup (Ev.cm _) rfl rfl ?_
  refine w_cinit (as := []) (o := 188) (st := [.ref 188, .int 11, .ref 143]) (Ev.cm _) rfl rfl rfl (Nat.le_of_ble_eq_true rfl) (show _ ∧ _ from ⟨show 189 + (mcs m_H_new).1 ≤ 143 + (mcs m_S_new).1 by decide +kernel, show slt 189 + (mcs m_H_new).2 ≤ slt 143 + (mcs m_S_new).2 by decide +kernel⟩) (Nat.le_of_ble_eq_true rfl) (e_iH (show isH 188 from Or.inr (Or.inr (Or.inr ⟨11, (Nat.le_of_ble_eq_true rfl), rfl⟩))) (subos (Nat.le_of_ble_eq_true rfl) hos) z24 ?_)
  have z25 : Zf 192 (iH 188 (iH 184 (iH 180 (iH 176 (iH 172 (iH 168 (iH 164 (iH 160 (iH 156 (iH 152 (iH 148 (iH 144 I)))))))))))) := (iH_z (b := 188) z24)
  show Wp _ _ _ _ _ _ _ 33 [(0, .ref 142), (1, .int 11)] [.ref 188, .int 11, .ref 143] (HN 192 (188 :: 142 :: os) (iH 188 (iH 184 (iH 180 (iH 176 (iH 172 (iH 168 (iH 164 (iH 160 (iH 156 (iH 152 (iH 148 (iH 144 I)))))))))))) X)
  refine w_aast (Ev.cm _) rfl (Nat.le_of_ble_eq_true rfl) rfl (show vp_in 11 30 from vpI 30 (by decide) (by decide) (by decide)) (Nat.le_of_ble_eq_true rfl) rfl ?_
  show Wp _ _ _ _ _ _ _ 34 [(0, .ref 142), (1, .int 11)] [] (puR (HN 192 (188 :: 142 :: os) (iH 188 (iH 184 (iH 180 (iH 176 (iH 172 (iH 168 (iH 164 (iH 160 (iH 156 (iH 152 (iH 148 (iH 144 I)))))))))))) X) 143 11 (some 188))
  rw [hn_link (o := 143) (k := 11) (q := 188) rfl (Nat.le_of_ble_eq_true rfl) (nin hos (Nat.le_of_ble_eq_true rfl))]
  refine w_iinc (ls2 := [(0, .ref 142), (1, .int 12)]) (Ev.cm _) rfl rfl rfl ?_
  refine w_goto (Ev.cm _) rfl ?_
  refine w_iload_n (Ev.cm _) rfl rfl ?_
  refine w_bipush (Ev.cm _) rfl ?_
  refine w_icmp_ge (Ev.cm _) rfl (fun q => absurd q (by decide)) (fun _ => ?_)
  refine w_aload_n (Ev.cm _) rfl rfl ?_
  refine w_getR (q := 143) (Ev.cm _) rfl (Nat.le_of_ble_eq_true rfl) rfl (rd_get (n := 192) (o := 142) (k := 0) (q := 143) rfl (Nat.le_of_ble_eq_true rfl) (nin hos (Nat.le_of_ble_eq_true rfl))) ?_
  refine w_iload_n (Ev.cm _) rfl rfl ?_
  refine w_new (Ev.cm _) rfl (show _ ∧ _ from ⟨show 192 + 1 ≤ 143 + (mcs m_S_new).1 by decide +kernel, show slt 192 + 8 ≤ slt 143 + (mcs m_S_new).2 by decide +kernel⟩) ?_
  show Wp _ _ _ _ _ _ _ 29 [(0, .ref 142), (1, .int 12)] [.ref 192, .int 12, .ref 143] (puN (HN 192 (142 :: os) (iH 188 (iH 184 (iH 180 (iH 176 (iH 172 (iH 168 (iH 164 (iH 160 (iH 156 (iH 152 (iH 148 (iH 144 I)))))))))))) X) 1 8)
  rw [hn_new (n := 192) (k := 1) (len := 8) rfl z25]
  have z26 : Zf 193 (iH 188 (iH 184 (iH 180 (iH 176 (iH 172 (iH 168 (iH 164 (iH 160 (iH 156 (iH 152 (iH 148 (iH 144 I)))))))))))) := (Zn z25)
  refine w_dup (Ev.cm _) rfl rfl ?_
  refine w_cinit (as := []) (o := 192) (st := [.ref 192, .int 12, .ref 143]) (Ev.cm _) rfl rfl rfl (Nat.le_of_ble_eq_true rfl) (show _ ∧ _ from ⟨show 193 + (mcs m_H_new).1 ≤ 143 + (mcs m_S_new).1 by decide +kernel, show slt 193 + (mcs m_H_new).2 ≤ slt 143 + (mcs m_S_new).2 by decide +kernel⟩) (Nat.le_of_ble_eq_true rfl) (e_iH (show isH 192 from Or.inr (Or.inr (Or.inr ⟨12, (Nat.le_of_ble_eq_true rfl), rfl⟩))) (subos (Nat.le_of_ble_eq_true rfl) hos) z26 ?_)
  have z27 : Zf 196 (iH 192 (iH 188 (iH 184 (iH 180 (iH 176 (iH 172 (iH 168 (iH 164 (iH 160 (iH 156 (iH 152 (iH 148 (iH 144 I))))))))))))) := (iH_z (b := 192) z26)
  show Wp _ _ _ _ _ _ _ 33 [(0, .ref 142), (1, .int 12)] [.ref 192, .int 12, .ref 143] (HN 196 (192 :: 142 :: os) (iH 192 (iH 188 (iH 184 (iH 180 (iH 176 (iH 172 (iH 168 (iH 164 (iH 160 (iH 156 (iH 152 (iH 148 (iH 144 I))))))))))))) X)
  refine w_aast (Ev.cm _) rfl (Nat.le_of_ble_eq_true rfl) rfl (show vp_in 12 30 from vpI 30 (by decide) (by decide) (by decide)) (Nat.le_of_ble_eq_true rfl) rfl ?_
  show Wp _ _ _ _ _ _ _ 34 [(0, .ref 142), (1, .int 12)] [] (puR (HN 196 (192 :: 142 :: os) (iH 192 (iH 188 (iH 184 (iH 180 (iH 176 (iH 172 (iH 168 (iH 164 (iH 160 (iH 156 (iH 152 (iH 148 (iH 144 I))))))))))))) X) 143 12 (some 192))
  rw [hn_link (o := 143) (k := 12) (q := 192) rfl (Nat.le_of_ble_eq_true rfl) (nin hos (Nat.le_of_ble_eq_true rfl))]
  refine w_iinc (ls2 := [(0, .ref 142), (1, .int 13)]) (Ev.cm _) rfl rfl rfl ?_
  refine w_goto (Ev.cm _) rfl ?_
  refine w_iload_n (Ev.cm _) rfl rfl ?_
  refine w_bipush (Ev.cm _) rfl ?_
  refine w_icmp_ge (Ev.cm _) rfl (fun q => absurd q (by decide)) (fun _ => ?_)
  refine w_aload_n (Ev.cm _) rfl rfl ?_
  refine w_getR (q := 143) (Ev.cm _) rfl (Nat.le_of_ble_eq_true rfl) rfl (rd_get (n := 196) (o := 142) (k := 0) (q := 143) rfl (Nat.le_of_ble_eq_true rfl) (nin hos (Nat.le_of_ble_eq_true rfl))) ?_
  refine w_iload_n (Ev.cm _) rfl rfl ?_
  refine w_new (Ev.cm _) rfl (show _ ∧ _ from ⟨show 196 + 1 ≤ 143 + (mcs m_S_new).1 by decide +kernel, show slt 196 + 8 ≤ slt 143 + (mcs m_S_new).2 by decide +kernel⟩) ?_
  show Wp _ _ _ _ _ _ _ 29 [(0, .ref 142), (1, .int 13)] [.ref 196, .int 13, .ref 143] (puN (HN 196 (142 :: os) (iH 192 (iH 188 (iH 184 (iH 180 (iH 176 (iH 172 (iH 168 (iH 164 (iH 160 (iH 156 (iH 152 (iH 148 (iH 144 I))))))))))))) X) 1 8)
  rw [hn_new (n := 196) (k := 1) (len := 8) rfl z27]
  have z28 : Zf 197 (iH 192 (iH 188 (iH 184 (iH 180 (iH 176 (iH 172 (iH 168 (iH 164 (iH 160 (iH 156 (iH 152 (iH 148 (iH 144 I))))))))))))) := (Zn z27)
  refine w_dup (Ev.cm _) rfl rfl ?_
  refine w_cinit (as := []) (o := 196) (st := [.ref 196, .int 13, .ref 143]) (Ev.cm _) rfl rfl rfl (Nat.le_of_ble_eq_true rfl) (show _ ∧ _ from ⟨show 197 + (mcs m_H_new).1 ≤ 143 + (mcs m_S_new).1 by decide +kernel, show slt 197 + (mcs m_H_new).2 ≤ slt 143 + (mcs m_S_new).2 by decide +kernel⟩) (Nat.le_of_ble_eq_true rfl) (e_iH (show isH 196 from Or.inr (Or.inr (Or.inr ⟨13, (Nat.le_of_ble_eq_true rfl), rfl⟩))) (subos (Nat.le_of_ble_eq_true rfl) hos) z28 ?_)
  have z29 : Zf 200 (iH 196 (iH 192 (iH 188 (iH 184 (iH 180 (iH 176 (iH 172 (iH 168 (iH 164 (iH 160 (iH 156 (iH 152 (iH 148 (iH 144 I)))))))))))))) := (iH_z (b := 196) z28)
  show Wp _ _ _ _ _ _ _ 33 [(0, .ref 142), (1, .int 13)] [.ref 196, .int 13, .ref 143] (HN 200 (196 :: 142 :: os) (iH 196 (iH 192 (iH 188 (iH 184 (iH 180 (iH 176 (iH 172 (iH 168 (iH 164 (iH 160 (iH 156 (iH 152 (iH 148 (iH 144 I)))))))))))))) X)
  refine w_aast (Ev.cm _) rfl (Nat.le_of_ble_eq_true rfl) rfl (show vp_in 13 30 from vpI 30 (by decide) (by decide) (by decide)) (Nat.le_of_ble_eq_true rfl) rfl ?_
  show Wp _ _ _ _ _ _ _ 34 [(0, .ref 142), (1, .int 13)] [] (puR (HN 200 (196 :: 142 :: os) (iH 196 (iH 192 (iH 188 (iH 184 (iH 180 (iH 176 (iH 172 (iH 168 (iH 164 (iH 160 (iH 156 (iH 152 (iH 148 (iH 144 I)))))))))))))) X) 143 13 (some 196))
  rw [hn_link (o := 143) (k := 13) (q := 196) rfl (Nat.le_of_ble_eq_true rfl) (nin hos (Nat.le_of_ble_eq_true rfl))]
  refine w_iinc (ls2 := [(0, .ref 142), (1, .int 14)]) (Ev.cm _) rfl rfl rfl ?_
  refine w_goto (Ev.cm _) rfl ?_
  refine w_iload_n (Ev.cm _) rfl rfl ?_
  refine w_bipush (Ev.cm _) rfl ?_
  refine w_icmp_ge (Ev.cm _) rfl (fun q => absurd q (by decide)) (fun _ => ?_)
  refine w_aload_n (Ev.cm _) rfl rfl ?_
  refine w_getR (q := 143) (Ev.cm _) rfl (Nat.le_of_ble_eq_true rfl) rfl (rd_get (n := 200) (o := 142) (k := 0) (q := 143) rfl (Nat.le_of_ble_eq_true rfl) (nin hos (Nat.le_of_ble_eq_true rfl))) ?_
  refine w_iload_n (Ev.cm _) rfl rfl ?_
  refine w_new (Ev.cm _) rfl (show _ ∧ _ from ⟨show 200 + 1 ≤ 143 + (mcs m_S_new).1 by decide +kernel, show slt 200 + 8 ≤ slt 143 + (mcs m_S_new).2 by decide +kernel⟩) ?_
  show Wp _ _ _ _ _ _ _ 29 [(0, .ref 142), (1, .int 14)] [.ref 200, .int 14, .ref 143] (puN (HN 200 (142 :: os) (iH 196 (iH 192 (iH 188 (iH 184 (iH 180 (iH 176 (iH 172 (iH 168 (iH 164 (iH 160 (iH 156 (iH 152 (iH 148 (iH 144 I)))))))))))))) X) 1 8)
  rw [hn_new (n := 200) (k := 1) (len := 8) rfl z29]
  have z30 : Zf 201 (iH 196 (iH 192 (iH 188 (iH 184 (iH 180 (iH 176 (iH 172 (iH 168 (iH 164 (iH 160 (iH 156 (iH 152 (iH 148 (iH 144 I)))))))))))))) := (Zn z29)
  refine w_dup (Ev.cm _) rfl rfl ?_
  refine w_cinit (as := []) (o := 200) (st := [.ref 200, .int 14, .ref 143]) (Ev.cm _) rfl rfl rfl (Nat.le_of_ble_eq_true rfl) (show _ ∧ _ from ⟨show 201 + (mcs m_H_new).1 ≤ 143 + (mcs m_S_new).1 by decide +kernel, show slt 201 + (mcs m_H_new).2 ≤ slt 143 + (mcs m_S_new).2 by decide +kernel⟩) (Nat.le_of_ble_eq_true rfl) (e_iH (show isH 200 from Or.inr (Or.inr (Or.inr ⟨14, (Nat.le_of_ble_eq_true rfl), rfl⟩))) (subos (Nat.le_of_ble_eq_true rfl) hos) z30 ?_)
  have z31 : Zf 204 (iH 200 (iH 196 (iH 192 (iH 188 (iH 184 (iH 180 (iH 176 (iH 172 (iH 168 (iH 164 (iH 160 (iH 156 (iH 152 (iH 148 (iH 144 I))))))))))))))) := (iH_z (b := 200) z30)
  show Wp _ _ _ _ _ _ _ 33 [(0, .ref 142), (1, .int 14)] [.ref 200, .int 14, .ref 143] (HN 204 (200 :: 142 :: os) (iH 200 (iH 196 (iH 192 (iH 188 (iH 184 (iH 180 (iH 176 (iH 172 (iH 168 (iH 164 (iH 160 (iH 156 (iH 152 (iH 148 (iH 144 I))))))))))))))) X)
  refine w_aast (Ev.cm _) rfl (Nat.le_of_ble_eq_true rfl) rfl (show vp_in 14 30 from vpI 30 (by decide) (by decide) (by decide)) (Nat.le_of_ble_eq_true rfl) rfl ?_
  show Wp _ _ _ _ _ _ _ 34 [(0, .ref 142), (1, .int 14)] [] (puR (HN 204 (200 :: 142 :: os) (iH 200 (iH 196 (iH 192 (iH 188 (iH 184 (iH 180 (iH 176 (iH 172 (iH 168 (iH 164 (iH 160 (iH 156 (iH 152 (iH 148 (iH 144 I))))))))))))))) X) 143 14 (some 200))
  rw [hn_link (o := 143) (k := 14) (q := 200) rfl (Nat.le_of_ble_eq_true rfl) (nin hos (Nat.le_of_ble_eq_true rfl))]
  refine w_iinc (ls2 := [(0, .ref 142), (1, .int 15)]) (Ev.cm _) rfl rfl rfl ?_
  refine w_goto (Ev.cm _) rfl ?_
  refine w_iload_n (Ev.cm _) rfl rfl ?_
  refine w_bipush (Ev.cm _) rfl ?_
  refine w_icmp_ge (Ev.cm _) rfl (fun q => absurd q (by decide)) (fun _ => ?_)
  refine w_aload_n (Ev.cm _) rfl rfl ?_
  refine w_getR (q := 143) (Ev.cm _) rfl (Nat.le_of_ble_eq_true rfl) rfl (rd_get (n := 204) (o := 142) (k := 0) (q := 143) rfl (Nat.le_of_ble_eq_true rfl) (nin hos (Nat.le_of_ble_eq_true rfl))) ?_
  refine w_iload_n (Ev.cm _) rfl rfl ?_
  refine w_new (Ev.cm _) rfl (show _ ∧ _ from ⟨show 204 + 1 ≤ 143 + (mcs m_S_new).1 by decide +kernel, show slt 204 + 8 ≤ slt 143 + (mcs m_S_new).2 by decide +kernel⟩) ?_
  show Wp _ _ _ _ _ _ _ 29 [(0, .ref 142), (1, .int 15)] [.ref 204, .int 15, .ref 143] (puN (HN 204 (142 :: os) (iH 200 (iH 196 (iH 192 (iH 188 (iH 184 (iH 180 (iH 176 (iH 172 (iH 168 (iH 164 (iH 160 (iH 156 (iH 152 (iH 148 (iH 144 I))))))))))))))) X) 1 8)
  rw [hn_new (n := 204) (k := 1) (len := 8) rfl z31]
  have z32 : Zf 205 (iH 200 (iH 196 (iH 192 (iH 188 (iH 184 (iH 180 (iH 176 (iH 172 (iH 168 (iH 164 (iH 160 (iH 156 (iH 152 (iH 148 (iH 144 I))))))))))))))) := (Zn z31)
  refine w_dup (Ev.cm _) rfl rfl ?_
  refine w_cinit (as := []) (o := 204) (st := [.ref 204, .int 15, .ref 143]) (Ev.cm _) rfl rfl rfl (Nat.le_of_ble_eq_true rfl) (show _ ∧ _ from ⟨show 205 + (mcs m_H_new).1 ≤ 143 + (mcs m_S_new).1 by decide +kernel, show slt 205 + (mcs m_H_new).2 ≤ slt 143 + (mcs m_S_new).2 by decide +kernel⟩) (Nat.le_of_ble_eq_true rfl) (e_iH (show isH 204 from Or.inr (Or.inr (Or.inr ⟨15, (Nat.le_of_ble_eq_true rfl), rfl⟩))) (subos (Nat.le_of_ble_eq_true rfl) hos) z32 ?_)
  have z33 : Zf 208 (iH 204 (iH 200 (iH 196 (iH 192 (iH 188 (iH 184 (iH 180 (iH 176 (iH 172 (iH 168 (iH 164 (iH 160 (iH 156 (iH 152 (iH 148 (iH 144 I)))))))))))))))) := (iH_z (b := 204) z32)
  show Wp _ _ _ _ _ _ _ 33 [(0, .ref 142), (1, .int 15)] [.ref 204, .int 15, .ref 143] (HN 208 (204 :: 142 :: os) (iH 204 (iH 200 (iH 196 (iH 192 (iH 188 (iH 184 (iH 180 (iH 176 (iH 172 (iH 168 (iH 164 (iH 160 (iH 156 (iH 152 (iH 148 (iH 144 I)))))))))))))))) X)
  refine w_aast (Ev.cm _) rfl (Nat.le_of_ble_eq_true rfl) rfl (show vp_in 15 30 from vpI 30 (by decide) (by decide) (by decide)) (Nat.le_of_ble_eq_true rfl) rfl ?_
  show Wp _ _ _ _ _ _ _ 34 [(0, .ref 142), (1, .int 15)] [] (puR (HN 208 (204 :: 142 :: os) (iH 204 (iH 200 (iH 196 (iH 192 (iH 188 (iH 184 (iH 180 (iH 176 (iH 172 (iH 168 (iH 164 (iH 160 (iH 156 (iH 152 (iH 148 (iH 144 I)))))))))))))))) X) 143 15 (some 204))
  rw [hn_link (o := 143) (k := 15) (q := 204) rfl (Nat.le_of_ble_eq_true rfl) (nin hos (Nat.le_of_ble_eq_true rfl))]
  refine w_iinc (ls2 := [(0, .ref 142), (1, .int 16)]) (Ev.cm _) rfl rfl rfl ?_
  refine w_goto (Ev.cm _) rfl ?_
  refine w_iload_n (Ev.cm _) rfl rfl ?_
  refine w_bipush (Ev.cm _) rfl ?_
  refine w_icmp_ge (Ev.cm _) rfl (fun q => absurd q (by decide)) (fun _ => ?_)
  refine w_aload_n (Ev.cm _) rfl rfl ?_
  refine w_getR (q := 143) (Ev.cm _) rfl (Nat.le_of_ble_eq_true rfl) rfl (rd_get (n := 208) (o := 142) (k := 0) (q := 143) rfl (Nat.le_of_ble_eq_true rfl) (nin hos (Nat.le_of_ble_eq_true rfl))) ?_
  refine w_iload_n (Ev.cm _) rfl rfl ?_
  refine w_new (Ev.cm _) rfl (show _ ∧ _ from ⟨show 208 + 1 ≤ 143 + (mcs m_S_new).1 by decide +kernel, show slt 208 + 8 ≤ slt 143 + (mcs m_S_new).2 by decide +kernel⟩) ?_
  show Wp _ _ _ _ _ _ _ 29 [(0, .ref 142), (1, .int 16)] [.ref 208, .int 16, .ref 143] (puN (HN 208 (142 :: os) (iH 204 (iH 200 (iH 196 (iH 192 (iH 188 (iH 184 (iH 180 (iH 176 (iH 172 (iH 168 (iH 164 (iH 160 (iH 156 (iH 152 (iH 148 (iH 144 I)))))))))))))))) X) 1 8)
  rw [hn_new (n := 208) (k := 1) (len := 8) rfl z33]
  have z34 : Zf 209 (iH 204 (iH 200 (iH 196 (iH 192 (iH 188 (iH 184 (iH 180 (iH 176 (iH 172 (iH 168 (iH 164 (iH 160 (iH 156 (iH 152 (iH 148 (iH 144 I)))))))))))))))) := (Zn z33)
  refine w_dup (Ev.cm _) rfl rfl ?_
  refine w_cinit (as := []) (o := 208) (st := [.ref 208, .int 16, .ref 143]) (Ev.cm _) rfl rfl rfl (Nat.le_of_ble_eq_true rfl) (show _ ∧ _ from ⟨show 209 + (mcs m_H_new).1 ≤ 143 + (mcs m_S_new).1 by decide +kernel, show slt 209 + (mcs m_H_new).2 ≤ slt 143 + (mcs m_S_new).2 by decide +kernel⟩) (Nat.le_of_ble_eq_true rfl) (e_iH (show isH 208 from Or.inr (Or.inr (Or.inr ⟨16, (Nat.le_of_ble_eq_true rfl), rfl⟩))) (subos (Nat.le_of_ble_eq_true rfl) hos) z34 ?_)
  have z35 : Zf 212 (iH 208 (iH 204 (iH 200 (iH 196 (iH 192 (iH 188 (iH 184 (iH 180 (iH 176 (iH 172 (iH 168 (iH 164 (iH 160 (iH 156 (iH 152 (iH 148 (iH 144 I))))))))))))))))) := (iH_z (b := 208) z34)
  show Wp _ _ _ _ _ _ _ 33 [(0, .ref 142), (1, .int 16)] [.ref 208, .int 16, .ref 143] (HN 212 (208 :: 142 :: os) (iH 208 (iH 204 (iH 200 (iH 196 (iH 192 (iH 188 (iH 184 (iH 180 (iH 176 (iH 172 (iH 168 (iH 164 (iH 160 (iH 156 (iH 152 (iH 148 (iH 144 I))))))))))))))))) X)
  refine w_aast (Ev.cm _) rfl (Nat.le_of_ble_eq_true rfl) rfl (show vp_in 16 30 from vpI 30 (by decide) (by decide) (by decide)) (Nat.le_of_ble_eq_true rfl) rfl ?_
  show Wp _ _ _ _ _ _ _ 34 [(0, .ref 142), (1, .int 16)] [] (puR (HN 212 (208 :: 142 :: os) (iH 208 (iH 204 (iH 200 (iH 196 (iH 192 (iH 188 (iH 184 (iH 180 (iH 176 (iH 172 (iH 168 (iH 164 (iH 160 (iH 156 (iH 152 (iH 148 (iH 144 I))))))))))))))))) X) 143 16 (some 208))
  rw [hn_link (o := 143) (k := 16) (q := 208) rfl (Nat.le_of_ble_eq_true rfl) (nin hos (Nat.le_of_ble_eq_true rfl))]
  refine w_iinc (ls2 := [(0, .ref 142), (1, .int 17)]) (Ev.cm _) rfl rfl rfl ?_
  refine w_goto (Ev.cm _) rfl ?_
  refine w_iload_n (Ev.cm _) rfl rfl ?_
  refine w_bipush (Ev.cm _) rfl ?_
  refine w_icmp_ge (Ev.cm _) rfl (fun q => absurd q (by decide)) (fun _ => ?_)
  refine w_aload_n (Ev.cm _) rfl rfl ?_
  refine w_getR (q := 143) (Ev.cm _) rfl (Nat.le_of_ble_eq_true rfl) rfl (rd_get (n := 212) (o := 142) (k := 0) (q := 143) rfl (Nat.le_of_ble_eq_true rfl) (nin hos (Nat.le_of_ble_eq_true rfl))) ?_
  refine w_iload_n (Ev.cm _) rfl rfl ?_
  refine w_new (Ev.cm _) rfl (show _ ∧ _ from ⟨show 212 + 1 ≤ 143 + (mcs m_S_new).1 by decide +kernel, show slt 212 + 8 ≤ slt 143 + (mcs m_S_new).2 by decide +kernel⟩) ?_
  show Wp _ _ _ _ _ _ _ 29 [(0, .ref 142), (1, .int 17)] [.ref 212, .int 17, .ref 143] (puN (HN 212 (142 :: os) (iH 208 (iH 204 (iH 200 (iH 196 (iH 192 (iH 188 (iH 184 (iH 180 (iH 176 (iH 172 (iH 168 (iH 164 (iH 160 (iH 156 (iH 152 (iH 148 (iH 144 I))))))))))))))))) X) 1 8)
  rw [hn_new (n := 212) (k := 1) (len := 8) rfl z35]
  have z36 : Zf 213 (iH 208 (iH 204 (iH 200 (iH 196 (iH 192 (iH 188 (iH 184 (iH 180 (iH 176 (iH 172 (iH 168 (iH 164 (iH 160 (iH 156 (iH 152 (iH 148 (iH 144 I))))))))))))))))) := (Zn z35)
  refine w_dup (Ev.cm _) rfl rfl ?_
  refine w_cinit (as := []) (o := 212) (st := [.ref 212, .int 17, .ref 143]) (Ev.cm _) rfl rfl rfl (Nat.le_of_ble_eq_true rfl) (show _ ∧ _ from ⟨show 213 + (mcs m_H_new).1 ≤ 143 + (mcs m_S_new).1 by decide +kernel, show slt 213 + (mcs m_H_new).2 ≤ slt 143 + (mcs m_S_new).2 by decide +kernel⟩) (Nat.le_of_ble_eq_true rfl) (e_iH (show isH 212 from Or.inr (Or.inr (Or.inr ⟨17, (Nat.le_of_ble_eq_true rfl), rfl⟩))) (subos (Nat.le_of_ble_eq_true rfl) hos) z36 ?_)
  have z37 : Zf 216 (iH 212 (iH 208 (iH 204 (iH 200 (iH 196 (iH 192 (iH 188 (iH 184 (iH 180 (iH 176 (iH 172 (iH 168 (iH 164 (iH 160 (iH 156 (iH 152 (iH 148 (iH 144 I)))))))))))))))))) := (iH_z (b := 212) z36)
  show Wp _ _ _ _ _ _ _ 33 [(0, .ref 142), (1, .int 17)] [.ref 212, .int 17, .ref 143] (HN 216 (212 :: 142 :: os) (iH 212 (iH 208 (iH 204 (iH 200 (iH 196 (iH 192 (iH 188 (iH 184 (iH 180 (iH 176 (iH 172 (iH 168 (iH 164 (iH 160 (iH 156 (iH 152 (iH 148 (iH 144 I)))))))))))))))))) X)
  refine w_aast (Ev.cm _) rfl (Nat.le_of_ble_eq_true rfl) rfl (show vp_in 17 30 from vpI 30 (by decide) (by decide) (by decide)) (Nat.le_of_ble_eq_true rfl) rfl ?_
  show Wp _ _ _ _ _ _ _ 34 [(0, .ref 142), (1, .int 17)] [] (puR (HN 216 (212 :: 142 :: os) (iH 212 (iH 208 (iH 204 (iH 200 (iH 196 (iH 192 (iH 188 (iH 184 (iH 180 (iH 176 (iH 172 (iH 168 (iH 164 (iH 160 (iH 156 (iH 152 (iH 148 (iH 144 I)))))))))))))))))) X) 143 17 (some 212))
  rw [hn_link (o := 143) (k := 17) (q := 212) rfl (Nat.le_of_ble_eq_true rfl) (nin hos (Nat.le_of_ble_eq_true rfl))]
  refine w_iinc (ls2 := [(0, .ref 142), (1, .int 18)]) (Ev.cm _) rfl rfl rfl ?_
  refine w_goto (Ev.cm _) rfl ?_
  refine w_iload_n (Ev.cm _) rfl rfl ?_
  refine w_bipush (Ev.cm _) rfl ?_
  refine w_icmp_ge (Ev.cm _) rfl (fun q => absurd q (by decide)) (fun _ => ?_)
  refine w_aload_n (Ev.cm _) rfl rfl ?_
  refine w_getR (q := 143) (Ev.cm _) rfl (Nat.le_of_ble_eq_true rfl) rfl (rd_get (n := 216) (o := 142) (k := 0) (q := 143) rfl (Nat.le_of_ble_eq_true rfl) (nin hos (Nat.le_of_ble_eq_true rfl))) ?_
  refine w_iload_n (Ev.cm _) rfl rfl ?_
  refine w_new (Ev.cm _) rfl (show _ ∧ _ from ⟨show 216 + 1 ≤ 143 + (mcs m_S_new).1 by decide +kernel, show slt 216 + 8 ≤ slt 143 + (mcs m_S_new).2 by decide +kernel⟩) ?_
  show Wp _ _ _ _ _ _ _ 29 [(0, .ref 142), (1, .int 18)] [.ref 216, .int 18, .ref 143] (puN (HN 216 (142 :: os) (iH 212 (iH 208 (iH 204 (iH 200 (iH 196 (iH 192 (iH 188 (iH 184 (iH 180 (iH 176 (iH 172 (iH 168 (iH 164 (iH 160 (iH 156 (iH 152 (iH 148 (iH 144 I)))))))))))))))))) X) 1 8)
  rw [hn_new (n := 216) (k := 1) (len := 8) rfl z37]
  have z38 : Zf 217 (iH 212 (iH 208 (iH 204 (iH 200 (iH 196 (iH 192 (iH 188 (iH 184 (iH 180 (iH 176 (iH 172 (iH 168 (iH 164 (iH 160 (iH 156 (iH 152 (iH 148 (iH 144 I)))))))))))))))))) := (Zn z37)
  refine w_dup (Ev.cm _) rfl rfl ?_
  refine w_cinit (as := []) (o := 216) (st := [.ref 216, .int 18, .ref 143]) (Ev.cm _) rfl rfl rfl (Nat.le_of_ble_eq_true rfl) (show _ ∧ _ from ⟨show 217 + (mcs m_H_new).1 ≤ 143 + (mcs m_S_new).1 by decide +kernel, show slt 217 + (mcs m_H_new).2 ≤ slt 143 + (mcs m_S_new).2 by decide +kernel⟩) (Nat.le_of_ble_eq_true rfl) (e_iH (show isH 216 from Or.inr (Or.inr (Or.inr ⟨18, (Nat.le_of_ble_eq_true rfl), rfl⟩))) (subos (Nat.le_of_ble_eq_true rfl) hos) z38 ?_)
  have z39 : Zf 220 (iH 216 (iH 212 (iH 208 (iH 204 (iH 200 (iH 196 (iH 192 (iH 188 (iH 184 (iH 180 (iH 176 (iH 172 (iH 168 (iH 164 (iH 160 (iH 156 (iH 152 (iH 148 (iH 144 I))))))))))))))))))) := (iH_z (b := 216) z38)
  show Wp _ _ _ _ _ _ _ 33 [(0, .ref 142), (1, .int 18)] [.ref 216, .int 18, .ref 143] (HN 220 (216 :: 142 :: os) (iH 216 (iH 212 (iH 208 (iH 204 (iH 200 (iH 196 (iH 192 (iH 188 (iH 184 (iH 180 (iH 176 (iH 172 (iH 168 (iH 164 (iH 160 (iH 156 (iH 152 (iH 148 (iH 144 I))))))))))))))))))) X)
  refine w_aast (Ev.cm _) rfl (Nat.le_of_ble_eq_true rfl) rfl (show vp_in 18 30 from vpI 30 (by decide) (by decide) (by decide)) (Nat.le_of_ble_eq_true rfl) rfl ?_
  show Wp _ _ _ _ _ _ _ 34 [(0, .ref 142), (1, .int 18)] [] (puR (HN 220 (216 :: 142 :: os) (iH 216 (iH 212 (iH 208 (iH 204 (iH 200 (iH 196 (iH 192 (iH 188 (iH 184 (iH 180 (iH 176 (iH 172 (iH 168 (iH 164 (iH 160 (iH 156 (iH 152 (iH 148 (iH 144 I))))))))))))))))))) X) 143 18 (some 216))
  rw [hn_link (o := 143) (k := 18) (q := 216) rfl (Nat.le_of_ble_eq_true rfl) (nin hos (Nat.le_of_ble_eq_true rfl))]
  refine w_iinc (ls2 := [(0, .ref 142), (1, .int 19)]) (Ev.cm _) rfl rfl rfl ?_
  refine w_goto (Ev.cm _) rfl ?_
  refine w_iload_n (Ev.cm _) rfl rfl ?_
  refine w_bipush (Ev.cm _) rfl ?_
  refine w_icmp_ge (Ev.cm _) rfl (fun q => absurd q (by decide)) (fun _ => ?_)
  refine w_aload_n (Ev.cm _) rfl rfl ?_
  refine w_getR (q := 143) (Ev.cm _) rfl (Nat.le_of_ble_eq_true rfl) rfl (rd_get (n := 220) (o := 142) (k := 0) (q := 143) rfl (Nat.le_of_ble_eq_true rfl) (nin hos (Nat.le_of_ble_eq_true rfl))) ?_
  refine w_iload_n (Ev.cm _) rfl rfl ?_
  refine w_new (Ev.cm _) rfl (show _ ∧ _ from ⟨show 220 + 1 ≤ 143 + (mcs m_S_new).1 by decide +kernel, show slt 220 + 8 ≤ slt 143 + (mcs m_S_new).2 by decide +kernel⟩) ?_
  show Wp _ _ _ _ _ _ _ 29 [(0, .ref 142), (1, .int 19)] [.ref 220, .int 19, .ref 143] (puN (HN 220 (142 :: os) (iH 216 (iH 212 (iH 208 (iH 204 (iH 200 (iH 196 (iH 192 (iH 188 (iH 184 (iH 180 (iH 176 (iH 172 (iH 168 (iH 164 (iH 160 (iH 156 (iH 152 (iH 148 (iH 144 I))))))))))))))))))) X) 1 8)
  rw [hn_new (n := 220) (k := 1) (len := 8) rfl z39]
  have z40 : Zf 221 (iH 216 (iH 212 (iH 208 (iH 204 (iH 200 (iH 196 (iH 192 (iH 188 (iH 184 (iH 180 (iH 176 (iH 172 (iH 168 (iH 164 (iH 160 (iH 156 (iH 152 (iH 148 (iH 144 I))))))))))))))))))) := (Zn z39)
  refine w_dup (Ev.cm _) rfl rfl ?_
  refine w_cinit (as := []) (o := 220) (st := [.ref 220, .int 19, .ref 143]) (Ev.cm _) rfl rfl rfl (Nat.le_of_ble_eq_true rfl) (show _ ∧ _ from ⟨show 221 + (mcs m_H_new).1 ≤ 143 + (mcs m_S_new).1 by decide +kernel, show slt 221 + (mcs m_H_new).2 ≤ slt 143 + (mcs m_S_new).2 by decide +kernel⟩) (Nat.le_of_ble_eq_true rfl) (e_iH (show isH 220 from Or.inr (Or.inr (Or.inr ⟨19, (Nat.le_of_ble_eq_true rfl), rfl⟩))) (subos (Nat.le_of_ble_eq_true rfl) hos) z40 ?_)
  have z41 : Zf 224 (iH 220 (iH 216 (iH 212 (iH 208 (iH 204 (iH 200 (iH 196 (iH 192 (iH 188 (iH 184 (iH 180 (iH 176 (iH 172 (iH 168 (iH 164 (iH 160 (iH 156 (iH 152 (iH 148 (iH 144 I)))))))))))))))))))) := (iH_z (b := 220) z40)
  show Wp _ _ _ _ _ _ _ 33 [(0, .ref 142), (1, .int 19)] [.ref 220, .int 19, .ref 143] (HN 224 (220 :: 142 :: os) (iH 220 (iH 216 (iH 212 (iH 208 (iH 204 (iH 200 (iH 196 (iH 192 (iH 188 (iH 184 (iH 180 (iH 176 (iH 172 (iH 168 (iH 164 (iH 160 (iH 156 (iH 152 (iH 148 (iH 144 I)))))))))))))))))))) X)
  refine w_aast (Ev.cm _) rfl (Nat.le_of_ble_eq_true rfl) rfl (show vp_in 19 30 from vpI 30 (by decide) (by decide) (by decide)) (Nat.le_of_ble_eq_true rfl) rfl ?_
  show Wp _ _ _ _ _ _ _ 34 [(0, .ref 142), (1, .int 19)] [] (puR (HN 224 (220 :: 142 :: os) (iH 220 (iH 216 (iH 212 (iH 208 (iH 204 (iH 200 (iH 196 (iH 192 (iH 188 (iH 184 (iH 180 (iH 176 (iH 172 (iH 168 (iH 164 (iH 160 (iH 156 (iH 152 (iH 148 (iH 144 I)))))))))))))))))))) X) 143 19 (some 220))
  rw [hn_link (o := 143) (k := 19) (q := 220) rfl (Nat.le_of_ble_eq_true rfl) (nin hos (Nat.le_of_ble_eq_true rfl))]
  refine w_iinc (ls2 := [(0, .ref 142), (1, .int 20)]) (Ev.cm _) rfl rfl rfl ?_
  refine w_goto (Ev.cm _) rfl ?_
  refine w_iload_n (Ev.cm _) rfl rfl ?_
  refine w_bipush (Ev.cm _) rfl ?_
  refine w_icmp_ge (Ev.cm _) rfl (fun q => absurd q (by decide)) (fun _ => ?_)
  refine w_aload_n (Ev.cm _) rfl rfl ?_
  refine w_getR (q := 143) (Ev.cm _) rfl (Nat.le_of_ble_eq_true rfl) rfl (rd_get (n := 224) (o := 142) (k := 0) (q := 143) rfl (Nat.le_of_ble_eq_true rfl) (nin hos (Nat.le_of_ble_eq_true rfl))) ?_
  refine w_iload_n (Ev.cm _) rfl rfl ?_
  refine w_new (Ev.cm _) rfl (show _ ∧ _ from ⟨show 224 + 1 ≤ 143 + (mcs m_S_new).1 by decide +kernel, show slt 224 + 8 ≤ slt 143 + (mcs m_S_new).2 by decide +kernel⟩) ?_
  show Wp _ _ _ _ _ _ _ 29 [(0, .ref 142), (1, .int 20)] [.ref 224, .int 20, .ref 143] (puN (HN 224 (142 :: os) (iH 220 (iH 216 (iH 212 (iH 208 (iH 204 (iH 200 (iH 196 (iH 192 (iH 188 (iH 184 (iH 180 (iH 176 (iH 172 (iH 168 (iH 164 (iH 160 (iH 156 (iH 152 (iH 148 (iH 144 I)))))))))))))))))))) X) 1 8)
  rw [hn_new (n := 224) (k := 1) (len := 8) rfl z41]
  have z42 : Zf 225 (iH 220 (iH 216 (iH 212 (iH 208 (iH 204 (iH 200 (iH 196 (iH 192 (iH 188 (iH 184 (iH 180 (iH 176 (iH 172 (iH 168 (iH 164 (iH 160 (iH 156 (iH 152 (iH 148 (iH 144 I)))))))))))))))))))) := (Zn z41)
  refine w_dup (Ev.cm _) rfl rfl ?_
  refine w_cinit (as := []) (o := 224) (st := [.ref 224, .int 20, .ref 143]) (Ev.cm _) rfl rfl rfl (Nat.le_of_ble_eq_true rfl) (show _ ∧ _ from ⟨show 225 + (mcs m_H_new).1 ≤ 143 + (mcs m_S_new).1 by decide +kernel, show slt 225 + (mcs m_H_new).2 ≤ slt 143 + (mcs m_S_new).2 by decide +kernel⟩) (Nat.le_of_ble_eq_true rfl) (e_iH (show isH 224 from Or.inr (Or.inr (Or.inr ⟨20, (Nat.le_of_ble_eq_true rfl), rfl⟩))) (subos (Nat.le_of_ble_eq_true rfl) hos) z42 ?_)
  have z43 : Zf 228 (iH 224 (iH 220 (iH 216 (iH 212 (iH 208 (iH 204 (iH 200 (iH 196 (iH 192 (iH 188 (iH 184 (iH 180 (iH 176 (iH 172 (iH 168 (iH 164 (iH 160 (iH 156 (iH 152 (iH 148 (iH 144 I))))))))))))))))))))) := (iH_z (b := 224) z42)
  show Wp _ _ _ _ _ _ _ 33 [(0, .ref 142), (1, .int 20)] [.ref 224, .int 20, .ref 143] (HN 228 (224 :: 142 :: os) (iH 224 (iH 220 (iH 216 (iH 212 (iH 208 (iH 204 (iH 200 (iH 196 (iH 192 (iH 188 (iH 184 (iH 180 (iH 176 (iH 172 (iH 168 (iH 164 (iH 160 (iH 156 (iH 152 (iH 148 (iH 144 I))))))))))))))))))))) X)
  refine w_aast (Ev.cm _) rfl (Nat.le_of_ble_eq_true rfl) rfl (show vp_in 20 30 from vpI 30 (by decide) (by decide) (by decide)) (Nat.le_of_ble_eq_true rfl) rfl ?_
  show Wp _ _ _ _ _ _ _ 34 [(0, .ref 142), (1, .int 20)] [] (puR (HN 228 (224 :: 142 :: os) (iH 224 (iH 220 (iH 216 (iH 212 (iH 208 (iH 204 (iH 200 (iH 196 (iH 192 (iH 188 (iH 184 (iH 180 (iH 176 (iH 172 (iH 168 (iH 164 (iH 160 (iH 156 (iH 152 (iH 148 (iH 144 I))))))))))))))))))))) X) 143 20 (some 224))
  rw [hn_link (o := 143) (k := 20) (q := 224) rfl (Nat.le_of_ble_eq_true rfl) (nin hos (Nat.le_of_ble_eq_true rfl))]
  refine w_iinc (ls2 := [(0, .ref 142), (1, .int 21)]) (Ev.cm _) rfl rfl rfl ?_
  refine w_goto (Ev.cm _) rfl ?_
  refine w_iload_n (Ev.cm _) rfl rfl ?_
  refine w_bipush (Ev.cm _) rfl ?_
  refine w_icmp_ge (Ev.cm _) rfl (fun q => absurd q (by decide)) (fun _ => ?_)
  refine w_aload_n (Ev.cm _) rfl rfl ?_
  refine w_getR (q := 143) (Ev.cm _) rfl (Nat.le_of_ble_eq_true rfl) rfl (rd_get (n := 228) (o := 142) (k := 0) (q := 143) rfl (Nat.le_of_ble_eq_true rfl) (nin hos (Nat.le_of_ble_eq_true rfl))) ?_
  refine w_iload_n (Ev.cm _) rfl rfl ?_
  refine w_new (Ev.cm _) rfl (show _ ∧ _ from ⟨show 228 + 1 ≤ 143 + (mcs m_S_new).1 by decide +kernel, show slt 228 + 8 ≤ slt 143 + (mcs m_S_new).2 by decide +kernel⟩) ?_
  show Wp _ _ _ _ _ _ _ 29 [(0, .ref 142), (1, .int 21)] [.ref 228, .int 21, .ref 143] (puN (HN 228 (142 :: os) (iH 224 (iH 220 (iH 216 (iH 212 (iH 208 (iH 204 (iH 200 (iH 196 (iH 192 (iH 188 (iH 184 (iH 180 (iH 176 (iH 172 (iH 168 (iH 164 (iH 160 (iH 156 (iH 152 (iH 148 (iH 144 I))))))))))))))))))))) X) 1 8)
  rw [hn_new (n := 228) (k := 1) (len := 8) rfl z43]
  have z44 : Zf 229 (iH 224 (iH 220 (iH 216 (iH 212 (iH 208 (iH 204 (iH 200 (iH 196 (iH 192 (iH 188 (iH 184 (iH 180 (iH 176 (iH 172 (iH 168 (iH 164 (iH 160 (iH 156 (iH 152 (iH 148 (iH 144 I))))))))))))))))))))) := (Zn z43)
  refine w_dup (Ev.cm _) rfl rfl ?_
  refine w_cinit (as := []) (o := 228) (st := [.ref 228, .int 21, .ref 143]) (Ev.cm _) rfl rfl rfl (Nat.le_of_ble_eq_true rfl) (show _ ∧ _ from ⟨show 229 + (mcs m_H_new).1 ≤ 143 + (mcs m_S_new).1 by decide +kernel, show slt 229 + (mcs m_H_new).2 ≤ slt 143 + (mcs m_S_new).2 by decide +kernel⟩) (Nat.le_of_ble_eq_true rfl) (e_iH (show isH 228 from Or.inr (Or.inr (Or.inr ⟨21, (Nat.le_of_ble_eq_true rfl), rfl⟩))) (subos (Nat.le_of_ble_eq_true rfl) hos) z44 ?_)
  have z45 : Zf 232 (iH 228 (iH 224 (iH 220 (iH 216 (iH 212 (iH 208 (iH 204 (iH 200 (iH 196 (iH 192 (iH 188 (iH 184 (iH 180 (iH 176 (iH 172 (iH 168 (iH 164 (iH 160 (iH 156 (iH 152 (iH 148 (iH 144 I)))))))))))))))))))))) := (iH_z (b := 228) z44)
  show Wp _ _ _ _ _ _ _ 33 [(0, .ref 142), (1, .int 21)] [.ref 228, .int 21, .ref 143] (HN 232 (228 :: 142 :: os) (iH 228 (iH 224 (iH 220 (iH 216 (iH 212 (iH 208 (iH 204 (iH 200 (iH 196 (iH 192 (iH 188 (iH 184 (iH 180 (iH 176 (iH 172 (iH 168 (iH 164 (iH 160 (iH 156 (iH 152 (iH 148 (iH 144 I)))))))))))))))))))))) X)
  refine w_aast (Ev.cm _) rfl (Nat.le_of_ble_eq_true rfl) rfl (show vp_in 21 30 from vpI 30 (by decide) (by decide) (by decide)) (Nat.le_of_ble_eq_true rfl) rfl ?_
  show Wp _ _ _ _ _ _ _ 34 [(0, .ref 142), (1, .int 21)] [] (puR (HN 232 (228 :: 142 :: os) (iH 228 (iH 224 (iH 220 (iH 216 (iH 212 (iH 208 (iH 204 (iH 200 (iH 196 (iH 192 (iH 188 (iH 184 (iH 180 (iH 176 (iH 172 (iH 168 (iH 164 (iH 160 (iH 156 (iH 152 (iH 148 (iH 144 I)))))))))))))))))))))) X) 143 21 (some 228))
  rw [hn_link (o := 143) (k := 21) (q := 228) rfl (Nat.le_of_ble_eq_true rfl) (nin hos (Nat.le_of_ble_eq_true rfl))]
  refine w_iinc (ls2 := [(0, .ref 142), (1, .int 22)]) (Ev.cm _) rfl rfl rfl ?_
  refine w_goto (Ev.cm _) rfl ?_
  refine w_iload_n (Ev.cm _) rfl rfl ?_
  refine w_bipush (Ev.cm _) rfl ?_
  refine w_icmp_ge (Ev.cm _) rfl (fun q => absurd q (by decide)) (fun _ => ?_)
  refine w_aload_n (Ev.cm _) rfl rfl ?_
  refine w_getR (q := 143) (Ev.cm _) rfl (Nat.le_of_ble_eq_true rfl) rfl (rd_get (n := 232) (o := 142) (k := 0) (q := 143) rfl (Nat.le_of_ble_eq_true rfl) (nin hos (Nat.le_of_ble_eq_true rfl))) ?_
  refine w_iload_n (Ev.cm _) rfl rfl ?_
  refine w_new (Ev.cm _) rfl (show _ ∧ _ from ⟨show 232 + 1 ≤ 143 + (mcs m_S_new).1 by decide +kernel, show slt 232 + 8 ≤ slt 143 + (mcs m_S_new).2 by decide +kernel⟩) ?_
  show Wp _ _ _ _ _ _ _ 29 [(0, .ref 142), (1, .int 22)] [.ref 232, .int 22, .ref 143] (puN (HN 232 (142 :: os) (iH 228 (iH 224 (iH 220 (iH 216 (iH 212 (iH 208 (iH 204 (iH 200 (iH 196 (iH 192 (iH 188 (iH 184 (iH 180 (iH 176 (iH 172 (iH 168 (iH 164 (iH 160 (iH 156 (iH 152 (iH 148 (iH 144 I)))))))))))))))))))))) X) 1 8)
  rw [hn_new (n := 232) (k := 1) (len := 8) rfl z45]
  have z46 : Zf 233 (iH 228 (iH 224 (iH 220 (iH 216 (iH 212 (iH 208 (iH 204 (iH 200 (iH 196 (iH 192 (iH 188 (iH 184 (iH 180 (iH 176 (iH 172 (iH 168 (iH 164 (iH 160 (iH 156 (iH 152 (iH 148 (iH 144 I)))))))))))))))))))))) := (Zn z45)
  refine w_dup (Ev.cm _) rfl rfl ?_
  refine w_cinit (as := []) (o := 232) (st := [.ref 232, .int 22, .ref 143]) (Ev.cm _) rfl rfl rfl (Nat.le_of_ble_eq_true rfl) (show _ ∧ _ from ⟨show 233 + (mcs m_H_new).1 ≤ 143 + (mcs m_S_new).1 by decide +kernel, show slt 233 + (mcs m_H_new).2 ≤ slt 143 + (mcs m_S_new).2 by decide +kernel⟩) (Nat.le_of_ble_eq_true rfl) (e_iH (show isH 232 from Or.inr (Or.inr (Or.inr ⟨22, (Nat.le_of_ble_eq_true rfl), rfl⟩))) (subos (Nat.le_of_ble_eq_true rfl) hos) z46 ?_)
  have z47 : Zf 236 (iH 232 (iH 228 (iH 224 (iH 220 (iH 216 (iH 212 (iH 208 (iH 204 (iH 200 (iH 196 (iH 192 (iH 188 (iH 184 (iH 180 (iH 176 (iH 172 (iH 168 (iH 164 (iH 160 (iH 156 (iH 152 (iH 148 (iH 144 I))))))))))))))))))))))) := (iH_z (b := 232) z46)
  show Wp _ _ _ _ _ _ _ 33 [(0, .ref 142), (1, .int 22)] [.ref 232, .int 22, .ref 143] (HN 236 (232 :: 142 :: os) (iH 232 (iH 228 (iH 224 (iH 220 (iH 216 (iH 212 (iH 208 (iH 204 (iH 200 (iH 196 (iH 192 (iH 188 (iH 184 (iH 180 (iH 176 (iH 172 (iH 168 (iH 164 (iH 160 (iH 156 (iH 152 (iH 148 (iH 144 I))))))))))))))))))))))) X)
  refine w_aast (Ev.cm _) rfl (Nat.le_of_ble_eq_true rfl) rfl (show vp_in 22 30 from vpI 30 (by decide) (by decide) (by decide)) (Nat.le_of_ble_eq_true rfl) rfl ?_
  show Wp _ _ _ _ _ _ _ 34 [(0, .ref 142), (1, .int 22)] [] (puR (HN 236 (232 :: 142 :: os) (iH 232 (iH 228 (iH 224 (iH 220 (iH 216 (iH 212 (iH 208 (iH 204 (iH 200 (iH 196 (iH 192 (iH 188 (iH 184 (iH 180 (iH 176 (iH 172 (iH 168 (iH 164 (iH 160 (iH 156 (iH 152 (iH 148 (iH 144 I))))))))))))))))))))))) X) 143 22 (some 232))
  rw [hn_link (o := 143) (k := 22) (q := 232) rfl (Nat.le_of_ble_eq_true rfl) (nin hos (Nat.le_of_ble_eq_true rfl))]
  refine w_iinc (ls2 := [(0, .ref 142), (1, .int 23)]) (Ev.cm _) rfl rfl rfl ?_
  refine w_goto (Ev.cm _) rfl ?_
  refine w_iload_n (Ev.cm _) rfl rfl ?_
  refine w_bipush (Ev.cm _) rfl ?_
  refine w_icmp_ge (Ev.cm _) rfl (fun q => absurd q (by decide)) (fun _ => ?_)
  refine w_aload_n (Ev.cm _) rfl rfl ?_
  refine w_getR (q := 143) (Ev.cm _) rfl (Nat.le_of_ble_eq_true rfl) rfl (rd_get (n := 236) (o := 142) (k := 0) (q := 143) rfl (Nat.le_of_ble_eq_true rfl) (nin hos (Nat.le_of_ble_eq_true rfl))) ?_
  refine w_iload_n (Ev.cm _) rfl rfl ?_
  refine w_new (Ev.cm _) rfl (show _ ∧ _ from ⟨show 236 + 1 ≤ 143 + (mcs m_S_new).1 by decide +kernel, show slt 236 + 8 ≤ slt 143 + (mcs m_S_new).2 by decide +kernel⟩) ?_
  show Wp _ _ _ _ _ _ _ 29 [(0, .ref 142), (1, .int 23)] [.ref 236, .int 23, .ref 143] (puN (HN 236 (142 :: os) (iH 232 (iH 228 (iH 224 (iH 220 (iH 216 (iH 212 (iH 208 (iH 204 (iH 200 (iH 196 (iH 192 (iH 188 (iH 184 (iH 180 (iH 176 (iH 172 (iH 168 (iH 164 (iH 160 (iH 156 (iH 152 (iH 148 (iH 144 I))))))))))))))))))))))) X) 1 8)
  rw [hn_new (n := 236) (k := 1) (len := 8) rfl z47]
  have z48 : Zf 237 (iH 232 (iH 228 (iH 224 (iH 220 (iH 216 (iH 212 (iH 208 (iH 204 (iH 200 (iH 196 (iH 192 (iH 188 (iH 184 (iH 180 (iH 176 (iH 172 (iH 168 (iH 164 (iH 160 (iH 156 (iH 152 (iH 148 (iH 144 I))))))))))))))))))))))) := (Zn z47)
  refine w_dup (Ev.cm _) rfl rfl ?_
  refine w_cinit (as := []) (o := 236) (st := [.ref 236, .int 23, .ref 143]) (Ev.cm _) rfl rfl rfl (Nat.le_of_ble_eq_true rfl) (show _ ∧ _ from ⟨show 237 + (mcs m_H_new).1 ≤ 143 + (mcs m_S_new).1 by decide +kernel, show slt 237 + (mcs m_H_new).2 ≤ slt 143 + (mcs m_S_new).2 by decide +kernel⟩) (Nat.le_of_ble_eq_true rfl) (e_iH (show isH 236 from Or.inr (Or.inr (Or.inr ⟨23, (Nat.le_of_ble_eq_true rfl), rfl⟩))) (subos (Nat.le_of_ble_eq_true rfl) hos) z48 ?_)
  have z49 : Zf 240 (iH 236 (iH 232 (iH 228 (iH 224 (iH 220 (iH 216 (iH 212 (iH 208 (iH 204 (iH 200 (iH 196 (iH 192 (iH 188 (iH 184 (iH 180 (iH 176 (iH 172 (iH 168 (iH 164 (iH 160 (iH 156 (iH 152 (iH 148 (iH 144 I)))))))))))))))))))))))) := (iH_z (b := 236) z48)
  show Wp _ _ _ _ _ _ _ 33 [(0, .ref 142), (1, .int 23)] [.ref 236, .int 23, .ref 143] (HN 240 (236 :: 142 :: os) (iH 236 (iH 232 (iH 228 (iH 224 (iH 220 (iH 216 (iH 212 (iH 208 (iH 204 (iH 200 (iH 196 (iH 192 (iH 188 (iH 184 (iH 180 (iH 176 (iH 172 (iH 168 (iH 164 (iH 160 (iH 156 (iH 152 (iH 148 (iH 144 I)))))))))))))))))))))))) X)
  refine w_aast (Ev.cm _) rfl (Nat.le_of_ble_eq_true rfl) rfl (show vp_in 23 30 from vpI 30 (by decide) (by decide) (by decide)) (Nat.le_of_ble_eq_true rfl) rfl ?_
  show Wp _ _ _ _ _ _ _ 34 [(0, .ref 142), (1, .int 23)] [] (puR (HN 240 (236 :: 142 :: os) (iH 236 (iH 232 (iH 228 (iH 224 (iH 220 (iH 216 (iH 212 (iH 208 (iH 204 (iH 200 (iH 196 (iH 192 (iH 188 (iH 184 (iH 180 (iH 176 (iH 172 (iH 168 (iH 164 (iH 160 (iH 156 (iH 152 (iH 148 (iH 144 I)))))))))))))))))))))))) X) 143 23 (some 236))
  rw [hn_link (o := 143) (k := 23) (q := 236) rfl (Nat.le_of_ble_eq_true rfl) (nin hos (Nat.le_of_ble_eq_true rfl))]
  refine w_iinc (ls2 := [(0, .ref 142), (1, .int 24)]) (Ev.cm _) rfl rfl rfl ?_
  refine w_goto (Ev.cm _) rfl ?_
  refine w_iload_n (Ev.cm _) rfl rfl ?_
  refine w_bipush (Ev.cm _) rfl ?_
  refine w_icmp_ge (Ev.cm _) rfl (fun q => absurd q (by decide)) (fun _ => ?_)
  refine w_aload_n (Ev.cm _) rfl rfl ?_
  refine w_getR (q := 143) (Ev.cm _) rfl (Nat.le_of_ble_eq_true rfl) rfl (rd_get (n := 240) (o := 142) (k := 0) (q := 143) rfl (Nat.le_of_ble_eq_true rfl) (nin hos (Nat.le_of_ble_eq_true rfl))) ?_
  refine w_iload_n (Ev.cm _) rfl rfl ?_
  refine w_new (Ev.cm _) rfl (show _ ∧ _ from ⟨show 240 + 1 ≤ 143 + (mcs m_S_new).1 by decide +kernel, show slt 240 + 8 ≤ slt 143 + (mcs m_S_new).2 by decide +kernel⟩) ?_
  show Wp _ _ _ _ _ _ _ 29 [(0, .ref 142), (1, .int 24)] [.ref 240, .int 24, .ref 143] (puN (HN 240 (142 :: os) (iH 236 (iH 232 (iH 228 (iH 224 (iH 220 (iH 216 (iH 212 (iH 208 (iH 204 (iH 200 (iH 196 (iH 192 (iH 188 (iH 184 (iH 180 (iH 176 (iH 172 (iH 168 (iH 164 (iH 160 (iH 156 (iH 152 (iH 148 (iH 144 I)))))))))))))))))))))))) X) 1 8)
  rw [hn_new (n := 240) (k := 1) (len := 8) rfl z49]
  have z50 : Zf 241 (iH 236 (iH 232 (iH 228 (iH 224 (iH 220 (iH 216 (iH 212 (iH 208 (iH 204 (iH 200 (iH 196 (iH 192 (iH 188 (iH 184 (iH 180 (iH 176 (iH 172 (iH 168 (iH 164 (iH 160 (iH 156 (iH 152 (iH 148 (iH 144 I)))))))))))))))))))))))) := (Zn z49)
  refine w_dup (Ev.cm _) rfl rfl ?_
  refine w_cinit (as := []) (o := 240) (st := [.ref 240, .int 24, .ref 143]) (Ev.cm _) rfl rfl rfl (Nat.le_of_ble_eq_true rfl) (show _ ∧ _ from ⟨show 241 + (mcs m_H_new).1 ≤ 143 + (mcs m_S_new).1 by decide +kernel, show slt 241 + (mcs m_H_new).2 ≤ slt 143 + (mcs m_S_new).2 by decide +kernel⟩) (Nat.le_of_ble_eq_true rfl) (e_iH (show isH 240 from Or.inr (Or.inr (Or.inr ⟨24, (Nat.le_of_ble_eq_true rfl), rfl⟩))) (subos (Nat.le_of_ble_eq_true rfl) hos) z50 ?_)
  have z51 : Zf 244 (iH 240 (iH 236 (iH 232 (iH 228 (iH 224 (iH 220 (iH 216 (iH 212 (iH 208 (iH 204 (iH 200 (iH 196 (iH 192 (iH 188 (iH 184 (iH 180 (iH 176 (iH 172 (iH 168 (iH 164 (iH 160 (iH 156 (iH 152 (iH 148 (iH 144 I))))))))))))))))))))))))) := (iH_z (b := 240) z50)
  show Wp _ _ _ _ _ _ _ 33 [(0, .ref 142), (1, .int 24)] [.ref 240, .int 24, .ref 143] (HN 244 (240 :: 142 :: os) (iH 240 (iH 236 (iH 232 (iH 228 (iH 224 (iH 220 (iH 216 (iH 212 (iH 208 (iH 204 (iH 200 (iH 196 (iH 192 (iH 188 (iH 184 (iH 180 (iH 176 (iH 172 (iH 168 (iH 164 (iH 160 (iH 156 (iH 152 (iH 148 (iH 144 I))))))))))))))))))))))))) X)
  refine w_aast (Ev.cm _) rfl (Nat.le_of_ble_eq_true rfl) rfl (show vp_in 24 30 from vpI 30 (by decide) (by decide) (by decide)) (Nat.le_of_ble_eq_true rfl) rfl ?_
  show Wp _ _ _ _ _ _ _ 34 [(0, .ref 142), (1, .int 24)] [] (puR (HN 244 (240 :: 142 :: os) (iH 240 (iH 236 (iH 232 (iH 228 (iH 224 (iH 220 (iH 216 (iH 212 (iH 208 (iH 204 (iH 200 (iH 196 (iH 192 (iH 188 (iH 184 (iH 180 (iH 176 (iH 172 (iH 168 (iH 164 (iH 160 (iH 156 (iH 152 (iH 148 (iH 144 I))))))))))))))))))))))))) X) 143 24 (some 240))
  rw [hn_link (o := 143) (k := 24) (q := 240) rfl (Nat.le_of_ble_eq_true rfl) (nin hos (Nat.le_of_ble_eq_true rfl))]
  refine w_iinc (ls2 := [(0, .ref 142), (1, .int 25)]) (Ev.cm _) rfl rfl rfl ?_
  refine w_goto (Ev.cm _) rfl ?_
  refine w_iload_n (Ev.cm _) rfl rfl ?_
  refine w_bipush (Ev.cm _) rfl ?_
  refine w_icmp_ge (Ev.cm _) rfl (fun q => absurd q (by decide)) (fun _ => ?_)
  refine w_aload_n (Ev.cm _) rfl rfl ?_
  refine w_getR (q := 143) (Ev.cm _) rfl (Nat.le_of_ble_eq_true rfl) rfl (rd_get (n := 244) (o := 142) (k := 0) (q := 143) rfl (Nat.le_of_ble_eq_true rfl) (nin hos (Nat.le_of_ble_eq_true rfl))) ?_
  refine w_iload_n (Ev.cm _) rfl rfl ?_
  refine w_new (Ev.cm _) rfl (show _ ∧ _ from ⟨show 244 + 1 ≤ 143 + (mcs m_S_new).1 by decide +kernel, show slt 244 + 8 ≤ slt 143 + (mcs m_S_new).2 by decide +kernel⟩) ?_
  show Wp _ _ _ _ _ _ _ 29 [(0, .ref 142), (1, .int 25)] [.ref 244, .int 25, .ref 143] (puN (HN 244 (142 :: os) (iH 240 (iH 236 (iH 232 (iH 228 (iH 224 (iH 220 (iH 216 (iH 212 (iH 208 (iH 204 (iH 200 (iH 196 (iH 192 (iH 188 (iH 184 (iH 180 (iH 176 (iH 172 (iH 168 (iH 164 (iH 160 (iH 156 (iH 152 (iH 148 (iH 144 I))))))))))))))))))))))))) X) 1 8)
  rw [hn_new (n := 244) (k := 1) (len := 8) rfl z51]
  have z52 : Zf 245 (iH 240 (iH 236 (iH 232 (iH 228 (iH 224 (iH 220 (iH 216 (iH 212 (iH 208 (iH 204 (iH 200 (iH 196 (iH 192 (iH 188 (iH 184 (iH 180 (iH 176 (iH 172 (iH 168 (iH 164 (iH 160 (iH 156 (iH 152 (iH 148 (iH 144 I))))))))))))))))))))))))) := (Zn z51)
  refine w_dup (Ev.cm _) rfl rfl ?_
  refine w_cinit (as := []) (o := 244) (st := [.ref 244, .int 25, .ref 143]) (Ev.cm _) rfl rfl rfl (Nat.le_of_ble_eq_true rfl) (show _ ∧ _ from ⟨show 245 + (mcs m_H_new).1 ≤ 143 + (mcs m_S_new).1 by decide +kernel, show slt 245 + (mcs m_H_new).2 ≤ slt 143 + (mcs m_S_new).2 by decide +kernel⟩) (Nat.le_of_ble_eq_true rfl) (e_iH (show isH 244 from Or.inr (Or.inr (Or.inr ⟨25, (Nat.le_of_ble_eq_true rfl), rfl⟩))) (subos (Nat.le_of_ble_eq_true rfl) hos) z52 ?_)
  have z53 : Zf 248 (iH 244 (iH 240 (iH 236 (iH 232 (iH 228 (iH 224 (iH 220 (iH 216 (iH 212 (iH 208 (iH 204 (iH 200 (iH 196 (iH 192 (iH 188 (iH 184 (iH 180 (iH 176 (iH 172 (iH 168 (iH 164 (iH 160 (iH 156 (iH 152 (iH 148 (iH 144 I)))))))))))))))))))))))))) := (iH_z (b := 244) z52)
  show Wp _ _ _ _ _ _ _ 33 [(0, .ref 142), (1, .int 25)] [.ref 244, .int 25, .ref 143] (HN 248 (244 :: 142 :: os) (iH 244 (iH 240 (iH 236 (iH 232 (iH 228 (iH 224 (iH 220 (iH 216 (iH 212 (iH 208 (iH 204 (iH 200 (iH 196 (iH 192 (iH 188 (iH 184 (iH 180 (iH 176 (iH 172 (iH 168 (iH 164 (iH 160 (iH 156 (iH 152 (iH 148 (iH 144 I)))))))))))))))))))))))))) X)
  refine w_aast (Ev.cm _) rfl (Nat.le_of_ble_eq_true rfl) rfl (show vp_in 25 30 from vpI 30 (by decide) (by decide) (by decide)) (Nat.le_of_ble_eq_true rfl) rfl ?_
  show Wp _ _ _ _ _ _ _ 34 [(0, .ref 142), (1, .int 25)] [] (puR (HN 248 (244 :: 142 :: os) (iH 244 (iH 240 (iH 236 (iH 232 (iH 228 (iH 224 (iH 220 (iH 216 (iH 212 (iH 208 (iH 204 (iH 200 (iH 196 (iH 192 (iH 188 (iH 184 (iH 180 (iH 176 (iH 172 (iH 168 (iH 164 (iH 160 (iH 156 (iH 152 (iH 148 (iH 144 I)))))))))))))))))))))))))) X) 143 25 (some 244))
  rw [hn_link (o := 143) (k := 25) (q := 244) rfl (Nat.le_of_ble_eq_true rfl) (nin hos (Nat.le_of_ble_eq_true rfl))]
  refine w_iinc (ls2 := [(0, .ref 142), (1, .int 26)]) (Ev.cm _) rfl rfl rfl ?_
  refine w_goto (Ev.cm _) rfl ?_
  refine w_iload_n (Ev.cm _) rfl rfl ?_
  refine w_bipush (Ev.cm _) rfl ?_
  refine w_icmp_ge (Ev.cm _) rfl (fun q => absurd q (by decide)) (fun _ => ?_)
  refine w_aload_n (Ev.cm _) rfl rfl ?_
  refine w_getR (q := 143) (Ev.cm _) rfl (Nat.le_of_ble_eq_true rfl) rfl (rd_get (n := 248) (o := 142) (k := 0) (q := 143) rfl (Nat.le_of_ble_eq_true rfl) (nin hos (Nat.le_of_ble_eq_true rfl))) ?_
  refine w_iload_n (Ev.cm _) rfl rfl ?_
  refine w_new (Ev.cm _) rfl (show _ ∧ _ from ⟨show 248 + 1 ≤ 143 + (mcs m_S_new).1 by decide +kernel, show slt 248 + 8 ≤ slt 143 + (mcs m_S_new).2 by decide +kernel⟩) ?_
  show Wp _ _ _ _ _ _ _ 29 [(0, .ref 142), (1, .int 26)] [.ref 248, .int 26, .ref 143] (puN (HN 248 (142 :: os) (iH 244 (iH 240 (iH 236 (iH 232 (iH 228 (iH 224 (iH 220 (iH 216 (iH 212 (iH 208 (iH 204 (iH 200 (iH 196 (iH 192 (iH 188 (iH 184 (iH 180 (iH 176 (iH 172 (iH 168 (iH 164 (iH 160 (iH 156 (iH 152 (iH 148 (iH 144 I)))))))))))))))))))))))))) X) 1 8)
  rw [hn_new (n := 248) (k := 1) (len := 8) rfl z53]
  have z54 : Zf 249 (iH 244 (iH 240 (iH 236 (iH 232 (iH 228 (iH 224 (iH 220 (iH 216 (iH 212 (iH 208 (iH 204 (iH 200 (iH 196 (iH 192 (iH 188 (iH 184 (iH 180 (iH 176 (iH 172 (iH 168 (iH 164 (iH 160 (iH 156 (iH 152 (iH 148 (iH 144 I)))))))))))))))))))))))))) := (Zn z53)
  refine w_dup (Ev.cm _) rfl rfl ?_
  refine w_cinit (as := []) (o := 248) (st := [.ref 248, .int 26, .ref 143]) (Ev.cm _) rfl rfl rfl (Nat.le_of_ble_eq_true rfl) (show _ ∧ _ from ⟨show 249 + (mcs m_H_new).1 ≤ 143 + (mcs m_S_new).1 by decide +kernel, show slt 249 + (mcs m_H_new).2 ≤ slt 143 + (mcs m_S_new).2 by decide +kernel⟩) (Nat.le_of_ble_eq_true rfl) (e_iH (show isH 248 from Or.inr (Or.inr (Or.inr ⟨26, (Nat.le_of_ble_eq_true rfl), rfl⟩))) (subos (Nat.le_of_ble_eq_true rfl) hos) z54 ?_)
  have z55 : Zf 252 (iH 248 (iH 244 (iH 240 (iH 236 (iH 232 (iH 228 (iH 224 (iH 220 (iH 216 (iH 212 (iH 208 (iH 204 (iH 200 (iH 196 (iH 192 (iH 188 (iH 184 (iH 180 (iH 176 (iH 172 (iH 168 (iH 164 (iH 160 (iH 156 (iH 152 (iH 148 (iH 144 I))))))))))))))))))))))))))) := (iH_z (b := 248) z54)
  show Wp _ _ _ _ _ _ _ 33 [(0, .ref 142), (1, .int 26)] [.ref 248, .int 26, .ref 143] (HN 252 (248 :: 142 :: os) (iH 248 (iH 244 (iH 240 (iH 236 (iH 232 (iH 228 (iH 224 (iH 220 (iH 216 (iH 212 (iH 208 (iH 204 (iH 200 (iH 196 (iH 192 (iH 188 (iH 184 (iH 180 (iH 176 (iH 172 (iH 168 (iH 164 (iH 160 (iH 156 (iH 152 (iH 148 (iH 144 I))))))))))))))))))))))))))) X)
  refine w_aast (Ev.cm _) rfl (Nat.le_of_ble_eq_true rfl) rfl (show vp_in 26 30 from vpI 30 (by decide) (by decide) (by decide)) (Nat.le_of_ble_eq_true rfl) rfl ?_
  show Wp _ _ _ _ _ _ _ 34 [(0, .ref 142), (1, .int 26)] [] (puR (HN 252 (248 :: 142 :: os) (iH 248 (iH 244 (iH 240 (iH 236 (iH 232 (iH 228 (iH 224 (iH 220 (iH 216 (iH 212 (iH 208 (iH 204 (iH 200 (iH 196 (iH 192 (iH 188 (iH 184 (iH 180 (iH 176 (iH 172 (iH 168 (iH 164 (iH 160 (iH 156 (iH 152 (iH 148 (iH 144 I))))))))))))))))))))))))))) X) 143 26 (some 248))
  rw [hn_link (o := 143) (k := 26) (q := 248) rfl (Nat.le_of_ble_eq_true rfl) (nin hos (Nat.le_of_ble_eq_true rfl))]
  refine w_iinc (ls2 := [(0, .ref 142), (1, .int 27)]) (Ev.cm _) rfl rfl rfl ?_
  refine w_goto (Ev.cm _) rfl ?_
  refine w_iload_n (Ev.cm _) rfl rfl ?_
  refine w_bipush (Ev.cm _) rfl ?_
  refine w_icmp_ge (Ev.cm _) rfl (fun q => absurd q (by decide)) (fun _ => ?_)
  refine w_aload_n (Ev.cm _) rfl rfl ?_
  refine w_getR (q := 143) (Ev.cm _) rfl (Nat.le_of_ble_eq_true rfl) rfl (rd_get (n := 252) (o := 142) (k := 0) (q := 143) rfl (Nat.le_of_ble_eq_true rfl) (nin hos (Nat.le_of_ble_eq_true rfl))) ?_
  refine w_iload_n (Ev.cm _) rfl rfl ?_
  refine w_new (Ev.cm _) rfl (show _ ∧ _ from ⟨show 252 + 1 ≤ 143 + (mcs m_S_new).1 by decide +kernel, show slt 252 + 8 ≤ slt 143 + (mcs m_S_new).2 by decide +kernel⟩) ?_
  show Wp _ _ _ _ _ _ _ 29 [(0, .ref 142), (1, .int 27)] [.ref 252, .int 27, .ref 143] (puN (HN 252 (142 :: os) (iH 248 (iH 244 (iH 240 (iH 236 (iH 232 (iH 228 (iH 224 (iH 220 (iH 216 (iH 212 (iH 208 (iH 204 (iH 200 (iH 196 (iH 192 (iH 188 (iH 184 (iH 180 (iH 176 (iH 172 (iH 168 (iH 164 (iH 160 (iH 156 (iH 152 (iH 148 (iH 144 I))))))))))))))))))))))))))) X) 1 8)
  rw [hn_new (n := 252) (k := 1) (len := 8) rfl z55]
  have z56 : Zf 253 (iH 248 (iH 244 (iH 240 (iH 236 (iH 232 (iH 228 (iH 224 (iH 220 (iH 216 (iH 212 (iH 208 (iH 204 (iH 200 (iH 196 (iH 192 (iH 188 (iH 184 (iH 180 (iH 176 (iH 172 (iH 168 (iH 164 (iH 160 (iH 156 (iH 152 (iH 148 (iH 144 I))))))))))))))))))))))))))) := (Zn z55)
  refine w_dup (Ev.cm _) rfl rfl ?_
  refine w_cinit (as := []) (o := 252) (st := [.ref 252, .int 27, .ref 143]) (Ev.cm _) rfl rfl rfl (Nat.le_of_ble_eq_true rfl) (show _ ∧ _ from ⟨show 253 + (mcs m_H_new).1 ≤ 143 + (mcs m_S_new).1 by decide +kernel, show slt 253 + (mcs m_H_new).2 ≤ slt 143 + (mcs m_S_new).2 by decide +kernel⟩) (Nat.le_of_ble_eq_true rfl) (e_iH (show isH 252 from Or.inr (Or.inr (Or.inr ⟨27, (Nat.le_of_ble_eq_true rfl), rfl⟩))) (subos (Nat.le_of_ble_eq_true rfl) hos) z56 ?_)
  have z57 : Zf 256 (iH 252 (iH 248 (iH 244 (iH 240 (iH 236 (iH 232 (iH 228 (iH 224 (iH 220 (iH 216 (iH 212 (iH 208 (iH 204 (iH 200 (iH 196 (iH 192 (iH 188 (iH 184 (iH 180 (iH 176 (iH 172 (iH 168 (iH 164 (iH 160 (iH 156 (iH 152 (iH 148 (iH 144 I)))))))))))))))))))))))))))) := (iH_z (b := 252) z56)
  show Wp _ _ _ _ _ _ _ 33 [(0, .ref 142), (1, .int 27)] [.ref 252, .int 27, .ref 143] (HN 256 (252 :: 142 :: os) (iH 252 (iH 248 (iH 244 (iH 240 (iH 236 (iH 232 (iH 228 (iH 224 (iH 220 (iH 216 (iH 212 (iH 208 (iH 204 (iH 200 (iH 196 (iH 192 (iH 188 (iH 184 (iH 180 (iH 176 (iH 172 (iH 168 (iH 164 (iH 160 (iH 156 (iH 152 (iH 148 (iH 144 I)))))))))))))))))))))))))))) X)
  refine w_aast (Ev.cm _) rfl (Nat.le_of_ble_eq_true rfl) rfl (show vp_in 27 30 from vpI 30 (by decide) (by decide) (by decide)) (Nat.le_of_ble_eq_true rfl) rfl ?_
  show Wp _ _ _ _ _ _ _ 34 [(0, .ref 142), (1, .int 27)] [] (puR (HN 256 (252 :: 142 :: os) (iH 252 (iH 248 (iH 244 (iH 240 (iH 236 (iH 232 (iH 228 (iH 224 (iH 220 (iH 216 (iH 212 (iH 208 (iH 204 (iH 200 (iH 196 (iH 192 (iH 188 (iH 184 (iH 180 (iH 176 (iH 172 (iH 168 (iH 164 (iH 160 (iH 156 (iH 152 (iH 148 (iH 144 I)))))))))))))))))))))))))))) X) 143 27 (some 252))
  rw [hn_link (o := 143) (k := 27) (q := 252) rfl (Nat.le_of_ble_eq_true rfl) (nin hos (Nat.le_of_ble_eq_true rfl))]
  refine w_iinc (ls2 := [(0, .ref 142), (1, .int 28)]) (Ev.cm _) rfl rfl rfl ?_
  refine w_goto (Ev.cm _) rfl ?_
  refine w_iload_n (Ev.cm _) rfl rfl ?_
  refine w_bipush (Ev.cm _) rfl ?_
  refine w_icmp_ge (Ev.cm _) rfl (fun q => absurd q (by decide)) (fun _ => ?_)
  refine w_aload_n (Ev.cm _) rfl rfl ?_
  refine w_getR (q := 143) (Ev.cm _) rfl (Nat.le_of_ble_eq_true rfl) rfl (rd_get (n := 256) (o := 142) (k := 0) (q := 143) rfl (Nat.le_of_ble_eq_true rfl) (nin hos (Nat.le_of_ble_eq_true rfl))) ?_
  refine w_iload_n (Ev.cm _) rfl rfl ?_
  refine w_new (Ev.cm _) rfl (show _ ∧ _ from ⟨show 256 + 1 ≤ 143 + (mcs m_S_new).1 by decide +kernel, show slt 256 + 8 ≤ slt 143 + (mcs m_S_new).2 by decide +kernel⟩) ?_
  show Wp _ _ _ _ _ _ _ 29 [(0, .ref 142), (1, .int 28)] [.ref 256, .int 28, .ref 143] (puN (HN 256 (142 :: os) (iH 252 (iH 248 (iH 244 (iH 240 (iH 236 (iH 232 (iH 228 (iH 224 (iH 220 (iH 216 (iH 212 (iH 208 (iH 204 (iH 200 (iH 196 (iH 192 (iH 188 (iH 184 (iH 180 (iH 176 (iH 172 (iH 168 (iH 164 (iH 160 (iH 156 (iH 152 (iH 148 (iH 144 I)))))))))))))))))))))))))))) X) 1 8)
  rw [hn_new (n := 256) (k := 1) (len := 8) rfl z57]
  have z58 : Zf 257 (iH 252 (iH 248 (iH 244 (iH 240 (iH 236 (iH 232 (iH 228 (iH 224 (iH 220 (iH 216 (iH 212 (iH 208 (iH 204 (iH 200 (iH 196 (iH 192 (iH 188 (iH 184 (iH 180 (iH 176 (iH 172 (iH 168 (iH 164 (iH 160 (iH 156 (iH 152 (iH 148 (iH 144 I)))))))))))))))))))))))))))) := (Zn z57)
  refine w_dup (Ev.cm _) rfl rfl ?_
  refine w_cinit (as := []) (o := 256) (st := [.ref 256, .int 28, .ref 143]) (Ev.cm _) rfl rfl rfl (Nat.le_of_ble_eq_true rfl) (show _ ∧ _ from ⟨show 257 + (mcs m_H_new).1 ≤ 143 + (mcs m_S_new).1 by decide +kernel, show slt 257 + (mcs m_H_new).2 ≤ slt 143 + (mcs m_S_new).2 by decide +kernel⟩) (Nat.le_of_ble_eq_true rfl) (e_iH (show isH 256 from Or.inr (Or.inr (Or.inr ⟨28, (Nat.le_of_ble_eq_true rfl), rfl⟩))) (subos (Nat.le_of_ble_eq_true rfl) hos) z58 ?_)
  have z59 : Zf 260 (iH 256 (iH 252 (iH 248 (iH 244 (iH 240 (iH 236 (iH 232 (iH 228 (iH 224 (iH 220 (iH 216 (iH 212 (iH 208 (iH 204 (iH 200 (iH 196 (iH 192 (iH 188 (iH 184 (iH 180 (iH 176 (iH 172 (iH 168 (iH 164 (iH 160 (iH 156 (iH 152 (iH 148 (iH 144 I))))))))))))))))))))))))))))) := (iH_z (b := 256) z58)
  show Wp _ _ _ _ _ _ _ 33 [(0, .ref 142), (1, .int 28)] [.ref 256, .int 28, .ref 143] (HN 260 (256 :: 142 :: os) (iH 256 (iH 252 (iH 248 (iH 244 (iH 240 (iH 236 (iH 232 (iH 228 (iH 224 (iH 220 (iH 216 (iH 212 (iH 208 (iH 204 (iH 200 (iH 196 (iH 192 (iH 188 (iH 184 (iH 180 (iH 176 (iH 172 (iH 168 (iH 164 (iH 160 (iH 156 (iH 152 (iH 148 (iH 144 I))))))))))))))))))))))))))))) X)
  refine w_aast (Ev.cm _) rfl (Nat.le_of_ble_eq_true rfl) rfl (show vp_in 28 30 from vpI 30 (by decide) (by decide) (by decide)) (Nat.le_of_ble_eq_true rfl) rfl ?_
  show Wp _ _ _ _ _ _ _ 34 [(0, .ref 142), (1, .int 28)] [] (puR (HN 260 (256 :: 142 :: os) (iH 256 (iH 252 (iH 248 (iH 244 (iH 240 (iH 236 (iH 232 (iH 228 (iH 224 (iH 220 (iH 216 (iH 212 (iH 208 (iH 204 (iH 200 (iH 196 (iH 192 (iH 188 (iH 184 (iH 180 (iH 176 (iH 172 (iH 168 (iH 164 (iH 160 (iH 156 (iH 152 (iH 148 (iH 144 I))))))))))))))))))))))))))))) X) 143 28 (some 256))
  rw [hn_link (o := 143) (k := 28) (q := 256) rfl (Nat.le_of_ble_eq_true rfl) (nin hos (Nat.le_of_ble_eq_true rfl))]
  refine w_iinc (ls2 := [(0, .ref 142), (1, .int 29)]) (Ev.cm _) rfl rfl rfl ?_
  refine w_goto (Ev.cm _) rfl ?_
  refine w_iload_n (Ev.cm _) rfl rfl ?_
  refine w_bipush (Ev.cm _) rfl ?_
  refine w_icmp_ge (Ev.cm _) rfl (fun q => absurd q (by decide)) (fun _ => ?_)
  refine w_aload_n (Ev.cm _) rfl rfl ?_
  refine w_getR (q := 143) (Ev.cm _) rfl (Nat.le_of_ble_eq_true rfl) rfl (rd_get (n := 260) (o := 142) (k := 0) (q := 143) rfl (Nat.le_of_ble_eq_true rfl) (nin hos (Nat.le_of_ble_eq_true rfl))) ?_
  refine w_iload_n (Ev.cm _) rfl rfl ?_
  refine w_new (Ev.cm _) rfl (show _ ∧ _ from ⟨show 260 + 1 ≤ 143 + (mcs m_S_new).1 by decide +kernel, show slt 260 + 8 ≤ slt 143 + (mcs m_S_new).2 by decide +kernel⟩) ?_
  show Wp _ _ _ _ _ _ _ 29 [(0, .ref 142), (1, .int 29)] [.ref 260, .int 29, .ref 143] (puN (HN 260 (142 :: os) (iH 256 (iH 252 (iH 248 (iH 244 (iH 240 (iH 236 (iH 232 (iH 228 (iH 224 (iH 220 (iH 216 (iH 212 (iH 208 (iH 204 (iH 200 (iH 196 (iH 192 (iH 188 (iH 184 (iH 180 (iH 176 (iH 172 (iH 168 (iH 164 (iH 160 (iH 156 (iH 152 (iH 148 (iH 144 I))))))))))))))))))))))))))))) X) 1 8)
  rw [hn_new (n := 260) (k := 1) (len := 8) rfl z59]
  have z60 : Zf 261 (iH 256 (iH 252 (iH 248 (iH 244 (iH 240 (iH 236 (iH 232 (iH 228 (iH 224 (iH 220 (iH 216 (iH 212 (iH 208 (iH 204 (iH 200 (iH 196 (iH 192 (iH 188 (iH 184 (iH 180 (iH 176 (iH 172 (iH 168 (iH 164 (iH 160 (iH 156 (iH 152 (iH 148 (iH 144 I))))))))))))))))))))))))))))) := (Zn z59)
  refine w_dup (Ev.cm _) rfl rfl ?_
  refine w_cinit (as := []) (o := 260) (st := [.ref 260, .int 29, .ref 143]) (Ev.cm _) rfl rfl rfl (Nat.le_of_ble_eq_true rfl) (show _ ∧ _ from ⟨show 261 + (mcs m_H_new).1 ≤ 143 + (mcs m_S_new).1 by decide +kernel, show slt 261 + (mcs m_H_new).2 ≤ slt 143 + (mcs m_S_new).2 by decide +kernel⟩) (Nat.le_of_ble_eq_true rfl) (e_iH (show isH 260 from Or.inr (Or.inr (Or.inr ⟨29, (Nat.le_of_ble_eq_true rfl), rfl⟩))) (subos (Nat.le_of_ble_eq_true rfl) hos) z60 ?_)
  have z61 : Zf 264 (iH 260 (iH 256 (iH 252 (iH 248 (iH 244 (iH 240 (iH 236 (iH 232 (iH 228 (iH 224 (iH 220 (iH 216 (iH 212 (iH 208 (iH 204 (iH 200 (iH 196 (iH 192 (iH 188 (iH 184 (iH 180 (iH 176 (iH 172 (iH 168 (iH 164 (iH 160 (iH 156 (iH 152 (iH 148 (iH 144 I)))))))))))))))))))))))))))))) := (iH_z (b := 260) z60)
  show Wp _ _ _ _ _ _ _ 33 [(0, .ref 142), (1, .int 29)] [.ref 260, .int 29, .ref 143] (HN 264 (260 :: 142 :: os) (iH 260 (iH 256 (iH 252 (iH 248 (iH 244 (iH 240 (iH 236 (iH 232 (iH 228 (iH 224 (iH 220 (iH 216 (iH 212 (iH 208 (iH 204 (iH 200 (iH 196 (iH 192 (iH 188 (iH 184 (iH 180 (iH 176 (iH 172 (iH 168 (iH 164 (iH 160 (iH 156 (iH 152 (iH 148 (iH 144 I)))))))))))))))))))))))))))))) X)
  refine w_aast (Ev.cm _) rfl (Nat.le_of_ble_eq_true rfl) rfl (show vp_in 29 30 from vpI 30 (by decide) (by decide) (by decide)) (Nat.le_of_ble_eq_true rfl) rfl ?_
  show Wp _ _ _ _ _ _ _ 34 [(0, .ref 142), (1, .int 29)] [] (puR (HN 264 (260 :: 142 :: os) (iH 260 (iH 256 (iH 252 (iH 248 (iH 244 (iH 240 (iH 236 (iH 232 (iH 228 (iH 224 (iH 220 (iH 216 (iH 212 (iH 208 (iH 204 (iH 200 (iH 196 (iH 192 (iH 188 (iH 184 (iH 180 (iH 176 (iH 172 (iH 168 (iH 164 (iH 160 (iH 156 (iH 152 (iH 148 (iH 144 I)))))))))))))))))))))))))))))) X) 143 29 (some 260))
  rw [hn_link (o := 143) (k := 29) (q := 260) rfl (Nat.le_of_ble_eq_true rfl) (nin hos (Nat.le_of_ble_eq_true rfl))]
  refine w_iinc (ls2 := [(0, .ref 142), (1, .int 30)]) (Ev.cm _) rfl rfl rfl ?_
  refine w_goto (Ev.cm _) rfl ?_
  refine w_iload_n (Ev.cm _) rfl rfl ?_
  refine w_bipush (Ev.cm _) rfl ?_
  refine w_icmp_ge (Ev.cm _) rfl (fun _ => ?_) (fun q => absurd (by decide) q)
  refine w_aload_n (Ev.cm _) rfl rfl ?_
  refine w_iconst (Ev.cm _) rfl ?_
  refine w_putI (Ev.cm _) rfl (Nat.le_of_ble_eq_true rfl) rfl ?_
  have z62 : Zf 264 (sI (iH 260 (iH 256 (iH 252 (iH 248 (iH 244 (iH 240 (iH 236 (iH 232 (iH 228 (iH 224 (iH 220 (iH 216 (iH 212 (iH 208 (iH 204 (iH 200 (iH 196 (iH 192 (iH 188 (iH 184 (iH 180 (iH 176 (iH 172 (iH 168 (iH 164 (iH 160 (iH 156 (iH 152 (iH 148 (iH 144 I)))))))))))))))))))))))))))))) 142 1 0) := (Zs (Nat.le_of_ble_eq_true rfl) z61)
  show Wp _ _ _ _ _ _ _ 45 [(0, .ref 142), (1, .int 30)] [] (HN 264 (142 :: os) (sI (iH 260 (iH 256 (iH 252 (iH 248 (iH 244 (iH 240 (iH 236 (iH 232 (iH 228 (iH 224 (iH 220 (iH 216 (iH 212 (iH 208 (iH 204 (iH 200 (iH 196 (iH 192 (iH 188 (iH 184 (iH 180 (iH 176 (iH 172 (iH 168 (iH 164 (iH 160 (iH 156 (iH 152 (iH 148 (iH 144 I)))))))))))))))))))))))))))))) 142 1 0) X)
  refine w_aload_n (Ev.cm _) rfl rfl ?_
  refine w_iconst (Ev.cm _) rfl ?_
  refine w_putI (Ev.cm _) rfl (Nat.le_of_ble_eq_true rfl) rfl ?_
  have z63 : Zf 264 (sI (sI (iH 260 (iH 256 (iH 252 (iH 248 (iH 244 (iH 240 (iH 236 (iH 232 (iH 228 (iH 224 (iH 220 (iH 216 (iH 212 (iH 208 (iH 204 (iH 200 (iH 196 (iH 192 (iH 188 (iH 184 (iH 180 (iH 176 (iH 172 (iH 168 (iH 164 (iH 160 (iH 156 (iH 152 (iH 148 (iH 144 I)))))))))))))))))))))))))))))) 142 1 0) 142 2 0) := (Zs (Nat.le_of_ble_eq_true rfl) z62)
  show Wp _ _ _ _ _ _ _ 50 [(0, .ref 142), (1, .int 30)] [] (HN 264 (142 :: os) (sI (sI (iH 260 (iH 256 (iH 252 (iH 248 (iH 244 (iH 240 (iH 236 (iH 232 (iH 228 (iH 224 (iH 220 (iH 216 (iH 212 (iH 208 (iH 204 (iH 200 (iH 196 (iH 192 (iH 188 (iH 184 (iH 180 (iH 176 (iH 172 (iH 168 (iH 164 (iH 160 (iH 156 (iH 152 (iH 148 (iH 144 I)))))))))))))))))))))))))))))) 142 1 0) 142 2 0) X)
  refine w_return (Ev.cm _) rfl rfl (Or.inr ⟨(show 264 = 143 + (mcs m_S_new).1 by decide +kernel), (show slt 264 = slt 143 + (mcs m_S_new).2 by decide +kernel)⟩) ?_
  exact q
def iQ_1 (I : Nat → Nat → Int32) : Nat → Nat → Int32 := sI (va_up (sI (sI (va_up (va_up (sI (sI (sI (iS_6 (iH 2 I)) 1 2 0) 1 6 0) 1 7 (-1)) 131 (fillF ((sI (sI (sI (iS_6 (iH 2 I)) 1 2 0) 1 6 0) 1 7 (-1)) 131) 1 9)) 132 (fillF ((va_up (sI (sI (sI (iS_6 (iH 2 I)) 1 2 0) 1 6 0) 1 7 (-1)) 131 (fillF ((sI (sI (sI (iS_6 (iH 2 I)) 1 2 0) 1 6 0) 1 7 (-1)) 131) 1 9)) 132) 1 9)) 1 11 0) 1 13 0) 135 (fillF ((sI (sI (va_up (va_up (sI (sI (sI (iS_6 (iH 2 I)) 1 2 0) 1 6 0) 1 7 (-1)) 131 (fillF ((sI (sI (sI (iS_6 (iH 2 I)) 1 2 0) 1 6 0) 1 7 (-1)) 131) 1 9)) 132 (fillF ((va_up (sI (sI (sI (iS_6 (iH 2 I)) 1 2 0) 1 6 0) 1 7 (-1)) 131 (fillF ((sI (sI (sI (iS_6 (iH 2 I)) 1 2 0) 1 6 0) 1 7 (-1)) 131) 1 9)) 132) 1 9)) 1 11 0) 1 13 0) 135) 1 6)) 1 16 0
theorem iQ_1_z {I : Nat → Nat → Int32} (hz : Zf 2 I) : Zf (137) (iQ_1 I) := by
  unfold iQ_1
  have z1 : Zf 3 I := (Zn hz)
  have z2 : Zf 6 (iH 2 I) := (iH_z (b := 2) z1)
  have z3 : Zf 7 (iH 2 I) := (Zn z2)
  have z4 : Zf 128 (iS_6 (iH 2 I)) := (iS_6_z z3)
  have z5 : Zf 128 (sI (iS_6 (iH 2 I)) 1 2 0) := (Zs (Nat.le_of_ble_eq_true rfl) z4)
  have z6 : Zf 129 (sI (iS_6 (iH 2 I)) 1 2 0) := (Zn z5)
  have z7 : Zf 130 (sI (iS_6 (iH 2 I)) 1 2 0) := (Zn z6)
  have z8 : Zf 131 (sI (iS_6 (iH 2 I)) 1 2 0) := (Zn z7)
  have z9 : Zf 131 (sI (sI (iS_6 (iH 2 I)) 1 2 0) 1 6 0) := (Zs (Nat.le_of_ble_eq_true rfl) z8)
  have z10 : Zf 131 (sI (sI (sI (iS_6 (iH 2 I)) 1 2 0) 1 6 0) 1 7 (-1)) := (Zs (Nat.le_of_ble_eq_true rfl) z9)
  have z11 : Zf 132 (sI (sI (sI (iS_6 (iH 2 I)) 1 2 0) 1 6 0) 1 7 (-1)) := (Zn z10)
  have z12 : Zf 133 (sI (sI (sI (iS_6 (iH 2 I)) 1 2 0) 1 6 0) 1 7 (-1)) := (Zn z11)
  have z13 : Zf 133 (va_up (sI (sI (sI (iS_6 (iH 2 I)) 1 2 0) 1 6 0) 1 7 (-1)) 131 (fillF ((sI (sI (sI (iS_6 (iH 2 I)) 1 2 0) 1 6 0) 1 7 (-1)) 131) 1 9)) := (Zv (Nat.le_of_ble_eq_true rfl) z12)
  have z14 : Zf 133 (va_up (va_up (sI (sI (sI (iS_6 (iH 2 I)) 1 2 0) 1 6 0) 1 7 (-1)) 131 (fillF ((sI (sI (sI (iS_6 (iH 2 I)) 1 2 0) 1 6 0) 1 7 (-1)) 131) 1 9)) 132 (fillF ((va_up (sI (sI (sI (iS_6 (iH 2 I)) 1 2 0) 1 6 0) 1 7 (-1)) 131 (fillF ((sI (sI (sI (iS_6 (iH 2 I)) 1 2 0) 1 6 0) 1 7 (-1)) 131) 1 9)) 132) 1 9)) := (Zv (Nat.le_of_ble_eq_true rfl) z13)
  have z15 : Zf 134 (va_up (va_up (sI (sI (sI (iS_6 (iH 2 I)) 1 2 0) 1 6 0) 1 7 (-1)) 131 (fillF ((sI (sI (sI (iS_6 (iH 2 I)) 1 2 0) 1 6 0) 1 7 (-1)) 131) 1 9)) 132 (fillF ((va_up (sI (sI (sI (iS_6 (iH 2 I)) 1 2 0) 1 6 0) 1 7 (-1)) 131 (fillF ((sI (sI (sI (iS_6 (iH 2 I)) 1 2 0) 1 6 0) 1 7 (-1)) 131) 1 9)) 132) 1 9)) := (Zn z14)
  have z16 : Zf 134 (sI (va_up (va_up (sI (sI (sI (iS_6 (iH 2 I)) 1 2 0) 1 6 0) 1 7 (-1)) 131 (fillF ((sI (sI (sI (iS_6 (iH 2 I)) 1 2 0) 1 6 0) 1 7 (-1)) 131) 1 9)) 132 (fillF ((va_up (sI (sI (sI (iS_6 (iH 2 I)) 1 2 0) 1 6 0) 1 7 (-1)) 131 (fillF ((sI (sI (sI (iS_6 (iH 2 I)) 1 2 0) 1 6 0) 1 7 (-1)) 131) 1 9)) 132) 1 9)) 1 11 0) := (Zs (Nat.le_of_ble_eq_true rfl) z15)
  have z17 : Zf 135 (sI (va_up (va_up (sI (sI (sI (iS_6 (iH 2 I)) 1 2 0) 1 6 0) 1 7 (-1)) 131 (fillF ((sI (sI (sI (iS_6 (iH 2 I)) 1 2 0) 1 6 0) 1 7 (-1)) 131) 1 9)) 132 (fillF ((va_up (sI (sI (sI (iS_6 (iH 2 I)) 1 2 0) 1 6 0) 1 7 (-1)) 131 (fillF ((sI (sI (sI (iS_6 (iH 2 I)) 1 2 0) 1 6 0) 1 7 (-1)) 131) 1 9)) 132) 1 9)) 1 11 0) := (Zn z16)
  have z18 : Zf 135 (sI (sI (va_up (va_up (sI (sI (sI (iS_6 (iH 2 I)) 1 2 0) 1 6 0) 1 7 (-1)) 131 (fillF ((sI (sI (sI (iS_6 (iH 2 I)) 1 2 0) 1 6 0) 1 7 (-1)) 131) 1 9)) 132 (fillF ((va_up (sI (sI (sI (iS_6 (iH 2 I)) 1 2 0) 1 6 0) 1 7 (-1)) 131 (fillF ((sI (sI (sI (iS_6 (iH 2 I)) 1 2 0) 1 6 0) 1 7 (-1)) 131) 1 9)) 132) 1 9)) 1 11 0) 1 13 0) := (Zs (Nat.le_of_ble_eq_true rfl) z17)
  have z19 : Zf 136 (sI (sI (va_up (va_up (sI (sI (sI (iS_6 (iH 2 I)) 1 2 0) 1 6 0) 1 7 (-1)) 131 (fillF ((sI (sI (sI (iS_6 (iH 2 I)) 1 2 0) 1 6 0) 1 7 (-1)) 131) 1 9)) 132 (fillF ((va_up (sI (sI (sI (iS_6 (iH 2 I)) 1 2 0) 1 6 0) 1 7 (-1)) 131 (fillF ((sI (sI (sI (iS_6 (iH 2 I)) 1 2 0) 1 6 0) 1 7 (-1)) 131) 1 9)) 132) 1 9)) 1 11 0) 1 13 0) := (Zn z18)
  have z20 : Zf 136 (va_up (sI (sI (va_up (va_up (sI (sI (sI (iS_6 (iH 2 I)) 1 2 0) 1 6 0) 1 7 (-1)) 131 (fillF ((sI (sI (sI (iS_6 (iH 2 I)) 1 2 0) 1 6 0) 1 7 (-1)) 131) 1 9)) 132 (fillF ((va_up (sI (sI (sI (iS_6 (iH 2 I)) 1 2 0) 1 6 0) 1 7 (-1)) 131 (fillF ((sI (sI (sI (iS_6 (iH 2 I)) 1 2 0) 1 6 0) 1 7 (-1)) 131) 1 9)) 132) 1 9)) 1 11 0) 1 13 0) 135 (fillF ((sI (sI (va_up (va_up (sI (sI (sI (iS_6 (iH 2 I)) 1 2 0) 1 6 0) 1 7 (-1)) 131 (fillF ((sI (sI (sI (iS_6 (iH 2 I)) 1 2 0) 1 6 0) 1 7 (-1)) 131) 1 9)) 132 (fillF ((va_up (sI (sI (sI (iS_6 (iH 2 I)) 1 2 0) 1 6 0) 1 7 (-1)) 131 (fillF ((sI (sI (sI (iS_6 (iH 2 I)) 1 2 0) 1 6 0) 1 7 (-1)) 131) 1 9)) 132) 1 9)) 1 11 0) 1 13 0) 135) 1 6)) := (Zv (Nat.le_of_ble_eq_true rfl) z19)
  have z21 : Zf 137 (va_up (sI (sI (va_up (va_up (sI (sI (sI (iS_6 (iH 2 I)) 1 2 0) 1 6 0) 1 7 (-1)) 131 (fillF ((sI (sI (sI (iS_6 (iH 2 I)) 1 2 0) 1 6 0) 1 7 (-1)) 131) 1 9)) 132 (fillF ((va_up (sI (sI (sI (iS_6 (iH 2 I)) 1 2 0) 1 6 0) 1 7 (-1)) 131 (fillF ((sI (sI (sI (iS_6 (iH 2 I)) 1 2 0) 1 6 0) 1 7 (-1)) 131) 1 9)) 132) 1 9)) 1 11 0) 1 13 0) 135 (fillF ((sI (sI (va_up (va_up (sI (sI (sI (iS_6 (iH 2 I)) 1 2 0) 1 6 0) 1 7 (-1)) 131 (fillF ((sI (sI (sI (iS_6 (iH 2 I)) 1 2 0) 1 6 0) 1 7 (-1)) 131) 1 9)) 132 (fillF ((va_up (sI (sI (sI (iS_6 (iH 2 I)) 1 2 0) 1 6 0) 1 7 (-1)) 131 (fillF ((sI (sI (sI (iS_6 (iH 2 I)) 1 2 0) 1 6 0) 1 7 (-1)) 131) 1 9)) 132) 1 9)) 1 11 0) 1 13 0) 135) 1 6)) := (Zn z20)
  have z22 : Zf 137 (sI (va_up (sI (sI (va_up (va_up (sI (sI (sI (iS_6 (iH 2 I)) 1 2 0) 1 6 0) 1 7 (-1)) 131 (fillF ((sI (sI (sI (iS_6 (iH 2 I)) 1 2 0) 1 6 0) 1 7 (-1)) 131) 1 9)) 132 (fillF ((va_up (sI (sI (sI (iS_6 (iH 2 I)) 1 2 0) 1 6 0) 1 7 (-1)) 131 (fillF ((sI (sI (sI (iS_6 (iH 2 I)) 1 2 0) 1 6 0) 1 7 (-1)) 131) 1 9)) 132) 1 9)) 1 11 0) 1 13 0) 135 (fillF ((sI (sI (va_up (va_up (sI (sI (sI (iS_6 (iH 2 I)) 1 2 0) 1 6 0) 1 7 (-1)) 131 (fillF ((sI (sI (sI (iS_6 (iH 2 I)) 1 2 0) 1 6 0) 1 7 (-1)) 131) 1 9)) 132 (fillF ((va_up (sI (sI (sI (iS_6 (iH 2 I)) 1 2 0) 1 6 0) 1 7 (-1)) 131 (fillF ((sI (sI (sI (iS_6 (iH 2 I)) 1 2 0) 1 6 0) 1 7 (-1)) 131) 1 9)) 132) 1 9)) 1 11 0) 1 13 0) 135) 1 6)) 1 16 0) := (Zs (Nat.le_of_ble_eq_true rfl) z21)
  exact z22
set_option maxHeartbeats 20000000 in
set_option maxRecDepth 20000 in
theorem e_iQ_1 {d : Nat} {os : List Nat} {I : Nat → Nat → Int32} {X : Nat × (Nat → Int32)} {Q : PQ} (hos : ∀ x ∈ os, x < 1) (hz : Zf 2 I) (q : Q none (HN (137) (1 :: os) (iQ_1 I) X)) : Ev (d + 3) m_Q_new [.ref 1] (HN 2 (1 :: os) I X) Q := by
  unfold iQ_1 at q
  refine ev_start (d := d + 2) rfl rfl rfl (Nat.le_of_ble_eq_true rfl) ?_
  show Wp (Ev (d + 2)) cd_Q_new (mcs m_Q_new) none _ _ Q 0 [(0, .ref 1)] [] (HN 2 (1 :: os) I X)
  refine w_aload_n (Ev.cm _) rfl rfl ?_
  refine w_objI (Ev.cm _) rfl (Nat.le_of_ble_eq_true rfl) ?_
  refine w_aload_n (Ev.cm _) rfl rfl ?_
  refine w_new (Ev.cm _) rfl (show _ ∧ _ from ⟨show 2 + 1 ≤ 2 + (mcs m_Q_new).1 by decide +kernel, show slt 2 + 8 ≤ slt 2 + (mcs m_Q_new).2 by decide +kernel⟩) ?_
  show Wp _ _ _ _ _ _ _ 8 [(0, .ref 1)] [.ref 2, .ref 1] (puN (HN 2 (1 :: os) I X) 1 8)
  rw [hn_new (n := 2) (k := 1) (len := 8) rfl hz]
  have z1 : Zf 3 I := (Zn hz)
  refine w_dup (Ev.cm _) rfl rfl ?_
  refine w_cinit (as := []) (o := 2) (st := [.ref 2, .ref 1]) (Ev.cm _) rfl rfl rfl (Nat.le_of_ble_eq_true rfl) (show _ ∧ _ from ⟨show 3 + (mcs m_H_new).1 ≤ 2 + (mcs m_Q_new).1 by decide +kernel, show slt 3 + (mcs m_H_new).2 ≤ slt 2 + (mcs m_Q_new).2 by decide +kernel⟩) (Nat.le_of_ble_eq_true rfl) (e_iH (show isH 2 from Or.inl rfl) (subos (Nat.le_of_ble_eq_true rfl) hos) z1 ?_)
  have z2 : Zf 6 (iH 2 I) := (iH_z (b := 2) z1)
  show Wp _ _ _ _ _ _ _ 12 [(0, .ref 1)] [.ref 2, .ref 1] (HN 6 (2 :: 1 :: os) (iH 2 I) X)
  refine w_putR (Ev.cm _) rfl (Nat.le_of_ble_eq_true rfl) rfl ?_
  show Wp _ _ _ _ _ _ _ 15 [(0, .ref 1)] [] (puR (HN 6 (2 :: 1 :: os) (iH 2 I) X) 1 0 (some 2))
  rw [hn_link (o := 1) (k := 0) (q := 2) rfl (Nat.le_of_ble_eq_true rfl) (nin hos (Nat.le_of_ble_eq_true rfl))]
  refine w_aload_n (Ev.cm _) rfl rfl ?_
  refine w_new (Ev.cm _) rfl (show _ ∧ _ from ⟨show 6 + 1 ≤ 2 + (mcs m_Q_new).1 by decide +kernel, show slt 6 + 3 ≤ slt 2 + (mcs m_Q_new).2 by decide +kernel⟩) ?_
  show Wp _ _ _ _ _ _ _ 19 [(0, .ref 1)] [.ref 6, .ref 1] (puN (HN 6 (1 :: os) (iH 2 I) X) 6 3)
  rw [hn_new (n := 6) (k := 6) (len := 3) rfl z2]
  have z3 : Zf 7 (iH 2 I) := (Zn z2)
  refine w_dup (Ev.cm _) rfl rfl ?_
  refine w_cinit (as := []) (o := 6) (st := [.ref 6, .ref 1]) (Ev.cm _) rfl rfl rfl (Nat.le_of_ble_eq_true rfl) (show _ ∧ _ from ⟨show 7 + (mcs m_S_new).1 ≤ 2 + (mcs m_Q_new).1 by decide +kernel, show slt 7 + (mcs m_S_new).2 ≤ slt 2 + (mcs m_Q_new).2 by decide +kernel⟩) (Nat.le_of_ble_eq_true rfl) (e_iS_6 (subos (Nat.le_of_ble_eq_true rfl) hos) z3 ?_)
  have z4 : Zf 128 (iS_6 (iH 2 I)) := (iS_6_z z3)
  show Wp _ _ _ _ _ _ _ 23 [(0, .ref 1)] [.ref 6, .ref 1] (HN 128 (6 :: 1 :: os) (iS_6 (iH 2 I)) X)
  refine w_putR (Ev.cm _) rfl (Nat.le_of_ble_eq_true rfl) rfl ?_
  show Wp _ _ _ _ _ _ _ 26 [(0, .ref 1)] [] (puR (HN 128 (6 :: 1 :: os) (iS_6 (iH 2 I)) X) 1 1 (some 6))
  rw [hn_link (o := 1) (k := 1) (q := 6) rfl (Nat.le_of_ble_eq_true rfl) (nin hos (Nat.le_of_ble_eq_true rfl))]
  refine w_aload_n (Ev.cm _) rfl rfl ?_
  refine w_iconst (Ev.cm _) rfl ?_
  refine w_putI (Ev.cm _) rfl (Nat.le_of_ble_eq_true rfl) rfl ?_
  have z5 : Zf 128 (sI (iS_6 (iH 2 I)) 1 2 0) := (Zs (Nat.le_of_ble_eq_true rfl) z4)
  show Wp _ _ _ _ _ _ _ 31 [(0, .ref 1)] [] (HN 128 (1 :: os) (sI (iS_6 (iH 2 I)) 1 2 0) X)
  refine w_aload_n (Ev.cm _) rfl rfl ?_
  refine w_bipush (Ev.cm _) rfl ?_
  refine w_newa (Ev.cm _) rfl (by decide) (by decide) (show _ ∧ _ from ⟨show 128 + 1 ≤ 2 + (mcs m_Q_new).1 by decide +kernel, show slt 128 + 6 ≤ slt 2 + (mcs m_Q_new).2 by decide +kernel⟩) ?_
  show Wp _ _ _ _ _ _ _ 36 [(0, .ref 1)] [.ref 128, .ref 1] (puN (HN 128 (1 :: os) (sI (iS_6 (iH 2 I)) 1 2 0) X) 10 6)
  rw [hn_new (n := 128) (k := 10) (len := 6) rfl z5]
  have z6 : Zf 129 (sI (iS_6 (iH 2 I)) 1 2 0) := (Zn z5)
  refine w_putR (Ev.cm _) rfl (Nat.le_of_ble_eq_true rfl) rfl ?_
  show Wp _ _ _ _ _ _ _ 39 [(0, .ref 1)] [] (puR (HN 129 (128 :: 1 :: os) (sI (iS_6 (iH 2 I)) 1 2 0) X) 1 3 (some 128))
  rw [hn_link (o := 1) (k := 3) (q := 128) rfl (Nat.le_of_ble_eq_true rfl) (nin hos (Nat.le_of_ble_eq_true rfl))]
  refine w_aload_n (Ev.cm _) rfl rfl ?_
  refine w_bipush (Ev.cm _) rfl ?_
  refine w_newa (Ev.cm _) rfl (by decide) (by decide) (show _ ∧ _ from ⟨show 129 + 1 ≤ 2 + (mcs m_Q_new).1 by decide +kernel, show slt 129 + 6 ≤ slt 2 + (mcs m_Q_new).2 by decide +kernel⟩) ?_
  show Wp _ _ _ _ _ _ _ 44 [(0, .ref 1)] [.ref 129, .ref 1] (puN (HN 129 (1 :: os) (sI (iS_6 (iH 2 I)) 1 2 0) X) 10 6)
  rw [hn_new (n := 129) (k := 10) (len := 6) rfl z6]
  have z7 : Zf 130 (sI (iS_6 (iH 2 I)) 1 2 0) := (Zn z6)
  refine w_putR (Ev.cm _) rfl (Nat.le_of_ble_eq_true rfl) rfl ?_
  show Wp _ _ _ _ _ _ _ 47 [(0, .ref 1)] [] (puR (HN 130 (129 :: 1 :: os) (sI (iS_6 (iH 2 I)) 1 2 0) X) 1 4 (some 129))
  rw [hn_link (o := 1) (k := 4) (q := 129) rfl (Nat.le_of_ble_eq_true rfl) (nin hos (Nat.le_of_ble_eq_true rfl))]
  refine w_aload_n (Ev.cm _) rfl rfl ?_
  refine w_bipush (Ev.cm _) rfl ?_
  refine w_newa (Ev.cm _) rfl (by decide) (by decide) (show _ ∧ _ from ⟨show 130 + 1 ≤ 2 + (mcs m_Q_new).1 by decide +kernel, show slt 130 + 6 ≤ slt 2 + (mcs m_Q_new).2 by decide +kernel⟩) ?_
  show Wp _ _ _ _ _ _ _ 52 [(0, .ref 1)] [.ref 130, .ref 1] (puN (HN 130 (1 :: os) (sI (iS_6 (iH 2 I)) 1 2 0) X) 10 6)
  rw [hn_new (n := 130) (k := 10) (len := 6) rfl z7]
  have z8 : Zf 131 (sI (iS_6 (iH 2 I)) 1 2 0) := (Zn z7)
  refine w_putR (Ev.cm _) rfl (Nat.le_of_ble_eq_true rfl) rfl ?_
  show Wp _ _ _ _ _ _ _ 55 [(0, .ref 1)] [] (puR (HN 131 (130 :: 1 :: os) (sI (iS_6 (iH 2 I)) 1 2 0) X) 1 5 (some 130))
  rw [hn_link (o := 1) (k := 5) (q := 130) rfl (Nat.le_of_ble_eq_true rfl) (nin hos (Nat.le_of_ble_eq_true rfl))]
  refine w_aload_n (Ev.cm _) rfl rfl ?_
  refine w_iconst (Ev.cm _) rfl ?_
  refine w_putI (Ev.cm _) rfl (Nat.le_of_ble_eq_true rfl) rfl ?_
  have z9 : Zf 131 (sI (sI (iS_6 (iH 2 I)) 1 2 0) 1 6 0) := (Zs (Nat.le_of_ble_eq_true rfl) z8)
  show Wp _ _ _ _ _ _ _ 60 [(0, .ref 1)] [] (HN 131 (1 :: os) (sI (sI (iS_6 (iH 2 I)) 1 2 0) 1 6 0) X)
  refine w_aload_n (Ev.cm _) rfl rfl ?_
  refine w_iconst (Ev.cm _) rfl ?_
  refine w_putI (Ev.cm _) rfl (Nat.le_of_ble_eq_true rfl) rfl ?_
  have z10 : Zf 131 (sI (sI (sI (iS_6 (iH 2 I)) 1 2 0) 1 6 0) 1 7 (-1)) := (Zs (Nat.le_of_ble_eq_true rfl) z9)
  show Wp _ _ _ _ _ _ _ 65 [(0, .ref 1)] [] (HN 131 (1 :: os) (sI (sI (sI (iS_6 (iH 2 I)) 1 2 0) 1 6 0) 1 7 (-1)) X)
  refine w_aload_n (Ev.cm _) rfl rfl ?_
  refine w_bipush (Ev.cm _) rfl ?_
  refine w_newa (Ev.cm _) rfl (by decide) (by decide) (show _ ∧ _ from ⟨show 131 + 1 ≤ 2 + (mcs m_Q_new).1 by decide +kernel, show slt 131 + 9 ≤ slt 2 + (mcs m_Q_new).2 by decide +kernel⟩) ?_
  show Wp _ _ _ _ _ _ _ 70 [(0, .ref 1)] [.ref 131, .ref 1] (puN (HN 131 (1 :: os) (sI (sI (sI (iS_6 (iH 2 I)) 1 2 0) 1 6 0) 1 7 (-1)) X) 10 9)
  rw [hn_new (n := 131) (k := 10) (len := 9) rfl z10]
  have z11 : Zf 132 (sI (sI (sI (iS_6 (iH 2 I)) 1 2 0) 1 6 0) 1 7 (-1)) := (Zn z10)
  refine w_putR (Ev.cm _) rfl (Nat.le_of_ble_eq_true rfl) rfl ?_
  show Wp _ _ _ _ _ _ _ 73 [(0, .ref 1)] [] (puR (HN 132 (131 :: 1 :: os) (sI (sI (sI (iS_6 (iH 2 I)) 1 2 0) 1 6 0) 1 7 (-1)) X) 1 8 (some 131))
  rw [hn_link (o := 1) (k := 8) (q := 131) rfl (Nat.le_of_ble_eq_true rfl) (nin hos (Nat.le_of_ble_eq_true rfl))]
  refine w_aload_n (Ev.cm _) rfl rfl ?_
  refine w_bipush (Ev.cm _) rfl ?_
  refine w_newa (Ev.cm _) rfl (by decide) (by decide) (show _ ∧ _ from ⟨show 132 + 1 ≤ 2 + (mcs m_Q_new).1 by decide +kernel, show slt 132 + 9 ≤ slt 2 + (mcs m_Q_new).2 by decide +kernel⟩) ?_
  show Wp _ _ _ _ _ _ _ 78 [(0, .ref 1)] [.ref 132, .ref 1] (puN (HN 132 (1 :: os) (sI (sI (sI (iS_6 (iH 2 I)) 1 2 0) 1 6 0) 1 7 (-1)) X) 10 9)
  rw [hn_new (n := 132) (k := 10) (len := 9) rfl z11]
  have z12 : Zf 133 (sI (sI (sI (iS_6 (iH 2 I)) 1 2 0) 1 6 0) 1 7 (-1)) := (Zn z11)
  refine w_putR (Ev.cm _) rfl (Nat.le_of_ble_eq_true rfl) rfl ?_
  show Wp _ _ _ _ _ _ _ 81 [(0, .ref 1)] [] (puR (HN 133 (132 :: 1 :: os) (sI (sI (sI (iS_6 (iH 2 I)) 1 2 0) 1 6 0) 1 7 (-1)) X) 1 9 (some 132))
  rw [hn_link (o := 1) (k := 9) (q := 132) rfl (Nat.le_of_ble_eq_true rfl) (nin hos (Nat.le_of_ble_eq_true rfl))]
  refine w_aload_n (Ev.cm _) rfl rfl ?_
  refine w_getR (q := 131) (Ev.cm _) rfl (Nat.le_of_ble_eq_true rfl) rfl (rd_get (n := 133) (o := 1) (k := 8) (q := 131) rfl (Nat.le_of_ble_eq_true rfl) (nin hos (Nat.le_of_ble_eq_true rfl))) ?_
  refine w_iconst (Ev.cm _) rfl ?_
  refine w_cstat (as := [.ref 131, .int 1]) (st := []) (Ev.cm _) rfl rfl rfl (Nat.le_of_ble_eq_true rfl) (Nat.le_of_ble_eq_true rfl) (e_fill_g (n := 9) (Nat.le_of_ble_eq_true rfl) rfl (by decide) ?_)
  have z13 : Zf 133 (va_up (sI (sI (sI (iS_6 (iH 2 I)) 1 2 0) 1 6 0) 1 7 (-1)) 131 (fillF ((sI (sI (sI (iS_6 (iH 2 I)) 1 2 0) 1 6 0) 1 7 (-1)) 131) 1 9)) := (Zv (Nat.le_of_ble_eq_true rfl) z12)
  show Wp _ _ _ _ _ _ _ 89 [(0, .ref 1)] [] (HN 133 (1 :: os) (va_up (sI (sI (sI (iS_6 (iH 2 I)) 1 2 0) 1 6 0) 1 7 (-1)) 131 (fillF ((sI (sI (sI (iS_6 (iH 2 I)) 1 2 0) 1 6 0) 1 7 (-1)) 131) 1 9)) X)
  refine w_aload_n (Ev.cm _) rfl rfl ?_
  refine w_getR (q := 132) (Ev.cm _) rfl (Nat.le_of_ble_eq_true rfl) rfl (rd_get (n := 133) (o := 1) (k := 9) (q := 132) rfl (Nat.le_of_ble_eq_true rfl) (nin hos (Nat.le_of_ble_eq_true rfl))) ?_
  refine w_iconst (Ev.cm _) rfl ?_
  refine w_cstat (as := [.ref 132, .int 1]) (st := []) (Ev.cm _) rfl rfl rfl (Nat.le_of_ble_eq_true rfl) (Nat.le_of_ble_eq_true rfl) (e_fill_g (n := 9) (Nat.le_of_ble_eq_true rfl) rfl (by decide) ?_)
  have z14 : Zf 133 (va_up (va_up (sI (sI (sI (iS_6 (iH 2 I)) 1 2 0) 1 6 0) 1 7 (-1)) 131 (fillF ((sI (sI (sI (iS_6 (iH 2 I)) 1 2 0) 1 6 0) 1 7 (-1)) 131) 1 9)) 132 (fillF ((va_up (sI (sI (sI (iS_6 (iH 2 I)) 1 2 0) 1 6 0) 1 7 (-1)) 131 (fillF ((sI (sI (sI (iS_6 (iH 2 I)) 1 2 0) 1 6 0) 1 7 (-1)) 131) 1 9)) 132) 1 9)) := (Zv (Nat.le_of_ble_eq_true rfl) z13)
  show Wp _ _ _ _ _ _ _ 97 [(0, .ref 1)] [] (HN 133 (1 :: os) (va_up (va_up (sI (sI (sI (iS_6 (iH 2 I)) 1 2 0) 1 6 0) 1 7 (-1)) 131 (fillF ((sI (sI (sI (iS_6 (iH 2 I)) 1 2 0) 1 6 0) 1 7 (-1)) 131) 1 9)) 132 (fillF ((va_up (sI (sI (sI (iS_6 (iH 2 I)) 1 2 0) 1 6 0) 1 7 (-1)) 131 (fillF ((sI (sI (sI (iS_6 (iH 2 I)) 1 2 0) 1 6 0) 1 7 (-1)) 131) 1 9)) 132) 1 9)) X)
  refine w_aload_n (Ev.cm _) rfl rfl ?_
  refine w_bipush (Ev.cm _) rfl ?_
  refine w_newa (Ev.cm _) rfl (by decide) (by decide) (show _ ∧ _ from ⟨show 133 + 1 ≤ 2 + (mcs m_Q_new).1 by decide +kernel, show slt 133 + 6 ≤ slt 2 + (mcs m_Q_new).2 by decide +kernel⟩) ?_
  show Wp _ _ _ _ _ _ _ 102 [(0, .ref 1)] [.ref 133, .ref 1] (puN (HN 133 (1 :: os) (va_up (va_up (sI (sI (sI (iS_6 (iH 2 I)) 1 2 0) 1 6 0) 1 7 (-1)) 131 (fillF ((sI (sI (sI (iS_6 (iH 2 I)) 1 2 0) 1 6 0) 1 7 (-1)) 131) 1 9)) 132 (fillF ((va_up (sI (sI (sI (iS_6 (iH 2 I)) 1 2 0) 1 6 0) 1 7 (-1)) 131 (fillF ((sI (sI (sI (iS_6 (iH 2 I)) 1 2 0) 1 6 0) 1 7 (-1)) 131) 1 9)) 132) 1 9)) X) 10 6)
  rw [hn_new (n := 133) (k := 10) (len := 6) rfl z14]
  have z15 : Zf 134 (va_up (va_up (sI (sI (sI (iS_6 (iH 2 I)) 1 2 0) 1 6 0) 1 7 (-1)) 131 (fillF ((sI (sI (sI (iS_6 (iH 2 I)) 1 2 0) 1 6 0) 1 7 (-1)) 131) 1 9)) 132 (fillF ((va_up (sI (sI (sI (iS_6 (iH 2 I)) 1 2 0) 1 6 0) 1 7 (-1)) 131 (fillF ((sI (sI (sI (iS_6 (iH 2 I)) 1 2 0) 1 6 0) 1 7 (-1)) 131) 1 9)) 132) 1 9)) := (Zn z14)
  refine w_putR (Ev.cm _) rfl (Nat.le_of_ble_eq_true rfl) rfl ?_
  show Wp _ _ _ _ _ _ _ 105 [(0, .ref 1)] [] (puR (HN 134 (133 :: 1 :: os) (va_up (va_up (sI (sI (sI (iS_6 (iH 2 I)) 1 2 0) 1 6 0) 1 7 (-1)) 131 (fillF ((sI (sI (sI (iS_6 (iH 2 I)) 1 2 0) 1 6 0) 1 7 (-1)) 131) 1 9)) 132 (fillF ((va_up (sI (sI (sI (iS_6 (iH 2 I)) 1 2 0) 1 6 0) 1 7 (-1)) 131 (fillF ((sI (sI (sI (iS_6 (iH 2 I)) 1 2 0) 1 6 0) 1 7 (-1)) 131) 1 9)) 132) 1 9)) X) 1 10 (some 133))
  rw [hn_link (o := 1) (k := 10) (q := 133) rfl (Nat.le_of_ble_eq_true rfl) (nin hos (Nat.le_of_ble_eq_true rfl))]
  refine w_aload_n (Ev.cm _) rfl rfl ?_
  refine w_iconst (Ev.cm _) rfl ?_
  refine w_putI (Ev.cm _) rfl (Nat.le_of_ble_eq_true rfl) rfl ?_
  have z16 : Zf 134 (sI (va_up (va_up (sI (sI (sI (iS_6 (iH 2 I)) 1 2 0) 1 6 0) 1 7 (-1)) 131 (fillF ((sI (sI (sI (iS_6 (iH 2 I)) 1 2 0) 1 6 0) 1 7 (-1)) 131) 1 9)) 132 (fillF ((va_up (sI (sI (sI (iS_6 (iH 2 I)) 1 2 0) 1 6 0) 1 7 (-1)) 131 (fillF ((sI (sI (sI (iS_6 (iH 2 I)) 1 2 0) 1 6 0) 1 7 (-1)) 131) 1 9)) 132) 1 9)) 1 11 0) := (Zs (Nat.le_of_ble_eq_true rfl) z15)
  show Wp _ _ _ _ _ _ _ 110 [(0, .ref 1)] [] (HN 134 (1 :: os) (sI (va_up (va_up (sI (sI (sI (iS_6 (iH 2 I)) 1 2 0) 1 6 0) 1 7 (-1)) 131 (fillF ((sI (sI (sI (iS_6 (iH 2 I)) 1 2 0) 1 6 0) 1 7 (-1)) 131) 1 9)) 132 (fillF ((va_up (sI (sI (sI (iS_6 (iH 2 I)) 1 2 0) 1 6 0) 1 7 (-1)) 131 (fillF ((sI (sI (sI (iS_6 (iH 2 I)) 1 2 0) 1 6 0) 1 7 (-1)) 131) 1 9)) 132) 1 9)) 1 11 0) X)
  refine w_aload_n (Ev.cm _) rfl rfl ?_
  refine w_iconst (Ev.cm _) rfl ?_
  refine w_newa (Ev.cm _) rfl (by decide) (by decide) (show _ ∧ _ from ⟨show 134 + 1 ≤ 2 + (mcs m_Q_new).1 by decide +kernel, show slt 134 + 5 ≤ slt 2 + (mcs m_Q_new).2 by decide +kernel⟩) ?_
  show Wp _ _ _ _ _ _ _ 114 [(0, .ref 1)] [.ref 134, .ref 1] (puN (HN 134 (1 :: os) (sI (va_up (va_up (sI (sI (sI (iS_6 (iH 2 I)) 1 2 0) 1 6 0) 1 7 (-1)) 131 (fillF ((sI (sI (sI (iS_6 (iH 2 I)) 1 2 0) 1 6 0) 1 7 (-1)) 131) 1 9)) 132 (fillF ((va_up (sI (sI (sI (iS_6 (iH 2 I)) 1 2 0) 1 6 0) 1 7 (-1)) 131 (fillF ((sI (sI (sI (iS_6 (iH 2 I)) 1 2 0) 1 6 0) 1 7 (-1)) 131) 1 9)) 132) 1 9)) 1 11 0) X) 10 5)
  rw [hn_new (n := 134) (k := 10) (len := 5) rfl z16]
  have z17 : Zf 135 (sI (va_up (va_up (sI (sI (sI (iS_6 (iH 2 I)) 1 2 0) 1 6 0) 1 7 (-1)) 131 (fillF ((sI (sI (sI (iS_6 (iH 2 I)) 1 2 0) 1 6 0) 1 7 (-1)) 131) 1 9)) 132 (fillF ((va_up (sI (sI (sI (iS_6 (iH 2 I)) 1 2 0) 1 6 0) 1 7 (-1)) 131 (fillF ((sI (sI (sI (iS_6 (iH 2 I)) 1 2 0) 1 6 0) 1 7 (-1)) 131) 1 9)) 132) 1 9)) 1 11 0) := (Zn z16)
  refine w_putR (Ev.cm _) rfl (Nat.le_of_ble_eq_true rfl) rfl ?_
  show Wp _ _ _ _ _ _ _ 117 [(0, .ref 1)] [] (puR (HN 135 (134 :: 1 :: os) (sI (va_up (va_up (sI (sI (sI (iS_6 (iH 2 I)) 1 2 0) 1 6 0) 1 7 (-1)) 131 (fillF ((sI (sI (sI (iS_6 (iH 2 I)) 1 2 0) 1 6 0) 1 7 (-1)) 131) 1 9)) 132 (fillF ((va_up (sI (sI (sI (iS_6 (iH 2 I)) 1 2 0) 1 6 0) 1 7 (-1)) 131 (fillF ((sI (sI (sI (iS_6 (iH 2 I)) 1 2 0) 1 6 0) 1 7 (-1)) 131) 1 9)) 132) 1 9)) 1 11 0) X) 1 12 (some 134))
  rw [hn_link (o := 1) (k := 12) (q := 134) rfl (Nat.le_of_ble_eq_true rfl) (nin hos (Nat.le_of_ble_eq_true rfl))]
  refine w_aload_n (Ev.cm _) rfl rfl ?_
  refine w_iconst (Ev.cm _) rfl ?_
  refine w_putI (Ev.cm _) rfl (Nat.le_of_ble_eq_true rfl) rfl ?_
  have z18 : Zf 135 (sI (sI (va_up (va_up (sI (sI (sI (iS_6 (iH 2 I)) 1 2 0) 1 6 0) 1 7 (-1)) 131 (fillF ((sI (sI (sI (iS_6 (iH 2 I)) 1 2 0) 1 6 0) 1 7 (-1)) 131) 1 9)) 132 (fillF ((va_up (sI (sI (sI (iS_6 (iH 2 I)) 1 2 0) 1 6 0) 1 7 (-1)) 131 (fillF ((sI (sI (sI (iS_6 (iH 2 I)) 1 2 0) 1 6 0) 1 7 (-1)) 131) 1 9)) 132) 1 9)) 1 11 0) 1 13 0) := (Zs (Nat.le_of_ble_eq_true rfl) z17)
  show Wp _ _ _ _ _ _ _ 122 [(0, .ref 1)] [] (HN 135 (1 :: os) (sI (sI (va_up (va_up (sI (sI (sI (iS_6 (iH 2 I)) 1 2 0) 1 6 0) 1 7 (-1)) 131 (fillF ((sI (sI (sI (iS_6 (iH 2 I)) 1 2 0) 1 6 0) 1 7 (-1)) 131) 1 9)) 132 (fillF ((va_up (sI (sI (sI (iS_6 (iH 2 I)) 1 2 0) 1 6 0) 1 7 (-1)) 131 (fillF ((sI (sI (sI (iS_6 (iH 2 I)) 1 2 0) 1 6 0) 1 7 (-1)) 131) 1 9)) 132) 1 9)) 1 11 0) 1 13 0) X)
  refine w_aload_n (Ev.cm _) rfl rfl ?_
  refine w_bipush (Ev.cm _) rfl ?_
  refine w_newa (Ev.cm _) rfl (by decide) (by decide) (show _ ∧ _ from ⟨show 135 + 1 ≤ 2 + (mcs m_Q_new).1 by decide +kernel, show slt 135 + 6 ≤ slt 2 + (mcs m_Q_new).2 by decide +kernel⟩) ?_
  show Wp _ _ _ _ _ _ _ 127 [(0, .ref 1)] [.ref 135, .ref 1] (puN (HN 135 (1 :: os) (sI (sI (va_up (va_up (sI (sI (sI (iS_6 (iH 2 I)) 1 2 0) 1 6 0) 1 7 (-1)) 131 (fillF ((sI (sI (sI (iS_6 (iH 2 I)) 1 2 0) 1 6 0) 1 7 (-1)) 131) 1 9)) 132 (fillF ((va_up (sI (sI (sI (iS_6 (iH 2 I)) 1 2 0) 1 6 0) 1 7 (-1)) 131 (fillF ((sI (sI (sI (iS_6 (iH 2 I)) 1 2 0) 1 6 0) 1 7 (-1)) 131) 1 9)) 132) 1 9)) 1 11 0) 1 13 0) X) 10 6)
  rw [hn_new (n := 135) (k := 10) (len := 6) rfl z18]
  have z19 : Zf 136 (sI (sI (va_up (va_up (sI (sI (sI (iS_6 (iH 2 I)) 1 2 0) 1 6 0) 1 7 (-1)) 131 (fillF ((sI (sI (sI (iS_6 (iH 2 I)) 1 2 0) 1 6 0) 1 7 (-1)) 131) 1 9)) 132 (fillF ((va_up (sI (sI (sI (iS_6 (iH 2 I)) 1 2 0) 1 6 0) 1 7 (-1)) 131 (fillF ((sI (sI (sI (iS_6 (iH 2 I)) 1 2 0) 1 6 0) 1 7 (-1)) 131) 1 9)) 132) 1 9)) 1 11 0) 1 13 0) := (Zn z18)
  refine w_putR (Ev.cm _) rfl (Nat.le_of_ble_eq_true rfl) rfl ?_
  show Wp _ _ _ _ _ _ _ 130 [(0, .ref 1)] [] (puR (HN 136 (135 :: 1 :: os) (sI (sI (va_up (va_up (sI (sI (sI (iS_6 (iH 2 I)) 1 2 0) 1 6 0) 1 7 (-1)) 131 (fillF ((sI (sI (sI (iS_6 (iH 2 I)) 1 2 0) 1 6 0) 1 7 (-1)) 131) 1 9)) 132 (fillF ((va_up (sI (sI (sI (iS_6 (iH 2 I)) 1 2 0) 1 6 0) 1 7 (-1)) 131 (fillF ((sI (sI (sI (iS_6 (iH 2 I)) 1 2 0) 1 6 0) 1 7 (-1)) 131) 1 9)) 132) 1 9)) 1 11 0) 1 13 0) X) 1 14 (some 135))
  rw [hn_link (o := 1) (k := 14) (q := 135) rfl (Nat.le_of_ble_eq_true rfl) (nin hos (Nat.le_of_ble_eq_true rfl))]
  refine w_aload_n (Ev.cm _) rfl rfl ?_
  refine w_getR (q := 135) (Ev.cm _) rfl (Nat.le_of_ble_eq_true rfl) rfl (rd_get (n := 136) (o := 1) (k := 14) (q := 135) rfl (Nat.le_of_ble_eq_true rfl) (nin hos (Nat.le_of_ble_eq_true rfl))) ?_
  refine w_iconst (Ev.cm _) rfl ?_
  refine w_cstat (as := [.ref 135, .int 1]) (st := []) (Ev.cm _) rfl rfl rfl (Nat.le_of_ble_eq_true rfl) (Nat.le_of_ble_eq_true rfl) (e_fill_g (n := 6) (Nat.le_of_ble_eq_true rfl) rfl (by decide) ?_)
  have z20 : Zf 136 (va_up (sI (sI (va_up (va_up (sI (sI (sI (iS_6 (iH 2 I)) 1 2 0) 1 6 0) 1 7 (-1)) 131 (fillF ((sI (sI (sI (iS_6 (iH 2 I)) 1 2 0) 1 6 0) 1 7 (-1)) 131) 1 9)) 132 (fillF ((va_up (sI (sI (sI (iS_6 (iH 2 I)) 1 2 0) 1 6 0) 1 7 (-1)) 131 (fillF ((sI (sI (sI (iS_6 (iH 2 I)) 1 2 0) 1 6 0) 1 7 (-1)) 131) 1 9)) 132) 1 9)) 1 11 0) 1 13 0) 135 (fillF ((sI (sI (va_up (va_up (sI (sI (sI (iS_6 (iH 2 I)) 1 2 0) 1 6 0) 1 7 (-1)) 131 (fillF ((sI (sI (sI (iS_6 (iH 2 I)) 1 2 0) 1 6 0) 1 7 (-1)) 131) 1 9)) 132 (fillF ((va_up (sI (sI (sI (iS_6 (iH 2 I)) 1 2 0) 1 6 0) 1 7 (-1)) 131 (fillF ((sI (sI (sI (iS_6 (iH 2 I)) 1 2 0) 1 6 0) 1 7 (-1)) 131) 1 9)) 132) 1 9)) 1 11 0) 1 13 0) 135) 1 6)) := (Zv (Nat.le_of_ble_eq_true rfl) z19)
  show Wp _ _ _ _ _ _ _ 138 [(0, .ref 1)] [] (HN 136 (1 :: os) (va_up (sI (sI (va_up (va_up (sI (sI (sI (iS_6 (iH 2 I)) 1 2 0) 1 6 0) 1 7 (-1)) 131 (fillF ((sI (sI (sI (iS_6 (iH 2 I)) 1 2 0) 1 6 0) 1 7 (-1)) 131) 1 9)) 132 (fillF ((va_up (sI (sI (sI (iS_6 (iH 2 I)) 1 2 0) 1 6 0) 1 7 (-1)) 131 (fillF ((sI (sI (sI (iS_6 (iH 2 I)) 1 2 0) 1 6 0) 1 7 (-1)) 131) 1 9)) 132) 1 9)) 1 11 0) 1 13 0) 135 (fillF ((sI (sI (va_up (va_up (sI (sI (sI (iS_6 (iH 2 I)) 1 2 0) 1 6 0) 1 7 (-1)) 131 (fillF ((sI (sI (sI (iS_6 (iH 2 I)) 1 2 0) 1 6 0) 1 7 (-1)) 131) 1 9)) 132 (fillF ((va_up (sI (sI (sI (iS_6 (iH 2 I)) 1 2 0) 1 6 0) 1 7 (-1)) 131 (fillF ((sI (sI (sI (iS_6 (iH 2 I)) 1 2 0) 1 6 0) 1 7 (-1)) 131) 1 9)) 132) 1 9)) 1 11 0) 1 13 0) 135) 1 6)) X)
  refine w_aload_n (Ev.cm _) rfl rfl ?_
  refine w_bipush (Ev.cm _) rfl ?_
  refine w_newa (Ev.cm _) rfl (by decide) (by decide) (show _ ∧ _ from ⟨show 136 + 1 ≤ 2 + (mcs m_Q_new).1 by decide +kernel, show slt 136 + 24 ≤ slt 2 + (mcs m_Q_new).2 by decide +kernel⟩) ?_
  show Wp _ _ _ _ _ _ _ 143 [(0, .ref 1)] [.ref 136, .ref 1] (puN (HN 136 (1 :: os) (va_up (sI (sI (va_up (va_up (sI (sI (sI (iS_6 (iH 2 I)) 1 2 0) 1 6 0) 1 7 (-1)) 131 (fillF ((sI (sI (sI (iS_6 (iH 2 I)) 1 2 0) 1 6 0) 1 7 (-1)) 131) 1 9)) 132 (fillF ((va_up (sI (sI (sI (iS_6 (iH 2 I)) 1 2 0) 1 6 0) 1 7 (-1)) 131 (fillF ((sI (sI (sI (iS_6 (iH 2 I)) 1 2 0) 1 6 0) 1 7 (-1)) 131) 1 9)) 132) 1 9)) 1 11 0) 1 13 0) 135 (fillF ((sI (sI (va_up (va_up (sI (sI (sI (iS_6 (iH 2 I)) 1 2 0) 1 6 0) 1 7 (-1)) 131 (fillF ((sI (sI (sI (iS_6 (iH 2 I)) 1 2 0) 1 6 0) 1 7 (-1)) 131) 1 9)) 132 (fillF ((va_up (sI (sI (sI (iS_6 (iH 2 I)) 1 2 0) 1 6 0) 1 7 (-1)) 131 (fillF ((sI (sI (sI (iS_6 (iH 2 I)) 1 2 0) 1 6 0) 1 7 (-1)) 131) 1 9)) 132) 1 9)) 1 11 0) 1 13 0) 135) 1 6)) X) 10 24)
  rw [hn_new (n := 136) (k := 10) (len := 24) rfl z20]
  have z21 : Zf 137 (va_up (sI (sI (va_up (va_up (sI (sI (sI (iS_6 (iH 2 I)) 1 2 0) 1 6 0) 1 7 (-1)) 131 (fillF ((sI (sI (sI (iS_6 (iH 2 I)) 1 2 0) 1 6 0) 1 7 (-1)) 131) 1 9)) 132 (fillF ((va_up (sI (sI (sI (iS_6 (iH 2 I)) 1 2 0) 1 6 0) 1 7 (-1)) 131 (fillF ((sI (sI (sI (iS_6 (iH 2 I)) 1 2 0) 1 6 0) 1 7 (-1)) 131) 1 9)) 132) 1 9)) 1 11 0) 1 13 0) 135 (fillF ((sI (sI (va_up (va_up (sI (sI (sI (iS_6 (iH 2 I)) 1 2 0) 1 6 0) 1 7 (-1)) 131 (fillF ((sI (sI (sI (iS_6 (iH 2 I)) 1 2 0) 1 6 0) 1 7 (-1)) 131) 1 9)) 132 (fillF ((va_up (sI (sI (sI (iS_6 (iH 2 I)) 1 2 0) 1 6 0) 1 7 (-1)) 131 (fillF ((sI (sI (sI (iS_6 (iH 2 I)) 1 2 0) 1 6 0) 1 7 (-1)) 131) 1 9)) 132) 1 9)) 1 11 0) 1 13 0) 135) 1 6)) := (Zn z20)
  refine w_putR (Ev.cm _) rfl (Nat.le_of_ble_eq_true rfl) rfl ?_
  show Wp _ _ _ _ _ _ _ 146 [(0, .ref 1)] [] (puR (HN 137 (136 :: 1 :: os) (va_up (sI (sI (va_up (va_up (sI (sI (sI (iS_6 (iH 2 I)) 1 2 0) 1 6 0) 1 7 (-1)) 131 (fillF ((sI (sI (sI (iS_6 (iH 2 I)) 1 2 0) 1 6 0) 1 7 (-1)) 131) 1 9)) 132 (fillF ((va_up (sI (sI (sI (iS_6 (iH 2 I)) 1 2 0) 1 6 0) 1 7 (-1)) 131 (fillF ((sI (sI (sI (iS_6 (iH 2 I)) 1 2 0) 1 6 0) 1 7 (-1)) 131) 1 9)) 132) 1 9)) 1 11 0) 1 13 0) 135 (fillF ((sI (sI (va_up (va_up (sI (sI (sI (iS_6 (iH 2 I)) 1 2 0) 1 6 0) 1 7 (-1)) 131 (fillF ((sI (sI (sI (iS_6 (iH 2 I)) 1 2 0) 1 6 0) 1 7 (-1)) 131) 1 9)) 132 (fillF ((va_up (sI (sI (sI (iS_6 (iH 2 I)) 1 2 0) 1 6 0) 1 7 (-1)) 131 (fillF ((sI (sI (sI (iS_6 (iH 2 I)) 1 2 0) 1 6 0) 1 7 (-1)) 131) 1 9)) 132) 1 9)) 1 11 0) 1 13 0) 135) 1 6)) X) 1 15 (some 136))
  rw [hn_link (o := 1) (k := 15) (q := 136) rfl (Nat.le_of_ble_eq_true rfl) (nin hos (Nat.le_of_ble_eq_true rfl))]
  refine w_aload_n (Ev.cm _) rfl rfl ?_
  refine w_iconst (Ev.cm _) rfl ?_
  refine w_putI (Ev.cm _) rfl (Nat.le_of_ble_eq_true rfl) rfl ?_
  have z22 : Zf 137 (sI (va_up (sI (sI (va_up (va_up (sI (sI (sI (iS_6 (iH 2 I)) 1 2 0) 1 6 0) 1 7 (-1)) 131 (fillF ((sI (sI (sI (iS_6 (iH 2 I)) 1 2 0) 1 6 0) 1 7 (-1)) 131) 1 9)) 132 (fillF ((va_up (sI (sI (sI (iS_6 (iH 2 I)) 1 2 0) 1 6 0) 1 7 (-1)) 131 (fillF ((sI (sI (sI (iS_6 (iH 2 I)) 1 2 0) 1 6 0) 1 7 (-1)) 131) 1 9)) 132) 1 9)) 1 11 0) 1 13 0) 135 (fillF ((sI (sI (va_up (va_up (sI (sI (sI (iS_6 (iH 2 I)) 1 2 0) 1 6 0) 1 7 (-1)) 131 (fillF ((sI (sI (sI (iS_6 (iH 2 I)) 1 2 0) 1 6 0) 1 7 (-1)) 131) 1 9)) 132 (fillF ((va_up (sI (sI (sI (iS_6 (iH 2 I)) 1 2 0) 1 6 0) 1 7 (-1)) 131 (fillF ((sI (sI (sI (iS_6 (iH 2 I)) 1 2 0) 1 6 0) 1 7 (-1)) 131) 1 9)) 132) 1 9)) 1 11 0) 1 13 0) 135) 1 6)) 1 16 0) := (Zs (Nat.le_of_ble_eq_true rfl) z21)
  show Wp _ _ _ _ _ _ _ 151 [(0, .ref 1)] [] (HN 137 (1 :: os) (sI (va_up (sI (sI (va_up (va_up (sI (sI (sI (iS_6 (iH 2 I)) 1 2 0) 1 6 0) 1 7 (-1)) 131 (fillF ((sI (sI (sI (iS_6 (iH 2 I)) 1 2 0) 1 6 0) 1 7 (-1)) 131) 1 9)) 132 (fillF ((va_up (sI (sI (sI (iS_6 (iH 2 I)) 1 2 0) 1 6 0) 1 7 (-1)) 131 (fillF ((sI (sI (sI (iS_6 (iH 2 I)) 1 2 0) 1 6 0) 1 7 (-1)) 131) 1 9)) 132) 1 9)) 1 11 0) 1 13 0) 135 (fillF ((sI (sI (va_up (va_up (sI (sI (sI (iS_6 (iH 2 I)) 1 2 0) 1 6 0) 1 7 (-1)) 131 (fillF ((sI (sI (sI (iS_6 (iH 2 I)) 1 2 0) 1 6 0) 1 7 (-1)) 131) 1 9)) 132 (fillF ((va_up (sI (sI (sI (iS_6 (iH 2 I)) 1 2 0) 1 6 0) 1 7 (-1)) 131 (fillF ((sI (sI (sI (iS_6 (iH 2 I)) 1 2 0) 1 6 0) 1 7 (-1)) 131) 1 9)) 132) 1 9)) 1 11 0) 1 13 0) 135) 1 6)) 1 16 0) X)
  refine w_return (Ev.cm _) rfl rfl (Or.inr ⟨(show 137 = 2 + (mcs m_Q_new).1 by decide +kernel), (show slt 137 = slt 2 + (mcs m_Q_new).2 by decide +kernel)⟩) ?_
  exact q
def iQ_137 (I : Nat → Nat → Int32) : Nat → Nat → Int32 := sI (va_up (sI (sI (va_up (va_up (sI (sI (sI (iS_142 (iH 138 I)) 137 2 0) 137 6 0) 137 7 (-1)) 267 (fillF ((sI (sI (sI (iS_142 (iH 138 I)) 137 2 0) 137 6 0) 137 7 (-1)) 267) 1 9)) 268 (fillF ((va_up (sI (sI (sI (iS_142 (iH 138 I)) 137 2 0) 137 6 0) 137 7 (-1)) 267 (fillF ((sI (sI (sI (iS_142 (iH 138 I)) 137 2 0) 137 6 0) 137 7 (-1)) 267) 1 9)) 268) 1 9)) 137 11 0) 137 13 0) 271 (fillF ((sI (sI (va_up (va_up (sI (sI (sI (iS_142 (iH 138 I)) 137 2 0) 137 6 0) 137 7 (-1)) 267 (fillF ((sI (sI (sI (iS_142 (iH 138 I)) 137 2 0) 137 6 0) 137 7 (-1)) 267) 1 9)) 268 (fillF ((va_up (sI (sI (sI (iS_142 (iH 138 I)) 137 2 0) 137 6 0) 137 7 (-1)) 267 (fillF ((sI (sI (sI (iS_142 (iH 138 I)) 137 2 0) 137 6 0) 137 7 (-1)) 267) 1 9)) 268) 1 9)) 137 11 0) 137 13 0) 271) 1 6)) 137 16 0
theorem iQ_137_z {I : Nat → Nat → Int32} (hz : Zf 138 I) : Zf (273) (iQ_137 I) := by
  unfold iQ_137
  have z1 : Zf 139 I := (Zn hz)
  have z2 : Zf 142 (iH 138 I) := (iH_z (b := 138) z1)
  have z3 : Zf 143 (iH 138 I) := (Zn z2)
  have z4 : Zf 264 (iS_142 (iH 138 I)) := (iS_142_z z3)
  have z5 : Zf 264 (sI (iS_142 (iH 138 I)) 137 2 0) := (Zs (Nat.le_of_ble_eq_true rfl) z4)
  have z6 : Zf 265 (sI (iS_142 (iH 138 I)) 137 2 0) := (Zn z5)
  have z7 : Zf 266 (sI (iS_142 (iH 138 I)) 137 2 0) := (Zn z6)
  have z8 : Zf 267 (sI (iS_142 (iH 138 I)) 137 2 0) := (Zn z7)
  have z9 : Zf 267 (sI (sI (iS_142 (iH 138 I)) 137 2 0) 137 6 0) := (Zs (Nat.le_of_ble_eq_true rfl) z8)
  have z10 : Zf 267 (sI (sI (sI (iS_142 (iH 138 I)) 137 2 0) 137 6 0) 137 7 (-1)) := (Zs (Nat.le_of_ble_eq_true rfl) z9)
  have z11 : Zf 268 (sI (sI (sI (iS_142 (iH 138 I)) 137 2 0) 137 6 0) 137 7 (-1)) := (Zn z10)
  have z12 : Zf 269 (sI (sI (sI (iS_142 (iH 138 I)) 137 2 0) 137 6 0) 137 7 (-1)) := (Zn z11)
  have z13 : Zf 269 (va_up (sI (sI (sI (iS_142 (iH 138 I)) 137 2 0) 137 6 0) 137 7 (-1)) 267 (fillF ((sI (sI (sI (iS_142 (iH 138 I)) 137 2 0) 137 6 0) 137 7 (-1)) 267) 1 9)) := (Zv (Nat.le_of_ble_eq_true rfl) z12)
  have z14 : Zf 269 (va_up (va_up (sI (sI (sI (iS_142 (iH 138 I)) 137 2 0) 137 6 0) 137 7 (-1)) 267 (fillF ((sI (sI (sI (iS_142 (iH 138 I)) 137 2 0) 137 6 0) 137 7 (-1)) 267) 1 9)) 268 (fillF ((va_up (sI (sI (sI (iS_142 (iH 138 I)) 137 2 0) 137 6 0) 137 7 (-1)) 267 (fillF ((sI (sI (sI (iS_142 (iH 138 I)) 137 2 0) 137 6 0) 137 7 (-1)) 267) 1 9)) 268) 1 9)) := (Zv (Nat.le_of_ble_eq_true rfl) z13)
  have z15 : Zf 270 (va_up (va_up (sI (sI (sI (iS_142 (iH 138 I)) 137 2 0) 137 6 0) 137 7 (-1)) 267 (fillF ((sI (sI (sI (iS_142 (iH 138 I)) 137 2 0) 137 6 0) 137 7 (-1)) 267) 1 9)) 268 (fillF ((va_up (sI (sI (sI (iS_142 (iH 138 I)) 137 2 0) 137 6 0) 137 7 (-1)) 267 (fillF ((sI (sI (sI (iS_142 (iH 138 I)) 137 2 0) 137 6 0) 137 7 (-1)) 267) 1 9)) 268) 1 9)) := (Zn z14)
  have z16 : Zf 270 (sI (va_up (va_up (sI (sI (sI (iS_142 (iH 138 I)) 137 2 0) 137 6 0) 137 7 (-1)) 267 (fillF ((sI (sI (sI (iS_142 (iH 138 I)) 137 2 0) 137 6 0) 137 7 (-1)) 267) 1 9)) 268 (fillF ((va_up (sI (sI (sI (iS_142 (iH 138 I)) 137 2 0) 137 6 0) 137 7 (-1)) 267 (fillF ((sI (sI (sI (iS_142 (iH 138 I)) 137 2 0) 137 6 0) 137 7 (-1)) 267) 1 9)) 268) 1 9)) 137 11 0) := (Zs (Nat.le_of_ble_eq_true rfl) z15)
  have z17 : Zf 271 (sI (va_up (va_up (sI (sI (sI (iS_142 (iH 138 I)) 137 2 0) 137 6 0) 137 7 (-1)) 267 (fillF ((sI (sI (sI (iS_142 (iH 138 I)) 137 2 0) 137 6 0) 137 7 (-1)) 267) 1 9)) 268 (fillF ((va_up (sI (sI (sI (iS_142 (iH 138 I)) 137 2 0) 137 6 0) 137 7 (-1)) 267 (fillF ((sI (sI (sI (iS_142 (iH 138 I)) 137 2 0) 137 6 0) 137 7 (-1)) 267) 1 9)) 268) 1 9)) 137 11 0) := (Zn z16)
  have z18 : Zf 271 (sI (sI (va_up (va_up (sI (sI (sI (iS_142 (iH 138 I)) 137 2 0) 137 6 0) 137 7 (-1)) 267 (fillF ((sI (sI (sI (iS_142 (iH 138 I)) 137 2 0) 137 6 0) 137 7 (-1)) 267) 1 9)) 268 (fillF ((va_up (sI (sI (sI (iS_142 (iH 138 I)) 137 2 0) 137 6 0) 137 7 (-1)) 267 (fillF ((sI (sI (sI (iS_142 (iH 138 I)) 137 2 0) 137 6 0) 137 7 (-1)) 267) 1 9)) 268) 1 9)) 137 11 0) 137 13 0) := (Zs (Nat.le_of_ble_eq_true rfl) z17)
  have z19 : Zf 272 (sI (sI (va_up (va_up (sI (sI (sI (iS_142 (iH 138 I)) 137 2 0) 137 6 0) 137 7 (-1)) 267 (fillF ((sI (sI (sI (iS_142 (iH 138 I)) 137 2 0) 137 6 0) 137 7 (-1)) 267) 1 9)) 268 (fillF ((va_up (sI (sI (sI (iS_142 (iH 138 I)) 137 2 0) 137 6 0) 137 7 (-1)) 267 (fillF ((sI (sI (sI (iS_142 (iH 138 I)) 137 2 0) 137 6 0) 137 7 (-1)) 267) 1 9)) 268) 1 9)) 137 11 0) 137 13 0) := (Zn z18)
  have z20 : Zf 272 (va_up (sI (sI (va_up (va_up (sI (sI (sI (iS_142 (iH 138 I)) 137 2 0) 137 6 0) 137 7 (-1)) 267 (fillF ((sI (sI (sI (iS_142 (iH 138 I)) 137 2 0) 137 6 0) 137 7 (-1)) 267) 1 9)) 268 (fillF ((va_up (sI (sI (sI (iS_142 (iH 138 I)) 137 2 0) 137 6 0) 137 7 (-1)) 267 (fillF ((sI (sI (sI (iS_142 (iH 138 I)) 137 2 0) 137 6 0) 137 7 (-1)) 267) 1 9)) 268) 1 9)) 137 11 0) 137 13 0) 271 (fillF ((sI (sI (va_up (va_up (sI (sI (sI (iS_142 (iH 138 I)) 137 2 0) 137 6 0) 137 7 (-1)) 267 (fillF ((sI (sI (sI (iS_142 (iH 138 I)) 137 2 0) 137 6 0) 137 7 (-1)) 267) 1 9)) 268 (fillF ((va_up (sI (sI (sI (iS_142 (iH 138 I)) 137 2 0) 137 6 0) 137 7 (-1)) 267 (fillF ((sI (sI (sI (iS_142 (iH 138 I)) 137 2 0) 137 6 0) 137 7 (-1)) 267) 1 9)) 268) 1 9)) 137 11 0) 137 13 0) 271) 1 6)) := (Zv (Nat.le_of_ble_eq_true rfl) z19)
  have z21 : Zf 273 (va_up (sI (sI (va_up (va_up (sI (sI (sI (iS_142 (iH 138 I)) 137 2 0) 137 6 0) 137 7 (-1)) 267 (fillF ((sI (sI (sI (iS_142 (iH 138 I)) 137 2 0) 137 6 0) 137 7 (-1)) 267) 1 9)) 268 (fillF ((va_up (sI (sI (sI (iS_142 (iH 138 I)) 137 2 0) 137 6 0) 137 7 (-1)) 267 (fillF ((sI (sI (sI (iS_142 (iH 138 I)) 137 2 0) 137 6 0) 137 7 (-1)) 267) 1 9)) 268) 1 9)) 137 11 0) 137 13 0) 271 (fillF ((sI (sI (va_up (va_up (sI (sI (sI (iS_142 (iH 138 I)) 137 2 0) 137 6 0) 137 7 (-1)) 267 (fillF ((sI (sI (sI (iS_142 (iH 138 I)) 137 2 0) 137 6 0) 137 7 (-1)) 267) 1 9)) 268 (fillF ((va_up (sI (sI (sI (iS_142 (iH 138 I)) 137 2 0) 137 6 0) 137 7 (-1)) 267 (fillF ((sI (sI (sI (iS_142 (iH 138 I)) 137 2 0) 137 6 0) 137 7 (-1)) 267) 1 9)) 268) 1 9)) 137 11 0) 137 13 0) 271) 1 6)) := (Zn z20)
  have z22 : Zf 273 (sI (va_up (sI (sI (va_up (va_up (sI (sI (sI (iS_142 (iH 138 I)) 137 2 0) 137 6 0) 137 7 (-1)) 267 (fillF ((sI (sI (sI (iS_142 (iH 138 I)) 137 2 0) 137 6 0) 137 7 (-1)) 267) 1 9)) 268 (fillF ((va_up (sI (sI (sI (iS_142 (iH 138 I)) 137 2 0) 137 6 0) 137 7 (-1)) 267 (fillF ((sI (sI (sI (iS_142 (iH 138 I)) 137 2 0) 137 6 0) 137 7 (-1)) 267) 1 9)) 268) 1 9)) 137 11 0) 137 13 0) 271 (fillF ((sI (sI (va_up (va_up (sI (sI (sI (iS_142 (iH 138 I)) 137 2 0) 137 6 0) 137 7 (-1)) 267 (fillF ((sI (sI (sI (iS_142 (iH 138 I)) 137 2 0) 137 6 0) 137 7 (-1)) 267) 1 9)) 268 (fillF ((va_up (sI (sI (sI (iS_142 (iH 138 I)) 137 2 0) 137 6 0) 137 7 (-1)) 267 (fillF ((sI (sI (sI (iS_142 (iH 138 I)) 137 2 0) 137 6 0) 137 7 (-1)) 267) 1 9)) 268) 1 9)) 137 11 0) 137 13 0) 271) 1 6)) 137 16 0) := (Zs (Nat.le_of_ble_eq_true rfl) z21)
  exact z22
set_option maxHeartbeats 20000000 in
set_option maxRecDepth 20000 in
theorem e_iQ_137 {d : Nat} {os : List Nat} {I : Nat → Nat → Int32} {X : Nat × (Nat → Int32)} {Q : PQ} (hos : ∀ x ∈ os, x < 137) (hz : Zf 138 I) (q : Q none (HN (273) (137 :: os) (iQ_137 I) X)) : Ev (d + 3) m_Q_new [.ref 137] (HN 138 (137 :: os) I X) Q := by
  unfold iQ_137 at q
  refine ev_start (d := d + 2) rfl rfl rfl (Nat.le_of_ble_eq_true rfl) ?_
  show Wp (Ev (d + 2)) cd_Q_new (mcs m_Q_new) none _ _ Q 0 [(0, .ref 137)] [] (HN 138 (137 :: os) I X)
  refine w_aload_n (Ev.cm _) rfl rfl ?_
  refine w_objI (Ev.cm _) rfl (Nat.le_of_ble_eq_true rfl) ?_
  refine w_aload_n (Ev.cm _) rfl rfl ?_
  refine w_new (Ev.cm _) rfl (show _ ∧ _ from ⟨show 138 + 1 ≤ 138 + (mcs m_Q_new).1 by decide +kernel, show slt 138 + 8 ≤ slt 138 + (mcs m_Q_new).2 by decide +kernel⟩) ?_
  show Wp _ _ _ _ _ _ _ 8 [(0, .ref 137)] [.ref 138, .ref 137] (puN (HN 138 (137 :: os) I X) 1 8)
  rw [hn_new (n := 138) (k := 1) (len := 8) rfl hz]
  have z1 : Zf 139 I := (Zn hz)
  refine w_dup (Ev.cm _) rfl rfl ?_
  refine w_cinit (as := []) (o := 138) (st := [.ref 138, .ref 137]) (Ev.cm _) rfl rfl rfl (Nat.le_of_ble_eq_true rfl) (show _ ∧ _ from ⟨show 139 + (mcs m_H_new).1 ≤ 138 + (mcs m_Q_new).1 by decide +kernel, show slt 139 + (mcs m_H_new).2 ≤ slt 138 + (mcs m_Q_new).2 by decide +kernel⟩) (Nat.le_of_ble_eq_true rfl) (e_iH (show isH 138 from Or.inr (Or.inl rfl)) (subos (Nat.le_of_ble_eq_true rfl) hos) z1 ?_)
  have z2 : Zf 142 (iH 138 I) := (iH_z (b := 138) z1)
  show Wp _ _ _ _ _ _ _ 12 [(0, .ref 137)] [.ref 138, .ref 137] (HN 142 (138 :: 137 :: os) (iH 138 I) X)
  refine w_putR (Ev.cm _) rfl (Nat.le_of_ble_eq_true rfl) rfl ?_
  show Wp _ _ _ _ _ _ _ 15 [(0, .ref 137)] [] (puR (HN 142 (138 :: 137 :: os) (iH 138 I) X) 137 0 (some 138))
  rw [hn_link (o := 137) (k := 0) (q := 138) rfl (Nat.le_of_ble_eq_true rfl) (nin hos (Nat.le_of_ble_eq_true rfl))]
  refine w_aload_n (Ev.cm _) rfl rfl ?_
  refine w_new (Ev.cm _) rfl (show _ ∧ _ from ⟨show 142 + 1 ≤ 138 + (mcs m_Q_new).1 by decide +kernel, show slt 142 + 3 ≤ slt 138 + (mcs m_Q_new).2 by decide +kernel⟩) ?_
  show Wp _ _ _ _ _ _ _ 19 [(0, .ref 137)] [.ref 142, .ref 137] (puN (HN 142 (137 :: os) (iH 138 I) X) 6 3)
  rw [hn_new (n := 142) (k := 6) (len := 3) rfl z2]
  have z3 : Zf 143 (iH 138 I) := (Zn z2)
  refine w_dup (Ev.cm _) rfl rfl ?_
  refine w_cinit (as := []) (o := 142) (st := [.ref 142, .ref 137]) (Ev.cm _) rfl rfl rfl (Nat.le_of_ble_eq_true rfl) (show _ ∧ _ from ⟨show 143 + (mcs m_S_new).1 ≤ 138 + (mcs m_Q_new).1 by decide +kernel, show slt 143 + (mcs m_S_new).2 ≤ slt 138 + (mcs m_Q_new).2 by decide +kernel⟩) (Nat.le_of_ble_eq_true rfl) (e_iS_142 (subos (Nat.le_of_ble_eq_true rfl) hos) z3 ?_)
  have z4 : Zf 264 (iS_142 (iH 138 I)) := (iS_142_z z3)
  show Wp _ _ _ _ _ _ _ 23 [(0, .ref 137)] [.ref 142, .ref 137] (HN 264 (142 :: 137 :: os) (iS_142 (iH 138 I)) X)
  refine w_putR (Ev.cm _) rfl (Nat.le_of_ble_eq_true rfl) rfl ?_
  show Wp _ _ _ _ _ _ _ 26 [(0, .ref 137)] [] (puR (HN 264 (142 :: 137 :: os) (iS_142 (iH 138 I)) X) 137 1 (some 142))
  rw [hn_link (o := 137) (k := 1) (q := 142) rfl (Nat.le_of_ble_eq_true rfl) (nin hos (Nat.le_of_ble_eq_true rfl))]
  refine w_aload_n (Ev.cm _) rfl rfl ?_
  refine w_iconst (Ev.cm _) rfl ?_
  refine w_putI (Ev.cm _) rfl (Nat.le_of_ble_eq_true rfl) rfl ?_
  have z5 : Zf 264 (sI (iS_142 (iH 138 I)) 137 2 0) := (Zs (Nat.le_of_ble_eq_true rfl) z4)
  show Wp _ _ _ _ _ _ _ 31 [(0, .ref 137)] [] (HN 264 (137 :: os) (sI (iS_142 (iH 138 I)) 137 2 0) X)
  refine w_aload_n (Ev.cm _) rfl rfl ?_
  refine w_bipush (Ev.cm _) rfl ?_
  refine w_newa (Ev.cm _) rfl (by decide) (by decide) (show _ ∧ _ from ⟨show 264 + 1 ≤ 138 + (mcs m_Q_new).1 by decide +kernel, show slt 264 + 6 ≤ slt 138 + (mcs m_Q_new).2 by decide +kernel⟩) ?_
  show Wp _ _ _ _ _ _ _ 36 [(0, .ref 137)] [.ref 264, .ref 137] (puN (HN 264 (137 :: os) (sI (iS_142 (iH 138 I)) 137 2 0) X) 10 6)
  rw [hn_new (n := 264) (k := 10) (len := 6) rfl z5]
  have z6 : Zf 265 (sI (iS_142 (iH 138 I)) 137 2 0) := (Zn z5)
  refine w_putR (Ev.cm _) rfl (Nat.le_of_ble_eq_true rfl) rfl ?_
  show Wp _ _ _ _ _ _ _ 39 [(0, .ref 137)] [] (puR (HN 265 (264 :: 137 :: os) (sI (iS_142 (iH 138 I)) 137 2 0) X) 137 3 (some 264))
  rw [hn_link (o := 137) (k := 3) (q := 264) rfl (Nat.le_of_ble_eq_true rfl) (nin hos (Nat.le_of_ble_eq_true rfl))]
  refine w_aload_n (Ev.cm _) rfl rfl ?_
  refine w_bipush (Ev.cm _) rfl ?_
  refine w_newa (Ev.cm _) rfl (by decide) (by decide) (show _ ∧ _ from ⟨show 265 + 1 ≤ 138 + (mcs m_Q_new).1 by decide +kernel, show slt 265 + 6 ≤ slt 138 + (mcs m_Q_new).2 by decide +kernel⟩) ?_
  show Wp _ _ _ _ _ _ _ 44 [(0, .ref 137)] [.ref 265, .ref 137] (puN (HN 265 (137 :: os) (sI (iS_142 (iH 138 I)) 137 2 0) X) 10 6)
  rw [hn_new (n := 265) (k := 10) (len := 6) rfl z6]
  have z7 : Zf 266 (sI (iS_142 (iH 138 I)) 137 2 0) := (Zn z6)
  refine w_putR (Ev.cm _) rfl (Nat.le_of_ble_eq_true rfl) rfl ?_
  show Wp _ _ _ _ _ _ _ 47 [(0, .ref 137)] [] (puR (HN 266 (265 :: 137 :: os) (sI (iS_142 (iH 138 I)) 137 2 0) X) 137 4 (some 265))
  rw [hn_link (o := 137) (k := 4) (q := 265) rfl (Nat.le_of_ble_eq_true rfl) (nin hos (Nat.le_of_ble_eq_true rfl))]
  refine w_aload_n (Ev.cm _) rfl rfl ?_
  refine w_bipush (Ev.cm _) rfl ?_
  refine w_newa (Ev.cm _) rfl (by decide) (by decide) (show _ ∧ _ from ⟨show 266 + 1 ≤ 138 + (mcs m_Q_new).1 by decide +kernel, show slt 266 + 6 ≤ slt 138 + (mcs m_Q_new).2 by decide +kernel⟩) ?_
  show Wp _ _ _ _ _ _ _ 52 [(0, .ref 137)] [.ref 266, .ref 137] (puN (HN 266 (137 :: os) (sI (iS_142 (iH 138 I)) 137 2 0) X) 10 6)
  rw [hn_new (n := 266) (k := 10) (len := 6) rfl z7]
  have z8 : Zf 267 (sI (iS_142 (iH 138 I)) 137 2 0) := (Zn z7)
  refine w_putR (Ev.cm _) rfl (Nat.le_of_ble_eq_true rfl) rfl ?_
  show Wp _ _ _ _ _ _ _ 55 [(0, .ref 137)] [] (puR (HN 267 (266 :: 137 :: os) (sI (iS_142 (iH 138 I)) 137 2 0) X) 137 5 (some 266))
  rw [hn_link (o := 137) (k := 5) (q := 266) rfl (Nat.le_of_ble_eq_true rfl) (nin hos (Nat.le_of_ble_eq_true rfl))]
  refine w_aload_n (Ev.cm _) rfl rfl ?_
  refine w_iconst (Ev.cm _) rfl ?_
  refine w_putI (Ev.cm _) rfl (Nat.le_of_ble_eq_true rfl) rfl ?_
  have z9 : Zf 267 (sI (sI (iS_142 (iH 138 I)) 137 2 0) 137 6 0) := (Zs (Nat.le_of_ble_eq_true rfl) z8)
  show Wp _ _ _ _ _ _ _ 60 [(0, .ref 137)] [] (HN 267 (137 :: os) (sI (sI (iS_142 (iH 138 I)) 137 2 0) 137 6 0) X)
  refine w_aload_n (Ev.cm _) rfl rfl ?_
  refine w_iconst (Ev.cm _) rfl ?_
  refine w_putI (Ev.cm _) rfl (Nat.le_of_ble_eq_true rfl) rfl ?_
  have z10 : Zf 267 (sI (sI (sI (iS_142 (iH 138 I)) 137 2 0) 137 6 0) 137 7 (-1)) := (Zs (Nat.le_of_ble_eq_true rfl) z9)
  show Wp _ _ _ _ _ _ _ 65 [(0, .ref 137)] [] (HN 267 (137 :: os) (sI (sI (sI (iS_142 (iH 138 I)) 137 2 0) 137 6 0) 137 7 (-1)) X)
  refine w_aload_n (Ev.cm _) rfl rfl ?_
  refine w_bipush (Ev.cm _) rfl ?_
  refine w_newa (Ev.cm _) rfl (by decide) (by decide) (show _ ∧ _ from ⟨show 267 + 1 ≤ 138 + (mcs m_Q_new).1 by decide +kernel, show slt 267 + 9 ≤ slt 138 + (mcs m_Q_new).2 by decide +kernel⟩) ?_
  show Wp _ _ _ _ _ _ _ 70 [(0, .ref 137)] [.ref 267, .ref 137] (puN (HN 267 (137 :: os) (sI (sI (sI (iS_142 (iH 138 I)) 137 2 0) 137 6 0) 137 7 (-1)) X) 10 9)
  rw [hn_new (n := 267) (k := 10) (len := 9) rfl z10]
  have z11 : Zf 268 (sI (sI (sI (iS_142 (iH 138 I)) 137 2 0) 137 6 0) 137 7 (-1)) := (Zn z10)
  refine w_putR (Ev.cm _) rfl (Nat.le_of_ble_eq_true rfl) rfl ?_
  show Wp _ _ _ _ _ _ _ 73 [(0, .ref 137)] [] (puR (HN 268 (267 :: 137 :: os) (sI (sI (sI (iS_142 (iH 138 I)) 137 2 0) 137 6 0) 137 7 (-1)) X) 137 8 (some 267))
  rw [hn_link (o := 137) (k := 8) (q := 267) rfl (Nat.le_of_ble_eq_true rfl) (nin hos (Nat.le_of_ble_eq_true rfl))]
  refine w_aload_n (Ev.cm _) rfl rfl ?_
  refine w_bipush (Ev.cm _) rfl ?_
  refine w_newa (Ev.cm _) rfl (by decide) (by decide) (show _ ∧ _ from ⟨show 268 + 1 ≤ 138 + (mcs m_Q_new).1 by decide +kernel, show slt 268 + 9 ≤ slt 138 + (mcs m_Q_new).2 by decide +kernel⟩) ?_
  show Wp _ _ _ _ _ _ _ 78 [(0, .ref 137)] [.ref 268, .ref 137] (puN (HN 268 (137 :: os) (sI (sI (sI (iS_142 (iH 138 I)) 137 2 0) 137 6 0) 137 7 (-1)) X) 10 9)
  rw [hn_new (n := 268) (k := 10) (len := 9) rfl z11]
  have z12 : Zf 269 (sI (sI (sI (iS_142 (iH 138 I)) 137 2 0) 137 6 0) 137 7 (-1)) := (Zn z11)
  refine w_putR (Ev.cm _) rfl (Nat.le_of_ble_eq_true rfl) rfl ?_
  show Wp _ _ _ _ _ _ _ 81 [(0, .ref 137)] [] (puR (HN 269 (268 :: 137 :: os) (sI (sI (sI (iS_142 (iH 138 I)) 137 2 0) 137 6 0) 137 7 (-1)) X) 137 9 (some 268))
  rw [hn_link (o := 137) (k := 9) (q := 268) rfl (Nat.le_of_ble_eq_true rfl) (nin hos (Nat.le_of_ble_eq_true rfl))]
  refine w_aload_n (Ev.cm _) rfl rfl ?_
  refine w_getR (q := 267) (Ev.cm _) rfl (Nat.le_of_ble_eq_true rfl) rfl (rd_get (n := 269) (o := 137) (k := 8) (q := 267) rfl (Nat.le_of_ble_eq_true rfl) (nin hos (Nat.le_of_ble_eq_true rfl))) ?_
  refine w_iconst (Ev.cm _) rfl ?_
  refine w_cstat (as := [.ref 267, .int 1]) (st := []) (Ev.cm _) rfl rfl rfl (Nat.le_of_ble_eq_true rfl) (Nat.le_of_ble_eq_true rfl) (e_fill_g (n := 9) (Nat.le_of_ble_eq_true rfl) rfl (by decide) ?_)
  have z13 : Zf 269 (va_up (sI (sI (sI (iS_142 (iH 138 I)) 137 2 0) 137 6 0) 137 7 (-1)) 267 (fillF ((sI (sI (sI (iS_142 (iH 138 I)) 137 2 0) 137 6 0) 137 7 (-1)) 267) 1 9)) := (Zv (Nat.le_of_ble_eq_true rfl) z12)
  show Wp _ _ _ _ _ _ _ 89 [(0, .ref 137)] [] (HN 269 (137 :: os) (va_up (sI (sI (sI (iS_142 (iH 138 I)) 137 2 0) 137 6 0) 137 7 (-1)) 267 (fillF ((sI (sI (sI (iS_142 (iH 138 I)) 137 2 0) 137 6 0) 137 7 (-1)) 267) 1 9)) X)
  refine w_aload_n (Ev.cm _) rfl rfl ?_
  refine w_getR (q := 268) (Ev.cm _) rfl (Nat.le_of_ble_eq_true rfl) rfl (rd_get (n := 269) (o := 137) (k := 9) (q := 268) rfl (Nat.le_of_ble_eq_true rfl) (nin hos (Nat.le_of_ble_eq_true rfl))) ?_
  refine w_iconst (Ev.cm _) rfl ?_
  refine w_cstat (as := [.ref 268, .int 1]) (st := []) (Ev.cm _) rfl rfl rfl (Nat.le_of_ble_eq_true rfl) (Nat.le_of_ble_eq_true rfl) (e_fill_g (n := 9) (Nat.le_of_ble_eq_true rfl) rfl (by decide) ?_)
  have z14 : Zf 269 (va_up (va_up (sI (sI (sI (iS_142 (iH 138 I)) 137 2 0) 137 6 0) 137 7 (-1)) 267 (fillF ((sI (sI (sI (iS_142 (iH 138 I)) 137 2 0) 137 6 0) 137 7 (-1)) 267) 1 9)) 268 (fillF ((va_up (sI (sI (sI (iS_142 (iH 138 I)) 137 2 0) 137 6 0) 137 7 (-1)) 267 (fillF ((sI (sI (sI (iS_142 (iH 138 I)) 137 2 0) 137 6 0) 137 7 (-1)) 267) 1 9)) 268) 1 9)) := (Zv (Nat.le_of_ble_eq_true rfl) z13)
  show Wp _ _ _ _ _ _ _ 97 [(0, .ref 137)] [] (HN 269 (137 :: os) (va_up (va_up (sI (sI (sI (iS_142 (iH 138 I)) 137 2 0) 137 6 0) 137 7 (-1)) 267 (fillF ((sI (sI (sI (iS_142 (iH 138 I)) 137 2 0) 137 6 0) 137 7 (-1)) 267) 1 9)) 268 (fillF ((va_up (sI (sI (sI (iS_142 (iH 138 I)) 137 2 0) 137 6 0) 137 7 (-1)) 267 (fillF ((sI (sI (sI (iS_142 (iH 138 I)) 137 2 0) 137 6 0) 137 7 (-1)) 267) 1 9)) 268) 1 9)) X)
  refine w_aload_n (Ev.cm _) rfl rfl ?_
  refine w_bipush (Ev.cm _) rfl ?_
  refine w_newa (Ev.cm _) rfl (by decide) (by decide) (show _ ∧ _ from ⟨show 269 + 1 ≤ 138 + (mcs m_Q_new).1 by decide +kernel, show slt 269 + 6 ≤ slt 138 + (mcs m_Q_new).2 by decide +kernel⟩) ?_
  show Wp _ _ _ _ _ _ _ 102 [(0, .ref 137)] [.ref 269, .ref 137] (puN (HN 269 (137 :: os) (va_up (va_up (sI (sI (sI (iS_142 (iH 138 I)) 137 2 0) 137 6 0) 137 7 (-1)) 267 (fillF ((sI (sI (sI (iS_142 (iH 138 I)) 137 2 0) 137 6 0) 137 7 (-1)) 267) 1 9)) 268 (fillF ((va_up (sI (sI (sI (iS_142 (iH 138 I)) 137 2 0) 137 6 0) 137 7 (-1)) 267 (fillF ((sI (sI (sI (iS_142 (iH 138 I)) 137 2 0) 137 6 0) 137 7 (-1)) 267) 1 9)) 268) 1 9)) X) 10 6)
  rw [hn_new (n := 269) (k := 10) (len := 6) rfl z14]
  have z15 : Zf 270 (va_up (va_up (sI (sI (sI (iS_142 (iH 138 I)) 137 2 0) 137 6 0) 137 7 (-1)) 267 (fillF ((sI (sI (sI (iS_142 (iH 138 I)) 137 2 0) 137 6 0) 137 7 (-1)) 267) 1 9)) 268 (fillF ((va_up (sI (sI (sI (iS_142 (iH 138 I)) 137 2 0) 137 6 0) 137 7 (-1)) 267 (fillF ((sI (sI (sI (iS_142 (iH 138 I)) 137 2 0) 137 6 0) 137 7 (-1)) 267) 1 9)) 268) 1 9)) := (Zn z14)
  refine w_putR (Ev.cm _) rfl (Nat.le_of_ble_eq_true rfl) rfl ?_
  show Wp _ _ _ _ _ _ _ 105 [(0, .ref 137)] [] (puR (HN 270 (269 :: 137 :: os) (va_up (va_up (sI (sI (sI (iS_142 (iH 138 I)) 137 2 0) 137 6 0) 137 7 (-1)) 267 (fillF ((sI (sI (sI (iS_142 (iH 138 I)) 137 2 0) 137 6 0) 137 7 (-1)) 267) 1 9)) 268 (fillF ((va_up (sI (sI (sI (iS_142 (iH 138 I)) 137 2 0) 137 6 0) 137 7 (-1)) 267 (fillF ((sI (sI (sI (iS_142 (iH 138 I)) 137 2 0) 137 6 0) 137 7 (-1)) 267) 1 9)) 268) 1 9)) X) 137 10 (some 269))
  rw [hn_link (o := 137) (k := 10) (q := 269) rfl (Nat.le_of_ble_eq_true rfl) (nin hos (Nat.le_of_ble_eq_true rfl))]
  refine w_aload_n (Ev.cm _) rfl rfl ?_
  refine w_iconst (Ev.cm _) rfl ?_
  refine w_putI (Ev.cm _) rfl (Nat.le_of_ble_eq_true rfl) rfl ?_
  have z16 : Zf 270 (sI (va_up (va_up (sI (sI (sI (iS_142 (iH 138 I)) 137 2 0) 137 6 0) 137 7 (-1)) 267 (fillF ((sI (sI (sI (iS_142 (iH 138 I)) 137 2 0) 137 6 0) 137 7 (-1)) 267) 1 9)) 268 (fillF ((va_up (sI (sI (sI (iS_142 (iH 138 I)) 137 2 0) 137 6 0) 137 7 (-1)) 267 (fillF ((sI (sI (sI (iS_142 (iH 138 I)) 137 2 0) 137 6 0) 137 7 (-1)) 267) 1 9)) 268) 1 9)) 137 11 0) := (Zs (Nat.le_of_ble_eq_true rfl) z15)
  show Wp _ _ _ _ _ _ _ 110 [(0, .ref 137)] [] (HN 270 (137 :: os) (sI (va_up (va_up (sI (sI (sI (iS_142 (iH 138 I)) 137 2 0) 137 6 0) 137 7 (-1)) 267 (fillF ((sI (sI (sI (iS_142 (iH 138 I)) 137 2 0) 137 6 0) 137 7 (-1)) 267) 1 9)) 268 (fillF ((va_up (sI (sI (sI (iS_142 (iH 138 I)) 137 2 0) 137 6 0) 137 7 (-1)) 267 (fillF ((sI (sI (sI (iS_142 (iH 138 I)) 137 2 0) 137 6 0) 137 7 (-1)) 267) 1 9)) 268) 1 9)) 137 11 0) X)
  refine w_aload_n (Ev.cm _) rfl rfl ?_
  refine w_iconst (Ev.cm _) rfl ?_
  refine w_newa (Ev.cm _) rfl (by decide) (by decide) (show _ ∧ _ from ⟨show 270 + 1 ≤ 138 + (mcs m_Q_new).1 by decide +kernel, show slt 270 + 5 ≤ slt 138 + (mcs m_Q_new).2 by decide +kernel⟩) ?_
  show Wp _ _ _ _ _ _ _ 114 [(0, .ref 137)] [.ref 270, .ref 137] (puN (HN 270 (137 :: os) (sI (va_up (va_up (sI (sI (sI (iS_142 (iH 138 I)) 137 2 0) 137 6 0) 137 7 (-1)) 267 (fillF ((sI (sI (sI (iS_142 (iH 138 I)) 137 2 0) 137 6 0) 137 7 (-1)) 267) 1 9)) 268 (fillF ((va_up (sI (sI (sI (iS_142 (iH 138 I)) 137 2 0) 137 6 0) 137 7 (-1)) 267 (fillF ((sI (sI (sI (iS_142 (iH 138 I)) 137 2 0) 137 6 0) 137 7 (-1)) 267) 1 9)) 268) 1 9)) 137 11 0) X) 10 5)
  rw [hn_new (n := 270) (k := 10) (len := 5) rfl z16]
  have z17 : Zf 271 (sI (va_up (va_up (sI (sI (sI (iS_142 (iH 138 I)) 137 2 0) 137 6 0) 137 7 (-1)) 267 (fillF ((sI (sI (sI (iS_142 (iH 138 I)) 137 2 0) 137 6 0) 137 7 (-1)) 267) 1 9)) 268 (fillF ((va_up (sI (sI (sI (iS_142 (iH 138 I)) 137 2 0) 137 6 0) 137 7 (-1)) 267 (fillF ((sI (sI (sI (iS_142 (iH 138 I)) 137 2 0) 137 6 0) 137 7 (-1)) 267) 1 9)) 268) 1 9)) 137 11 0) := (Zn z16)
  refine w_putR (Ev.cm _) rfl (Nat.le_of_ble_eq_true rfl) rfl ?_
  show Wp _ _ _ _ _ _ _ 117 [(0, .ref 137)] [] (puR (HN 271 (270 :: 137 :: os) (sI (va_up (va_up (sI (sI (sI (iS_142 (iH 138 I)) 137 2 0) 137 6 0) 137 7 (-1)) 267 (fillF ((sI (sI (sI (iS_142 (iH 138 I)) 137 2 0) 137 6 0) 137 7 (-1)) 267) 1 9)) 268 (fillF ((va_up (sI (sI (sI (iS_142 (iH 138 I)) 137 2 0) 137 6 0) 137 7 (-1)) 267 (fillF ((sI (sI (sI (iS_142 (iH 138 I)) 137 2 0) 137 6 0) 137 7 (-1)) 267) 1 9)) 268) 1 9)) 137 11 0) X) 137 12 (some 270))
  rw [hn_link (o := 137) (k := 12) (q := 270) rfl (Nat.le_of_ble_eq_true rfl) (nin hos (Nat.le_of_ble_eq_true rfl))]
  refine w_aload_n (Ev.cm _) rfl rfl ?_
  refine w_iconst (Ev.cm _) rfl ?_
  refine w_putI (Ev.cm _) rfl (Nat.le_of_ble_eq_true rfl) rfl ?_
  have z18 : Zf 271 (sI (sI (va_up (va_up (sI (sI (sI (iS_142 (iH 138 I)) 137 2 0) 137 6 0) 137 7 (-1)) 267 (fillF ((sI (sI (sI (iS_142 (iH 138 I)) 137 2 0) 137 6 0) 137 7 (-1)) 267) 1 9)) 268 (fillF ((va_up (sI (sI (sI (iS_142 (iH 138 I)) 137 2 0) 137 6 0) 137 7 (-1)) 267 (fillF ((sI (sI (sI (iS_142 (iH 138 I)) 137 2 0) 137 6 0) 137 7 (-1)) 267) 1 9)) 268) 1 9)) 137 11 0) 137 13 0) := (Zs (Nat.le_of_ble_eq_true rfl) z17)
  show Wp _ _ _ _ _ _ _ 122 [(0, .ref 137)] [] (HN 271 (137 :: os) (sI (sI (va_up (va_up (sI (sI (sI (iS_142 (iH 138 I)) 137 2 0) 137 6 0) 137 7 (-1)) 267 (fillF ((sI (sI (sI (iS_142 (iH 138 I)) 137 2 0) 137 6 0) 137 7 (-1)) 267) 1 9)) 268 (fillF ((va_up (sI (sI (sI (iS_142 (iH 138 I)) 137 2 0) 137 6 0) 137 7 (-1)) 267 (fillF ((sI (sI (sI (iS_142 (iH 138 I)) 137 2 0) 137 6 0) 137 7 (-1)) 267) 1 9)) 268) 1 9)) 137 11 0) 137 13 0) X)
  refine w_aload_n (Ev.cm _) rfl rfl ?_
  refine w_bipush (Ev.cm _) rfl ?_
  refine w_newa (Ev.cm _) rfl (by decide) (by decide) (show _ ∧ _ from ⟨show 271 + 1 ≤ 138 + (mcs m_Q_new).1 by decide +kernel, show slt 271 + 6 ≤ slt 138 + (mcs m_Q_new).2 by decide +kernel⟩) ?_
  show Wp _ _ _ _ _ _ _ 127 [(0, .ref 137)] [.ref 271, .ref 137] (puN (HN 271 (137 :: os) (sI (sI (va_up (va_up (sI (sI (sI (iS_142 (iH 138 I)) 137 2 0) 137 6 0) 137 7 (-1)) 267 (fillF ((sI (sI (sI (iS_142 (iH 138 I)) 137 2 0) 137 6 0) 137 7 (-1)) 267) 1 9)) 268 (fillF ((va_up (sI (sI (sI (iS_142 (iH 138 I)) 137 2 0) 137 6 0) 137 7 (-1)) 267 (fillF ((sI (sI (sI (iS_142 (iH 138 I)) 137 2 0) 137 6 0) 137 7 (-1)) 267) 1 9)) 268) 1 9)) 137 11 0) 137 13 0) X) 10 6)
  rw [hn_new (n := 271) (k := 10) (len := 6) rfl z18]
  have z19 : Zf 272 (sI (sI (va_up (va_up (sI (sI (sI (iS_142 (iH 138 I)) 137 2 0) 137 6 0) 137 7 (-1)) 267 (fillF ((sI (sI (sI (iS_142 (iH 138 I)) 137 2 0) 137 6 0) 137 7 (-1)) 267) 1 9)) 268 (fillF ((va_up (sI (sI (sI (iS_142 (iH 138 I)) 137 2 0) 137 6 0) 137 7 (-1)) 267 (fillF ((sI (sI (sI (iS_142 (iH 138 I)) 137 2 0) 137 6 0) 137 7 (-1)) 267) 1 9)) 268) 1 9)) 137 11 0) 137 13 0) := (Zn z18)
  refine w_putR (Ev.cm _) rfl (Nat.le_of_ble_eq_true rfl) rfl ?_
  show Wp _ _ _ _ _ _ _ 130 [(0, .ref 137)] [] (puR (HN 272 (271 :: 137 :: os) (sI (sI (va_up (va_up (sI (sI (sI (iS_142 (iH 138 I)) 137 2 0) 137 6 0) 137 7 (-1)) 267 (fillF ((sI (sI (sI (iS_142 (iH 138 I)) 137 2 0) 137 6 0) 137 7 (-1)) 267) 1 9)) 268 (fillF ((va_up (sI (sI (sI (iS_142 (iH 138 I)) 137 2 0) 137 6 0) 137 7 (-1)) 267 (fillF ((sI (sI (sI (iS_142 (iH 138 I)) 137 2 0) 137 6 0) 137 7 (-1)) 267) 1 9)) 268) 1 9)) 137 11 0) 137 13 0) X) 137 14 (some 271))
  rw [hn_link (o := 137) (k := 14) (q := 271) rfl (Nat.le_of_ble_eq_true rfl) (nin hos (Nat.le_of_ble_eq_true rfl))]
  refine w_aload_n (Ev.cm _) rfl rfl ?_
  refine w_getR (q := 271) (Ev.cm _) rfl (Nat.le_of_ble_eq_true rfl) rfl (rd_get (n := 272) (o := 137) (k := 14) (q := 271) rfl (Nat.le_of_ble_eq_true rfl) (nin hos (Nat.le_of_ble_eq_true rfl))) ?_
  refine w_iconst (Ev.cm _) rfl ?_
  refine w_cstat (as := [.ref 271, .int 1]) (st := []) (Ev.cm _) rfl rfl rfl (Nat.le_of_ble_eq_true rfl) (Nat.le_of_ble_eq_true rfl) (e_fill_g (n := 6) (Nat.le_of_ble_eq_true rfl) rfl (by decide) ?_)
  have z20 : Zf 272 (va_up (sI (sI (va_up (va_up (sI (sI (sI (iS_142 (iH 138 I)) 137 2 0) 137 6 0) 137 7 (-1)) 267 (fillF ((sI (sI (sI (iS_142 (iH 138 I)) 137 2 0) 137 6 0) 137 7 (-1)) 267) 1 9)) 268 (fillF ((va_up (sI (sI (sI (iS_142 (iH 138 I)) 137 2 0) 137 6 0) 137 7 (-1)) 267 (fillF ((sI (sI (sI (iS_142 (iH 138 I)) 137 2 0) 137 6 0) 137 7 (-1)) 267) 1 9)) 268) 1 9)) 137 11 0) 137 13 0) 271 (fillF ((sI (sI (va_up (va_up (sI (sI (sI (iS_142 (iH 138 I)) 137 2 0) 137 6 0) 137 7 (-1)) 267 (fillF ((sI (sI (sI (iS_142 (iH 138 I)) 137 2 0) 137 6 0) 137 7 (-1)) 267) 1 9)) 268 (fillF ((va_up (sI (sI (sI (iS_142 (iH 138 I)) 137 2 0) 137 6 0) 137 7 (-1)) 267 (fillF ((sI (sI (sI (iS_142 (iH 138 I)) 137 2 0) 137 6 0) 137 7 (-1)) 267) 1 9)) 268) 1 9)) 137 11 0) 137 13 0) 271) 1 6)) := (Zv (Nat.le_of_ble_eq_true rfl) z19)
  show Wp _ _ _ _ _ _ _ 138 [(0, .ref 137)] [] (HN 272 (137 :: os) (va_up (sI (sI (va_up (va_up (sI (sI (sI (iS_142 (iH 138 I)) 137 2 0) 137 6 0) 137 7 (-1)) 267 (fillF ((sI (sI (sI (iS_142 (iH 138 I)) 137 2 0) 137 6 0) 137 7 (-1)) 267) 1 9)) 268 (fillF ((va_up (sI (sI (sI (iS_142 (iH 138 I)) 137 2 0) 137 6 0) 137 7 (-1)) 267 (fillF ((sI (sI (sI (iS_142 (iH 138 I)) 137 2 0) 137 6 0) 137 7 (-1)) 267) 1 9)) 268) 1 9)) 137 11 0) 137 13 0) 271 (fillF ((sI (sI (va_up (va_up (sI (sI (sI (iS_142 (iH 138 I)) 137 2 0) 137 6 0) 137 7 (-1)) 267 (fillF ((sI (sI (sI (iS_142 (iH 138 I)) 137 2 0) 137 6 0) 137 7 (-1)) 267) 1 9)) 268 (fillF ((va_up (sI (sI (sI (iS_142 (iH 138 I)) 137 2 0) 137 6 0) 137 7 (-1)) 267 (fillF ((sI (sI (sI (iS_142 (iH 138 I)) 137 2 0) 137 6 0) 137 7 (-1)) 267) 1 9)) 268) 1 9)) 137 11 0) 137 13 0) 271) 1 6)) X)
  refine w_aload_n (Ev.cm _) rfl rfl ?_
  refine w_bipush (Ev.cm _) rfl ?_
  refine w_newa (Ev.cm _) rfl (by decide) (by decide) (show _ ∧ _ from ⟨show 272 + 1 ≤ 138 + (mcs m_Q_new).1 by decide +kernel, show slt 272 + 24 ≤ slt 138 + (mcs m_Q_new).2 by decide +kernel⟩) ?_
  show Wp _ _ _ _ _ _ _ 143 [(0, .ref 137)] [.ref 272, .ref 137] (puN (HN 272 (137 :: os) (va_up (sI (sI (va_up (va_up (sI (sI (sI (iS_142 (iH 138 I)) 137 2 0) 137 6 0) 137 7 (-1)) 267 (fillF ((sI (sI (sI (iS_142 (iH 138 I)) 137 2 0) 137 6 0) 137 7 (-1)) 267) 1 9)) 268 (fillF ((va_up (sI (sI (sI (iS_142 (iH 138 I)) 137 2 0) 137 6 0) 137 7 (-1)) 267 (fillF ((sI (sI (sI (iS_142 (iH 138 I)) 137 2 0) 137 6 0) 137 7 (-1)) 267) 1 9)) 268) 1 9)) 137 11 0) 137 13 0) 271 (fillF ((sI (sI (va_up (va_up (sI (sI (sI (iS_142 (iH 138 I)) 137 2 0) 137 6 0) 137 7 (-1)) 267 (fillF ((sI (sI (sI (iS_142 (iH 138 I)) 137 2 0) 137 6 0) 137 7 (-1)) 267) 1 9)) 268 (fillF ((va_up (sI (sI (sI (iS_142 (iH 138 I)) 137 2 0) 137 6 0) 137 7 (-1)) 267 (fillF ((sI (sI (sI (iS_142 (iH 138 I)) 137 2 0) 137 6 0) 137 7 (-1)) 267) 1 9)) 268) 1 9)) 137 11 0) 137 13 0) 271) 1 6)) X) 10 24)
  rw [hn_new (n := 272) (k := 10) (len := 24) rfl z20]
  have z21 : Zf 273 (va_up (sI (sI (va_up (va_up (sI (sI (sI (iS_142 (iH 138 I)) 137 2 0) 137 6 0) 137 7 (-1)) 267 (fillF ((sI (sI (sI (iS_142 (iH 138 I)) 137 2 0) 137 6 0) 137 7 (-1)) 267) 1 9)) 268 (fillF ((va_up (sI (sI (sI (iS_142 (iH 138 I)) 137 2 0) 137 6 0) 137 7 (-1)) 267 (fillF ((sI (sI (sI (iS_142 (iH 138 I)) 137 2 0) 137 6 0) 137 7 (-1)) 267) 1 9)) 268) 1 9)) 137 11 0) 137 13 0) 271 (fillF ((sI (sI (va_up (va_up (sI (sI (sI (iS_142 (iH 138 I)) 137 2 0) 137 6 0) 137 7 (-1)) 267 (fillF ((sI (sI (sI (iS_142 (iH 138 I)) 137 2 0) 137 6 0) 137 7 (-1)) 267) 1 9)) 268 (fillF ((va_up (sI (sI (sI (iS_142 (iH 138 I)) 137 2 0) 137 6 0) 137 7 (-1)) 267 (fillF ((sI (sI (sI (iS_142 (iH 138 I)) 137 2 0) 137 6 0) 137 7 (-1)) 267) 1 9)) 268) 1 9)) 137 11 0) 137 13 0) 271) 1 6)) := (Zn z20)
  refine w_putR (Ev.cm _) rfl (Nat.le_of_ble_eq_true rfl) rfl ?_
  show Wp _ _ _ _ _ _ _ 146 [(0, .ref 137)] [] (puR (HN 273 (272 :: 137 :: os) (va_up (sI (sI (va_up (va_up (sI (sI (sI (iS_142 (iH 138 I)) 137 2 0) 137 6 0) 137 7 (-1)) 267 (fillF ((sI (sI (sI (iS_142 (iH 138 I)) 137 2 0) 137 6 0) 137 7 (-1)) 267) 1 9)) 268 (fillF ((va_up (sI (sI (sI (iS_142 (iH 138 I)) 137 2 0) 137 6 0) 137 7 (-1)) 267 (fillF ((sI (sI (sI (iS_142 (iH 138 I)) 137 2 0) 137 6 0) 137 7 (-1)) 267) 1 9)) 268) 1 9)) 137 11 0) 137 13 0) 271 (fillF ((sI (sI (va_up (va_up (sI (sI (sI (iS_142 (iH 138 I)) 137 2 0) 137 6 0) 137 7 (-1)) 267 (fillF ((sI (sI (sI (iS_142 (iH 138 I)) 137 2 0) 137 6 0) 137 7 (-1)) 267) 1 9)) 268 (fillF ((va_up (sI (sI (sI (iS_142 (iH 138 I)) 137 2 0) 137 6 0) 137 7 (-1)) 267 (fillF ((sI (sI (sI (iS_142 (iH 138 I)) 137 2 0) 137 6 0) 137 7 (-1)) 267) 1 9)) 268) 1 9)) 137 11 0) 137 13 0) 271) 1 6)) X) 137 15 (some 272))
  rw [hn_link (o := 137) (k := 15) (q := 272) rfl (Nat.le_of_ble_eq_true rfl) (nin hos (Nat.le_of_ble_eq_true rfl))]
  refine w_aload_n (Ev.cm _) rfl rfl ?_
  refine w_iconst (Ev.cm _) rfl ?_
  refine w_putI (Ev.cm _) rfl (Nat.le_of_ble_eq_true rfl) rfl ?_
  have z22 : Zf 273 (sI (va_up (sI (sI (va_up (va_up (sI (sI (sI (iS_142 (iH 138 I)) 137 2 0) 137 6 0) 137 7 (-1)) 267 (fillF ((sI (sI (sI (iS_142 (iH 138 I)) 137 2 0) 137 6 0) 137 7 (-1)) 267) 1 9)) 268 (fillF ((va_up (sI (sI (sI (iS_142 (iH 138 I)) 137 2 0) 137 6 0) 137 7 (-1)) 267 (fillF ((sI (sI (sI (iS_142 (iH 138 I)) 137 2 0) 137 6 0) 137 7 (-1)) 267) 1 9)) 268) 1 9)) 137 11 0) 137 13 0) 271 (fillF ((sI (sI (va_up (va_up (sI (sI (sI (iS_142 (iH 138 I)) 137 2 0) 137 6 0) 137 7 (-1)) 267 (fillF ((sI (sI (sI (iS_142 (iH 138 I)) 137 2 0) 137 6 0) 137 7 (-1)) 267) 1 9)) 268 (fillF ((va_up (sI (sI (sI (iS_142 (iH 138 I)) 137 2 0) 137 6 0) 137 7 (-1)) 267 (fillF ((sI (sI (sI (iS_142 (iH 138 I)) 137 2 0) 137 6 0) 137 7 (-1)) 267) 1 9)) 268) 1 9)) 137 11 0) 137 13 0) 271) 1 6)) 137 16 0) := (Zs (Nat.le_of_ble_eq_true rfl) z21)
  show Wp _ _ _ _ _ _ _ 151 [(0, .ref 137)] [] (HN 273 (137 :: os) (sI (va_up (sI (sI (va_up (va_up (sI (sI (sI (iS_142 (iH 138 I)) 137 2 0) 137 6 0) 137 7 (-1)) 267 (fillF ((sI (sI (sI (iS_142 (iH 138 I)) 137 2 0) 137 6 0) 137 7 (-1)) 267) 1 9)) 268 (fillF ((va_up (sI (sI (sI (iS_142 (iH 138 I)) 137 2 0) 137 6 0) 137 7 (-1)) 267 (fillF ((sI (sI (sI (iS_142 (iH 138 I)) 137 2 0) 137 6 0) 137 7 (-1)) 267) 1 9)) 268) 1 9)) 137 11 0) 137 13 0) 271 (fillF ((sI (sI (va_up (va_up (sI (sI (sI (iS_142 (iH 138 I)) 137 2 0) 137 6 0) 137 7 (-1)) 267 (fillF ((sI (sI (sI (iS_142 (iH 138 I)) 137 2 0) 137 6 0) 137 7 (-1)) 267) 1 9)) 268 (fillF ((va_up (sI (sI (sI (iS_142 (iH 138 I)) 137 2 0) 137 6 0) 137 7 (-1)) 267 (fillF ((sI (sI (sI (iS_142 (iH 138 I)) 137 2 0) 137 6 0) 137 7 (-1)) 267) 1 9)) 268) 1 9)) 137 11 0) 137 13 0) 271) 1 6)) 137 16 0) X)
  refine w_return (Ev.cm _) rfl rfl (Or.inr ⟨(show 273 = 138 + (mcs m_Q_new).1 by decide +kernel), (show slt 273 = slt 138 + (mcs m_Q_new).2 by decide +kernel)⟩) ?_
  exact q
def iT (b : Nat) (I : Nat → Nat → Int32) : Nat → Nat → Int32 := va_up (sI (sI I b 0 0) b 4 0) (b + 6) (fillF ((sI (sI I b 0 0) b 4 0) (b + 6)) (-1) 2)
theorem iT_z {b : Nat} {I : Nat → Nat → Int32} (hz : Zf (b + 1) I) : Zf (b + 8) (iT b I) := by
  unfold iT
  have z1 : Zf (b + 1) (sI I b 0 0) := (Zs (show b < b + 1 by omega) hz)
  have z2 : Zf (b + 2) (sI I b 0 0) := (Zn z1)
  have z3 : Zf (b + 3) (sI I b 0 0) := (Zn z2)
  have z4 : Zf (b + 4) (sI I b 0 0) := (Zn z3)
  have z5 : Zf (b + 4) (sI (sI I b 0 0) b 4 0) := (Zs (show b < b + 4 by omega) z4)
  have z6 : Zf (b + 5) (sI (sI I b 0 0) b 4 0) := (Zn z5)
  have z7 : Zf (b + 6) (sI (sI I b 0 0) b 4 0) := (Zn z6)
  have z8 : Zf (b + 7) (sI (sI I b 0 0) b 4 0) := (Zn z7)
  have z9 : Zf (b + 8) (sI (sI I b 0 0) b 4 0) := (Zn z8)
  have z10 : Zf (b + 8) (va_up (sI (sI I b 0 0) b 4 0) (b + 6) (fillF ((sI (sI I b 0 0) b 4 0) (b + 6)) (-1) 2)) := (Zv (show b + 6 < b + 8 by omega) z9)
  exact z10
set_option maxHeartbeats 20000000 in
set_option maxRecDepth 20000 in
theorem e_iT {d : Nat} {b : Nat} (hb : isT b) {os : List Nat} {I : Nat → Nat → Int32} {X : Nat × (Nat → Int32)} {Q : PQ} (hos : ∀ x ∈ os, x < b) (hz : Zf (b + 1) I) (q : Q none (HN (b + 8) (b :: os) (iT b I) X)) : Ev (d + 2) m_T_new [.ref b] (HN (b + 1) (b :: os) I X) Q := by
  have hk0 := isT_k0 hb
  have hk1 := isT_k1 hb
  have hk2 := isT_k2 hb
  have hk3 := isT_k3 hb
  have hk4 := isT_k4 hb
  have hk5 := isT_k5 hb
  have hk6 := isT_k6 hb
  have hk7 := isT_k7 hb
  have hr1 := isT_r1 hb
  have hr2 := isT_r2 hb
  have hr3 := isT_r3 hb
  have hr5 := isT_r5 hb
  have hr6 := isT_r6 hb
  have hr7 := isT_r7 hb
  have hr8 := isT_r8 hb
  have sl1 : slt (b + 2) = slt (b + 1) + 24 := by show slt (b + 1) + (K0 (b + 1)).2 = _; rw [hk1]
  have sl2 : slt (b + 3) = slt (b + 2) + 24 := by show slt (b + 2) + (K0 (b + 2)).2 = _; rw [hk2]
  have sl3 : slt (b + 4) = slt (b + 3) + 24 := by show slt (b + 3) + (K0 (b + 3)).2 = _; rw [hk3]
  have sl4 : slt (b + 5) = slt (b + 4) + 300 := by show slt (b + 4) + (K0 (b + 4)).2 = _; rw [hk4]
  have sl5 : slt (b + 6) = slt (b + 5) + 300 := by show slt (b + 5) + (K0 (b + 5)).2 = _; rw [hk5]
  have sl6 : slt (b + 7) = slt (b + 6) + 2 := by show slt (b + 6) + (K0 (b + 6)).2 = _; rw [hk6]
  have sl7 : slt (b + 8) = slt (b + 7) + 2 := by show slt (b + 7) + (K0 (b + 7)).2 = _; rw [hk7]
  unfold iT at q
  refine ev_start (d := d + 1) rfl rfl rfl (Nat.le_of_ble_eq_true rfl) ?_
  show Wp (Ev (d + 1)) cd_T_new (mcs m_T_new) none _ _ Q 0 [(0, .ref b)] [] (HN (b + 1) (b :: os) I X)
  refine w_aload_n (Ev.cm _) rfl rfl ?_
  refine w_objI (Ev.cm _) rfl (Nat.le_of_ble_eq_true rfl) ?_
  refine w_aload_n (Ev.cm _) rfl rfl ?_
  refine w_iconst (Ev.cm _) rfl ?_
  refine w_putI (Ev.cm _) rfl (show b < b + 1 by omega) (cutk (show b < b + 1 by omega) hk0) ?_
  have z1 : Zf (b + 1) (sI I b 0 0) := (Zs (show b < b + 1 by omega) hz)
  show Wp _ _ _ _ _ _ _ 9 [(0, .ref b)] [] (HN (b + 1) (b :: os) (sI I b 0 0) X)
  refine w_aload_n (Ev.cm _) rfl rfl ?_
  refine w_bipush (Ev.cm _) rfl ?_
  refine w_newa (Ev.cm _) rfl (by decide) (by decide) (show _ ∧ _ from ⟨by show b + 1 + 1 ≤ b + 1 + 7; omega, by show slt (b + 1) + 24 ≤ slt (b + 1) + 676; omega⟩) ?_
  show Wp _ _ _ _ _ _ _ 14 [(0, .ref b)] [.ref (b + 1), .ref b] (puN (HN (b + 1) (b :: os) (sI I b 0 0) X) 10 24)
  rw [hn_new (n := b + 1) (k := 10) (len := 24) hk1 z1]
  have z2 : Zf (b + 2) (sI I b 0 0) := (Zn z1)
  refine w_putR (Ev.cm _) rfl (show b < b + 2 by omega) (cutk (show b < b + 2 by omega) hk0) ?_
  show Wp _ _ _ _ _ _ _ 17 [(0, .ref b)] [] (puR (HN (b + 2) ((b + 1) :: b :: os) (sI I b 0 0) X) b 1 (some (b + 1)))
  rw [hn_link (o := b) (k := 1) (q := b + 1) hr1 (show b + 1 < b + 2 by omega) (nin hos (by omega))]
  refine w_aload_n (Ev.cm _) rfl rfl ?_
  refine w_bipush (Ev.cm _) rfl ?_
  refine w_newa (Ev.cm _) rfl (by decide) (by decide) (show _ ∧ _ from ⟨by show b + 2 + 1 ≤ b + 1 + 7; omega, by show slt (b + 2) + 24 ≤ slt (b + 1) + 676; omega⟩) ?_
  show Wp _ _ _ _ _ _ _ 22 [(0, .ref b)] [.ref (b + 2), .ref b] (puN (HN (b + 2) (b :: os) (sI I b 0 0) X) 10 24)
  rw [hn_new (n := b + 2) (k := 10) (len := 24) hk2 z2]
  have z3 : Zf (b + 3) (sI I b 0 0) := (Zn z2)
  refine w_putR (Ev.cm _) rfl (show b < b + 3 by omega) (cutk (show b < b + 3 by omega) hk0) ?_
  show Wp _ _ _ _ _ _ _ 25 [(0, .ref b)] [] (puR (HN (b + 3) ((b + 2) :: b :: os) (sI I b 0 0) X) b 2 (some (b + 2)))
  rw [hn_link (o := b) (k := 2) (q := b + 2) hr2 (show b + 2 < b + 3 by omega) (nin hos (by omega))]
  refine w_aload_n (Ev.cm _) rfl rfl ?_
  refine w_bipush (Ev.cm _) rfl ?_
  refine w_newa (Ev.cm _) rfl (by decide) (by decide) (show _ ∧ _ from ⟨by show b + 3 + 1 ≤ b + 1 + 7; omega, by show slt (b + 3) + 24 ≤ slt (b + 1) + 676; omega⟩) ?_
  show Wp _ _ _ _ _ _ _ 30 [(0, .ref b)] [.ref (b + 3), .ref b] (puN (HN (b + 3) (b :: os) (sI I b 0 0) X) 10 24)
  rw [hn_new (n := b + 3) (k := 10) (len := 24) hk3 z3]
  have z4 : Zf (b + 4) (sI I b 0 0) := (Zn z3)
  refine w_putR (Ev.cm _) rfl (show b < b + 4 by omega) (cutk (show b < b + 4 by omega) hk0) ?_
  show Wp _ _ _ _ _ _ _ 33 [(0, .ref b)] [] (puR (HN (b + 4) ((b + 3) :: b :: os) (sI I b 0 0) X) b 3 (some (b + 3)))
  rw [hn_link (o := b) (k := 3) (q := b + 3) hr3 (show b + 3 < b + 4 by omega) (nin hos (by omega))]
  refine w_aload_n (Ev.cm _) rfl rfl ?_
  refine w_iconst (Ev.cm _) rfl ?_
  refine w_putI (Ev.cm _) rfl (show b < b + 4 by omega) (cutk (show b < b + 4 by omega) hk0) ?_
  have z5 : Zf (b + 4) (sI (sI I b 0 0) b 4 0) := (Zs (show b < b + 4 by omega) z4)
  show Wp _ _ _ _ _ _ _ 38 [(0, .ref b)] [] (HN (b + 4) (b :: os) (sI (sI I b 0 0) b 4 0) X)
  refine w_aload_n (Ev.cm _) rfl rfl ?_
  refine w_sipush (Ev.cm _) rfl ?_
  refine w_newa (Ev.cm _) rfl (by decide) (by decide) (show _ ∧ _ from ⟨by show b + 4 + 1 ≤ b + 1 + 7; omega, by show slt (b + 4) + 300 ≤ slt (b + 1) + 676; omega⟩) ?_
  show Wp _ _ _ _ _ _ _ 44 [(0, .ref b)] [.ref (b + 4), .ref b] (puN (HN (b + 4) (b :: os) (sI (sI I b 0 0) b 4 0) X) 10 300)
  rw [hn_new (n := b + 4) (k := 10) (len := 300) hk4 z5]
  have z6 : Zf (b + 5) (sI (sI I b 0 0) b 4 0) := (Zn z5)
  refine w_putR (Ev.cm _) rfl (show b < b + 5 by omega) (cutk (show b < b + 5 by omega) hk0) ?_
  show Wp _ _ _ _ _ _ _ 47 [(0, .ref b)] [] (puR (HN (b + 5) ((b + 4) :: b :: os) (sI (sI I b 0 0) b 4 0) X) b 5 (some (b + 4)))
  rw [hn_link (o := b) (k := 5) (q := b + 4) hr5 (show b + 4 < b + 5 by omega) (nin hos (by omega))]
  refine w_aload_n (Ev.cm _) rfl rfl ?_
  refine w_sipush (Ev.cm _) rfl ?_
  refine w_newa (Ev.cm _) rfl (by decide) (by decide) (show _ ∧ _ from ⟨by show b + 5 + 1 ≤ b + 1 + 7; omega, by show slt (b + 5) + 300 ≤ slt (b + 1) + 676; omega⟩) ?_
  show Wp _ _ _ _ _ _ _ 53 [(0, .ref b)] [.ref (b + 5), .ref b] (puN (HN (b + 5) (b :: os) (sI (sI I b 0 0) b 4 0) X) 10 300)
  rw [hn_new (n := b + 5) (k := 10) (len := 300) hk5 z6]
  have z7 : Zf (b + 6) (sI (sI I b 0 0) b 4 0) := (Zn z6)
  refine w_putR (Ev.cm _) rfl (show b < b + 6 by omega) (cutk (show b < b + 6 by omega) hk0) ?_
  show Wp _ _ _ _ _ _ _ 56 [(0, .ref b)] [] (puR (HN (b + 6) ((b + 5) :: b :: os) (sI (sI I b 0 0) b 4 0) X) b 6 (some (b + 5)))
  rw [hn_link (o := b) (k := 6) (q := b + 5) hr6 (show b + 5 < b + 6 by omega) (nin hos (by omega))]
  refine w_aload_n (Ev.cm _) rfl rfl ?_
  refine w_iconst (Ev.cm _) rfl ?_
  refine w_newa (Ev.cm _) rfl (by decide) (by decide) (show _ ∧ _ from ⟨by show b + 6 + 1 ≤ b + 1 + 7; omega, by show slt (b + 6) + 2 ≤ slt (b + 1) + 676; omega⟩) ?_
  show Wp _ _ _ _ _ _ _ 60 [(0, .ref b)] [.ref (b + 6), .ref b] (puN (HN (b + 6) (b :: os) (sI (sI I b 0 0) b 4 0) X) 10 2)
  rw [hn_new (n := b + 6) (k := 10) (len := 2) hk6 z7]
  have z8 : Zf (b + 7) (sI (sI I b 0 0) b 4 0) := (Zn z7)
  refine w_putR (Ev.cm _) rfl (show b < b + 7 by omega) (cutk (show b < b + 7 by omega) hk0) ?_
  show Wp _ _ _ _ _ _ _ 63 [(0, .ref b)] [] (puR (HN (b + 7) ((b + 6) :: b :: os) (sI (sI I b 0 0) b 4 0) X) b 7 (some (b + 6)))
  rw [hn_link (o := b) (k := 7) (q := b + 6) hr7 (show b + 6 < b + 7 by omega) (nin hos (by omega))]
  refine w_aload_n (Ev.cm _) rfl rfl ?_
  refine w_iconst (Ev.cm _) rfl ?_
  refine w_newa (Ev.cm _) rfl (by decide) (by decide) (show _ ∧ _ from ⟨by show b + 7 + 1 ≤ b + 1 + 7; omega, by show slt (b + 7) + 2 ≤ slt (b + 1) + 676; omega⟩) ?_
  show Wp _ _ _ _ _ _ _ 67 [(0, .ref b)] [.ref (b + 7), .ref b] (puN (HN (b + 7) (b :: os) (sI (sI I b 0 0) b 4 0) X) 10 2)
  rw [hn_new (n := b + 7) (k := 10) (len := 2) hk7 z8]
  have z9 : Zf (b + 8) (sI (sI I b 0 0) b 4 0) := (Zn z8)
  refine w_putR (Ev.cm _) rfl (show b < b + 8 by omega) (cutk (show b < b + 8 by omega) hk0) ?_
  show Wp _ _ _ _ _ _ _ 70 [(0, .ref b)] [] (puR (HN (b + 8) ((b + 7) :: b :: os) (sI (sI I b 0 0) b 4 0) X) b 8 (some (b + 7)))
  rw [hn_link (o := b) (k := 8) (q := b + 7) hr8 (show b + 7 < b + 8 by omega) (nin hos (by omega))]
  refine w_aload_n (Ev.cm _) rfl rfl ?_
  refine w_getR (q := b + 6) (Ev.cm _) rfl (show b < b + 8 by omega) (cutk (show b < b + 8 by omega) hk0) (rd_get (n := b + 8) (o := b) (k := 7) (q := b + 6) hr7 (show b + 6 < b + 8 by omega) (nin hos (by omega))) ?_
  refine w_iconst (Ev.cm _) rfl ?_
  refine w_cstat (as := [.ref (b + 6), .int (-1)]) (st := []) (Ev.cm _) rfl rfl rfl (Nat.le_of_ble_eq_true rfl) (Nat.le_of_ble_eq_true rfl) (e_fill_g (n := 2) (show b + 6 < b + 8 by omega) (cutk2 (show b + 6 < b + 8 by omega) hk6) (by decide) ?_)
  have z10 : Zf (b + 8) (va_up (sI (sI I b 0 0) b 4 0) (b + 6) (fillF ((sI (sI I b 0 0) b 4 0) (b + 6)) (-1) 2)) := (Zv (show b + 6 < b + 8 by omega) z9)
  show Wp _ _ _ _ _ _ _ 78 [(0, .ref b)] [] (HN (b + 8) (b :: os) (va_up (sI (sI I b 0 0) b 4 0) (b + 6) (fillF ((sI (sI I b 0 0) b 4 0) (b + 6)) (-1) 2)) X)
  refine w_return (Ev.cm _) rfl rfl (Or.inr ⟨(show b + 8 = b + 1 + 7 by omega), (show slt (b + 8) = slt (b + 1) + 676 by omega)⟩) ?_
  exact q
def iR_ (I : Nat → Nat → Int32) : Nat → Nat → Int32 := sI (sI (sI (sI (sI (iT 308 (sI (sI (sI I 307 0 0) 307 1 0) 307 2 (-1))) 307 7 0) 307 8 0) 307 9 0) 307 10 0) 307 11 38
theorem iR__z {I : Nat → Nat → Int32} (hz : Zf 308 I) : Zf (319) (iR_ I) := by
  unfold iR_
  have z1 : Zf 308 (sI I 307 0 0) := (Zs (Nat.le_of_ble_eq_true rfl) hz)
  have z2 : Zf 308 (sI (sI I 307 0 0) 307 1 0) := (Zs (Nat.le_of_ble_eq_true rfl) z1)
  have z3 : Zf 308 (sI (sI (sI I 307 0 0) 307 1 0) 307 2 (-1)) := (Zs (Nat.le_of_ble_eq_true rfl) z2)
  have z4 : Zf 309 (sI (sI (sI I 307 0 0) 307 1 0) 307 2 (-1)) := (Zn z3)
  have z5 : Zf 316 (iT 308 (sI (sI (sI I 307 0 0) 307 1 0) 307 2 (-1))) := (iT_z (b := 308) z4)
  have z6 : Zf 317 (iT 308 (sI (sI (sI I 307 0 0) 307 1 0) 307 2 (-1))) := (Zn z5)
  have z7 : Zf 318 (iT 308 (sI (sI (sI I 307 0 0) 307 1 0) 307 2 (-1))) := (Zn z6)
  have z8 : Zf 319 (iT 308 (sI (sI (sI I 307 0 0) 307 1 0) 307 2 (-1))) := (Zn z7)
  have z9 : Zf 319 (sI (iT 308 (sI (sI (sI I 307 0 0) 307 1 0) 307 2 (-1))) 307 7 0) := (Zs (Nat.le_of_ble_eq_true rfl) z8)
  have z10 : Zf 319 (sI (sI (iT 308 (sI (sI (sI I 307 0 0) 307 1 0) 307 2 (-1))) 307 7 0) 307 8 0) := (Zs (Nat.le_of_ble_eq_true rfl) z9)
  have z11 : Zf 319 (sI (sI (sI (iT 308 (sI (sI (sI I 307 0 0) 307 1 0) 307 2 (-1))) 307 7 0) 307 8 0) 307 9 0) := (Zs (Nat.le_of_ble_eq_true rfl) z10)
  have z12 : Zf 319 (sI (sI (sI (sI (iT 308 (sI (sI (sI I 307 0 0) 307 1 0) 307 2 (-1))) 307 7 0) 307 8 0) 307 9 0) 307 10 0) := (Zs (Nat.le_of_ble_eq_true rfl) z11)
  have z13 : Zf 319 (sI (sI (sI (sI (sI (iT 308 (sI (sI (sI I 307 0 0) 307 1 0) 307 2 (-1))) 307 7 0) 307 8 0) 307 9 0) 307 10 0) 307 11 38) := (Zs (Nat.le_of_ble_eq_true rfl) z12)
  exact z13
set_option maxHeartbeats 20000000 in
set_option maxRecDepth 20000 in
theorem e_iR_ {d : Nat} {os : List Nat} {I : Nat → Nat → Int32} {X : Nat × (Nat → Int32)} {Q : PQ} (hos : ∀ x ∈ os, x < 307) (hz : Zf 308 I) (q : Q none (HN (319) (307 :: os) (iR_ I) X)) : Ev (d + 3) m_R_new [.ref 307] (HN 308 (307 :: os) I X) Q := by
  unfold iR_ at q
  refine ev_start (d := d + 2) rfl rfl rfl (Nat.le_of_ble_eq_true rfl) ?_
  show Wp (Ev (d + 2)) cd_R_new (mcs m_R_new) none _ _ Q 0 [(0, .ref 307)] [] (HN 308 (307 :: os) I X)
  refine w_aload_n (Ev.cm _) rfl rfl ?_
  refine w_objI (Ev.cm _) rfl (Nat.le_of_ble_eq_true rfl) ?_
  refine w_aload_n (Ev.cm _) rfl rfl ?_
  refine w_iconst (Ev.cm _) rfl ?_
  refine w_putZ (Ev.cm _) rfl (Nat.le_of_ble_eq_true rfl) rfl (by decide) ?_
  have z1 : Zf 308 (sI I 307 0 0) := (Zs (Nat.le_of_ble_eq_true rfl) hz)
  show Wp _ _ _ _ _ _ _ 9 [(0, .ref 307)] [] (HN 308 (307 :: os) (sI I 307 0 0) X)
  refine w_aload_n (Ev.cm _) rfl rfl ?_
  refine w_iconst (Ev.cm _) rfl ?_
  refine w_putI (Ev.cm _) rfl (Nat.le_of_ble_eq_true rfl) rfl ?_
  have z2 : Zf 308 (sI (sI I 307 0 0) 307 1 0) := (Zs (Nat.le_of_ble_eq_true rfl) z1)
  show Wp _ _ _ _ _ _ _ 14 [(0, .ref 307)] [] (HN 308 (307 :: os) (sI (sI I 307 0 0) 307 1 0) X)
  refine w_aload_n (Ev.cm _) rfl rfl ?_
  refine w_iconst (Ev.cm _) rfl ?_
  refine w_putI (Ev.cm _) rfl (Nat.le_of_ble_eq_true rfl) rfl ?_
  have z3 : Zf 308 (sI (sI (sI I 307 0 0) 307 1 0) 307 2 (-1)) := (Zs (Nat.le_of_ble_eq_true rfl) z2)
  show Wp _ _ _ _ _ _ _ 19 [(0, .ref 307)] [] (HN 308 (307 :: os) (sI (sI (sI I 307 0 0) 307 1 0) 307 2 (-1)) X)
  refine w_aload_n (Ev.cm _) rfl rfl ?_
  refine w_new (Ev.cm _) rfl (show _ ∧ _ from ⟨show 308 + 1 ≤ 308 + (mcs m_R_new).1 by decide +kernel, show slt 308 + 9 ≤ slt 308 + (mcs m_R_new).2 by decide +kernel⟩) ?_
  show Wp _ _ _ _ _ _ _ 23 [(0, .ref 307)] [.ref 308, .ref 307] (puN (HN 308 (307 :: os) (sI (sI (sI I 307 0 0) 307 1 0) 307 2 (-1)) X) 7 9)
  rw [hn_new (n := 308) (k := 7) (len := 9) rfl z3]
  have z4 : Zf 309 (sI (sI (sI I 307 0 0) 307 1 0) 307 2 (-1)) := (Zn z3)
  refine w_dup (Ev.cm _) rfl rfl ?_
  refine w_cinit (as := []) (o := 308) (st := [.ref 308, .ref 307]) (Ev.cm _) rfl rfl rfl (Nat.le_of_ble_eq_true rfl) (show _ ∧ _ from ⟨show 309 + (mcs m_T_new).1 ≤ 308 + (mcs m_R_new).1 by decide +kernel, show slt 309 + (mcs m_T_new).2 ≤ slt 308 + (mcs m_R_new).2 by decide +kernel⟩) (Nat.le_of_ble_eq_true rfl) (e_iT (show isT 308 from by unfold isT; omega) (subos (Nat.le_of_ble_eq_true rfl) hos) z4 ?_)
  have z5 : Zf 316 (iT 308 (sI (sI (sI I 307 0 0) 307 1 0) 307 2 (-1))) := (iT_z (b := 308) z4)
  show Wp _ _ _ _ _ _ _ 27 [(0, .ref 307)] [.ref 308, .ref 307] (HN 316 (308 :: 307 :: os) (iT 308 (sI (sI (sI I 307 0 0) 307 1 0) 307 2 (-1))) X)
  refine w_putR (Ev.cm _) rfl (Nat.le_of_ble_eq_true rfl) rfl ?_
  show Wp _ _ _ _ _ _ _ 30 [(0, .ref 307)] [] (puR (HN 316 (308 :: 307 :: os) (iT 308 (sI (sI (sI I 307 0 0) 307 1 0) 307 2 (-1))) X) 307 3 (some 308))
  rw [hn_link (o := 307) (k := 3) (q := 308) rfl (Nat.le_of_ble_eq_true rfl) (nin hos (Nat.le_of_ble_eq_true rfl))]
  refine w_aload_n (Ev.cm _) rfl rfl ?_
  refine w_sipush (Ev.cm _) rfl ?_
  refine w_newa (Ev.cm _) rfl (by decide) (by decide) (show _ ∧ _ from ⟨show 316 + 1 ≤ 308 + (mcs m_R_new).1 by decide +kernel, show slt 316 + 301 ≤ slt 308 + (mcs m_R_new).2 by decide +kernel⟩) ?_
  show Wp _ _ _ _ _ _ _ 36 [(0, .ref 307)] [.ref 316, .ref 307] (puN (HN 316 (307 :: os) (iT 308 (sI (sI (sI I 307 0 0) 307 1 0) 307 2 (-1))) X) 10 301)
  rw [hn_new (n := 316) (k := 10) (len := 301) rfl z5]
  have z6 : Zf 317 (iT 308 (sI (sI (sI I 307 0 0) 307 1 0) 307 2 (-1))) := (Zn z5)
  refine w_putR (Ev.cm _) rfl (Nat.le_of_ble_eq_true rfl) rfl ?_
  show Wp _ _ _ _ _ _ _ 39 [(0, .ref 307)] [] (puR (HN 317 (316 :: 307 :: os) (iT 308 (sI (sI (sI I 307 0 0) 307 1 0) 307 2 (-1))) X) 307 4 (some 316))
  rw [hn_link (o := 307) (k := 4) (q := 316) rfl (Nat.le_of_ble_eq_true rfl) (nin hos (Nat.le_of_ble_eq_true rfl))]
  refine w_aload_n (Ev.cm _) rfl rfl ?_
  refine w_sipush (Ev.cm _) rfl ?_
  refine w_newa (Ev.cm _) rfl (by decide) (by decide) (show _ ∧ _ from ⟨show 317 + 1 ≤ 308 + (mcs m_R_new).1 by decide +kernel, show slt 317 + 301 ≤ slt 308 + (mcs m_R_new).2 by decide +kernel⟩) ?_
  show Wp _ _ _ _ _ _ _ 45 [(0, .ref 307)] [.ref 317, .ref 307] (puN (HN 317 (307 :: os) (iT 308 (sI (sI (sI I 307 0 0) 307 1 0) 307 2 (-1))) X) 10 301)
  rw [hn_new (n := 317) (k := 10) (len := 301) rfl z6]
  have z7 : Zf 318 (iT 308 (sI (sI (sI I 307 0 0) 307 1 0) 307 2 (-1))) := (Zn z6)
  refine w_putR (Ev.cm _) rfl (Nat.le_of_ble_eq_true rfl) rfl ?_
  show Wp _ _ _ _ _ _ _ 48 [(0, .ref 307)] [] (puR (HN 318 (317 :: 307 :: os) (iT 308 (sI (sI (sI I 307 0 0) 307 1 0) 307 2 (-1))) X) 307 5 (some 317))
  rw [hn_link (o := 307) (k := 5) (q := 317) rfl (Nat.le_of_ble_eq_true rfl) (nin hos (Nat.le_of_ble_eq_true rfl))]
  refine w_aload_n (Ev.cm _) rfl rfl ?_
  refine w_sipush (Ev.cm _) rfl ?_
  refine w_newa (Ev.cm _) rfl (by decide) (by decide) (show _ ∧ _ from ⟨show 318 + 1 ≤ 308 + (mcs m_R_new).1 by decide +kernel, show slt 318 + 301 ≤ slt 308 + (mcs m_R_new).2 by decide +kernel⟩) ?_
  show Wp _ _ _ _ _ _ _ 54 [(0, .ref 307)] [.ref 318, .ref 307] (puN (HN 318 (307 :: os) (iT 308 (sI (sI (sI I 307 0 0) 307 1 0) 307 2 (-1))) X) 10 301)
  rw [hn_new (n := 318) (k := 10) (len := 301) rfl z7]
  have z8 : Zf 319 (iT 308 (sI (sI (sI I 307 0 0) 307 1 0) 307 2 (-1))) := (Zn z7)
  refine w_putR (Ev.cm _) rfl (Nat.le_of_ble_eq_true rfl) rfl ?_
  show Wp _ _ _ _ _ _ _ 57 [(0, .ref 307)] [] (puR (HN 319 (318 :: 307 :: os) (iT 308 (sI (sI (sI I 307 0 0) 307 1 0) 307 2 (-1))) X) 307 6 (some 318))
  rw [hn_link (o := 307) (k := 6) (q := 318) rfl (Nat.le_of_ble_eq_true rfl) (nin hos (Nat.le_of_ble_eq_true rfl))]
  refine w_aload_n (Ev.cm _) rfl rfl ?_
  refine w_iconst (Ev.cm _) rfl ?_
  refine w_putI (Ev.cm _) rfl (Nat.le_of_ble_eq_true rfl) rfl ?_
  have z9 : Zf 319 (sI (iT 308 (sI (sI (sI I 307 0 0) 307 1 0) 307 2 (-1))) 307 7 0) := (Zs (Nat.le_of_ble_eq_true rfl) z8)
  show Wp _ _ _ _ _ _ _ 62 [(0, .ref 307)] [] (HN 319 (307 :: os) (sI (iT 308 (sI (sI (sI I 307 0 0) 307 1 0) 307 2 (-1))) 307 7 0) X)
  refine w_aload_n (Ev.cm _) rfl rfl ?_
  refine w_iconst (Ev.cm _) rfl ?_
  refine w_putI (Ev.cm _) rfl (Nat.le_of_ble_eq_true rfl) rfl ?_
  have z10 : Zf 319 (sI (sI (iT 308 (sI (sI (sI I 307 0 0) 307 1 0) 307 2 (-1))) 307 7 0) 307 8 0) := (Zs (Nat.le_of_ble_eq_true rfl) z9)
  show Wp _ _ _ _ _ _ _ 67 [(0, .ref 307)] [] (HN 319 (307 :: os) (sI (sI (iT 308 (sI (sI (sI I 307 0 0) 307 1 0) 307 2 (-1))) 307 7 0) 307 8 0) X)
  refine w_aload_n (Ev.cm _) rfl rfl ?_
  refine w_iconst (Ev.cm _) rfl ?_
  refine w_putI (Ev.cm _) rfl (Nat.le_of_ble_eq_true rfl) rfl ?_
  have z11 : Zf 319 (sI (sI (sI (iT 308 (sI (sI (sI I 307 0 0) 307 1 0) 307 2 (-1))) 307 7 0) 307 8 0) 307 9 0) := (Zs (Nat.le_of_ble_eq_true rfl) z10)
  show Wp _ _ _ _ _ _ _ 72 [(0, .ref 307)] [] (HN 319 (307 :: os) (sI (sI (sI (iT 308 (sI (sI (sI I 307 0 0) 307 1 0) 307 2 (-1))) 307 7 0) 307 8 0) 307 9 0) X)
  refine w_aload_n (Ev.cm _) rfl rfl ?_
  refine w_iconst (Ev.cm _) rfl ?_
  refine w_putI (Ev.cm _) rfl (Nat.le_of_ble_eq_true rfl) rfl ?_
  have z12 : Zf 319 (sI (sI (sI (sI (iT 308 (sI (sI (sI I 307 0 0) 307 1 0) 307 2 (-1))) 307 7 0) 307 8 0) 307 9 0) 307 10 0) := (Zs (Nat.le_of_ble_eq_true rfl) z11)
  show Wp _ _ _ _ _ _ _ 77 [(0, .ref 307)] [] (HN 319 (307 :: os) (sI (sI (sI (sI (iT 308 (sI (sI (sI I 307 0 0) 307 1 0) 307 2 (-1))) 307 7 0) 307 8 0) 307 9 0) 307 10 0) X)
  refine w_aload_n (Ev.cm _) rfl rfl ?_
  refine w_bipush (Ev.cm _) rfl ?_
  refine w_putI (Ev.cm _) rfl (Nat.le_of_ble_eq_true rfl) rfl ?_
  have z13 : Zf 319 (sI (sI (sI (sI (sI (iT 308 (sI (sI (sI I 307 0 0) 307 1 0) 307 2 (-1))) 307 7 0) 307 8 0) 307 9 0) 307 10 0) 307 11 38) := (Zs (Nat.le_of_ble_eq_true rfl) z12)
  show Wp _ _ _ _ _ _ _ 83 [(0, .ref 307)] [] (HN 319 (307 :: os) (sI (sI (sI (sI (sI (iT 308 (sI (sI (sI I 307 0 0) 307 1 0) 307 2 (-1))) 307 7 0) 307 8 0) 307 9 0) 307 10 0) 307 11 38) X)
  refine w_return (Ev.cm _) rfl rfl (Or.inr ⟨(show 319 = 308 + (mcs m_R_new).1 by decide +kernel), (show slt 319 = slt 308 + (mcs m_R_new).2 by decide +kernel)⟩) ?_
  exact q
def iW (I : Nat → Nat → Int32) : Nat → Nat → Int32 := sI I 319 2 0
theorem iW_z {I : Nat → Nat → Int32} (hz : Zf 320 I) : Zf (322) (iW I) := by
  unfold iW
  have z1 : Zf 321 I := (Zn hz)
  have z2 : Zf 322 I := (Zn z1)
  have z3 : Zf 322 (sI I 319 2 0) := (Zs (Nat.le_of_ble_eq_true rfl) z2)
  exact z3
set_option maxHeartbeats 20000000 in
set_option maxRecDepth 20000 in
theorem e_iW {d : Nat} {os : List Nat} {I : Nat → Nat → Int32} {X : Nat × (Nat → Int32)} {Q : PQ} (hos : ∀ x ∈ os, x < 319) (hz : Zf 320 I) (q : Q none (HN (322) (319 :: os) (iW I) X)) : Ev (d + 1) m_W_new [.ref 319] (HN 320 (319 :: os) I X) Q := by
  unfold iW at q
  refine ev_start (d := d + 0) rfl rfl rfl (Nat.le_of_ble_eq_true rfl) ?_
  show Wp (Ev (d + 0)) cd_W_new (mcs m_W_new) none _ _ Q 0 [(0, .ref 319)] [] (HN 320 (319 :: os) I X)
  refine w_aload_n (Ev.cm _) rfl rfl ?_
  refine w_objI (Ev.cm _) rfl (Nat.le_of_ble_eq_true rfl) ?_
  refine w_aload_n (Ev.cm _) rfl rfl ?_
  refine w_bipush (Ev.cm _) rfl ?_
  refine w_newa (Ev.cm _) rfl (by decide) (by decide) (show _ ∧ _ from ⟨show 320 + 1 ≤ 320 + (mcs m_W_new).1 by decide +kernel, show slt 320 + 80 ≤ slt 320 + (mcs m_W_new).2 by decide +kernel⟩) ?_
  show Wp _ _ _ _ _ _ _ 9 [(0, .ref 319)] [.ref 320, .ref 319] (puN (HN 320 (319 :: os) I X) 10 80)
  rw [hn_new (n := 320) (k := 10) (len := 80) rfl hz]
  have z1 : Zf 321 I := (Zn hz)
  refine w_putR (Ev.cm _) rfl (Nat.le_of_ble_eq_true rfl) rfl ?_
  show Wp _ _ _ _ _ _ _ 12 [(0, .ref 319)] [] (puR (HN 321 (320 :: 319 :: os) I X) 319 0 (some 320))
  rw [hn_link (o := 319) (k := 0) (q := 320) rfl (Nat.le_of_ble_eq_true rfl) (nin hos (Nat.le_of_ble_eq_true rfl))]
  refine w_aload_n (Ev.cm _) rfl rfl ?_
  refine w_bipush (Ev.cm _) rfl ?_
  refine w_newa (Ev.cm _) rfl (by decide) (by decide) (show _ ∧ _ from ⟨show 321 + 1 ≤ 320 + (mcs m_W_new).1 by decide +kernel, show slt 321 + 8 ≤ slt 320 + (mcs m_W_new).2 by decide +kernel⟩) ?_
  show Wp _ _ _ _ _ _ _ 17 [(0, .ref 319)] [.ref 321, .ref 319] (puN (HN 321 (319 :: os) I X) 10 8)
  rw [hn_new (n := 321) (k := 10) (len := 8) rfl z1]
  have z2 : Zf 322 I := (Zn z1)
  refine w_putR (Ev.cm _) rfl (Nat.le_of_ble_eq_true rfl) rfl ?_
  show Wp _ _ _ _ _ _ _ 20 [(0, .ref 319)] [] (puR (HN 322 (321 :: 319 :: os) I X) 319 1 (some 321))
  rw [hn_link (o := 319) (k := 1) (q := 321) rfl (Nat.le_of_ble_eq_true rfl) (nin hos (Nat.le_of_ble_eq_true rfl))]
  refine w_aload_n (Ev.cm _) rfl rfl ?_
  refine w_iconst (Ev.cm _) rfl ?_
  refine w_putI (Ev.cm _) rfl (Nat.le_of_ble_eq_true rfl) rfl ?_
  have z3 : Zf 322 (sI I 319 2 0) := (Zs (Nat.le_of_ble_eq_true rfl) z2)
  show Wp _ _ _ _ _ _ _ 25 [(0, .ref 319)] [] (HN 322 (319 :: os) (sI I 319 2 0) X)
  refine w_return (Ev.cm _) rfl rfl (Or.inr ⟨(show 322 = 320 + (mcs m_W_new).1 by decide +kernel), (show slt 322 = slt 320 + (mcs m_W_new).2 by decide +kernel)⟩) ?_
  exact q
def iO (I : Nat → Nat → Int32) : Nat → Nat → Int32 := I
theorem iO_z {I : Nat → Nat → Int32} (hz : Zf 323 I) : Zf (325) (iO I) := by
  unfold iO
  have z1 : Zf 324 I := (Zn hz)
  have z2 : Zf 325 I := (Zn z1)
  exact z2
set_option maxHeartbeats 20000000 in
set_option maxRecDepth 20000 in
theorem e_iO {d : Nat} {os : List Nat} {I : Nat → Nat → Int32} {X : Nat × (Nat → Int32)} {Q : PQ} (hos : ∀ x ∈ os, x < 322) (hz : Zf 323 I) (q : Q none (HN (325) (322 :: os) (iO I) X)) : Ev (d + 1) m_O_new [.ref 322] (HN 323 (322 :: os) I X) Q := by
  unfold iO at q
  refine ev_start (d := d + 0) rfl rfl rfl (Nat.le_of_ble_eq_true rfl) ?_
  show Wp (Ev (d + 0)) cd_O_new (mcs m_O_new) none _ _ Q 0 [(0, .ref 322)] [] (HN 323 (322 :: os) I X)
  refine w_aload_n (Ev.cm _) rfl rfl ?_
  refine w_objI (Ev.cm _) rfl (Nat.le_of_ble_eq_true rfl) ?_
  refine w_aload_n (Ev.cm _) rfl rfl ?_
  refine w_bipush (Ev.cm _) rfl ?_
  refine w_newa (Ev.cm _) rfl (by decide) (by decide) (show _ ∧ _ from ⟨show 323 + 1 ≤ 323 + (mcs m_O_new).1 by decide +kernel, show slt 323 + 18 ≤ slt 323 + (mcs m_O_new).2 by decide +kernel⟩) ?_
  show Wp _ _ _ _ _ _ _ 9 [(0, .ref 322)] [.ref 323, .ref 322] (puN (HN 323 (322 :: os) I X) 11 18)
  rw [hn_new (n := 323) (k := 11) (len := 18) rfl hz]
  have z1 : Zf 324 I := (Zn hz)
  refine w_putR (Ev.cm _) rfl (Nat.le_of_ble_eq_true rfl) rfl ?_
  show Wp _ _ _ _ _ _ _ 12 [(0, .ref 322)] [] (puR (HN 324 (323 :: 322 :: os) I X) 322 0 (some 323))
  rw [hn_link (o := 322) (k := 0) (q := 323) rfl (Nat.le_of_ble_eq_true rfl) (nin hos (Nat.le_of_ble_eq_true rfl))]
  refine w_aload_n (Ev.cm _) rfl rfl ?_
  refine w_bipush (Ev.cm _) rfl ?_
  refine w_newa (Ev.cm _) rfl (by decide) (by decide) (show _ ∧ _ from ⟨show 324 + 1 ≤ 323 + (mcs m_O_new).1 by decide +kernel, show slt 324 + 18 ≤ slt 323 + (mcs m_O_new).2 by decide +kernel⟩) ?_
  show Wp _ _ _ _ _ _ _ 17 [(0, .ref 322)] [.ref 324, .ref 322] (puN (HN 324 (322 :: os) I X) 11 18)
  rw [hn_new (n := 324) (k := 11) (len := 18) rfl z1]
  have z2 : Zf 325 I := (Zn z1)
  refine w_putR (Ev.cm _) rfl (Nat.le_of_ble_eq_true rfl) rfl ?_
  show Wp _ _ _ _ _ _ _ 20 [(0, .ref 322)] [] (puR (HN 325 (324 :: 322 :: os) I X) 322 1 (some 324))
  rw [hn_link (o := 322) (k := 1) (q := 324) rfl (Nat.le_of_ble_eq_true rfl) (nin hos (Nat.le_of_ble_eq_true rfl))]
  refine w_return (Ev.cm _) rfl rfl (Or.inr ⟨(show 325 = 323 + (mcs m_O_new).1 by decide +kernel), (show slt 325 = slt 323 + (mcs m_O_new).2 by decide +kernel)⟩) ?_
  exact q
def iC (I : Nat → Nat → Int32) : Nat → Nat → Int32 := I
theorem iC_z {I : Nat → Nat → Int32} (hz : Zf 326 I) : Zf (328) (iC I) := by
  unfold iC
  have z1 : Zf 327 I := (Zn hz)
  have z2 : Zf 328 I := (Zn z1)
  exact z2
set_option maxHeartbeats 20000000 in
set_option maxRecDepth 20000 in
theorem e_iC {d : Nat} {os : List Nat} {I : Nat → Nat → Int32} {X : Nat × (Nat → Int32)} {Q : PQ} (hos : ∀ x ∈ os, x < 325) (hz : Zf 326 I) (q : Q none (HN (328) (325 :: os) (iC I) X)) : Ev (d + 1) m_C_new [.ref 325] (HN 326 (325 :: os) I X) Q := by
  unfold iC at q
  refine ev_start (d := d + 0) rfl rfl rfl (Nat.le_of_ble_eq_true rfl) ?_
  show Wp (Ev (d + 0)) cd_C_new (mcs m_C_new) none _ _ Q 0 [(0, .ref 325)] [] (HN 326 (325 :: os) I X)
  refine w_aload_n (Ev.cm _) rfl rfl ?_
  refine w_objI (Ev.cm _) rfl (Nat.le_of_ble_eq_true rfl) ?_
  refine w_aload_n (Ev.cm _) rfl rfl ?_
  refine w_bipush (Ev.cm _) rfl ?_
  refine w_newa (Ev.cm _) rfl (by decide) (by decide) (show _ ∧ _ from ⟨show 326 + 1 ≤ 326 + (mcs m_C_new).1 by decide +kernel, show slt 326 + 64 ≤ slt 326 + (mcs m_C_new).2 by decide +kernel⟩) ?_
  show Wp _ _ _ _ _ _ _ 9 [(0, .ref 325)] [.ref 326, .ref 325] (puN (HN 326 (325 :: os) I X) 10 64)
  rw [hn_new (n := 326) (k := 10) (len := 64) rfl hz]
  have z1 : Zf 327 I := (Zn hz)
  refine w_putR (Ev.cm _) rfl (Nat.le_of_ble_eq_true rfl) rfl ?_
  show Wp _ _ _ _ _ _ _ 12 [(0, .ref 325)] [] (puR (HN 327 (326 :: 325 :: os) I X) 325 0 (some 326))
  rw [hn_link (o := 325) (k := 0) (q := 326) rfl (Nat.le_of_ble_eq_true rfl) (nin hos (Nat.le_of_ble_eq_true rfl))]
  refine w_aload_n (Ev.cm _) rfl rfl ?_
  refine w_bipush (Ev.cm _) rfl ?_
  refine w_newa (Ev.cm _) rfl (by decide) (by decide) (show _ ∧ _ from ⟨show 327 + 1 ≤ 326 + (mcs m_C_new).1 by decide +kernel, show slt 327 + 9 ≤ slt 326 + (mcs m_C_new).2 by decide +kernel⟩) ?_
  show Wp _ _ _ _ _ _ _ 17 [(0, .ref 325)] [.ref 327, .ref 325] (puN (HN 327 (325 :: os) I X) 10 9)
  rw [hn_new (n := 327) (k := 10) (len := 9) rfl z1]
  have z2 : Zf 328 I := (Zn z1)
  refine w_putR (Ev.cm _) rfl (Nat.le_of_ble_eq_true rfl) rfl ?_
  show Wp _ _ _ _ _ _ _ 20 [(0, .ref 325)] [] (puR (HN 328 (327 :: 325 :: os) I X) 325 1 (some 327))
  rw [hn_link (o := 325) (k := 1) (q := 327) rfl (Nat.le_of_ble_eq_true rfl) (nin hos (Nat.le_of_ble_eq_true rfl))]
  refine w_return (Ev.cm _) rfl rfl (Or.inr ⟨(show 328 = 326 + (mcs m_C_new).1 by decide +kernel), (show slt 328 = slt 326 + (mcs m_C_new).2 by decide +kernel)⟩) ?_
  exact q
def iX (I : Nat → Nat → Int32) : Nat → Nat → Int32 := iC (iO (iW (iR_ (sI (iT 298 (iT 290 (iT 282 (iT 274 (iQ_137 (iQ_1 I)))))) 0 4 0))))
theorem iX_z {I : Nat → Nat → Int32} (hz : Zf 1 I) : Zf (331) (iX I) := by
  unfold iX
  have z1 : Zf 2 I := (Zn hz)
  have z2 : Zf 137 (iQ_1 I) := (iQ_1_z z1)
  have z3 : Zf 138 (iQ_1 I) := (Zn z2)
  have z4 : Zf 273 (iQ_137 (iQ_1 I)) := (iQ_137_z z3)
  have z5 : Zf 274 (iQ_137 (iQ_1 I)) := (Zn z4)
  have z6 : Zf 275 (iQ_137 (iQ_1 I)) := (Zn z5)
  have z7 : Zf 282 (iT 274 (iQ_137 (iQ_1 I))) := (iT_z (b := 274) z6)
  have z8 : Zf 283 (iT 274 (iQ_137 (iQ_1 I))) := (Zn z7)
  have z9 : Zf 290 (iT 282 (iT 274 (iQ_137 (iQ_1 I)))) := (iT_z (b := 282) z8)
  have z10 : Zf 291 (iT 282 (iT 274 (iQ_137 (iQ_1 I)))) := (Zn z9)
  have z11 : Zf 298 (iT 290 (iT 282 (iT 274 (iQ_137 (iQ_1 I))))) := (iT_z (b := 290) z10)
  have z12 : Zf 299 (iT 290 (iT 282 (iT 274 (iQ_137 (iQ_1 I))))) := (Zn z11)
  have z13 : Zf 306 (iT 298 (iT 290 (iT 282 (iT 274 (iQ_137 (iQ_1 I)))))) := (iT_z (b := 298) z12)
  have z14 : Zf 307 (iT 298 (iT 290 (iT 282 (iT 274 (iQ_137 (iQ_1 I)))))) := (Zn z13)
  have z15 : Zf 307 (sI (iT 298 (iT 290 (iT 282 (iT 274 (iQ_137 (iQ_1 I)))))) 0 4 0) := (Zs (Nat.le_of_ble_eq_true rfl) z14)
  have z16 : Zf 308 (sI (iT 298 (iT 290 (iT 282 (iT 274 (iQ_137 (iQ_1 I)))))) 0 4 0) := (Zn z15)
  have z17 : Zf 319 (iR_ (sI (iT 298 (iT 290 (iT 282 (iT 274 (iQ_137 (iQ_1 I)))))) 0 4 0)) := (iR__z z16)
  have z18 : Zf 320 (iR_ (sI (iT 298 (iT 290 (iT 282 (iT 274 (iQ_137 (iQ_1 I)))))) 0 4 0)) := (Zn z17)
  have z19 : Zf 322 (iW (iR_ (sI (iT 298 (iT 290 (iT 282 (iT 274 (iQ_137 (iQ_1 I)))))) 0 4 0))) := (iW_z z18)
  have z20 : Zf 323 (iW (iR_ (sI (iT 298 (iT 290 (iT 282 (iT 274 (iQ_137 (iQ_1 I)))))) 0 4 0))) := (Zn z19)
  have z21 : Zf 325 (iO (iW (iR_ (sI (iT 298 (iT 290 (iT 282 (iT 274 (iQ_137 (iQ_1 I)))))) 0 4 0)))) := (iO_z z20)
  have z22 : Zf 326 (iO (iW (iR_ (sI (iT 298 (iT 290 (iT 282 (iT 274 (iQ_137 (iQ_1 I)))))) 0 4 0)))) := (Zn z21)
  have z23 : Zf 328 (iC (iO (iW (iR_ (sI (iT 298 (iT 290 (iT 282 (iT 274 (iQ_137 (iQ_1 I)))))) 0 4 0))))) := (iC_z z22)
  have z24 : Zf 329 (iC (iO (iW (iR_ (sI (iT 298 (iT 290 (iT 282 (iT 274 (iQ_137 (iQ_1 I)))))) 0 4 0))))) := (Zn z23)
  have z25 : Zf 330 (iC (iO (iW (iR_ (sI (iT 298 (iT 290 (iT 282 (iT 274 (iQ_137 (iQ_1 I)))))) 0 4 0))))) := (Zn z24)
  have z26 : Zf 331 (iC (iO (iW (iR_ (sI (iT 298 (iT 290 (iT 282 (iT 274 (iQ_137 (iQ_1 I)))))) 0 4 0))))) := (Zn z25)
  exact z26
set_option maxHeartbeats 20000000 in
set_option maxRecDepth 20000 in
theorem e_iX {d : Nat} {os : List Nat} {I : Nat → Nat → Int32} {X : Nat × (Nat → Int32)} {Q : PQ} (hos : ∀ x ∈ os, x < 0) (hz : Zf 1 I) (q : Q none (HN (331) (0 :: os) (iX I) X)) : Ev (d + 4) m_X_new [.ref 0] (HN 1 (0 :: os) I X) Q := by
  unfold iX at q
  refine ev_start (d := d + 3) rfl rfl rfl (Nat.le_of_ble_eq_true rfl) ?_
  show Wp (Ev (d + 3)) cd_X_new (mcs m_X_new) none _ _ Q 0 [(0, .ref 0)] [] (HN 1 (0 :: os) I X)
  refine w_aload_n (Ev.cm _) rfl rfl ?_
  refine w_objI (Ev.cm _) rfl (Nat.le_of_ble_eq_true rfl) ?_
  refine w_aload_n (Ev.cm _) rfl rfl ?_
  refine w_new (Ev.cm _) rfl (show _ ∧ _ from ⟨show 1 + 1 ≤ 1 + (mcs m_X_new).1 by decide +kernel, show slt 1 + 17 ≤ slt 1 + (mcs m_X_new).2 by decide +kernel⟩) ?_
  show Wp _ _ _ _ _ _ _ 8 [(0, .ref 0)] [.ref 1, .ref 0] (puN (HN 1 (0 :: os) I X) 5 17)
  rw [hn_new (n := 1) (k := 5) (len := 17) rfl hz]
  have z1 : Zf 2 I := (Zn hz)
  refine w_dup (Ev.cm _) rfl rfl ?_
  refine w_cinit (as := []) (o := 1) (st := [.ref 1, .ref 0]) (Ev.cm _) rfl rfl rfl (Nat.le_of_ble_eq_true rfl) (show _ ∧ _ from ⟨show 2 + (mcs m_Q_new).1 ≤ 1 + (mcs m_X_new).1 by decide +kernel, show slt 2 + (mcs m_Q_new).2 ≤ slt 1 + (mcs m_X_new).2 by decide +kernel⟩) (Nat.le_of_ble_eq_true rfl) (e_iQ_1 (subos (Nat.le_of_ble_eq_true rfl) hos) z1 ?_)
  have z2 : Zf 137 (iQ_1 I) := (iQ_1_z z1)
  show Wp _ _ _ _ _ _ _ 12 [(0, .ref 0)] [.ref 1, .ref 0] (HN 137 (1 :: 0 :: os) (iQ_1 I) X)
  refine w_putR (Ev.cm _) rfl (Nat.le_of_ble_eq_true rfl) rfl ?_
  show Wp _ _ _ _ _ _ _ 15 [(0, .ref 0)] [] (puR (HN 137 (1 :: 0 :: os) (iQ_1 I) X) 0 0 (some 1))
  rw [hn_link (o := 0) (k := 0) (q := 1) rfl (Nat.le_of_ble_eq_true rfl) (nin hos (Nat.le_of_ble_eq_true rfl))]
  refine w_aload_n (Ev.cm _) rfl rfl ?_
  refine w_new (Ev.cm _) rfl (show _ ∧ _ from ⟨show 137 + 1 ≤ 1 + (mcs m_X_new).1 by decide +kernel, show slt 137 + 17 ≤ slt 1 + (mcs m_X_new).2 by decide +kernel⟩) ?_
  show Wp _ _ _ _ _ _ _ 19 [(0, .ref 0)] [.ref 137, .ref 0] (puN (HN 137 (0 :: os) (iQ_1 I) X) 5 17)
  rw [hn_new (n := 137) (k := 5) (len := 17) rfl z2]
  have z3 : Zf 138 (iQ_1 I) := (Zn z2)
  refine w_dup (Ev.cm _) rfl rfl ?_
  refine w_cinit (as := []) (o := 137) (st := [.ref 137, .ref 0]) (Ev.cm _) rfl rfl rfl (Nat.le_of_ble_eq_true rfl) (show _ ∧ _ from ⟨show 138 + (mcs m_Q_new).1 ≤ 1 + (mcs m_X_new).1 by decide +kernel, show slt 138 + (mcs m_Q_new).2 ≤ slt 1 + (mcs m_X_new).2 by decide +kernel⟩) (Nat.le_of_ble_eq_true rfl) (e_iQ_137 (subos (Nat.le_of_ble_eq_true rfl) hos) z3 ?_)
  have z4 : Zf 273 (iQ_137 (iQ_1 I)) := (iQ_137_z z3)
  show Wp _ _ _ _ _ _ _ 23 [(0, .ref 0)] [.ref 137, .ref 0] (HN 273 (137 :: 0 :: os) (iQ_137 (iQ_1 I)) X)
  refine w_putR (Ev.cm _) rfl (Nat.le_of_ble_eq_true rfl) rfl ?_
  show Wp _ _ _ _ _ _ _ 26 [(0, .ref 0)] [] (puR (HN 273 (137 :: 0 :: os) (iQ_137 (iQ_1 I)) X) 0 1 (some 137))
  rw [hn_link (o := 0) (k := 1) (q := 137) rfl (Nat.le_of_ble_eq_true rfl) (nin hos (Nat.le_of_ble_eq_true rfl))]
  refine w_aload_n (Ev.cm _) rfl rfl ?_
  refine w_iconst (Ev.cm _) rfl ?_
  refine w_newr (Ev.cm _) rfl (by decide) (by decide) (show _ ∧ _ from ⟨show 273 + 1 ≤ 1 + (mcs m_X_new).1 by decide +kernel, show slt 273 + 4 ≤ slt 1 + (mcs m_X_new).2 by decide +kernel⟩) ?_
  show Wp _ _ _ _ _ _ _ 31 [(0, .ref 0)] [.ref 273, .ref 0] (puN (HN 273 (0 :: os) (iQ_137 (iQ_1 I)) X) 13 4)
  rw [hn_new (n := 273) (k := 13) (len := 4) rfl z4]
  have z5 : Zf 274 (iQ_137 (iQ_1 I)) := (Zn z4)
  refine w_putR (Ev.cm _) rfl (Nat.le_of_ble_eq_true rfl) rfl ?_
  show Wp _ _ _ _ _ _ _ 34 [(0, .ref 0)] [] (puR (HN 274 (273 :: 0 :: os) (iQ_137 (iQ_1 I)) X) 0 2 (some 273))
  rw [hn_link (o := 0) (k := 2) (q := 273) rfl (Nat.le_of_ble_eq_true rfl) (nin hos (Nat.le_of_ble_eq_true rfl))]
  refine w_iconst (Ev.cm _) rfl ?_
  refine w_istore_n (ls2 := [(0, .ref 0), (1, .int 0)]) (Ev.cm _) rfl rfl ?_
  refine w_iload_n (Ev.cm _) rfl rfl ?_
  refine w_iconst (Ev.cm _) rfl ?_
  refine w_icmp_ge (Ev.cm _) rfl (fun q => absurd q (by decide)) (fun _ => ?_)
  refine w_aload_n (Ev.cm _) rfl rfl ?_
  refine w_getR (q := 273) (Ev.cm _) rfl (Nat.le_of_ble_eq_true rfl) rfl (rd_get (n := 274) (o := 0) (k := 2) (q := 273) rfl (Nat.le_of_ble_eq_true rfl) (nin hos (Nat.le_of_ble_eq_true rfl))) ?_
  refine w_iload_n (Ev.cm _) rfl rfl ?_
  refine w_new (Ev.cm _) rfl (show _ ∧ _ from ⟨show 274 + 1 ≤ 1 + (mcs m_X_new).1 by decide +kernel, show slt 274 + 9 ≤ slt 1 + (mcs m_X_new).2 by decide +kernel⟩) ?_
  show Wp _ _ _ _ _ _ _ 49 [(0, .ref 0), (1, .int 0)] [.ref 274, .int 0, .ref 273] (puN (HN 274 (0 :: os) (iQ_137 (iQ_1 I)) X) 7 9)
  rw [hn_new (n := 274) (k := 7) (len := 9) rfl z5]
  have z6 : Zf 275 (iQ_137 (iQ_1 I)) := (Zn z5)
  refine w_dup (Ev.cm _) rfl rfl ?_
  refine w_cinit (as := []) (o := 274) (st := [.ref 274, .int 0, .ref 273]) (Ev.cm _) rfl rfl rfl (Nat.le_of_ble_eq_true rfl) (show _ ∧ _ from ⟨show 275 + (mcs m_T_new).1 ≤ 1 + (mcs m_X_new).1 by decide +kernel, show slt 275 + (mcs m_T_new).2 ≤ slt 1 + (mcs m_X_new).2 by decide +kernel⟩) (Nat.le_of_ble_eq_true rfl) (e_iT (show isT 274 from by unfold isT; omega) (subos (Nat.le_of_ble_eq_true rfl) hos) z6 ?_)
  have z7 : Zf 282 (iT 274 (iQ_137 (iQ_1 I))) := (iT_z (b := 274) z6)
  show Wp _ _ _ _ _ _ _ 53 [(0, .ref 0), (1, .int 0)] [.ref 274, .int 0, .ref 273] (HN 282 (274 :: 0 :: os) (iT 274 (iQ_137 (iQ_1 I))) X)
  refine w_aast (Ev.cm _) rfl (Nat.le_of_ble_eq_true rfl) rfl (show vp_in 0 4 from vpI 4 (by decide) (by decide) (by decide)) (Nat.le_of_ble_eq_true rfl) rfl ?_
  show Wp _ _ _ _ _ _ _ 54 [(0, .ref 0), (1, .int 0)] [] (puR (HN 282 (274 :: 0 :: os) (iT 274 (iQ_137 (iQ_1 I))) X) 273 0 (some 274))
  rw [hn_link (o := 273) (k := 0) (q := 274) rfl (Nat.le_of_ble_eq_true rfl) (nin hos (Nat.le_of_ble_eq_true rfl))]
  refine w_iinc (ls2 := [(0, .ref 0), (1, .int 1)]) (Ev.cm _) rfl rfl rfl ?_
  refine w_goto (Ev.cm _) rfl ?_
  refine w_iload_n (Ev.cm _) rfl rfl ?_
  refine w_iconst (Ev.cm _) rfl ?_
  refine w_icmp_ge (Ev.cm _) rfl (fun q => absurd q (by decide)) (fun _ => ?_)
  refine w_aload_n (Ev.cm _) rfl rfl ?_
  refine w_getR (q := 273) (Ev.cm _) rfl (Nat.le_of_ble_eq_true rfl) rfl (rd_get (n := 282) (o := 0) (k := 2) (q := 273) rfl (Nat.le_of_ble_eq_true rfl) (nin hos (Nat.le_of_ble_eq_true rfl))) ?_
  refine w_iload_n (Ev.cm _) rfl rfl ?_
  refine w_new (Ev.cm _) rfl (show _ ∧ _ from ⟨show 282 + 1 ≤ 1 + (mcs m_X_new).1 by decide +kernel, show slt 282 + 9 ≤ slt 1 + (mcs m_X_new).2 by decide +kernel⟩) ?_
  show Wp _ _ _ _ _ _ _ 49 [(0, .ref 0), (1, .int 1)] [.ref 282, .int 1, .ref 273] (puN (HN 282 (0 :: os) (iT 274 (iQ_137 (iQ_1 I))) X) 7 9)
  rw [hn_new (n := 282) (k := 7) (len := 9) rfl z7]
  have z8 : Zf 283 (iT 274 (iQ_137 (iQ_1 I))) := (Zn z7)
  refine w_dup (Ev.cm _) rfl rfl ?_
  refine w_cinit (as := []) (o := 282) (st := [.ref 282, .int 1, .ref 273]) (Ev.cm _) rfl rfl rfl (Nat.le_of_ble_eq_true rfl) (show _ ∧ _ from ⟨show 283 + (mcs m_T_new).1 ≤ 1 + (mcs m_X_new).1 by decide +kernel, show slt 283 + (mcs m_T_new).2 ≤ slt 1 + (mcs m_X_new).2 by decide +kernel⟩) (Nat.le_of_ble_eq_true rfl) (e_iT (show isT 282 from by unfold isT; omega) (subos (Nat.le_of_ble_eq_true rfl) hos) z8 ?_)
  have z9 : Zf 290 (iT 282 (iT 274 (iQ_137 (iQ_1 I)))) := (iT_z (b := 282) z8)
  show Wp _ _ _ _ _ _ _ 53 [(0, .ref 0), (1, .int 1)] [.ref 282, .int 1, .ref 273] (HN 290 (282 :: 0 :: os) (iT 282 (iT 274 (iQ_137 (iQ_1 I)))) X)
  refine w_aast (Ev.cm _) rfl (Nat.le_of_ble_eq_true rfl) rfl (show vp_in 1 4 from vpI 4 (by decide) (by decide) (by decide)) (Nat.le_of_ble_eq_true rfl) rfl ?_
  show Wp _ _ _ _ _ _ _ 54 [(0, .ref 0), (1, .int 1)] [] (puR (HN 290 (282 :: 0 :: os) (iT 282 (iT 274 (iQ_137 (iQ_1 I)))) X) 273 1 (some 282))
  rw [hn_link (o := 273) (k := 1) (q := 282) rfl (Nat.le_of_ble_eq_true rfl) (nin hos (Nat.le_of_ble_eq_true rfl))]
  refine w_iinc (ls2 := [(0, .ref 0), (1, .int 2)]) (Ev.cm _) rfl rfl rfl ?_
  refine w_goto (Ev.cm _) rfl ?_
  refine w_iload_n (Ev.cm _) rfl rfl ?_
  refine w_iconst (Ev.cm _) rfl ?_
  refine w_icmp_ge (Ev.cm _) rfl (fun q => absurd q (by decide)) (fun _ => ?_)
  refine w_aload_n (Ev.cm _) rfl rfl ?_
  refine w_getR (q := 273) (Ev.cm _) rfl (Nat.le_of_ble_eq_true rfl) rfl (rd_get (n := 290) (o := 0) (k := 2) (q := 273) rfl (Nat.le_of_ble_eq_true rfl) (nin hos (Nat.le_of_ble_eq_true rfl))) ?_
  refine w_iload_n (Ev.cm _) rfl rfl ?_
  refine w_new (Ev.cm _) rfl (show _ ∧ _ from ⟨show 290 + 1 ≤ 1 + (mcs m_X_new).1 by decide +kernel, show slt 290 + 9 ≤ slt 1 + (mcs m_X_new).2 by decide +kernel⟩) ?_
  show Wp _ _ _ _ _ _ _ 49 [(0, .ref 0), (1, .int 2)] [.ref 290, .int 2, .ref 273] (puN (HN 290 (0 :: os) (iT 282 (iT 274 (iQ_137 (iQ_1 I)))) X) 7 9)
  rw [hn_new (n := 290) (k := 7) (len := 9) rfl z9]
  have z10 : Zf 291 (iT 282 (iT 274 (iQ_137 (iQ_1 I)))) := (Zn z9)
  refine w_dup (Ev.cm _) rfl rfl ?_
  refine w_cinit (as := []) (o := 290) (st := [.ref 290, .int 2, .ref 273]) (Ev.cm _) rfl rfl rfl (Nat.le_of_ble_eq_true rfl) (show _ ∧ _ from ⟨show 291 + (mcs m_T_new).1 ≤ 1 + (mcs m_X_new).1 by decide +kernel, show slt 291 + (mcs m_T_new).2 ≤ slt 1 + (mcs m_X_new).2 by decide +kernel⟩) (Nat.le_of_ble_eq_true rfl) (e_iT (show isT 290 from by unfold isT; omega) (subos (Nat.le_of_ble_eq_true rfl) hos) z10 ?_)
  have z11 : Zf 298 (iT 290 (iT 282 (iT 274 (iQ_137 (iQ_1 I))))) := (iT_z (b := 290) z10)
  show Wp _ _ _ _ _ _ _ 53 [(0, .ref 0), (1, .int 2)] [.ref 290, .int 2, .ref 273] (HN 298 (290 :: 0 :: os) (iT 290 (iT 282 (iT 274 (iQ_137 (iQ_1 I))))) X)
  refine w_aast (Ev.cm _) rfl (Nat.le_of_ble_eq_true rfl) rfl (show vp_in 2 4 from vpI 4 (by decide) (by decide) (by decide)) (Nat.le_of_ble_eq_true rfl) rfl ?_
  show Wp _ _ _ _ _ _ _ 54 [(0, .ref 0), (1, .int 2)] [] (puR (HN 298 (290 :: 0 :: os) (iT 290 (iT 282 (iT 274 (iQ_137 (iQ_1 I))))) X) 273 2 (some 290))
  rw [hn_link (o := 273) (k := 2) (q := 290) rfl (Nat.le_of_ble_eq_true rfl) (nin hos (Nat.le_of_ble_eq_true rfl))]
  refine w_iinc (ls2 := [(0, .ref 0), (1, .int 3)]) (Ev.cm _) rfl rfl rfl ?_
  refine w_goto (Ev.cm _) rfl ?_
  refine w_iload_n (Ev.cm _) rfl rfl ?_
  refine w_iconst (Ev.cm _) rfl ?_
  refine w_icmp_ge (Ev.cm _) rfl (fun q => absurd q (by decide)) (fun _ => ?_)
  refine w_aload_n (Ev.cm _) rfl rfl ?_
  refine w_getR (q := 273) (Ev.cm _) rfl (Nat.le_of_ble_eq_true rfl) rfl (rd_get (n := 298) (o := 0) (k := 2) (q := 273) rfl (Nat.le_of_ble_eq_true rfl) (nin hos (Nat.le_of_ble_eq_true rfl))) ?_
  refine w_iload_n (Ev.cm _) rfl rfl ?_
  refine w_new (Ev.cm _) rfl (show _ ∧ _ from ⟨show 298 + 1 ≤ 1 + (mcs m_X_new).1 by decide +kernel, show slt 298 + 9 ≤ slt 1 + (mcs m_X_new).2 by decide +kernel⟩) ?_
  show Wp _ _ _ _ _ _ _ 49 [(0, .ref 0), (1, .int 3)] [.ref 298, .int 3, .ref 273] (puN (HN 298 (0 :: os) (iT 290 (iT 282 (iT 274 (iQ_137 (iQ_1 I))))) X) 7 9)
  rw [hn_new (n := 298) (k := 7) (len := 9) rfl z11]
  have z12 : Zf 299 (iT 290 (iT 282 (iT 274 (iQ_137 (iQ_1 I))))) := (Zn z11)
  refine w_dup (Ev.cm _) rfl rfl ?_
  refine w_cinit (as := []) (o := 298) (st := [.ref 298, .int 3, .ref 273]) (Ev.cm _) rfl rfl rfl (Nat.le_of_ble_eq_true rfl) (show _ ∧ _ from ⟨show 299 + (mcs m_T_new).1 ≤ 1 + (mcs m_X_new).1 by decide +kernel, show slt 299 + (mcs m_T_new).2 ≤ slt 1 + (mcs m_X_new).2 by decide +kernel⟩) (Nat.le_of_ble_eq_true rfl) (e_iT (show isT 298 from by unfold isT; omega) (subos (Nat.le_of_ble_eq_true rfl) hos) z12 ?_)
  have z13 : Zf 306 (iT 298 (iT 290 (iT 282 (iT 274 (iQ_137 (iQ_1 I)))))) := (iT_z (b := 298) z12)
  show Wp _ _ _ _ _ _ _ 53 [(0, .ref 0), (1, .int 3)] [.ref 298, .int 3, .ref 273] (HN 306 (298 :: 0 :: os) (iT 298 (iT 290 (iT 282 (iT 274 (iQ_137 (iQ_1 I)))))) X)
  refine w_aast (Ev.cm _) rfl (Nat.le_of_ble_eq_true rfl) rfl (show vp_in 3 4 from vpI 4 (by decide) (by decide) (by decide)) (Nat.le_of_ble_eq_true rfl) rfl ?_
  show Wp _ _ _ _ _ _ _ 54 [(0, .ref 0), (1, .int 3)] [] (puR (HN 306 (298 :: 0 :: os) (iT 298 (iT 290 (iT 282 (iT 274 (iQ_137 (iQ_1 I)))))) X) 273 3 (some 298))
  rw [hn_link (o := 273) (k := 3) (q := 298) rfl (Nat.le_of_ble_eq_true rfl) (nin hos (Nat.le_of_ble_eq_true rfl))]
  refine w_iinc (ls2 := [(0, .ref 0), (1, .int 4)]) (Ev.cm _) rfl rfl rfl ?_
  refine w_goto (Ev.cm _) rfl ?_
  refine w_iload_n (Ev.cm _) rfl rfl ?_
  refine w_iconst (Ev.cm _) rfl ?_
  refine w_icmp_ge (Ev.cm _) rfl (fun _ => ?_) (fun q => absurd (by decide) q)
  refine w_aload_n (Ev.cm _) rfl rfl ?_
  refine w_sipush (Ev.cm _) rfl ?_
  refine w_newa (Ev.cm _) rfl (by decide) (by decide) (show _ ∧ _ from ⟨show 306 + 1 ≤ 1 + (mcs m_X_new).1 by decide +kernel, show slt 306 + 300 ≤ slt 1 + (mcs m_X_new).2 by decide +kernel⟩) ?_
  show Wp _ _ _ _ _ _ _ 66 [(0, .ref 0), (1, .int 4)] [.ref 306, .ref 0] (puN (HN 306 (0 :: os) (iT 298 (iT 290 (iT 282 (iT 274 (iQ_137 (iQ_1 I)))))) X) 10 300)
  rw [hn_new (n := 306) (k := 10) (len := 300) rfl z13]
  have z14 : Zf 307 (iT 298 (iT 290 (iT 282 (iT 274 (iQ_137 (iQ_1 I)))))) := (Zn z13)
  refine w_putR (Ev.cm _) rfl (Nat.le_of_ble_eq_true rfl) rfl ?_
  show Wp _ _ _ _ _ _ _ 69 [(0, .ref 0), (1, .int 4)] [] (puR (HN 307 (306 :: 0 :: os) (iT 298 (iT 290 (iT 282 (iT 274 (iQ_137 (iQ_1 I)))))) X) 0 3 (some 306))
  rw [hn_link (o := 0) (k := 3) (q := 306) rfl (Nat.le_of_ble_eq_true rfl) (nin hos (Nat.le_of_ble_eq_true rfl))]
  refine w_aload_n (Ev.cm _) rfl rfl ?_
  refine w_iconst (Ev.cm _) rfl ?_
  refine w_putI (Ev.cm _) rfl (Nat.le_of_ble_eq_true rfl) rfl ?_
  have z15 : Zf 307 (sI (iT 298 (iT 290 (iT 282 (iT 274 (iQ_137 (iQ_1 I)))))) 0 4 0) := (Zs (Nat.le_of_ble_eq_true rfl) z14)
  show Wp _ _ _ _ _ _ _ 74 [(0, .ref 0), (1, .int 4)] [] (HN 307 (0 :: os) (sI (iT 298 (iT 290 (iT 282 (iT 274 (iQ_137 (iQ_1 I)))))) 0 4 0) X)
  refine w_aload_n (Ev.cm _) rfl rfl ?_
  refine w_new (Ev.cm _) rfl (show _ ∧ _ from ⟨show 307 + 1 ≤ 1 + (mcs m_X_new).1 by decide +kernel, show slt 307 + 12 ≤ slt 1 + (mcs m_X_new).2 by decide +kernel⟩) ?_
  show Wp _ _ _ _ _ _ _ 78 [(0, .ref 0), (1, .int 4)] [.ref 307, .ref 0] (puN (HN 307 (0 :: os) (sI (iT 298 (iT 290 (iT 282 (iT 274 (iQ_137 (iQ_1 I)))))) 0 4 0) X) 4 12)
  rw [hn_new (n := 307) (k := 4) (len := 12) rfl z15]
  have z16 : Zf 308 (sI (iT 298 (iT 290 (iT 282 (iT 274 (iQ_137 (iQ_1 I)))))) 0 4 0) := (Zn z15)
  refine w_dup (Ev.cm _) rfl rfl ?_
  refine w_cinit (as := []) (o := 307) (st := [.ref 307, .ref 0]) (Ev.cm _) rfl rfl rfl (Nat.le_of_ble_eq_true rfl) (show _ ∧ _ from ⟨show 308 + (mcs m_R_new).1 ≤ 1 + (mcs m_X_new).1 by decide +kernel, show slt 308 + (mcs m_R_new).2 ≤ slt 1 + (mcs m_X_new).2 by decide +kernel⟩) (Nat.le_of_ble_eq_true rfl) (e_iR_ (subos (Nat.le_of_ble_eq_true rfl) hos) z16 ?_)
  have z17 : Zf 319 (iR_ (sI (iT 298 (iT 290 (iT 282 (iT 274 (iQ_137 (iQ_1 I)))))) 0 4 0)) := (iR__z z16)
  show Wp _ _ _ _ _ _ _ 82 [(0, .ref 0), (1, .int 4)] [.ref 307, .ref 0] (HN 319 (307 :: 0 :: os) (iR_ (sI (iT 298 (iT 290 (iT 282 (iT 274 (iQ_137 (iQ_1 I)))))) 0 4 0)) X)
  refine w_putR (Ev.cm _) rfl (Nat.le_of_ble_eq_true rfl) rfl ?_
  show Wp _ _ _ _ _ _ _ 85 [(0, .ref 0), (1, .int 4)] [] (puR (HN 319 (307 :: 0 :: os) (iR_ (sI (iT 298 (iT 290 (iT 282 (iT 274 (iQ_137 (iQ_1 I)))))) 0 4 0)) X) 0 5 (some 307))
  rw [hn_link (o := 0) (k := 5) (q := 307) rfl (Nat.le_of_ble_eq_true rfl) (nin hos (Nat.le_of_ble_eq_true rfl))]
  refine w_aload_n (Ev.cm _) rfl rfl ?_
  refine w_new (Ev.cm _) rfl (show _ ∧ _ from ⟨show 319 + 1 ≤ 1 + (mcs m_X_new).1 by decide +kernel, show slt 319 + 3 ≤ slt 1 + (mcs m_X_new).2 by decide +kernel⟩) ?_
  show Wp _ _ _ _ _ _ _ 89 [(0, .ref 0), (1, .int 4)] [.ref 319, .ref 0] (puN (HN 319 (0 :: os) (iR_ (sI (iT 298 (iT 290 (iT 282 (iT 274 (iQ_137 (iQ_1 I)))))) 0 4 0)) X) 2 3)
  rw [hn_new (n := 319) (k := 2) (len := 3) rfl z17]
  have z18 : Zf 320 (iR_ (sI (iT 298 (iT 290 (iT 282 (iT 274 (iQ_137 (iQ_1 I)))))) 0 4 0)) := (Zn z17)
  refine w_dup (Ev.cm _) rfl rfl ?_
  refine w_cinit (as := []) (o := 319) (st := [.ref 319, .ref 0]) (Ev.cm _) rfl rfl rfl (Nat.le_of_ble_eq_true rfl) (show _ ∧ _ from ⟨show 320 + (mcs m_W_new).1 ≤ 1 + (mcs m_X_new).1 by decide +kernel, show slt 320 + (mcs m_W_new).2 ≤ slt 1 + (mcs m_X_new).2 by decide +kernel⟩) (Nat.le_of_ble_eq_true rfl) (e_iW (subos (Nat.le_of_ble_eq_true rfl) hos) z18 ?_)
  have z19 : Zf 322 (iW (iR_ (sI (iT 298 (iT 290 (iT 282 (iT 274 (iQ_137 (iQ_1 I)))))) 0 4 0))) := (iW_z z18)
  show Wp _ _ _ _ _ _ _ 93 [(0, .ref 0), (1, .int 4)] [.ref 319, .ref 0] (HN 322 (319 :: 0 :: os) (iW (iR_ (sI (iT 298 (iT 290 (iT 282 (iT 274 (iQ_137 (iQ_1 I)))))) 0 4 0))) X)
  refine w_putR (Ev.cm _) rfl (Nat.le_of_ble_eq_true rfl) rfl ?_
  show Wp _ _ _ _ _ _ _ 96 [(0, .ref 0), (1, .int 4)] [] (puR (HN 322 (319 :: 0 :: os) (iW (iR_ (sI (iT 298 (iT 290 (iT 282 (iT 274 (iQ_137 (iQ_1 I)))))) 0 4 0))) X) 0 6 (some 319))
  rw [hn_link (o := 0) (k := 6) (q := 319) rfl (Nat.le_of_ble_eq_true rfl) (nin hos (Nat.le_of_ble_eq_true rfl))]
  refine w_aload_n (Ev.cm _) rfl rfl ?_
  refine w_new (Ev.cm _) rfl (show _ ∧ _ from ⟨show 322 + 1 ≤ 1 + (mcs m_X_new).1 by decide +kernel, show slt 322 + 2 ≤ slt 1 + (mcs m_X_new).2 by decide +kernel⟩) ?_
  show Wp _ _ _ _ _ _ _ 100 [(0, .ref 0), (1, .int 4)] [.ref 322, .ref 0] (puN (HN 322 (0 :: os) (iW (iR_ (sI (iT 298 (iT 290 (iT 282 (iT 274 (iQ_137 (iQ_1 I)))))) 0 4 0))) X) 3 2)
  rw [hn_new (n := 322) (k := 3) (len := 2) rfl z19]
  have z20 : Zf 323 (iW (iR_ (sI (iT 298 (iT 290 (iT 282 (iT 274 (iQ_137 (iQ_1 I)))))) 0 4 0))) := (Zn z19)
  refine w_dup (Ev.cm _) rfl rfl ?_
  refine w_cinit (as := []) (o := 322) (st := [.ref 322, .ref 0]) (Ev.cm _) rfl rfl rfl (Nat.le_of_ble_eq_true rfl) (show _ ∧ _ from ⟨show 323 + (mcs m_O_new).1 ≤ 1 + (mcs m_X_new).1 by decide +kernel, show slt 323 + (mcs m_O_new).2 ≤ slt 1 + (mcs m_X_new).2 by decide +kernel⟩) (Nat.le_of_ble_eq_true rfl) (e_iO (subos (Nat.le_of_ble_eq_true rfl) hos) z20 ?_)
  have z21 : Zf 325 (iO (iW (iR_ (sI (iT 298 (iT 290 (iT 282 (iT 274 (iQ_137 (iQ_1 I)))))) 0 4 0)))) := (iO_z z20)
  show Wp _ _ _ _ _ _ _ 104 [(0, .ref 0), (1, .int 4)] [.ref 322, .ref 0] (HN 325 (322 :: 0 :: os) (iO (iW (iR_ (sI (iT 298 (iT 290 (iT 282 (iT 274 (iQ_137 (iQ_1 I)))))) 0 4 0)))) X)
  refine w_putR (Ev.cm _) rfl (Nat.le_of_ble_eq_true rfl) rfl ?_
  show Wp _ _ _ _ _ _ _ 107 [(0, .ref 0), (1, .int 4)] [] (puR (HN 325 (322 :: 0 :: os) (iO (iW (iR_ (sI (iT 298 (iT 290 (iT 282 (iT 274 (iQ_137 (iQ_1 I)))))) 0 4 0)))) X) 0 7 (some 322))
  rw [hn_link (o := 0) (k := 7) (q := 322) rfl (Nat.le_of_ble_eq_true rfl) (nin hos (Nat.le_of_ble_eq_true rfl))]
  refine w_aload_n (Ev.cm _) rfl rfl ?_
  refine w_new (Ev.cm _) rfl (show _ ∧ _ from ⟨show 325 + 1 ≤ 1 + (mcs m_X_new).1 by decide +kernel, show slt 325 + 2 ≤ slt 1 + (mcs m_X_new).2 by decide +kernel⟩) ?_
  show Wp _ _ _ _ _ _ _ 111 [(0, .ref 0), (1, .int 4)] [.ref 325, .ref 0] (puN (HN 325 (0 :: os) (iO (iW (iR_ (sI (iT 298 (iT 290 (iT 282 (iT 274 (iQ_137 (iQ_1 I)))))) 0 4 0)))) X) 0 2)
  rw [hn_new (n := 325) (k := 0) (len := 2) rfl z21]
  have z22 : Zf 326 (iO (iW (iR_ (sI (iT 298 (iT 290 (iT 282 (iT 274 (iQ_137 (iQ_1 I)))))) 0 4 0)))) := (Zn z21)
  refine w_dup (Ev.cm _) rfl rfl ?_
  refine w_cinit (as := []) (o := 325) (st := [.ref 325, .ref 0]) (Ev.cm _) rfl rfl rfl (Nat.le_of_ble_eq_true rfl) (show _ ∧ _ from ⟨show 326 + (mcs m_C_new).1 ≤ 1 + (mcs m_X_new).1 by decide +kernel, show slt 326 + (mcs m_C_new).2 ≤ slt 1 + (mcs m_X_new).2 by decide +kernel⟩) (Nat.le_of_ble_eq_true rfl) (e_iC (subos (Nat.le_of_ble_eq_true rfl) hos) z22 ?_)
  have z23 : Zf 328 (iC (iO (iW (iR_ (sI (iT 298 (iT 290 (iT 282 (iT 274 (iQ_137 (iQ_1 I)))))) 0 4 0))))) := (iC_z z22)
  show Wp _ _ _ _ _ _ _ 115 [(0, .ref 0), (1, .int 4)] [.ref 325, .ref 0] (HN 328 (325 :: 0 :: os) (iC (iO (iW (iR_ (sI (iT 298 (iT 290 (iT 282 (iT 274 (iQ_137 (iQ_1 I)))))) 0 4 0))))) X)
  refine w_putR (Ev.cm _) rfl (Nat.le_of_ble_eq_true rfl) rfl ?_
  show Wp _ _ _ _ _ _ _ 118 [(0, .ref 0), (1, .int 4)] [] (puR (HN 328 (325 :: 0 :: os) (iC (iO (iW (iR_ (sI (iT 298 (iT 290 (iT 282 (iT 274 (iQ_137 (iQ_1 I)))))) 0 4 0))))) X) 0 8 (some 325))
  rw [hn_link (o := 0) (k := 8) (q := 325) rfl (Nat.le_of_ble_eq_true rfl) (nin hos (Nat.le_of_ble_eq_true rfl))]
  refine w_aload_n (Ev.cm _) rfl rfl ?_
  refine w_bipush (Ev.cm _) rfl ?_
  refine w_newa (Ev.cm _) rfl (by decide) (by decide) (show _ ∧ _ from ⟨show 328 + 1 ≤ 1 + (mcs m_X_new).1 by decide +kernel, show slt 328 + 13 ≤ slt 1 + (mcs m_X_new).2 by decide +kernel⟩) ?_
  show Wp _ _ _ _ _ _ _ 123 [(0, .ref 0), (1, .int 4)] [.ref 328, .ref 0] (puN (HN 328 (0 :: os) (iC (iO (iW (iR_ (sI (iT 298 (iT 290 (iT 282 (iT 274 (iQ_137 (iQ_1 I)))))) 0 4 0))))) X) 10 13)
  rw [hn_new (n := 328) (k := 10) (len := 13) rfl z23]
  have z24 : Zf 329 (iC (iO (iW (iR_ (sI (iT 298 (iT 290 (iT 282 (iT 274 (iQ_137 (iQ_1 I)))))) 0 4 0))))) := (Zn z23)
  refine w_putR (Ev.cm _) rfl (Nat.le_of_ble_eq_true rfl) rfl ?_
  show Wp _ _ _ _ _ _ _ 126 [(0, .ref 0), (1, .int 4)] [] (puR (HN 329 (328 :: 0 :: os) (iC (iO (iW (iR_ (sI (iT 298 (iT 290 (iT 282 (iT 274 (iQ_137 (iQ_1 I)))))) 0 4 0))))) X) 0 9 (some 328))
  rw [hn_link (o := 0) (k := 9) (q := 328) rfl (Nat.le_of_ble_eq_true rfl) (nin hos (Nat.le_of_ble_eq_true rfl))]
  refine w_aload_n (Ev.cm _) rfl rfl ?_
  refine w_bipush (Ev.cm _) rfl ?_
  refine w_newa (Ev.cm _) rfl (by decide) (by decide) (show _ ∧ _ from ⟨show 329 + 1 ≤ 1 + (mcs m_X_new).1 by decide +kernel, show slt 329 + 13 ≤ slt 1 + (mcs m_X_new).2 by decide +kernel⟩) ?_
  show Wp _ _ _ _ _ _ _ 131 [(0, .ref 0), (1, .int 4)] [.ref 329, .ref 0] (puN (HN 329 (0 :: os) (iC (iO (iW (iR_ (sI (iT 298 (iT 290 (iT 282 (iT 274 (iQ_137 (iQ_1 I)))))) 0 4 0))))) X) 11 13)
  rw [hn_new (n := 329) (k := 11) (len := 13) rfl z24]
  have z25 : Zf 330 (iC (iO (iW (iR_ (sI (iT 298 (iT 290 (iT 282 (iT 274 (iQ_137 (iQ_1 I)))))) 0 4 0))))) := (Zn z24)
  refine w_putR (Ev.cm _) rfl (Nat.le_of_ble_eq_true rfl) rfl ?_
  show Wp _ _ _ _ _ _ _ 134 [(0, .ref 0), (1, .int 4)] [] (puR (HN 330 (329 :: 0 :: os) (iC (iO (iW (iR_ (sI (iT 298 (iT 290 (iT 282 (iT 274 (iQ_137 (iQ_1 I)))))) 0 4 0))))) X) 0 10 (some 329))
  rw [hn_link (o := 0) (k := 10) (q := 329) rfl (Nat.le_of_ble_eq_true rfl) (nin hos (Nat.le_of_ble_eq_true rfl))]
  refine w_aload_n (Ev.cm _) rfl rfl ?_
  refine w_bipush (Ev.cm _) rfl ?_
  refine w_newa (Ev.cm _) rfl (by decide) (by decide) (show _ ∧ _ from ⟨show 330 + 1 ≤ 1 + (mcs m_X_new).1 by decide +kernel, show slt 330 + 6 ≤ slt 1 + (mcs m_X_new).2 by decide +kernel⟩) ?_
  show Wp _ _ _ _ _ _ _ 139 [(0, .ref 0), (1, .int 4)] [.ref 330, .ref 0] (puN (HN 330 (0 :: os) (iC (iO (iW (iR_ (sI (iT 298 (iT 290 (iT 282 (iT 274 (iQ_137 (iQ_1 I)))))) 0 4 0))))) X) 10 6)
  rw [hn_new (n := 330) (k := 10) (len := 6) rfl z25]
  have z26 : Zf 331 (iC (iO (iW (iR_ (sI (iT 298 (iT 290 (iT 282 (iT 274 (iQ_137 (iQ_1 I)))))) 0 4 0))))) := (Zn z25)
  refine w_putR (Ev.cm _) rfl (Nat.le_of_ble_eq_true rfl) rfl ?_
  show Wp _ _ _ _ _ _ _ 142 [(0, .ref 0), (1, .int 4)] [] (puR (HN 331 (330 :: 0 :: os) (iC (iO (iW (iR_ (sI (iT 298 (iT 290 (iT 282 (iT 274 (iQ_137 (iQ_1 I)))))) 0 4 0))))) X) 0 11 (some 330))
  rw [hn_link (o := 0) (k := 11) (q := 330) rfl (Nat.le_of_ble_eq_true rfl) (nin hos (Nat.le_of_ble_eq_true rfl))]
  refine w_return (Ev.cm _) rfl rfl (Or.inr ⟨(show 331 = 1 + (mcs m_X_new).1 by decide +kernel), (show slt 331 = slt 1 + (mcs m_X_new).2 by decide +kernel)⟩) ?_
  exact q
theorem hn_hs {I : Nat → Nat → Int32} {X : Nat × (Nat → Int32)} : HN 349 [331, 0] I X = HS I (fun _ _ => 0) X := by
  have e1 : slt 349 = 19117 := by decide +kernel
  have e2 : cutK 349 = K0 := by
    funext o
    unfold cutK
    by_cases h : o < 349
    · rw [show Nat.blt o 349 = true from Nat.ble_eq.mpr h]; rfl
    · rw [show Nat.blt o 349 = false from by rw [← Bool.not_eq_true]; exact fun e => h (Nat.ble_eq.mp e)]
      unfold K0
      rw [show Nat.blt o 273 = false from by rw [← Bool.not_eq_true]; exact fun e => by have := Nat.ble_eq.mp e; omega, show Nat.blt o 306 = false from by rw [← Bool.not_eq_true]; exact fun e => by have := Nat.ble_eq.mp e; omega, show Nat.blt o 331 = false from by rw [← Bool.not_eq_true]; exact fun e => by have := Nat.ble_eq.mp e; omega]
      dsimp only [cond]
      obtain ⟨j, hj⟩ : ∃ j, o - 331 = j + 18 := ⟨o - 349, by omega⟩
      rw [hj]
      rfl
  have e3 : RD 349 [331, 0] = R0 := by
    funext o k
    unfold RD
    cases h : R0 o k with
    | none => rfl
    | some q =>
      have f := R0_fact h
      exact if_pos ⟨f.2.1, fun e => (List.mem_cons.mp e).elim f.2.2.1 (fun e => by have := List.mem_singleton.mp e; omega)⟩
  unfold HN HS
  rw [e1, e2, e3]
def iM (I : Nat → Nat → Int32) : Nat → Nat → Int32 := sI (sI (sI (sI (sI (sI (sI (sI (sI (sI (sI (sI (sI (sI (sI (sI (sI (sI (sI (sI (sI (sI (sI (sI (sI (sI (sI (sI (sI (sI I 331 5 (-1)) 331 6 (-1)) 331 23 1) 332 8 293) 332 10 8190) 332 2 (-1)) 332 42 1) 332 43 1) 332 44 1) 332 45 1) 332 46 1) 332 47 1) 332 48 1) 332 49 1) 332 50 1) 332 51 1) 332 52 1) 332 53 1) 332 54 1) 332 55 1) 332 56 1) 332 57 1) 332 58 1) 332 59 1) 332 71 1) 332 72 1) 332 73 1) 332 74 1) 332 75 1) 332 76 1
set_option maxHeartbeats 20000000 in
set_option maxRecDepth 20000 in
theorem e_iM {d fu : Nat} {os : List Nat} {I : Nat → Nat → Int32} {X : Nat × (Nat → Int32)} {Q : PQ} {res : Unit × (Nat → Nat → Int32) × (Nat → Nat → Int64)} (hos0 : os = [0]) (hos : ∀ x ∈ os, x < 331) (hz : Zf 332 I) (e : FO_M_copy_332 fu  (iM I) (fun _ _ => 0) = some res) (q : Q none (HS res.2.1 res.2.2 X)) : Ev (d + 2) m_M_new [.ref 331] (HN 332 (331 :: os) I X) Q := by
  unfold iM at e
  refine ev_start (d := d + 1) rfl rfl rfl (Nat.le_of_ble_eq_true rfl) ?_
  show Wp (Ev (d + 1)) cd_M_new (mcs m_M_new) none _ _ Q 0 [(0, .ref 331)] [] (HN 332 (331 :: os) I X)
  refine w_aload_n (Ev.cm _) rfl rfl ?_
  refine w_objI (Ev.cm _) rfl (Nat.le_of_ble_eq_true rfl) ?_
  refine w_aload_n (Ev.cm _) rfl rfl ?_
  refine w_sipush (Ev.cm _) rfl ?_
  refine w_newa (Ev.cm _) rfl (by decide) (by decide) (show _ ∧ _ from ⟨show 332 + 1 ≤ 332 + (mcs m_M_new).1 by decide +kernel, show slt 332 + 1541 ≤ slt 332 + (mcs m_M_new).2 by decide +kernel⟩) ?_
  show Wp _ _ _ _ _ _ _ 10 [(0, .ref 331)] [.ref 332, .ref 331] (puN (HN 332 (331 :: os) I X) 10 1541)
  rw [hn_new (n := 332) (k := 10) (len := 1541) rfl hz]
  have z1 : Zf 333 I := (Zn hz)
  refine w_putR (Ev.cm _) rfl (Nat.le_of_ble_eq_true rfl) rfl ?_
  show Wp _ _ _ _ _ _ _ 13 [(0, .ref 331)] [] (puR (HN 333 (332 :: 331 :: os) I X) 331 0 (some 332))
  rw [hn_link (o := 331) (k := 0) (q := 332) rfl (Nat.le_of_ble_eq_true rfl) (nin hos (Nat.le_of_ble_eq_true rfl))]
  refine w_aload_n (Ev.cm _) rfl rfl ?_
  refine w_sipush (Ev.cm _) rfl ?_
  refine w_newa (Ev.cm _) rfl (by decide) (by decide) (show _ ∧ _ from ⟨show 333 + 1 ≤ 332 + (mcs m_M_new).1 by decide +kernel, show slt 333 + 1541 ≤ slt 332 + (mcs m_M_new).2 by decide +kernel⟩) ?_
  show Wp _ _ _ _ _ _ _ 19 [(0, .ref 331)] [.ref 333, .ref 331] (puN (HN 333 (331 :: os) I X) 10 1541)
  rw [hn_new (n := 333) (k := 10) (len := 1541) rfl z1]
  have z2 : Zf 334 I := (Zn z1)
  refine w_putR (Ev.cm _) rfl (Nat.le_of_ble_eq_true rfl) rfl ?_
  show Wp _ _ _ _ _ _ _ 22 [(0, .ref 331)] [] (puR (HN 334 (333 :: 331 :: os) I X) 331 1 (some 333))
  rw [hn_link (o := 331) (k := 1) (q := 333) rfl (Nat.le_of_ble_eq_true rfl) (nin hos (Nat.le_of_ble_eq_true rfl))]
  refine w_aload_n (Ev.cm _) rfl rfl ?_
  refine w_sipush (Ev.cm _) rfl ?_
  refine w_newa (Ev.cm _) rfl (by decide) (by decide) (show _ ∧ _ from ⟨show 334 + 1 ≤ 332 + (mcs m_M_new).1 by decide +kernel, show slt 334 + 2724 ≤ slt 332 + (mcs m_M_new).2 by decide +kernel⟩) ?_
  show Wp _ _ _ _ _ _ _ 28 [(0, .ref 331)] [.ref 334, .ref 331] (puN (HN 334 (331 :: os) I X) 10 2724)
  rw [hn_new (n := 334) (k := 10) (len := 2724) rfl z2]
  have z3 : Zf 335 I := (Zn z2)
  refine w_putR (Ev.cm _) rfl (Nat.le_of_ble_eq_true rfl) rfl ?_
  show Wp _ _ _ _ _ _ _ 31 [(0, .ref 331)] [] (puR (HN 335 (334 :: 331 :: os) I X) 331 2 (some 334))
  rw [hn_link (o := 331) (k := 2) (q := 334) rfl (Nat.le_of_ble_eq_true rfl) (nin hos (Nat.le_of_ble_eq_true rfl))]
  refine w_aload_n (Ev.cm _) rfl rfl ?_
  refine w_sipush (Ev.cm _) rfl ?_
  refine w_newa (Ev.cm _) rfl (by decide) (by decide) (show _ ∧ _ from ⟨show 335 + 1 ≤ 332 + (mcs m_M_new).1 by decide +kernel, show slt 335 + 300 ≤ slt 332 + (mcs m_M_new).2 by decide +kernel⟩) ?_
  show Wp _ _ _ _ _ _ _ 37 [(0, .ref 331)] [.ref 335, .ref 331] (puN (HN 335 (331 :: os) I X) 10 300)
  rw [hn_new (n := 335) (k := 10) (len := 300) rfl z3]
  have z4 : Zf 336 I := (Zn z3)
  refine w_putR (Ev.cm _) rfl (Nat.le_of_ble_eq_true rfl) rfl ?_
  show Wp _ _ _ _ _ _ _ 40 [(0, .ref 331)] [] (puR (HN 336 (335 :: 331 :: os) I X) 331 3 (some 335))
  rw [hn_link (o := 331) (k := 3) (q := 335) rfl (Nat.le_of_ble_eq_true rfl) (nin hos (Nat.le_of_ble_eq_true rfl))]
  refine w_aload_n (Ev.cm _) rfl rfl ?_
  refine w_iconst (Ev.cm _) rfl ?_
  refine w_putI (Ev.cm _) rfl (Nat.le_of_ble_eq_true rfl) rfl ?_
  have z5 : Zf 336 (sI I 331 5 (-1)) := (Zs (Nat.le_of_ble_eq_true rfl) z4)
  show Wp _ _ _ _ _ _ _ 45 [(0, .ref 331)] [] (HN 336 (331 :: os) (sI I 331 5 (-1)) X)
  refine w_aload_n (Ev.cm _) rfl rfl ?_
  refine w_iconst (Ev.cm _) rfl ?_
  refine w_putI (Ev.cm _) rfl (Nat.le_of_ble_eq_true rfl) rfl ?_
  have z6 : Zf 336 (sI (sI I 331 5 (-1)) 331 6 (-1)) := (Zs (Nat.le_of_ble_eq_true rfl) z5)
  show Wp _ _ _ _ _ _ _ 50 [(0, .ref 331)] [] (HN 336 (331 :: os) (sI (sI I 331 5 (-1)) 331 6 (-1)) X)
  refine w_aload_n (Ev.cm _) rfl rfl ?_
  refine w_sipush (Ev.cm _) rfl ?_
  refine w_newa (Ev.cm _) rfl (by decide) (by decide) (show _ ∧ _ from ⟨show 336 + 1 ≤ 332 + (mcs m_M_new).1 by decide +kernel, show slt 336 + 160 ≤ slt 332 + (mcs m_M_new).2 by decide +kernel⟩) ?_
  show Wp _ _ _ _ _ _ _ 56 [(0, .ref 331)] [.ref 336, .ref 331] (puN (HN 336 (331 :: os) (sI (sI I 331 5 (-1)) 331 6 (-1)) X) 10 160)
  rw [hn_new (n := 336) (k := 10) (len := 160) rfl z6]
  have z7 : Zf 337 (sI (sI I 331 5 (-1)) 331 6 (-1)) := (Zn z6)
  refine w_putR (Ev.cm _) rfl (Nat.le_of_ble_eq_true rfl) rfl ?_
  show Wp _ _ _ _ _ _ _ 59 [(0, .ref 331)] [] (puR (HN 337 (336 :: 331 :: os) (sI (sI I 331 5 (-1)) 331 6 (-1)) X) 331 15 (some 336))
  rw [hn_link (o := 331) (k := 15) (q := 336) rfl (Nat.le_of_ble_eq_true rfl) (nin hos (Nat.le_of_ble_eq_true rfl))]
  refine w_aload_n (Ev.cm _) rfl rfl ?_
  refine w_bipush (Ev.cm _) rfl ?_
  refine w_newa (Ev.cm _) rfl (by decide) (by decide) (show _ ∧ _ from ⟨show 337 + 1 ≤ 332 + (mcs m_M_new).1 by decide +kernel, show slt 337 + 8 ≤ slt 332 + (mcs m_M_new).2 by decide +kernel⟩) ?_
  show Wp _ _ _ _ _ _ _ 64 [(0, .ref 331)] [.ref 337, .ref 331] (puN (HN 337 (331 :: os) (sI (sI I 331 5 (-1)) 331 6 (-1)) X) 10 8)
  rw [hn_new (n := 337) (k := 10) (len := 8) rfl z7]
  have z8 : Zf 338 (sI (sI I 331 5 (-1)) 331 6 (-1)) := (Zn z7)
  refine w_putR (Ev.cm _) rfl (Nat.le_of_ble_eq_true rfl) rfl ?_
  show Wp _ _ _ _ _ _ _ 67 [(0, .ref 331)] [] (puR (HN 338 (337 :: 331 :: os) (sI (sI I 331 5 (-1)) 331 6 (-1)) X) 331 20 (some 337))
  rw [hn_link (o := 331) (k := 20) (q := 337) rfl (Nat.le_of_ble_eq_true rfl) (nin hos (Nat.le_of_ble_eq_true rfl))]
  refine w_aload_n (Ev.cm _) rfl rfl ?_
  refine w_sipush (Ev.cm _) rfl ?_
  refine w_newa (Ev.cm _) rfl (by decide) (by decide) (show _ ∧ _ from ⟨show 338 + 1 ≤ 332 + (mcs m_M_new).1 by decide +kernel, show slt 338 + 330 ≤ slt 332 + (mcs m_M_new).2 by decide +kernel⟩) ?_
  show Wp _ _ _ _ _ _ _ 73 [(0, .ref 331)] [.ref 338, .ref 331] (puN (HN 338 (331 :: os) (sI (sI I 331 5 (-1)) 331 6 (-1)) X) 11 330)
  rw [hn_new (n := 338) (k := 11) (len := 330) rfl z8]
  have z9 : Zf 339 (sI (sI I 331 5 (-1)) 331 6 (-1)) := (Zn z8)
  refine w_putR (Ev.cm _) rfl (Nat.le_of_ble_eq_true rfl) rfl ?_
  show Wp _ _ _ _ _ _ _ 76 [(0, .ref 331)] [] (puR (HN 339 (338 :: 331 :: os) (sI (sI I 331 5 (-1)) 331 6 (-1)) X) 331 21 (some 338))
  rw [hn_link (o := 331) (k := 21) (q := 338) rfl (Nat.le_of_ble_eq_true rfl) (nin hos (Nat.le_of_ble_eq_true rfl))]
  refine w_aload_n (Ev.cm _) rfl rfl ?_
  refine w_sipush (Ev.cm _) rfl ?_
  refine w_newa (Ev.cm _) rfl (by decide) (by decide) (show _ ∧ _ from ⟨show 339 + 1 ≤ 332 + (mcs m_M_new).1 by decide +kernel, show slt 339 + 330 ≤ slt 332 + (mcs m_M_new).2 by decide +kernel⟩) ?_
  show Wp _ _ _ _ _ _ _ 82 [(0, .ref 331)] [.ref 339, .ref 331] (puN (HN 339 (331 :: os) (sI (sI I 331 5 (-1)) 331 6 (-1)) X) 12 330)
  rw [hn_new (n := 339) (k := 12) (len := 330) rfl z9]
  have z10 : Zf 340 (sI (sI I 331 5 (-1)) 331 6 (-1)) := (Zn z9)
  refine w_putR (Ev.cm _) rfl (Nat.le_of_ble_eq_true rfl) rfl ?_
  show Wp _ _ _ _ _ _ _ 85 [(0, .ref 331)] [] (puR (HN 340 (339 :: 331 :: os) (sI (sI I 331 5 (-1)) 331 6 (-1)) X) 331 22 (some 339))
  rw [hn_link (o := 331) (k := 22) (q := 339) rfl (Nat.le_of_ble_eq_true rfl) (nin hos (Nat.le_of_ble_eq_true rfl))]
  refine w_aload_n (Ev.cm _) rfl rfl ?_
  refine w_iconst (Ev.cm _) rfl ?_
  refine w_putZ (Ev.cm _) rfl (Nat.le_of_ble_eq_true rfl) rfl (by decide) ?_
  have z11 : Zf 340 (sI (sI (sI I 331 5 (-1)) 331 6 (-1)) 331 23 1) := (Zs (Nat.le_of_ble_eq_true rfl) z10)
  show Wp _ _ _ _ _ _ _ 90 [(0, .ref 331)] [] (HN 340 (331 :: os) (sI (sI (sI I 331 5 (-1)) 331 6 (-1)) 331 23 1) X)
  refine w_aload_n (Ev.cm _) rfl rfl ?_
  refine w_bipush (Ev.cm _) rfl ?_
  refine w_newa (Ev.cm _) rfl (by decide) (by decide) (show _ ∧ _ from ⟨show 340 + 1 ≤ 332 + (mcs m_M_new).1 by decide +kernel, show slt 340 + 24 ≤ slt 332 + (mcs m_M_new).2 by decide +kernel⟩) ?_
  show Wp _ _ _ _ _ _ _ 95 [(0, .ref 331)] [.ref 340, .ref 331] (puN (HN 340 (331 :: os) (sI (sI (sI I 331 5 (-1)) 331 6 (-1)) 331 23 1) X) 10 24)
  rw [hn_new (n := 340) (k := 10) (len := 24) rfl z11]
  have z12 : Zf 341 (sI (sI (sI I 331 5 (-1)) 331 6 (-1)) 331 23 1) := (Zn z11)
  refine w_putR (Ev.cm _) rfl (Nat.le_of_ble_eq_true rfl) rfl ?_
  show Wp _ _ _ _ _ _ _ 98 [(0, .ref 331)] [] (puR (HN 341 (340 :: 331 :: os) (sI (sI (sI I 331 5 (-1)) 331 6 (-1)) 331 23 1) X) 331 25 (some 340))
  rw [hn_link (o := 331) (k := 25) (q := 340) rfl (Nat.le_of_ble_eq_true rfl) (nin hos (Nat.le_of_ble_eq_true rfl))]
  refine w_aload_n (Ev.cm _) rfl rfl ?_
  refine w_bipush (Ev.cm _) rfl ?_
  refine w_newa (Ev.cm _) rfl (by decide) (by decide) (show _ ∧ _ from ⟨show 341 + 1 ≤ 332 + (mcs m_M_new).1 by decide +kernel, show slt 341 + 13 ≤ slt 332 + (mcs m_M_new).2 by decide +kernel⟩) ?_
  show Wp _ _ _ _ _ _ _ 103 [(0, .ref 331)] [.ref 341, .ref 331] (puN (HN 341 (331 :: os) (sI (sI (sI I 331 5 (-1)) 331 6 (-1)) 331 23 1) X) 10 13)
  rw [hn_new (n := 341) (k := 10) (len := 13) rfl z12]
  have z13 : Zf 342 (sI (sI (sI I 331 5 (-1)) 331 6 (-1)) 331 23 1) := (Zn z12)
  refine w_putR (Ev.cm _) rfl (Nat.le_of_ble_eq_true rfl) rfl ?_
  show Wp _ _ _ _ _ _ _ 106 [(0, .ref 331)] [] (puR (HN 342 (341 :: 331 :: os) (sI (sI (sI I 331 5 (-1)) 331 6 (-1)) 331 23 1) X) 331 26 (some 341))
  rw [hn_link (o := 331) (k := 26) (q := 341) rfl (Nat.le_of_ble_eq_true rfl) (nin hos (Nat.le_of_ble_eq_true rfl))]
  refine w_aload_n (Ev.cm _) rfl rfl ?_
  refine w_bipush (Ev.cm _) rfl ?_
  refine w_newa (Ev.cm _) rfl (by decide) (by decide) (show _ ∧ _ from ⟨show 342 + 1 ≤ 332 + (mcs m_M_new).1 by decide +kernel, show slt 342 + 13 ≤ slt 332 + (mcs m_M_new).2 by decide +kernel⟩) ?_
  show Wp _ _ _ _ _ _ _ 111 [(0, .ref 331)] [.ref 342, .ref 331] (puN (HN 342 (331 :: os) (sI (sI (sI I 331 5 (-1)) 331 6 (-1)) 331 23 1) X) 11 13)
  rw [hn_new (n := 342) (k := 11) (len := 13) rfl z13]
  have z14 : Zf 343 (sI (sI (sI I 331 5 (-1)) 331 6 (-1)) 331 23 1) := (Zn z13)
  refine w_putR (Ev.cm _) rfl (Nat.le_of_ble_eq_true rfl) rfl ?_
  show Wp _ _ _ _ _ _ _ 114 [(0, .ref 331)] [] (puR (HN 343 (342 :: 331 :: os) (sI (sI (sI I 331 5 (-1)) 331 6 (-1)) 331 23 1) X) 331 27 (some 342))
  rw [hn_link (o := 331) (k := 27) (q := 342) rfl (Nat.le_of_ble_eq_true rfl) (nin hos (Nat.le_of_ble_eq_true rfl))]
  refine w_aload_n (Ev.cm _) rfl rfl ?_
  refine w_bipush (Ev.cm _) rfl ?_
  refine w_newa (Ev.cm _) rfl (by decide) (by decide) (show _ ∧ _ from ⟨show 343 + 1 ≤ 332 + (mcs m_M_new).1 by decide +kernel, show slt 343 + 18 ≤ slt 332 + (mcs m_M_new).2 by decide +kernel⟩) ?_
  show Wp _ _ _ _ _ _ _ 119 [(0, .ref 331)] [.ref 343, .ref 331] (puN (HN 343 (331 :: os) (sI (sI (sI I 331 5 (-1)) 331 6 (-1)) 331 23 1) X) 11 18)
  rw [hn_new (n := 343) (k := 11) (len := 18) rfl z14]
  have z15 : Zf 344 (sI (sI (sI I 331 5 (-1)) 331 6 (-1)) 331 23 1) := (Zn z14)
  refine w_putR (Ev.cm _) rfl (Nat.le_of_ble_eq_true rfl) rfl ?_
  show Wp _ _ _ _ _ _ _ 122 [(0, .ref 331)] [] (puR (HN 344 (343 :: 331 :: os) (sI (sI (sI I 331 5 (-1)) 331 6 (-1)) 331 23 1) X) 331 28 (some 343))
  rw [hn_link (o := 331) (k := 28) (q := 343) rfl (Nat.le_of_ble_eq_true rfl) (nin hos (Nat.le_of_ble_eq_true rfl))]
  refine w_aload_n (Ev.cm _) rfl rfl ?_
  refine w_bipush (Ev.cm _) rfl ?_
  refine w_newa (Ev.cm _) rfl (by decide) (by decide) (show _ ∧ _ from ⟨show 344 + 1 ≤ 332 + (mcs m_M_new).1 by decide +kernel, show slt 344 + 18 ≤ slt 332 + (mcs m_M_new).2 by decide +kernel⟩) ?_
  show Wp _ _ _ _ _ _ _ 127 [(0, .ref 331)] [.ref 344, .ref 331] (puN (HN 344 (331 :: os) (sI (sI (sI I 331 5 (-1)) 331 6 (-1)) 331 23 1) X) 11 18)
  rw [hn_new (n := 344) (k := 11) (len := 18) rfl z15]
  have z16 : Zf 345 (sI (sI (sI I 331 5 (-1)) 331 6 (-1)) 331 23 1) := (Zn z15)
  refine w_putR (Ev.cm _) rfl (Nat.le_of_ble_eq_true rfl) rfl ?_
  show Wp _ _ _ _ _ _ _ 130 [(0, .ref 331)] [] (puR (HN 345 (344 :: 331 :: os) (sI (sI (sI I 331 5 (-1)) 331 6 (-1)) 331 23 1) X) 331 29 (some 344))
  rw [hn_link (o := 331) (k := 29) (q := 344) rfl (Nat.le_of_ble_eq_true rfl) (nin hos (Nat.le_of_ble_eq_true rfl))]
  refine w_aload_n (Ev.cm _) rfl rfl ?_
  refine w_bipush (Ev.cm _) rfl ?_
  refine w_newa (Ev.cm _) rfl (by decide) (by decide) (show _ ∧ _ from ⟨show 345 + 1 ≤ 332 + (mcs m_M_new).1 by decide +kernel, show slt 345 + 18 ≤ slt 332 + (mcs m_M_new).2 by decide +kernel⟩) ?_
  show Wp _ _ _ _ _ _ _ 135 [(0, .ref 331)] [.ref 345, .ref 331] (puN (HN 345 (331 :: os) (sI (sI (sI I 331 5 (-1)) 331 6 (-1)) 331 23 1) X) 11 18)
  rw [hn_new (n := 345) (k := 11) (len := 18) rfl z16]
  have z17 : Zf 346 (sI (sI (sI I 331 5 (-1)) 331 6 (-1)) 331 23 1) := (Zn z16)
  refine w_putR (Ev.cm _) rfl (Nat.le_of_ble_eq_true rfl) rfl ?_
  show Wp _ _ _ _ _ _ _ 138 [(0, .ref 331)] [] (puR (HN 346 (345 :: 331 :: os) (sI (sI (sI I 331 5 (-1)) 331 6 (-1)) 331 23 1) X) 331 30 (some 345))
  rw [hn_link (o := 331) (k := 30) (q := 345) rfl (Nat.le_of_ble_eq_true rfl) (nin hos (Nat.le_of_ble_eq_true rfl))]
  refine w_aload_n (Ev.cm _) rfl rfl ?_
  refine w_bipush (Ev.cm _) rfl ?_
  refine w_newa (Ev.cm _) rfl (by decide) (by decide) (show _ ∧ _ from ⟨show 346 + 1 ≤ 332 + (mcs m_M_new).1 by decide +kernel, show slt 346 + 64 ≤ slt 332 + (mcs m_M_new).2 by decide +kernel⟩) ?_
  show Wp _ _ _ _ _ _ _ 143 [(0, .ref 331)] [.ref 346, .ref 331] (puN (HN 346 (331 :: os) (sI (sI (sI I 331 5 (-1)) 331 6 (-1)) 331 23 1) X) 10 64)
  rw [hn_new (n := 346) (k := 10) (len := 64) rfl z17]
  have z18 : Zf 347 (sI (sI (sI I 331 5 (-1)) 331 6 (-1)) 331 23 1) := (Zn z17)
  refine w_putR (Ev.cm _) rfl (Nat.le_of_ble_eq_true rfl) rfl ?_
  show Wp _ _ _ _ _ _ _ 146 [(0, .ref 331)] [] (puR (HN 347 (346 :: 331 :: os) (sI (sI (sI I 331 5 (-1)) 331 6 (-1)) 331 23 1) X) 331 31 (some 346))
  rw [hn_link (o := 331) (k := 31) (q := 346) rfl (Nat.le_of_ble_eq_true rfl) (nin hos (Nat.le_of_ble_eq_true rfl))]
  refine w_aload_n (Ev.cm _) rfl rfl ?_
  refine w_bipush (Ev.cm _) rfl ?_
  refine w_newa (Ev.cm _) rfl (by decide) (by decide) (show _ ∧ _ from ⟨show 347 + 1 ≤ 332 + (mcs m_M_new).1 by decide +kernel, show slt 347 + 9 ≤ slt 332 + (mcs m_M_new).2 by decide +kernel⟩) ?_
  show Wp _ _ _ _ _ _ _ 151 [(0, .ref 331)] [.ref 347, .ref 331] (puN (HN 347 (331 :: os) (sI (sI (sI I 331 5 (-1)) 331 6 (-1)) 331 23 1) X) 10 9)
  rw [hn_new (n := 347) (k := 10) (len := 9) rfl z18]
  have z19 : Zf 348 (sI (sI (sI I 331 5 (-1)) 331 6 (-1)) 331 23 1) := (Zn z18)
  refine w_putR (Ev.cm _) rfl (Nat.le_of_ble_eq_true rfl) rfl ?_
  show Wp _ _ _ _ _ _ _ 154 [(0, .ref 331)] [] (puR (HN 348 (347 :: 331 :: os) (sI (sI (sI I 331 5 (-1)) 331 6 (-1)) 331 23 1) X) 331 32 (some 347))
  rw [hn_link (o := 331) (k := 32) (q := 347) rfl (Nat.le_of_ble_eq_true rfl) (nin hos (Nat.le_of_ble_eq_true rfl))]
  refine w_aload_n (Ev.cm _) rfl rfl ?_
  refine w_bipush (Ev.cm _) rfl ?_
  refine w_newa (Ev.cm _) rfl (by decide) (by decide) (show _ ∧ _ from ⟨show 348 + 1 ≤ 332 + (mcs m_M_new).1 by decide +kernel, show slt 348 + 6 ≤ slt 332 + (mcs m_M_new).2 by decide +kernel⟩) ?_
  show Wp _ _ _ _ _ _ _ 159 [(0, .ref 331)] [.ref 348, .ref 331] (puN (HN 348 (331 :: os) (sI (sI (sI I 331 5 (-1)) 331 6 (-1)) 331 23 1) X) 10 6)
  rw [hn_new (n := 348) (k := 10) (len := 6) rfl z19]
  have z20 : Zf 349 (sI (sI (sI I 331 5 (-1)) 331 6 (-1)) 331 23 1) := (Zn z19)
  refine w_putR (Ev.cm _) rfl (Nat.le_of_ble_eq_true rfl) rfl ?_
  show Wp _ _ _ _ _ _ _ 162 [(0, .ref 331)] [] (puR (HN 349 (348 :: 331 :: os) (sI (sI (sI I 331 5 (-1)) 331 6 (-1)) 331 23 1) X) 331 33 (some 348))
  rw [hn_link (o := 331) (k := 33) (q := 348) rfl (Nat.le_of_ble_eq_true rfl) (nin hos (Nat.le_of_ble_eq_true rfl))]
  refine w_aload_n (Ev.cm _) rfl rfl ?_
  refine w_getR (q := 332) (Ev.cm _) rfl (Nat.le_of_ble_eq_true rfl) rfl (rd_get (n := 349) (o := 331) (k := 0) (q := 332) rfl (Nat.le_of_ble_eq_true rfl) (nin hos (Nat.le_of_ble_eq_true rfl))) ?_
  refine w_bipush (Ev.cm _) rfl ?_
  refine w_sipush (Ev.cm _) rfl ?_
  refine w_iast (Ev.cm _) rfl (Nat.le_of_ble_eq_true rfl) rfl (show vp_in 8 1541 from vpI 1541 (by decide) (by decide) (by decide)) ?_
  have z21 : Zf 349 (sI (sI (sI (sI I 331 5 (-1)) 331 6 (-1)) 331 23 1) 332 8 293) := (Zs (Nat.le_of_ble_eq_true rfl) z20)
  show Wp _ _ _ _ _ _ _ 172 [(0, .ref 331)] [] (HN 349 (331 :: os) (sI (sI (sI (sI I 331 5 (-1)) 331 6 (-1)) 331 23 1) 332 8 293) X)
  refine w_aload_n (Ev.cm _) rfl rfl ?_
  refine w_getR (q := 332) (Ev.cm _) rfl (Nat.le_of_ble_eq_true rfl) rfl (rd_get (n := 349) (o := 331) (k := 0) (q := 332) rfl (Nat.le_of_ble_eq_true rfl) (nin hos (Nat.le_of_ble_eq_true rfl))) ?_
  refine w_bipush (Ev.cm _) rfl ?_
  refine w_sipush (Ev.cm _) rfl ?_
  refine w_iast (Ev.cm _) rfl (Nat.le_of_ble_eq_true rfl) rfl (show vp_in 10 1541 from vpI 1541 (by decide) (by decide) (by decide)) ?_
  have z22 : Zf 349 (sI (sI (sI (sI (sI I 331 5 (-1)) 331 6 (-1)) 331 23 1) 332 8 293) 332 10 8190) := (Zs (Nat.le_of_ble_eq_true rfl) z21)
  show Wp _ _ _ _ _ _ _ 182 [(0, .ref 331)] [] (HN 349 (331 :: os) (sI (sI (sI (sI (sI I 331 5 (-1)) 331 6 (-1)) 331 23 1) 332 8 293) 332 10 8190) X)
  refine w_aload_n (Ev.cm _) rfl rfl ?_
  refine w_getR (q := 332) (Ev.cm _) rfl (Nat.le_of_ble_eq_true rfl) rfl (rd_get (n := 349) (o := 331) (k := 0) (q := 332) rfl (Nat.le_of_ble_eq_true rfl) (nin hos (Nat.le_of_ble_eq_true rfl))) ?_
  refine w_iconst (Ev.cm _) rfl ?_
  refine w_iconst (Ev.cm _) rfl ?_
  refine w_iast (Ev.cm _) rfl (Nat.le_of_ble_eq_true rfl) rfl (show vp_in 2 1541 from vpI 1541 (by decide) (by decide) (by decide)) ?_
  have z23 : Zf 349 (sI (sI (sI (sI (sI (sI I 331 5 (-1)) 331 6 (-1)) 331 23 1) 332 8 293) 332 10 8190) 332 2 (-1)) := (Zs (Nat.le_of_ble_eq_true rfl) z22)
  show Wp _ _ _ _ _ _ _ 189 [(0, .ref 331)] [] (HN 349 (331 :: os) (sI (sI (sI (sI (sI (sI I 331 5 (-1)) 331 6 (-1)) 331 23 1) 332 8 293) 332 10 8190) 332 2 (-1)) X)
  refine w_iconst (Ev.cm _) rfl ?_
  refine w_istore_n (ls2 := [(0, .ref 331), (1, .int 0)]) (Ev.cm _) rfl rfl ?_
  refine w_iload_n (Ev.cm _) rfl rfl ?_
  refine w_bipush (Ev.cm _) rfl ?_
  refine w_icmp_ge (Ev.cm _) rfl (fun q => absurd q (by decide)) (fun _ => ?_)
  refine w_aload_n (Ev.cm _) rfl rfl ?_
  refine w_getR (q := 332) (Ev.cm _) rfl (Nat.le_of_ble_eq_true rfl) rfl (rd_get (n := 349) (o := 331) (k := 0) (q := 332) rfl (Nat.le_of_ble_eq_true rfl) (nin hos (Nat.le_of_ble_eq_true rfl))) ?_
  refine w_bipush (Ev.cm _) rfl ?_
  refine w_iload_n (Ev.cm _) rfl rfl ?_
  refine w_iadd (Ev.cm _) rfl ?_
  show Wp _ _ _ _ _ _ _ 205 [(0, .ref 331), (1, .int 0)] [.int 42, .ref 332] (HN 349 (331 :: os) (sI (sI (sI (sI (sI (sI I 331 5 (-1)) 331 6 (-1)) 331 23 1) 332 8 293) 332 10 8190) 332 2 (-1)) X)
  refine w_iconst (Ev.cm _) rfl ?_
  refine w_iast (Ev.cm _) rfl (Nat.le_of_ble_eq_true rfl) rfl (show vp_in 42 1541 from vpI 1541 (by decide) (by decide) (by decide)) ?_
  have z24 : Zf 349 (sI (sI (sI (sI (sI (sI (sI I 331 5 (-1)) 331 6 (-1)) 331 23 1) 332 8 293) 332 10 8190) 332 2 (-1)) 332 42 1) := (Zs (Nat.le_of_ble_eq_true rfl) z23)
  show Wp _ _ _ _ _ _ _ 207 [(0, .ref 331), (1, .int 0)] [] (HN 349 (331 :: os) (sI (sI (sI (sI (sI (sI (sI I 331 5 (-1)) 331 6 (-1)) 331 23 1) 332 8 293) 332 10 8190) 332 2 (-1)) 332 42 1) X)
  refine w_iinc (ls2 := [(0, .ref 331), (1, .int 1)]) (Ev.cm _) rfl rfl rfl ?_
  refine w_goto (Ev.cm _) rfl ?_
  refine w_iload_n (Ev.cm _) rfl rfl ?_
  refine w_bipush (Ev.cm _) rfl ?_
  refine w_icmp_ge (Ev.cm _) rfl (fun q => absurd q (by decide)) (fun _ => ?_)
  refine w_aload_n (Ev.cm _) rfl rfl ?_
  refine w_getR (q := 332) (Ev.cm _) rfl (Nat.le_of_ble_eq_true rfl) rfl (rd_get (n := 349) (o := 331) (k := 0) (q := 332) rfl (Nat.le_of_ble_eq_true rfl) (nin hos (Nat.le_of_ble_eq_true rfl))) ?_
  refine w_bipush (Ev.cm _) rfl ?_
  refine w_iload_n (Ev.cm _) rfl rfl ?_
  refine w_iadd (Ev.cm _) rfl ?_
  show Wp _ _ _ _ _ _ _ 205 [(0, .ref 331), (1, .int 1)] [.int 43, .ref 332] (HN 349 (331 :: os) (sI (sI (sI (sI (sI (sI (sI I 331 5 (-1)) 331 6 (-1)) 331 23 1) 332 8 293) 332 10 8190) 332 2 (-1)) 332 42 1) X)
  refine w_iconst (Ev.cm _) rfl ?_
  refine w_iast (Ev.cm _) rfl (Nat.le_of_ble_eq_true rfl) rfl (show vp_in 43 1541 from vpI 1541 (by decide) (by decide) (by decide)) ?_
  have z25 : Zf 349 (sI (sI (sI (sI (sI (sI (sI (sI I 331 5 (-1)) 331 6 (-1)) 331 23 1) 332 8 293) 332 10 8190) 332 2 (-1)) 332 42 1) 332 43 1) := (Zs (Nat.le_of_ble_eq_true rfl) z24)
  show Wp _ _ _ _ _ _ _ 207 [(0, .ref 331), (1, .int 1)] [] (HN 349 (331 :: os) (sI (sI (sI (sI (sI (sI (sI (sI I 331 5 (-1)) 331 6 (-1)) 331 23 1) 332 8 293) 332 10 8190) 332 2 (-1)) 332 42 1) 332 43 1) X)
  refine w_iinc (ls2 := [(0, .ref 331), (1, .int 2)]) (Ev.cm _) rfl rfl rfl ?_
  refine w_goto (Ev.cm _) rfl ?_
  refine w_iload_n (Ev.cm _) rfl rfl ?_
  refine w_bipush (Ev.cm _) rfl ?_
  refine w_icmp_ge (Ev.cm _) rfl (fun q => absurd q (by decide)) (fun _ => ?_)
  refine w_aload_n (Ev.cm _) rfl rfl ?_
  refine w_getR (q := 332) (Ev.cm _) rfl (Nat.le_of_ble_eq_true rfl) rfl (rd_get (n := 349) (o := 331) (k := 0) (q := 332) rfl (Nat.le_of_ble_eq_true rfl) (nin hos (Nat.le_of_ble_eq_true rfl))) ?_
  refine w_bipush (Ev.cm _) rfl ?_
  refine w_iload_n (Ev.cm _) rfl rfl ?_
  refine w_iadd (Ev.cm _) rfl ?_
  show Wp _ _ _ _ _ _ _ 205 [(0, .ref 331), (1, .int 2)] [.int 44, .ref 332] (HN 349 (331 :: os) (sI (sI (sI (sI (sI (sI (sI (sI I 331 5 (-1)) 331 6 (-1)) 331 23 1) 332 8 293) 332 10 8190) 332 2 (-1)) 332 42 1) 332 43 1) X)
  refine w_iconst (Ev.cm _) rfl ?_
  refine w_iast (Ev.cm _) rfl (Nat.le_of_ble_eq_true rfl) rfl (show vp_in 44 1541 from vpI 1541 (by decide) (by decide) (by decide)) ?_
  have z26 : Zf 349 (sI (sI (sI (sI (sI (sI (sI (sI (sI I 331 5 (-1)) 331 6 (-1)) 331 23 1) 332 8 293) 332 10 8190) 332 2 (-1)) 332 42 1) 332 43 1) 332 44 1) := (Zs (Nat.le_of_ble_eq_true rfl) z25)
  show Wp _ _ _ _ _ _ _ 207 [(0, .ref 331), (1, .int 2)] [] (HN 349 (331 :: os) (sI (sI (sI (sI (sI (sI (sI (sI (sI I 331 5 (-1)) 331 6 (-1)) 331 23 1) 332 8 293) 332 10 8190) 332 2 (-1)) 332 42 1) 332 43 1) 332 44 1) X)
  refine w_iinc (ls2 := [(0, .ref 331), (1, .int 3)]) (Ev.cm _) rfl rfl rfl ?_
  refine w_goto (Ev.cm _) rfl ?_
  refine w_iload_n (Ev.cm _) rfl rfl ?_
  refine w_bipush (Ev.cm _) rfl ?_
  refine w_icmp_ge (Ev.cm _) rfl (fun q => absurd q (by decide)) (fun _ => ?_)
  refine w_aload_n (Ev.cm _) rfl rfl ?_
  refine w_getR (q := 332) (Ev.cm _) rfl (Nat.le_of_ble_eq_true rfl) rfl (rd_get (n := 349) (o := 331) (k := 0) (q := 332) rfl (Nat.le_of_ble_eq_true rfl) (nin hos (Nat.le_of_ble_eq_true rfl))) ?_
  refine w_bipush (Ev.cm _) rfl ?_
  refine w_iload_n (Ev.cm _) rfl rfl ?_
  refine w_iadd (Ev.cm _) rfl ?_
  show Wp _ _ _ _ _ _ _ 205 [(0, .ref 331), (1, .int 3)] [.int 45, .ref 332] (HN 349 (331 :: os) (sI (sI (sI (sI (sI (sI (sI (sI (sI I 331 5 (-1)) 331 6 (-1)) 331 23 1) 332 8 293) 332 10 8190) 332 2 (-1)) 332 42 1) 332 43 1) 332 44 1) X)
  refine w_iconst (Ev.cm _) rfl ?_
  refine w_iast (Ev.cm _) rfl (Nat.le_of_ble_eq_true rfl) rfl (show vp_in 45 1541 from vpI 1541 (by decide) (by decide) (by decide)) ?_
  have z27 : Zf 349 (sI (sI (sI (sI (sI (sI (sI (sI (sI (sI I 331 5 (-1)) 331 6 (-1)) 331 23 1) 332 8 293) 332 10 8190) 332 2 (-1)) 332 42 1) 332 43 1) 332 44 1) 332 45 1) := (Zs (Nat.le_of_ble_eq_true rfl) z26)
  show Wp _ _ _ _ _ _ _ 207 [(0, .ref 331), (1, .int 3)] [] (HN 349 (331 :: os) (sI (sI (sI (sI (sI (sI (sI (sI (sI (sI I 331 5 (-1)) 331 6 (-1)) 331 23 1) 332 8 293) 332 10 8190) 332 2 (-1)) 332 42 1) 332 43 1) 332 44 1) 332 45 1) X)
  refine w_iinc (ls2 := [(0, .ref 331), (1, .int 4)]) (Ev.cm _) rfl rfl rfl ?_
  refine w_goto (Ev.cm _) rfl ?_
  refine w_iload_n (Ev.cm _) rfl rfl ?_
  refine w_bipush (Ev.cm _) rfl ?_
  refine w_icmp_ge (Ev.cm _) rfl (fun q => absurd q (by decide)) (fun _ => ?_)
  refine w_aload_n (Ev.cm _) rfl rfl ?_
  refine w_getR (q := 332) (Ev.cm _) rfl (Nat.le_of_ble_eq_true rfl) rfl (rd_get (n := 349) (o := 331) (k := 0) (q := 332) rfl (Nat.le_of_ble_eq_true rfl) (nin hos (Nat.le_of_ble_eq_true rfl))) ?_
  refine w_bipush (Ev.cm _) rfl ?_
  refine w_iload_n (Ev.cm _) rfl rfl ?_
  refine w_iadd (Ev.cm _) rfl ?_
  show Wp _ _ _ _ _ _ _ 205 [(0, .ref 331), (1, .int 4)] [.int 46, .ref 332] (HN 349 (331 :: os) (sI (sI (sI (sI (sI (sI (sI (sI (sI (sI I 331 5 (-1)) 331 6 (-1)) 331 23 1) 332 8 293) 332 10 8190) 332 2 (-1)) 332 42 1) 332 43 1) 332 44 1) 332 45 1) X)
  refine w_iconst (Ev.cm _) rfl ?_
  refine w_iast (Ev.cm _) rfl (Nat.le_of_ble_eq_true rfl) rfl (show vp_in 46 1541 from vpI 1541 (by decide) (by decide) (by decide)) ?_
  have z28 : Zf 349 (sI (sI (sI (sI (sI (sI (sI (sI (sI (sI (sI I 331 5 (-1)) 331 6 (-1)) 331 23 1) 332 8 293) 332 10 8190) 332 2 (-1)) 332 42 1) 332 43 1) 332 44 1) 332 45 1) 332 46 1) := (Zs (Nat.le_of_ble_eq_true rfl) z27)
  show Wp _ _ _ _ _ _ _ 207 [(0, .ref 331), (1, .int 4)] [] (HN 349 (331 :: os) (sI (sI (sI (sI (sI (sI (sI (sI (sI (sI (sI I 331 5 (-1)) 331 6 (-1)) 331 23 1) 332 8 293) 332 10 8190) 332 2 (-1)) 332 42 1) 332 43 1) 332 44 1) 332 45 1) 332 46 1) X)
  refine w_iinc (ls2 := [(0, .ref 331), (1, .int 5)]) (Ev.cm _) rfl rfl rfl ?_
  refine w_goto (Ev.cm _) rfl ?_
  refine w_iload_n (Ev.cm _) rfl rfl ?_
  refine w_bipush (Ev.cm _) rfl ?_
  refine w_icmp_ge (Ev.cm _) rfl (fun q => absurd q (by decide)) (fun _ => ?_)
  refine w_aload_n (Ev.cm _) rfl rfl ?_
  refine w_getR (q := 332) (Ev.cm _) rfl (Nat.le_of_ble_eq_true rfl) rfl (rd_get (n := 349) (o := 331) (k := 0) (q := 332) rfl (Nat.le_of_ble_eq_true rfl) (nin hos (Nat.le_of_ble_eq_true rfl))) ?_
  refine w_bipush (Ev.cm _) rfl ?_
  refine w_iload_n (Ev.cm _) rfl rfl ?_
  refine w_iadd (Ev.cm _) rfl ?_
  show Wp _ _ _ _ _ _ _ 205 [(0, .ref 331), (1, .int 5)] [.int 47, .ref 332] (HN 349 (331 :: os) (sI (sI (sI (sI (sI (sI (sI (sI (sI (sI (sI I 331 5 (-1)) 331 6 (-1)) 331 23 1) 332 8 293) 332 10 8190) 332 2 (-1)) 332 42 1) 332 43 1) 332 44 1) 332 45 1) 332 46 1) X)
  refine w_iconst (Ev.cm _) rfl ?_
  refine w_iast (Ev.cm _) rfl (Nat.le_of_ble_eq_true rfl) rfl (show vp_in 47 1541 from vpI 1541 (by decide) (by decide) (by decide)) ?_
  have z29 : Zf 349 (sI (sI (sI (sI (sI (sI (sI (sI (sI (sI (sI (sI I 331 5 (-1)) 331 6 (-1)) 331 23 1) 332 8 293) 332 10 8190) 332 2 (-1)) 332 42 1) 332 43 1) 332 44 1) 332 45 1) 332 46 1) 332 47 1) := (Zs (Nat.le_of_ble_eq_true rfl) z28)
  show Wp _ _ _ _ _ _ _ 207 [(0, .ref 331), (1, .int 5)] [] (HN 349 (331 :: os) (sI (sI (sI (sI (sI (sI (sI (sI (sI (sI (sI (sI I 331 5 (-1)) 331 6 (-1)) 331 23 1) 332 8 293) 332 10 8190) 332 2 (-1)) 332 42 1) 332 43 1) 332 44 1) 332 45 1) 332 46 1) 332 47 1) X)
  refine w_iinc (ls2 := [(0, .ref 331), (1, .int 6)]) (Ev.cm _) rfl rfl rfl ?_
  refine w_goto (Ev.cm _) rfl ?_
  refine w_iload_n (Ev.cm _) rfl rfl ?_
  refine w_bipush (Ev.cm _) rfl ?_
  refine w_icmp_ge (Ev.cm _) rfl (fun q => absurd q (by decide)) (fun _ => ?_)
  refine w_aload_n (Ev.cm _) rfl rfl ?_
  refine w_getR (q := 332) (Ev.cm _) rfl (Nat.le_of_ble_eq_true rfl) rfl (rd_get (n := 349) (o := 331) (k := 0) (q := 332) rfl (Nat.le_of_ble_eq_true rfl) (nin hos (Nat.le_of_ble_eq_true rfl))) ?_
  refine w_bipush (Ev.cm _) rfl ?_
  refine w_iload_n (Ev.cm _) rfl rfl ?_
  refine w_iadd (Ev.cm _) rfl ?_
  show Wp _ _ _ _ _ _ _ 205 [(0, .ref 331), (1, .int 6)] [.int 48, .ref 332] (HN 349 (331 :: os) (sI (sI (sI (sI (sI (sI (sI (sI (sI (sI (sI (sI I 331 5 (-1)) 331 6 (-1)) 331 23 1) 332 8 293) 332 10 8190) 332 2 (-1)) 332 42 1) 332 43 1) 332 44 1) 332 45 1) 332 46 1) 332 47 1) X)
  refine w_iconst (Ev.cm _) rfl ?_
  refine w_iast (Ev.cm _) rfl (Nat.le_of_ble_eq_true rfl) rfl (show vp_in 48 1541 from vpI 1541 (by decide) (by decide) (by decide)) ?_
  have z30 : Zf 349 (sI (sI (sI (sI (sI (sI (sI (sI (sI (sI (sI (sI (sI I 331 5 (-1)) 331 6 (-1)) 331 23 1) 332 8 293) 332 10 8190) 332 2 (-1)) 332 42 1) 332 43 1) 332 44 1) 332 45 1) 332 46 1) 332 47 1) 332 48 1) := (Zs (Nat.le_of_ble_eq_true rfl) z29)
  show Wp _ _ _ _ _ _ _ 207 [(0, .ref 331), (1, .int 6)] [] (HN 349 (331 :: os) (sI (sI (sI (sI (sI (sI (sI (sI (sI (sI (sI (sI (sI I 331 5 (-1)) 331 6 (-1)) 331 23 1) 332 8 293) 332 10 8190) 332 2 (-1)) 332 42 1) 332 43 1) 332 44 1) 332 45 1) 332 46 1) 332 47 1) 332 48 1) X)
  refine w_iinc (ls2 := [(0, .ref 331), (1, .int 7)]) (Ev.cm _) rfl rfl rfl ?_
  refine w_goto (Ev.cm _) rfl ?_
  refine w_iload_n (Ev.cm _) rfl rfl ?_
  refine w_bipush (Ev.cm _) rfl ?_
  refine w_icmp_ge (Ev.cm _) rfl (fun q => absurd q (by decide)) (fun _ => ?_)
  refine w_aload_n (Ev.cm _) rfl rfl ?_
  refine w_getR (q := 332) (Ev.cm _) rfl (Nat.le_of_ble_eq_true rfl) rfl (rd_get (n := 349) (o := 331) (k := 0) (q := 332) rfl (Nat.le_of_ble_eq_true rfl) (nin hos (Nat.le_of_ble_eq_true rfl))) ?_
  refine w_bipush (Ev.cm _) rfl ?_
  refine w_iload_n (Ev.cm _) rfl rfl ?_
  refine w_iadd (Ev.cm _) rfl ?_
  show Wp _ _ _ _ _ _ _ 205 [(0, .ref 331), (1, .int 7)] [.int 49, .ref 332] (HN 349 (331 :: os) (sI (sI (sI (sI (sI (sI (sI (sI (sI (sI (sI (sI (sI I 331 5 (-1)) 331 6 (-1)) 331 23 1) 332 8 293) 332 10 8190) 332 2 (-1)) 332 42 1) 332 43 1) 332 44 1) 332 45 1) 332 46 1) 332 47 1) 332 48 1) X)
  refine w_iconst (Ev.cm _) rfl ?_
  refine w_iast (Ev.cm _) rfl (Nat.le_of_ble_eq_true rfl) rfl (show vp_in 49 1541 from vpI 1541 (by decide) (by decide) (by decide)) ?_
  have z31 : Zf 349 (sI (sI (sI (sI (sI (sI (sI (sI (sI (sI (sI (sI (sI (sI I 331 5 (-1)) 331 6 (-1)) 331 23 1) 332 8 293) 332 10 8190) 332 2 (-1)) 332 42 1) 332 43 1) 332 44 1) 332 45 1) 332 46 1) 332 47 1) 332 48 1) 332 49 1) := (Zs (Nat.le_of_ble_eq_true rfl) z30)
  show Wp _ _ _ _ _ _ _ 207 [(0, .ref 331), (1, .int 7)] [] (HN 349 (331 :: os) (sI (sI (sI (sI (sI (sI (sI (sI (sI (sI (sI (sI (sI (sI I 331 5 (-1)) 331 6 (-1)) 331 23 1) 332 8 293) 332 10 8190) 332 2 (-1)) 332 42 1) 332 43 1) 332 44 1) 332 45 1) 332 46 1) 332 47 1) 332 48 1) 332 49 1) X)
  refine w_iinc (ls2 := [(0, .ref 331), (1, .int 8)]) (Ev.cm _) rfl rfl rfl ?_
  refine w_goto (Ev.cm _) rfl ?_
  refine w_iload_n (Ev.cm _) rfl rfl ?_
  refine w_bipush (Ev.cm _) rfl ?_
  refine w_icmp_ge (Ev.cm _) rfl (fun q => absurd q (by decide)) (fun _ => ?_)
  refine w_aload_n (Ev.cm _) rfl rfl ?_
  refine w_getR (q := 332) (Ev.cm _) rfl (Nat.le_of_ble_eq_true rfl) rfl (rd_get (n := 349) (o := 331) (k := 0) (q := 332) rfl (Nat.le_of_ble_eq_true rfl) (nin hos (Nat.le_of_ble_eq_true rfl))) ?_
  refine w_bipush (Ev.cm _) rfl ?_
  refine w_iload_n (Ev.cm _) rfl rfl ?_
  refine w_iadd (Ev.cm _) rfl ?_
  show Wp _ _ _ _ _ _ _ 205 [(0, .ref 331), (1, .int 8)] [.int 50, .ref 332] (HN 349 (331 :: os) (sI (sI (sI (sI (sI (sI (sI (sI (sI (sI (sI (sI (sI (sI I 331 5 (-1)) 331 6 (-1)) 331 23 1) 332 8 293) 332 10 8190) 332 2 (-1)) 332 42 1) 332 43 1) 332 44 1) 332 45 1) 332 46 1) 332 47 1) 332 48 1) 332 49 1) X)
  refine w_iconst (Ev.cm _) rfl ?_
  refine w_iast (Ev.cm _) rfl (Nat.le_of_ble_eq_true rfl) rfl (show vp_in 50 1541 from vpI 1541 (by decide) (by decide) (by decide)) ?_
  have z32 : Zf 349 (sI (sI (sI (sI (sI (sI (sI (sI (sI (sI (sI (sI (sI (sI (sI I 331 5 (-1)) 331 6 (-1)) 331 23 1) 332 8 293) 332 10 8190) 332 2 (-1)) 332 42 1) 332 43 1) 332 44 1) 332 45 1) 332 46 1) 332 47 1) 332 48 1) 332 49 1) 332 50 1) := (Zs (Nat.le_of_ble_eq_true rfl) z31)
  show Wp _ _ _ _ _ _ _ 207 [(0, .ref 331), (1, .int 8)] [] (HN 349 (331 :: os) (sI (sI (sI (sI (sI (sI (sI (sI (sI (sI (sI (sI (sI (sI (sI I 331 5 (-1)) 331 6 (-1)) 331 23 1) 332 8 293) 332 10 8190) 332 2 (-1)) 332 42 1) 332 43 1) 332 44 1) 332 45 1) 332 46 1) 332 47 1) 332 48 1) 332 49 1) 332 50 1) X)
  refine w_iinc (ls2 := [(0, .ref 331), (1, .int 9)]) (Ev.cm _) rfl rfl rfl ?_
  refine w_goto (Ev.cm _) rfl ?_
  refine w_iload_n (Ev.cm _) rfl rfl ?_
  refine w_bipush (Ev.cm _) rfl ?_
  refine w_icmp_ge (Ev.cm _) rfl (fun q => absurd q (by decide)) (fun _ => ?_)
  refine w_aload_n (Ev.cm _) rfl rfl ?_
  refine w_getR (q := 332) (Ev.cm _) rfl (Nat.le_of_ble_eq_true rfl) rfl (rd_get (n := 349) (o := 331) (k := 0) (q := 332) rfl (Nat.le_of_ble_eq_true rfl) (nin hos (Nat.le_of_ble_eq_true rfl))) ?_
  refine w_bipush (Ev.cm _) rfl ?_
  refine w_iload_n (Ev.cm _) rfl rfl ?_
  refine w_iadd (Ev.cm _) rfl ?_
  show Wp _ _ _ _ _ _ _ 205 [(0, .ref 331), (1, .int 9)] [.int 51, .ref 332] (HN 349 (331 :: os) (sI (sI (sI (sI (sI (sI (sI (sI (sI (sI (sI (sI (sI (sI (sI I 331 5 (-1)) 331 6 (-1)) 331 23 1) 332 8 293) 332 10 8190) 332 2 (-1)) 332 42 1) 332 43 1) 332 44 1) 332 45 1) 332 46 1) 332 47 1) 332 48 1) 332 49 1) 332 50 1) X)
  refine w_iconst (Ev.cm _) rfl ?_
  refine w_iast (Ev.cm _) rfl (Nat.le_of_ble_eq_true rfl) rfl (show vp_in 51 1541 from vpI 1541 (by decide) (by decide) (by decide)) ?_
  have z33 : Zf 349 (sI (sI (sI (sI (sI (sI (sI (sI (sI (sI (sI (sI (sI (sI (sI (sI I 331 5 (-1)) 331 6 (-1)) 331 23 1) 332 8 293) 332 10 8190) 332 2 (-1)) 332 42 1) 332 43 1) 332 44 1) 332 45 1) 332 46 1) 332 47 1) 332 48 1) 332 49 1) 332 50 1) 332 51 1) := (Zs (Nat.le_of_ble_eq_true rfl) z32)
  show Wp _ _ _ _ _ _ _ 207 [(0, .ref 331), (1, .int 9)] [] (HN 349 (331 :: os) (sI (sI (sI (sI (sI (sI (sI (sI (sI (sI (sI (sI (sI (sI (sI (sI I 331 5 (-1)) 331 6 (-1)) 331 23 1) 332 8 293) 332 10 8190) 332 2 (-1)) 332 42 1) 332 43 1) 332 44 1) 332 45 1) 332 46 1) 332 47 1) 332 48 1) 332 49 1) 332 50 1) 332 51 1) X)
  refine w_iinc (ls2 := [(0, .ref 331), (1, .int 10)]) (Ev.cm _) rfl rfl rfl ?_
  refine w_goto (Ev.cm _) rfl ?_
  refine w_iload_n (Ev.cm _) rfl rfl ?_
  refine w_bipush (Ev.cm _) rfl ?_
  refine w_icmp_ge (Ev.cm _) rfl (fun q => absurd q (by decide)) (fun _ => ?_)
  refine w_aload_n (Ev.cm _) rfl rfl ?_
  refine w_getR (q := 332) (Ev.cm _) rfl (Nat.le_of_ble_eq_true rfl) rfl (rd_get (n := 349) (o := 331) (k := 0) (q := 332) rfl (Nat.le_of_ble_eq_true rfl) (nin hos (Nat.le_of_ble_eq_true rfl))) ?_
  refine w_bipush (Ev.cm _) rfl ?_
  refine w_iload_n (Ev.cm _) rfl rfl ?_
  refine w_iadd (Ev.cm _) rfl ?_
  show Wp _ _ _ _ _ _ _ 205 [(0, .ref 331), (1, .int 10)] [.int 52, .ref 332] (HN 349 (331 :: os) (sI (sI (sI (sI (sI (sI (sI (sI (sI (sI (sI (sI (sI (sI (sI (sI I 331 5 (-1)) 331 6 (-1)) 331 23 1) 332 8 293) 332 10 8190) 332 2 (-1)) 332 42 1) 332 43 1) 332 44 1) 332 45 1) 332 46 1) 332 47 1) 332 48 1) 332 49 1) 332 50 1) 332 51 1) X)
  refine w_iconst (Ev.cm _) rfl ?_
  refine w_iast (Ev.cm _) rfl (Nat.le_of_ble_eq_true rfl) rfl (show vp_in 52 1541 from vpI 1541 (by decide) (by decide) (by decide)) ?_
  have z34 : Zf 349 (sI (sI (sI (sI (sI (sI (sI (sI (sI (sI (sI (sI (sI (sI (sI (sI (sI I 331 5 (-1)) 331 6 (-1)) 331 23 1) 332 8 293) 332 10 8190) 332 2 (-1)) 332 42 1) 332 43 1) 332 44 1) 332 45 1) 332 46 1) 332 47 1) 332 48 1) 332 49 1) 332 50 1) 332 51 1) 332 52 1) := (Zs (Nat.le_of_ble_eq_true rfl) z33)
  show Wp _ _ _ _ _ _ _ 207 [(0, .ref 331), (1, .int 10)] [] (HN 349 (331 :: os) (sI (sI (sI (sI (sI (sI (sI (sI (sI (sI (sI (sI (sI (sI (sI (sI (sI I 331 5 (-1)) 331 6 (-1)) 331 23 1) 332 8 293) 332 10 8190) 332 2 (-1)) 332 42 1) 332 43 1) 332 44 1) 332 45 1) 332 46 1) 332 47 1) 332 48 1) 332 49 1) 332 50 1) 332 51 1) 332 52 1) X)
  refine w_iinc (ls2 := [(0, .ref 331), (1, .int 11)]) (Ev.cm _) rfl rfl rfl ?_
  refine w_goto (Ev.cm _) rfl ?_
  refine w_iload_n (Ev.cm _) rfl rfl ?_
  refine w_bipush (Ev.cm _) rfl ?_
  refine w_icmp_ge (Ev.cm _) rfl (fun q => absurd q (by decide)) (fun _ => ?_)
  refine w_aload_n (Ev.cm _) rfl rfl ?_
  refine w_getR (q := 332) (Ev.cm _) rfl (Nat.le_of_ble_eq_true rfl) rfl (rd_get (n := 349) (o := 331) (k := 0) (q := 332) rfl (Nat.le_of_ble_eq_true rfl) (nin hos (Nat.le_of_ble_eq_true rfl))) ?_
  refine w_bipush (Ev.cm _) rfl ?_
  refine w_iload_n (Ev.cm _) rfl rfl ?_
  refine w_iadd (Ev.cm _) rfl ?_
  show Wp _ _ _ _ _ _ _ 205 [(0, .ref 331), (1, .int 11)] [.int 53, .ref 332] (HN 349 (331 :: os) (sI (sI (sI (sI (sI (sI (sI (sI (sI (sI (sI (sI (sI (sI (sI (sI (sI I 331 5 (-1)) 331 6 (-1)) 331 23 1) 332 8 293) 332 10 8190) 332 2 (-1)) 332 42 1) 332 43 1) 332 44 1) 332 45 1) 332 46 1) 332 47 1) 332 48 1) 332 49 1) 332 50 1) 332 51 1) 332 52 1) X)
  refine w_iconst (Ev.cm _) rfl ?_
  refine w_iast (Ev.cm _) rfl (Nat.le_of_ble_eq_true rfl) rfl (show vp_in 53 1541 from vpI 1541 (by decide) (by decide) (by decide)) ?_
  have z35 : Zf 349 (sI (sI (sI (sI (sI (sI (sI (sI (sI (sI (sI (sI (sI (sI (sI (sI (sI (sI I 331 5 (-1)) 331 6 (-1)) 331 23 1) 332 8 293) 332 10 8190) 332 2 (-1)) 332 42 1) 332 43 1) 332 44 1) 332 45 1) 332 46 1) 332 47 1) 332 48 1) 332 49 1) 332 50 1) 332 51 1) 332 52 1) 332 53 1) := (Zs (Nat.le_of_ble_eq_true rfl) z34)
  show Wp _ _ _ _ _ _ _ 207 [(0, .ref 331), (1, .int 11)] [] (HN 349 (331 :: os) (sI (sI (sI (sI (sI (sI (sI (sI (sI (sI (sI (sI (sI (sI (sI (sI (sI (sI I 331 5 (-1)) 331 6 (-1)) 331 23 1) 332 8 293) 332 10 8190) 332 2 (-1)) 332 42 1) 332 43 1) 332 44 1) 332 45 1) 332 46 1) 332 47 1) 332 48 1) 332 49 1) 332 50 1) 332 51 1) 332 52 1) 332 53 1) X)
  refine w_iinc (ls2 := [(0, .ref 331), (1, .int 12)]) (Ev.cm _) rfl rfl rfl ?_
  refine w_goto (Ev.cm _) rfl ?_
  refine w_iload_n (Ev.cm _) rfl rfl ?_
  refine w_bipush (Ev.cm _) rfl ?_
  refine w_icmp_ge (Ev.cm _) rfl (fun q => absurd q (by decide)) (fun _ => ?_)
  refine w_aload_n (Ev.cm _) rfl rfl ?_
  refine w_getR (q := 332) (Ev.cm _) rfl (Nat.le_of_ble_eq_true rfl) rfl (rd_get (n := 349) (o := 331) (k := 0) (q := 332) rfl (Nat.le_of_ble_eq_true rfl) (nin hos (Nat.le_of_ble_eq_true rfl))) ?_
  refine w_bipush (Ev.cm _) rfl ?_
  refine w_iload_n (Ev.cm _) rfl rfl ?_
  refine w_iadd (Ev.cm _) rfl ?_
  show Wp _ _ _ _ _ _ _ 205 [(0, .ref 331), (1, .int 12)] [.int 54, .ref 332] (HN 349 (331 :: os) (sI (sI (sI (sI (sI (sI (sI (sI (sI (sI (sI (sI (sI (sI (sI (sI (sI (sI I 331 5 (-1)) 331 6 (-1)) 331 23 1) 332 8 293) 332 10 8190) 332 2 (-1)) 332 42 1) 332 43 1) 332 44 1) 332 45 1) 332 46 1) 332 47 1) 332 48 1) 332 49 1) 332 50 1) 332 51 1) 332 52 1) 332 53 1) X)
  refine w_iconst (Ev.cm _) rfl ?_
  refine w_iast (Ev.cm _) rfl (Nat.le_of_ble_eq_true rfl) rfl (show vp_in 54 1541 from vpI 1541 (by decide) (by decide) (by decide)) ?_
  have z36 : Zf 349 (sI (sI (sI (sI (sI (sI (sI (sI (sI (sI (sI (sI (sI (sI (sI (sI (sI (sI (sI I 331 5 (-1)) 331 6 (-1)) 331 23 1) 332 8 293) 332 10 8190) 332 2 (-1)) 332 42 1) 332 43 1) 332 44 1) 332 45 1) 332 46 1) 332 47 1) 332 48 1) 332 49 1) 332 50 1) 332 51 1) 332 52 1) 332 53 1) 332 54 1) := (Zs (Nat.le_of_ble_eq_true rfl) z35)
  show Wp _ _ _ _ _ _ _ 207 [(0, .ref 331), (1, .int 12)] [] (HN 349 (331 :: os) (sI (sI (sI (sI (sI (sI (sI (sI (sI (sI (sI (sI (sI (sI (sI (sI (sI (sI (sI I 331 5 (-1)) 331 6 (-1)) 331 23 1) 332 8 293) 332 10 8190) 332 2 (-1)) 332 42 1) 332 43 1) 332 44 1) 332 45 1) 332 46 1) 332 47 1) 332 48 1) 332 49 1) 332 50 1) 332 51 1) 332 52 1) 332 53 1) 332 54 1) X)
  refine w_iinc (ls2 := [(0, .ref 331), (1, .int 13)]) (Ev.cm _) rfl rfl rfl ?_
  refine w_goto (Ev.cm _) rfl ?_
  refine w_iload_n (Ev.cm _) rfl rfl ?_
  refine w_bipush (Ev.cm _) rfl ?_
  refine w_icmp_ge (Ev.cm _) rfl (fun q => absurd q (by decide)) (fun _ => ?_)
  refine w_aload_n (Ev.cm _) rfl rfl ?_
  refine w_getR (q := 332) (Ev.cm _) rfl (Nat.le_of_ble_eq_true rfl) rfl (rd_get (n := 349) (o := 331) (k := 0) (q := 332) rfl (Nat.le_of_ble_eq_true rfl) (nin hos (Nat.le_of_ble_eq_true rfl))) ?_
  refine w_bipush (Ev.cm _) rfl ?_
  refine w_iload_n (Ev.cm _) rfl rfl ?_
  refine w_iadd (Ev.cm _) rfl ?_
  show Wp _ _ _ _ _ _ _ 205 [(0, .ref 331), (1, .int 13)] [.int 55, .ref 332] (HN 349 (331 :: os) (sI (sI (sI (sI (sI (sI (sI (sI (sI (sI (sI (sI (sI (sI (sI (sI (sI (sI (sI I 331 5 (-1)) 331 6 (-1)) 331 23 1) 332 8 293) 332 10 8190) 332 2 (-1)) 332 42 1) 332 43 1) 332 44 1) 332 45 1) 332 46 1) 332 47 1) 332 48 1) 332 49 1) 332 50 1) 332 51 1) 332 52 1) 332 53 1) 332 54 1) X)
  refine w_iconst (Ev.cm _) rfl ?_
  refine w_iast (Ev.cm _) rfl (Nat.le_of_ble_eq_true rfl) rfl (show vp_in 55 1541 from vpI 1541 (by decide) (by decide) (by decide)) ?_
  have z37 : Zf 349 (sI (sI (sI (sI (sI (sI (sI (sI (sI (sI (sI (sI (sI (sI (sI (sI (sI (sI (sI (sI I 331 5 (-1)) 331 6 (-1)) 331 23 1) 332 8 293) 332 10 8190) 332 2 (-1)) 332 42 1) 332 43 1) 332 44 1) 332 45 1) 332 46 1) 332 47 1) 332 48 1) 332 49 1) 332 50 1) 332 51 1) 332 52 1) 332 53 1) 332 54 1) 332 55 1) := (Zs (Nat.le_of_ble_eq_true rfl) z36)
  show Wp _ _ _ _ _ _ _ 207 [(0, .ref 331), (1, .int 13)] [] (HN 349 (331 :: os) (sI (sI (sI (sI (sI (sI (sI (sI (sI (sI (sI (sI (sI (sI (sI (sI (sI (sI (sI (sI I 331 5 (-1)) 331 6 (-1)) 331 23 1) 332 8 293) 332 10 8190) 332 2 (-1)) 332 42 1) 332 43 1) 332 44 1) 332 45 1) 332 46 1) 332 47 1) 332 48 1) 332 49 1) 332 50 1) 332 51 1) 332 52 1) 332 53 1) 332 54 1) 332 55 1) X)
  refine w_iinc (ls2 := [(0, .ref 331), (1, .int 14)]) (Ev.cm _) rfl rfl rfl ?_
  refine w_goto (Ev.cm _) rfl ?_
  refine w_iload_n (Ev.cm _) rfl rfl ?_
  refine w_bipush (Ev.cm _) rfl ?_
  refine w_icmp_ge (Ev.cm _) rfl (fun q => absurd q (by decide)) (fun _ => ?_)
  refine w_aload_n (Ev.cm _) rfl rfl ?_
  refine w_getR (q := 332) (Ev.cm _) rfl (Nat.le_of_ble_eq_true rfl) rfl (rd_get (n := 349) (o := 331) (k := 0) (q := 332) rfl (Nat.le_of_ble_eq_true rfl) (nin hos (Nat.le_of_ble_eq_true rfl))) ?_
  refine w_bipush (Ev.cm _) rfl ?_
  refine w_iload_n (Ev.cm _) rfl rfl ?_
  refine w_iadd (Ev.cm _) rfl ?_
  show Wp _ _ _ _ _ _ _ 205 [(0, .ref 331), (1, .int 14)] [.int 56, .ref 332] (HN 349 (331 :: os) (sI (sI (sI (sI (sI (sI (sI (sI (sI (sI (sI (sI (sI (sI (sI (sI (sI (sI (sI (sI I 331 5 (-1)) 331 6 (-1)) 331 23 1) 332 8 293) 332 10 8190) 332 2 (-1)) 332 42 1) 332 43 1) 332 44 1) 332 45 1) 332 46 1) 332 47 1) 332 48 1) 332 49 1) 332 50 1) 332 51 1) 332 52 1) 332 53 1) 332 54 1) 332 55 1) X)
  refine w_iconst (Ev.cm _) rfl ?_
  refine w_iast (Ev.cm _) rfl (Nat.le_of_ble_eq_true rfl) rfl (show vp_in 56 1541 from vpI 1541 (by decide) (by decide) (by decide)) ?_
  have z38 : Zf 349 (sI (sI (sI (sI (sI (sI (sI (sI (sI (sI (sI (sI (sI (sI (sI (sI (sI (sI (sI (sI (sI I 331 5 (-1)) 331 6 (-1)) 331 23 1) 332 8 293) 332 10 8190) 332 2 (-1)) 332 42 1) 332 43 1) 332 44 1) 332 45 1) 332 46 1) 332 47 1) 332 48 1) 332 49 1) 332 50 1) 332 51 1) 332 52 1) 332 53 1) 332 54 1) 332 55 1) 332 56 1) := (Zs (Nat.le_of_ble_eq_true rfl) z37)
  show Wp _ _ _ _ _ _ _ 207 [(0, .ref 331), (1, .int 14)] [] (HN 349 (331 :: os) (sI (sI (sI (sI (sI (sI (sI (sI (sI (sI (sI (sI (sI (sI (sI (sI (sI (sI (sI (sI (sI I 331 5 (-1)) 331 6 (-1)) 331 23 1) 332 8 293) 332 10 8190) 332 2 (-1)) 332 42 1) 332 43 1) 332 44 1) 332 45 1) 332 46 1) 332 47 1) 332 48 1) 332 49 1) 332 50 1) 332 51 1) 332 52 1) 332 53 1) 332 54 1) 332 55 1) 332 56 1) X)
  refine w_iinc (ls2 := [(0, .ref 331), (1, .int 15)]) (Ev.cm _) rfl rfl rfl ?_
  refine w_goto (Ev.cm _) rfl ?_
  refine w_iload_n (Ev.cm _) rfl rfl ?_
  refine w_bipush (Ev.cm _) rfl ?_
  refine w_icmp_ge (Ev.cm _) rfl (fun q => absurd q (by decide)) (fun _ => ?_)
  refine w_aload_n (Ev.cm _) rfl rfl ?_
  refine w_getR (q := 332) (Ev.cm _) rfl (Nat.le_of_ble_eq_true rfl) rfl (rd_get (n := 349) (o := 331) (k := 0) (q := 332) rfl (Nat.le_of_ble_eq_true rfl) (nin hos (Nat.le_of_ble_eq_true rfl))) ?_
  refine w_bipush (Ev.cm _) rfl ?_
  refine w_iload_n (Ev.cm _) rfl rfl ?_
  refine w_iadd (Ev.cm _) rfl ?_
  show Wp _ _ _ _ _ _ _ 205 [(0, .ref 331), (1, .int 15)] [.int 57, .ref 332] (HN 349 (331 :: os) (sI (sI (sI (sI (sI (sI (sI (sI (sI (sI (sI (sI (sI (sI (sI (sI (sI (sI (sI (sI (sI I 331 5 (-1)) 331 6 (-1)) 331 23 1) 332 8 293) 332 10 8190) 332 2 (-1)) 332 42 1) 332 43 1) 332 44 1) 332 45 1) 332 46 1) 332 47 1) 332 48 1) 332 49 1) 332 50 1) 332 51 1) 332 52 1) 332 53 1) 332 54 1) 332 55 1) 332 56 1) X)
  refine w_iconst (Ev.cm _) rfl ?_
  refine w_iast (Ev.cm _) rfl (Nat.le_of_ble_eq_true rfl) rfl (show vp_in 57 1541 from vpI 1541 (by decide) (by decide) (by decide)) ?_
  have z39 : Zf 349 (sI (sI (sI (sI (sI (sI (sI (sI (sI (sI (sI (sI (sI (sI (sI (sI (sI (sI (sI (sI (sI (sI I 331 5 (-1)) 331 6 (-1)) 331 23 1) 332 8 293) 332 10 8190) 332 2 (-1)) 332 42 1) 332 43 1) 332 44 1) 332 45 1) 332 46 1) 332 47 1) 332 48 1) 332 49 1) 332 50 1) 332 51 1) 332 52 1) 332 53 1) 332 54 1) 332 55 1) 332 56 1) 332 57 1) := (Zs (Nat.le_of_ble_eq_true rfl) z38)
  show Wp _ _ _ _ _ _ _ 207 [(0, .ref 331), (1, .int 15)] [] (HN 349 (331 :: os) (sI (sI (sI (sI (sI (sI (sI (sI (sI (sI (sI (sI (sI (sI (sI (sI (sI (sI (sI (sI (sI (sI I 331 5 (-1)) 331 6 (-1)) 331 23 1) 332 8 293) 332 10 8190) 332 2 (-1)) 332 42 1) 332 43 1) 332 44 1) 332 45 1) 332 46 1) 332 47 1) 332 48 1) 332 49 1) 332 50 1) 332 51 1) 332 52 1) 332 53 1) 332 54 1) 332 55 1) 332 56 1) 332 57 1) X)
  refine w_iinc (ls2 := [(0, .ref 331), (1, .int 16)]) (Ev.cm _) rfl rfl rfl ?_
  refine w_goto (Ev.cm _) rfl ?_
  refine w_iload_n (Ev.cm _) rfl rfl ?_
  refine w_bipush (Ev.cm _) rfl ?_
  refine w_icmp_ge (Ev.cm _) rfl (fun q => absurd q (by decide)) (fun _ => ?_)
  refine w_aload_n (Ev.cm _) rfl rfl ?_
  refine w_getR (q := 332) (Ev.cm _) rfl (Nat.le_of_ble_eq_true rfl) rfl (rd_get (n := 349) (o := 331) (k := 0) (q := 332) rfl (Nat.le_of_ble_eq_true rfl) (nin hos (Nat.le_of_ble_eq_true rfl))) ?_
  refine w_bipush (Ev.cm _) rfl ?_
  refine w_iload_n (Ev.cm _) rfl rfl ?_
  refine w_iadd (Ev.cm _) rfl ?_
  show Wp _ _ _ _ _ _ _ 205 [(0, .ref 331), (1, .int 16)] [.int 58, .ref 332] (HN 349 (331 :: os) (sI (sI (sI (sI (sI (sI (sI (sI (sI (sI (sI (sI (sI (sI (sI (sI (sI (sI (sI (sI (sI (sI I 331 5 (-1)) 331 6 (-1)) 331 23 1) 332 8 293) 332 10 8190) 332 2 (-1)) 332 42 1) 332 43 1) 332 44 1) 332 45 1) 332 46 1) 332 47 1) 332 48 1) 332 49 1) 332 50 1) 332 51 1) 332 52 1) 332 53 1) 332 54 1) 332 55 1) 332 56 1) 332 57 1) X)
  refine w_iconst (Ev.cm _) rfl ?_
  refine w_iast (Ev.cm _) rfl (Nat.le_of_ble_eq_true rfl) rfl (show vp_in 58 1541 from vpI 1541 (by decide) (by decide) (by decide)) ?_
  have z40 : Zf 349 (sI (sI (sI (sI (sI (sI (sI (sI (sI (sI (sI (sI (sI (sI (sI (sI (sI (sI (sI (sI (sI (sI (sI I 331 5 (-1)) 331 6 (-1)) 331 23 1) 332 8 293) 332 10 8190) 332 2 (-1)) 332 42 1) 332 43 1) 332 44 1) 332 45 1) 332 46 1) 332 47 1) 332 48 1) 332 49 1) 332 50 1) 332 51 1) 332 52 1) 332 53 1) 332 54 1) 332 55 1) 332 56 1) 332 57 1) 332 58 1) := (Zs (Nat.le_of_ble_eq_true rfl) z39)
  show Wp _ _ _ _ _ _ _ 207 [(0, .ref 331), (1, .int 16)] [] (HN 349 (331 :: os) (sI (sI (sI (sI (sI (sI (sI (sI (sI (sI (sI (sI (sI (sI (sI (sI (sI (sI (sI (sI (sI (sI (sI I 331 5 (-1)) 331 6 (-1)) 331 23 1) 332 8 293) 332 10 8190) 332 2 (-1)) 332 42 1) 332 43 1) 332 44 1) 332 45 1) 332 46 1) 332 47 1) 332 48 1) 332 49 1) 332 50 1) 332 51 1) 332 52 1) 332 53 1) 332 54 1) 332 55 1) 332 56 1) 332 57 1) 332 58 1) X)
  refine w_iinc (ls2 := [(0, .ref 331), (1, .int 17)]) (Ev.cm _) rfl rfl rfl ?_
  refine w_goto (Ev.cm _) rfl ?_
  refine w_iload_n (Ev.cm _) rfl rfl ?_
  refine w_bipush (Ev.cm _) rfl ?_
  refine w_icmp_ge (Ev.cm _) rfl (fun q => absurd q (by decide)) (fun _ => ?_)
  refine w_aload_n (Ev.cm _) rfl rfl ?_
  refine w_getR (q := 332) (Ev.cm _) rfl (Nat.le_of_ble_eq_true rfl) rfl (rd_get (n := 349) (o := 331) (k := 0) (q := 332) rfl (Nat.le_of_ble_eq_true rfl) (nin hos (Nat.le_of_ble_eq_true rfl))) ?_
  refine w_bipush (Ev.cm _) rfl ?_
  refine w_iload_n (Ev.cm _) rfl rfl ?_
  refine w_iadd (Ev.cm _) rfl ?_
  show Wp _ _ _ _ _ _ _ 205 [(0, .ref 331), (1, .int 17)] [.int 59, .ref 332] (HN 349 (331 :: os) (sI (sI (sI (sI (sI (sI (sI (sI (sI (sI (sI (sI (sI (sI (sI (sI (sI (sI (sI (sI (sI (sI (sI I 331 5 (-1)) 331 6 (-1)) 331 23 1) 332 8 293) 332 10 8190) 332 2 (-1)) 332 42 1) 332 43 1) 332 44 1) 332 45 1) 332 46 1) 332 47 1) 332 48 1) 332 49 1) 332 50 1) 332 51 1) 332 52 1) 332 53 1) 332 54 1) 332 55 1) 332 56 1) 332 57 1) 332 58 1) X)
  refine w_iconst (Ev.cm _) rfl ?_
  refine w_iast (Ev.cm _) rfl (Nat.le_of_ble_eq_true rfl) rfl (show vp_in 59 1541 from vpI 1541 (by decide) (by decide) (by decide)) ?_
  have z41 : Zf 349 (sI (sI (sI (sI (sI (sI (sI (sI (sI (sI (sI (sI (sI (sI (sI (sI (sI (sI (sI (sI (sI (sI (sI (sI I 331 5 (-1)) 331 6 (-1)) 331 23 1) 332 8 293) 332 10 8190) 332 2 (-1)) 332 42 1) 332 43 1) 332 44 1) 332 45 1) 332 46 1) 332 47 1) 332 48 1) 332 49 1) 332 50 1) 332 51 1) 332 52 1) 332 53 1) 332 54 1) 332 55 1) 332 56 1) 332 57 1) 332 58 1) 332 59 1) := (Zs (Nat.le_of_ble_eq_true rfl) z40)
  show Wp _ _ _ _ _ _ _ 207 [(0, .ref 331), (1, .int 17)] [] (HN 349 (331 :: os) (sI (sI (sI (sI (sI (sI (sI (sI (sI (sI (sI (sI (sI (sI (sI (sI (sI (sI (sI (sI (sI (sI (sI (sI I 331 5 (-1)) 331 6 (-1)) 331 23 1) 332 8 293) 332 10 8190) 332 2 (-1)) 332 42 1) 332 43 1) 332 44 1) 332 45 1) 332 46 1) 332 47 1) 332 48 1) 332 49 1) 332 50 1) 332 51 1) 332 52 1) 332 53 1) 332 54 1) 332 55 1) 332 56 1) 332 57 1) 332 58 1) 332 59 1) X)
  refine w_iinc (ls2 := [(0, .ref 331), (1, .int 18)]) (Ev.cm _) rfl rfl rfl ?_
  refine w_goto (Ev.cm _) rfl ?_
  refine w_iload_n (Ev.cm _) rfl rfl ?_
  refine w_bipush (Ev.cm _) rfl ?_
  refine w_icmp_ge (Ev.cm _) rfl (fun _ => ?_) (fun q => absurd (by decide) q)
  refine w_iconst (Ev.cm _) rfl ?_
  refine w_istore_n (ls2 := [(0, .ref 331), (1, .int 0)]) (Ev.cm _) rfl rfl ?_
  refine w_iload_n (Ev.cm _) rfl rfl ?_
  refine w_bipush (Ev.cm _) rfl ?_
  refine w_icmp_ge (Ev.cm _) rfl (fun q => absurd q (by decide)) (fun _ => ?_)
  refine w_aload_n (Ev.cm _) rfl rfl ?_
  refine w_getR (q := 332) (Ev.cm _) rfl (Nat.le_of_ble_eq_true rfl) rfl (rd_get (n := 349) (o := 331) (k := 0) (q := 332) rfl (Nat.le_of_ble_eq_true rfl) (nin hos (Nat.le_of_ble_eq_true rfl))) ?_
  refine w_bipush (Ev.cm _) rfl ?_
  refine w_iload_n (Ev.cm _) rfl rfl ?_
  refine w_iadd (Ev.cm _) rfl ?_
  show Wp _ _ _ _ _ _ _ 229 [(0, .ref 331), (1, .int 0)] [.int 71, .ref 332] (HN 349 (331 :: os) (sI (sI (sI (sI (sI (sI (sI (sI (sI (sI (sI (sI (sI (sI (sI (sI (sI (sI (sI (sI (sI (sI (sI (sI I 331 5 (-1)) 331 6 (-1)) 331 23 1) 332 8 293) 332 10 8190) 332 2 (-1)) 332 42 1) 332 43 1) 332 44 1) 332 45 1) 332 46 1) 332 47 1) 332 48 1) 332 49 1) 332 50 1) 332 51 1) 332 52 1) 332 53 1) 332 54 1) 332 55 1) 332 56 1) 332 57 1) 332 58 1) 332 59 1) X)
  refine w_iconst (Ev.cm _) rfl ?_
  refine w_iast (Ev.cm _) rfl (Nat.le_of_ble_eq_true rfl) rfl (show vp_in 71 1541 from vpI 1541 (by decide) (by decide) (by decide)) ?_
  have z42 : Zf 349 (sI (sI (sI (sI (sI (sI (sI (sI (sI (sI (sI (sI (sI (sI (sI (sI (sI (sI (sI (sI (sI (sI (sI (sI (sI I 331 5 (-1)) 331 6 (-1)) 331 23 1) 332 8 293) 332 10 8190) 332 2 (-1)) 332 42 1) 332 43 1) 332 44 1) 332 45 1) 332 46 1) 332 47 1) 332 48 1) 332 49 1) 332 50 1) 332 51 1) 332 52 1) 332 53 1) 332 54 1) 332 55 1) 332 56 1) 332 57 1) 332 58 1) 332 59 1) 332 71 1) := (Zs (Nat.le_of_ble_eq_true rfl) z41)
  show Wp _ _ _ _ _ _ _ 231 [(0, .ref 331), (1, .int 0)] [] (HN 349 (331 :: os) (sI (sI (sI (sI (sI (sI (sI (sI (sI (sI (sI (sI (sI (sI (sI (sI (sI (sI (sI (sI (sI (sI (sI (sI (sI I 331 5 (-1)) 331 6 (-1)) 331 23 1) 332 8 293) 332 10 8190) 332 2 (-1)) 332 42 1) 332 43 1) 332 44 1) 332 45 1) 332 46 1) 332 47 1) 332 48 1) 332 49 1) 332 50 1) 332 51 1) 332 52 1) 332 53 1) 332 54 1) 332 55 1) 332 56 1) 332 57 1) 332 58 1) 332 59 1) 332 71 1) X)
  refine w_iinc (ls2 := [(0, .ref 331), (1, .int 1)]) (Ev.cm _) rfl rfl rfl ?_
  refine w_goto (Ev.cm _) rfl ?_
  refine w_iload_n (Ev.cm _) rfl rfl ?_
  refine w_bipush (Ev.cm _) rfl ?_
  refine w_icmp_ge (Ev.cm _) rfl (fun q => absurd q (by decide)) (fun _ => ?_)
  refine w_aload_n (Ev.cm _) rfl rfl ?_
  refine w_getR (q := 332) (Ev.cm _) rfl (Nat.le_of_ble_eq_true rfl) rfl (rd_get (n := 349) (o := 331) (k := 0) (q := 332) rfl (Nat.le_of_ble_eq_true rfl) (nin hos (Nat.le_of_ble_eq_true rfl))) ?_
  refine w_bipush (Ev.cm _) rfl ?_
  refine w_iload_n (Ev.cm _) rfl rfl ?_
  refine w_iadd (Ev.cm _) rfl ?_
  show Wp _ _ _ _ _ _ _ 229 [(0, .ref 331), (1, .int 1)] [.int 72, .ref 332] (HN 349 (331 :: os) (sI (sI (sI (sI (sI (sI (sI (sI (sI (sI (sI (sI (sI (sI (sI (sI (sI (sI (sI (sI (sI (sI (sI (sI (sI I 331 5 (-1)) 331 6 (-1)) 331 23 1) 332 8 293) 332 10 8190) 332 2 (-1)) 332 42 1) 332 43 1) 332 44 1) 332 45 1) 332 46 1) 332 47 1) 332 48 1) 332 49 1) 332 50 1) 332 51 1) 332 52 1) 332 53 1) 332 54 1) 332 55 1) 332 56 1) 332 57 1) 332 58 1) 332 59 1) 332 71 1) X)
  refine w_iconst (Ev.cm _) rfl ?_
  refine w_iast (Ev.cm _) rfl (Nat.le_of_ble_eq_true rfl) rfl (show vp_in 72 1541 from vpI 1541 (by decide) (by decide) (by decide)) ?_
  have z43 : Zf 349 (sI (sI (sI (sI (sI (sI (sI (sI (sI (sI (sI (sI (sI (sI (sI (sI (sI (sI (sI (sI (sI (sI (sI (sI (sI (sI I 331 5 (-1)) 331 6 (-1)) 331 23 1) 332 8 293) 332 10 8190) 332 2 (-1)) 332 42 1) 332 43 1) 332 44 1) 332 45 1) 332 46 1) 332 47 1) 332 48 1) 332 49 1) 332 50 1) 332 51 1) 332 52 1) 332 53 1) 332 54 1) 332 55 1) 332 56 1) 332 57 1) 332 58 1) 332 59 1) 332 71 1) 332 72 1) := (Zs (Nat.le_of_ble_eq_true rfl) z42)
  show Wp _ _ _ _ _ _ _ 231 [(0, .ref 331), (1, .int 1)] [] (HN 349 (331 :: os) (sI (sI (sI (sI (sI (sI (sI (sI (sI (sI (sI (sI (sI (sI (sI (sI (sI (sI (sI (sI (sI (sI (sI (sI (sI (sI I 331 5 (-1)) 331 6 (-1)) 331 23 1) 332 8 293) 332 10 8190) 332 2 (-1)) 332 42 1) 332 43 1) 332 44 1) 332 45 1) 332 46 1) 332 47 1) 332 48 1) 332 49 1) 332 50 1) 332 51 1) 332 52 1) 332 53 1) 332 54 1) 332 55 1) 332 56 1) 332 57 1) 332 58 1) 332 59 1) 332 71 1) 332 72 1) X)
  refine w_iinc (ls2 := [(0, .ref 331), (1, .int 2)]) (Ev.cm _) rfl rfl rfl ?_
  refine w_goto (Ev.cm _) rfl ?_
  refine w_iload_n (Ev.cm _) rfl rfl ?_
  refine w_bipush (Ev.cm _) rfl ?_
  refine w_icmp_ge (Ev.cm _) rfl (fun q => absurd q (by decide)) (fun _ => ?_)
  refine w_aload_n (Ev.cm _) rfl rfl ?_
  refine w_getR (q := 332) (Ev.cm _) rfl (Nat.le_of_ble_eq_true rfl) rfl (rd_get (n := 349) (o := 331) (k := 0) (q := 332) rfl (Nat.le_of_ble_eq_true rfl) (nin hos (Nat.le_of_ble_eq_true rfl))) ?_
  refine w_bipush (Ev.cm _) rfl ?_
  refine w_iload_n (Ev.cm _) rfl rfl ?_
  refine w_iadd (Ev.cm _) rfl ?_
  show Wp _ _ _ _ _ _ _ 229 [(0, .ref 331), (1, .int 2)] [.int 73, .ref 332] (HN 349 (331 :: os) (sI (sI (sI (sI (sI (sI (sI (sI (sI (sI (sI (sI (sI (sI (sI (sI (sI (sI (sI (sI (sI (sI (sI (sI (sI (sI I 331 5 (-1)) 331 6 (-1)) 331 23 1) 332 8 293) 332 10 8190) 332 2 (-1)) 332 42 1) 332 43 1) 332 44 1) 332 45 1) 332 46 1) 332 47 1) 332 48 1) 332 49 1) 332 50 1) 332 51 1) 332 52 1) 332 53 1) 332 54 1) 332 55 1) 332 56 1) 332 57 1) 332 58 1) 332 59 1) 332 71 1) 332 72 1) X)
  refine w_iconst (Ev.cm _) rfl ?_
  refine w_iast (Ev.cm _) rfl (Nat.le_of_ble_eq_true rfl) rfl (show vp_in 73 1541 from vpI 1541 (by decide) (by decide) (by decide)) ?_
  have z44 : Zf 349 (sI (sI (sI (sI (sI (sI (sI (sI (sI (sI (sI (sI (sI (sI (sI (sI (sI (sI (sI (sI (sI (sI (sI (sI (sI (sI (sI I 331 5 (-1)) 331 6 (-1)) 331 23 1) 332 8 293) 332 10 8190) 332 2 (-1)) 332 42 1) 332 43 1) 332 44 1) 332 45 1) 332 46 1) 332 47 1) 332 48 1) 332 49 1) 332 50 1) 332 51 1) 332 52 1) 332 53 1) 332 54 1) 332 55 1) 332 56 1) 332 57 1) 332 58 1) 332 59 1) 332 71 1) 332 72 1) 332 73 1) := (Zs (Nat.le_of_ble_eq_true rfl) z43)
  show Wp _ _ _ _ _ _ _ 231 [(0, .ref 331), (1, .int 2)] [] (HN 349 (331 :: os) (sI (sI (sI (sI (sI (sI (sI (sI (sI (sI (sI (sI (sI (sI (sI (sI (sI (sI (sI (sI (sI (sI (sI (sI (sI (sI (sI I 331 5 (-1)) 331 6 (-1)) 331 23 1) 332 8 293) 332 10 8190) 332 2 (-1)) 332 42 1) 332 43 1) 332 44 1) 332 45 1) 332 46 1) 332 47 1) 332 48 1) 332 49 1) 332 50 1) 332 51 1) 332 52 1) 332 53 1) 332 54 1) 332 55 1) 332 56 1) 332 57 1) 332 58 1) 332 59 1) 332 71 1) 332 72 1) 332 73 1) X)
  refine w_iinc (ls2 := [(0, .ref 331), (1, .int 3)]) (Ev.cm _) rfl rfl rfl ?_
  refine w_goto (Ev.cm _) rfl ?_
  refine w_iload_n (Ev.cm _) rfl rfl ?_
  refine w_bipush (Ev.cm _) rfl ?_
  refine w_icmp_ge (Ev.cm _) rfl (fun q => absurd q (by decide)) (fun _ => ?_)
  refine w_aload_n (Ev.cm _) rfl rfl ?_
  refine w_getR (q := 332) (Ev.cm _) rfl (Nat.le_of_ble_eq_true rfl) rfl (rd_get (n := 349) (o := 331) (k := 0) (q := 332) rfl (Nat.le_of_ble_eq_true rfl) (nin hos (Nat.le_of_ble_eq_true rfl))) ?_
  refine w_bipush (Ev.cm _) rfl ?_
  refine w_iload_n (Ev.cm _) rfl rfl ?_
  refine w_iadd (Ev.cm _) rfl ?_
  show Wp _ _ _ _ _ _ _ 229 [(0, .ref 331), (1, .int 3)] [.int 74, .ref 332] (HN 349 (331 :: os) (sI (sI (sI (sI (sI (sI (sI (sI (sI (sI (sI (sI (sI (sI (sI (sI (sI (sI (sI (sI (sI (sI (sI (sI (sI (sI (sI I 331 5 (-1)) 331 6 (-1)) 331 23 1) 332 8 293) 332 10 8190) 332 2 (-1)) 332 42 1) 332 43 1) 332 44 1) 332 45 1) 332 46 1) 332 47 1) 332 48 1) 332 49 1) 332 50 1) 332 51 1) 332 52 1) 332 53 1) 332 54 1) 332 55 1) 332 56 1) 332 57 1) 332 58 1) 332 59 1) 332 71 1) 332 72 1) 332 73 1) X)
  refine w_iconst (Ev.cm _) rfl ?_
  refine w_iast (Ev.cm _) rfl (Nat.le_of_ble_eq_true rfl) rfl (show vp_in 74 1541 from vpI 1541 (by decide) (by decide) (by decide)) ?_
  have z45 : Zf 349 (sI (sI (sI (sI (sI (sI (sI (sI (sI (sI (sI (sI (sI (sI (sI (sI (sI (sI (sI (sI (sI (sI (sI (sI (sI (sI (sI (sI I 331 5 (-1)) 331 6 (-1)) 331 23 1) 332 8 293) 332 10 8190) 332 2 (-1)) 332 42 1) 332 43 1) 332 44 1) 332 45 1) 332 46 1) 332 47 1) 332 48 1) 332 49 1) 332 50 1) 332 51 1) 332 52 1) 332 53 1) 332 54 1) 332 55 1) 332 56 1) 332 57 1) 332 58 1) 332 59 1) 332 71 1) 332 72 1) 332 73 1) 332 74 1) := (Zs (Nat.le_of_ble_eq_true rfl) z44)
  show Wp _ _ _ _ _ _ _ 231 [(0, .ref 331), (1, .int 3)] [] (HN 349 (331 :: os) (sI (sI (sI (sI (sI (sI (sI (sI (sI (sI (sI (sI (sI (sI (sI (sI (sI (sI (sI (sI (sI (sI (sI (sI (sI (sI (sI (sI I 331 5 (-1)) 331 6 (-1)) 331 23 1) 332 8 293) 332 10 8190) 332 2 (-1)) 332 42 1) 332 43 1) 332 44 1) 332 45 1) 332 46 1) 332 47 1) 332 48 1) 332 49 1) 332 50 1) 332 51 1) 332 52 1) 332 53 1) 332 54 1) 332 55 1) 332 56 1) 332 57 1) 332 58 1) 332 59 1) 332 71 1) 332 72 1) 332 73 1) 332 74 1) X)
  refine w_iinc (ls2 := [(0, .ref 331), (1, .int 4)]) (Ev.cm _) rfl rfl rfl ?_
  refine w_goto (Ev.cm _) rfl ?_
  refine w_iload_n (Ev.cm _) rfl rfl ?_
  refine w_bipush (Ev.cm _) rfl ?_
  refine w_icmp_ge (Ev.cm _) rfl (fun q => absurd q (by decide)) (fun _ => ?_)
  refine w_aload_n (Ev.cm _) rfl rfl ?_
  refine w_getR (q := 332) (Ev.cm _) rfl (Nat.le_of_ble_eq_true rfl) rfl (rd_get (n := 349) (o := 331) (k := 0) (q := 332) rfl (Nat.le_of_ble_eq_true rfl) (nin hos (Nat.le_of_ble_eq_true rfl))) ?_
  refine w_bipush (Ev.cm _) rfl ?_
  refine w_iload_n (Ev.cm _) rfl rfl ?_
  refine w_iadd (Ev.cm _) rfl ?_
  show Wp _ _ _ _ _ _ _ 229 [(0, .ref 331), (1, .int 4)] [.int 75, .ref 332] (HN 349 (331 :: os) (sI (sI (sI (sI (sI (sI (sI (sI (sI (sI (sI (sI (sI (sI (sI (sI (sI (sI (sI (sI (sI (sI (sI (sI (sI (sI (sI (sI I 331 5 (-1)) 331 6 (-1)) 331 23 1) 332 8 293) 332 10 8190) 332 2 (-1)) 332 42 1) 332 43 1) 332 44 1) 332 45 1) 332 46 1) 332 47 1) 332 48 1) 332 49 1) 332 50 1) 332 51 1) 332 52 1) 332 53 1) 332 54 1) 332 55 1) 332 56 1) 332 57 1) 332 58 1) 332 59 1) 332 71 1) 332 72 1) 332 73 1) 332 74 1) X)
  refine w_iconst (Ev.cm _) rfl ?_
  refine w_iast (Ev.cm _) rfl (Nat.le_of_ble_eq_true rfl) rfl (show vp_in 75 1541 from vpI 1541 (by decide) (by decide) (by decide)) ?_
  have z46 : Zf 349 (sI (sI (sI (sI (sI (sI (sI (sI (sI (sI (sI (sI (sI (sI (sI (sI (sI (sI (sI (sI (sI (sI (sI (sI (sI (sI (sI (sI (sI I 331 5 (-1)) 331 6 (-1)) 331 23 1) 332 8 293) 332 10 8190) 332 2 (-1)) 332 42 1) 332 43 1) 332 44 1) 332 45 1) 332 46 1) 332 47 1) 332 48 1) 332 49 1) 332 50 1) 332 51 1) 332 52 1) 332 53 1) 332 54 1) 332 55 1) 332 56 1) 332 57 1) 332 58 1) 332 59 1) 332 71 1) 332 72 1) 332 73 1) 332 74 1) 332 75 1) := (Zs (Nat.le_of_ble_eq_true rfl) z45)
  show Wp _ _ _ _ _ _ _ 231 [(0, .ref 331), (1, .int 4)] [] (HN 349 (331 :: os) (sI (sI (sI (sI (sI (sI (sI (sI (sI (sI (sI (sI (sI (sI (sI (sI (sI (sI (sI (sI (sI (sI (sI (sI (sI (sI (sI (sI (sI I 331 5 (-1)) 331 6 (-1)) 331 23 1) 332 8 293) 332 10 8190) 332 2 (-1)) 332 42 1) 332 43 1) 332 44 1) 332 45 1) 332 46 1) 332 47 1) 332 48 1) 332 49 1) 332 50 1) 332 51 1) 332 52 1) 332 53 1) 332 54 1) 332 55 1) 332 56 1) 332 57 1) 332 58 1) 332 59 1) 332 71 1) 332 72 1) 332 73 1) 332 74 1) 332 75 1) X)
  refine w_iinc (ls2 := [(0, .ref 331), (1, .int 5)]) (Ev.cm _) rfl rfl rfl ?_
  refine w_goto (Ev.cm _) rfl ?_
  refine w_iload_n (Ev.cm _) rfl rfl ?_
  refine w_bipush (Ev.cm _) rfl ?_
  refine w_icmp_ge (Ev.cm _) rfl (fun q => absurd q (by decide)) (fun _ => ?_)
  refine w_aload_n (Ev.cm _) rfl rfl ?_
  refine w_getR (q := 332) (Ev.cm _) rfl (Nat.le_of_ble_eq_true rfl) rfl (rd_get (n := 349) (o := 331) (k := 0) (q := 332) rfl (Nat.le_of_ble_eq_true rfl) (nin hos (Nat.le_of_ble_eq_true rfl))) ?_
  refine w_bipush (Ev.cm _) rfl ?_
  refine w_iload_n (Ev.cm _) rfl rfl ?_
  refine w_iadd (Ev.cm _) rfl ?_
  show Wp _ _ _ _ _ _ _ 229 [(0, .ref 331), (1, .int 5)] [.int 76, .ref 332] (HN 349 (331 :: os) (sI (sI (sI (sI (sI (sI (sI (sI (sI (sI (sI (sI (sI (sI (sI (sI (sI (sI (sI (sI (sI (sI (sI (sI (sI (sI (sI (sI (sI I 331 5 (-1)) 331 6 (-1)) 331 23 1) 332 8 293) 332 10 8190) 332 2 (-1)) 332 42 1) 332 43 1) 332 44 1) 332 45 1) 332 46 1) 332 47 1) 332 48 1) 332 49 1) 332 50 1) 332 51 1) 332 52 1) 332 53 1) 332 54 1) 332 55 1) 332 56 1) 332 57 1) 332 58 1) 332 59 1) 332 71 1) 332 72 1) 332 73 1) 332 74 1) 332 75 1) X)
  refine w_iconst (Ev.cm _) rfl ?_
  refine w_iast (Ev.cm _) rfl (Nat.le_of_ble_eq_true rfl) rfl (show vp_in 76 1541 from vpI 1541 (by decide) (by decide) (by decide)) ?_
  have z47 : Zf 349 (sI (sI (sI (sI (sI (sI (sI (sI (sI (sI (sI (sI (sI (sI (sI (sI (sI (sI (sI (sI (sI (sI (sI (sI (sI (sI (sI (sI (sI (sI I 331 5 (-1)) 331 6 (-1)) 331 23 1) 332 8 293) 332 10 8190) 332 2 (-1)) 332 42 1) 332 43 1) 332 44 1) 332 45 1) 332 46 1) 332 47 1) 332 48 1) 332 49 1) 332 50 1) 332 51 1) 332 52 1) 332 53 1) 332 54 1) 332 55 1) 332 56 1) 332 57 1) 332 58 1) 332 59 1) 332 71 1) 332 72 1) 332 73 1) 332 74 1) 332 75 1) 332 76 1) := (Zs (Nat.le_of_ble_eq_true rfl) z46)
  show Wp _ _ _ _ _ _ _ 231 [(0, .ref 331), (1, .int 5)] [] (HN 349 (331 :: os) (sI (sI (sI (sI (sI (sI (sI (sI (sI (sI (sI (sI (sI (sI (sI (sI (sI (sI (sI (sI (sI (sI (sI (sI (sI (sI (sI (sI (sI (sI I 331 5 (-1)) 331 6 (-1)) 331 23 1) 332 8 293) 332 10 8190) 332 2 (-1)) 332 42 1) 332 43 1) 332 44 1) 332 45 1) 332 46 1) 332 47 1) 332 48 1) 332 49 1) 332 50 1) 332 51 1) 332 52 1) 332 53 1) 332 54 1) 332 55 1) 332 56 1) 332 57 1) 332 58 1) 332 59 1) 332 71 1) 332 72 1) 332 73 1) 332 74 1) 332 75 1) 332 76 1) X)
  refine w_iinc (ls2 := [(0, .ref 331), (1, .int 6)]) (Ev.cm _) rfl rfl rfl ?_
  refine w_goto (Ev.cm _) rfl ?_
  refine w_iload_n (Ev.cm _) rfl rfl ?_
  refine w_bipush (Ev.cm _) rfl ?_
  refine w_icmp_ge (Ev.cm _) rfl (fun _ => ?_) (fun q => absurd (by decide) q)
  refine w_aload_n (Ev.cm _) rfl rfl ?_
  refine w_getR (q := 332) (Ev.cm _) rfl (Nat.le_of_ble_eq_true rfl) rfl (rd_get (n := 349) (o := 331) (k := 0) (q := 332) rfl (Nat.le_of_ble_eq_true rfl) (nin hos (Nat.le_of_ble_eq_true rfl))) ?_
  refine w_aload_n (Ev.cm _) rfl rfl ?_
  refine w_getR (q := 333) (Ev.cm _) rfl (Nat.le_of_ble_eq_true rfl) rfl (rd_get (n := 349) (o := 331) (k := 1) (q := 333) rfl (Nat.le_of_ble_eq_true rfl) (nin hos (Nat.le_of_ble_eq_true rfl))) ?_
  subst hos0
  rw [hn_hs]
  refine w_cstat (as := [.ref 332, .ref 333]) (st := []) (Ev.cm _) rfl rfl rfl (Nat.le_of_ble_eq_true rfl) (Nat.le_of_ble_eq_true rfl) (eo_M_copy_332 (g := ?_) e)
  show Wp _ _ _ _ _ _ _ 248 [(0, .ref 331), (1, .int 6)] [] (HS res.2.1 res.2.2 X)
  refine w_return (Ev.cm _) rfl rfl (Or.inr ⟨(show 349 = 332 + (mcs m_M_new).1 by decide +kernel), (show 19117 = slt 332 + (mcs m_M_new).2 by decide +kernel)⟩) ?_
  exact q
def I00 : Nat → Nat → Int32 := iM (iX (fun _ _ => 0))
set_option maxHeartbeats 4000000 in
theorem law_start {fu L : Nat} {xs : Nat → Int32} {res : Unit × (Nat → Nat → Int32) × (Nat → Nat → Int64)} {Q : PQ} (e : FO_M_copy_332 fu I00 (fun _ _ => 0) = some res) (w : Wp (Ev 200) cd_L_law (mcs m_L_law) (some .boolean) 0 0 Q 18 [(0, .float 0), (1, .ref 0), (2, .ref 331), (3, .int 0)] [] (HS res.2.1 res.2.2 (L, xs))) : Wp (Ev 200) cd_L_law (mcs m_L_law) (some .boolean) 0 0 Q 0 [(0, .float 0)] [] (h00 L xs) := by
  have h0 : h00 L xs = HN 0 [] (fun _ _ => 0) (L, xs) := by
    have e2 : (fun _ => (0, 0)) = cutK 0 := by funext o; rfl
    have e3 : (fun _ _ => none) = RD 0 [] := by
      funext o k
      unfold RD
      cases h : R0 o k with
      | none => rfl
      | some q => simp
    unfold h00 HN
    rw [e2, e3]
    rfl
  rw [h0]
  have z0 : Zf 0 (fun _ _ => 0) := fun _ _ => rfl
  refine w_new (Ev.cm _) rfl (show _ ∧ _ from ⟨show 0 + 1 ≤ 0 + (mcs m_L_law).1 by decide +kernel, show slt 0 + 12 ≤ 0 + (mcs m_L_law).2 by decide +kernel⟩) ?_
  show Wp _ _ _ _ _ _ _ 3 [(0, .float 0)] [.ref 0] (puN (HN 0 [] (fun _ _ => 0) (L, xs)) 8 12)
  rw [hn_new (n := 0) (k := 8) (len := 12) rfl z0]
  have z1 := Zn z0
  refine w_dup (Ev.cm _) rfl rfl ?_
  refine w_cinit (as := []) (o := 0) (st := [.ref 0]) (Ev.cm _) rfl rfl rfl (Nat.le_of_ble_eq_true rfl) (show _ ∧ _ from ⟨show 1 + (mcs m_X_new).1 ≤ 0 + (mcs m_L_law).1 by decide +kernel, show slt 1 + (mcs m_X_new).2 ≤ 0 + (mcs m_L_law).2 by decide +kernel⟩) (Nat.le_of_ble_eq_true rfl) (e_iX (fun _ h => by cases h) z1 ?_)
  have z2 := iX_z z1
  show Wp _ _ _ _ _ _ _ 7 [(0, .float 0)] [.ref 0] (HN 331 [0] (iX (fun _ _ => 0)) (L, xs))
  refine w_astore_n (ls2 := [(0, .float 0), (1, .ref 0)]) (Ev.cm _) rfl trivial rfl ?_
  refine w_new (Ev.cm _) rfl (show _ ∧ _ from ⟨show 331 + 1 ≤ 0 + (mcs m_L_law).1 by decide +kernel, show slt 331 + 34 ≤ 0 + (mcs m_L_law).2 by decide +kernel⟩) ?_
  show Wp _ _ _ _ _ _ _ 11 [(0, .float 0), (1, .ref 0)] [.ref 331] (puN (HN 331 [0] (iX (fun _ _ => 0)) (L, xs)) 9 34)
  rw [hn_new (n := 331) (k := 9) (len := 34) rfl z2]
  have z3 := Zn z2
  refine w_dup (Ev.cm _) rfl rfl ?_
  refine w_cinit (as := []) (o := 331) (st := [.ref 331]) (Ev.cm _) rfl rfl rfl (Nat.le_of_ble_eq_true rfl) (show _ ∧ _ from ⟨show 332 + (mcs m_M_new).1 ≤ 0 + (mcs m_L_law).1 by decide +kernel, show slt 332 + (mcs m_M_new).2 ≤ 0 + (mcs m_L_law).2 by decide +kernel⟩) (Nat.le_of_ble_eq_true rfl) (e_iM rfl (fun x h => by rw [List.mem_singleton.mp h]; omega) z3 e ?_)
  show Wp _ _ _ _ _ _ _ 15 [(0, .float 0), (1, .ref 0)] [.ref 331] (HS res.2.1 res.2.2 (L, xs))
  refine w_astore_n (ls2 := [(0, .float 0), (1, .ref 0), (2, .ref 331)]) (Ev.cm _) rfl trivial rfl ?_
  refine w_iconst (Ev.cm _) rfl ?_
  refine w_istore_n (ls2 := [(0, .float 0), (1, .ref 0), (2, .ref 331), (3, .int 0)]) (Ev.cm _) rfl rfl ?_
  exact w
