/-! CONSTRUCTORS: the first n cells of the final shape, os the cells that nothing shows yet -/
def slt : Nat → Nat
  | 0 => 0
  | n + 1 => slt n + (K0 n).2
def cutK (n : Nat) : Nat → Nat × Nat := fun o => bif Nat.blt o n then K0 o else (0, 0)
def RD (n : Nat) (os : List Nat) : Nat → Nat → Option Nat := fun o k => (R0 o k).bind (fun q => if q < n ∧ ¬ q ∈ os then some q else none)
abbrev HN (n : Nat) (os : List Nat) (I : Nat → Nat → Int32) (X : Nat × (Nat → Int32)) : PH := (n, slt n, cutK n, I, fun _ _ => 0, RD n os, X)
def Zf (n : Nat) (I : Nat → Nat → Int32) : Prop := ∀ o, n ≤ o → I o = fun _ => 0
theorem Zn {n : Nat} {I : Nat → Nat → Int32} (h : Zf n I) : Zf (n + 1) I := fun o ho => h o (by omega)
theorem Zv {n o : Nat} {f : Nat → Int32} {I : Nat → Nat → Int32} (ho : o < n) (h : Zf n I) : Zf n (va_up I o f) := fun p hp => by
  have : ¬ p = o := by omega
  unfold va_up
  rw [if_neg this]
  exact h p hp
theorem Zs {n o k : Nat} {v : Int32} {I : Nat → Nat → Int32} (ho : o < n) (h : Zf n I) : Zf n (sI I o k v) := Zv ho h
theorem cutk {n o : Nat} {x : Nat × Nat} (h : o < n) (k : K0 o = x) : (cutK n o).1 = x.1 := by
  unfold cutK
  rw [show Nat.blt o n = true from Nat.ble_eq.mpr h]
  exact congrArg Prod.fst k
theorem R0_some {o k q : Nat} (h : R0 o k = some q) : o < 349 ∧ k < 34 := by
  unfold R0 at h
  simp only [Bool.cond_eq_ite, Nat.blt_eq, Nat.beq_eq] at h
  repeat' split at h
  all_goals first | (cases h; done) | skip
  all_goals (first
    | (unfold RX at h; split at h <;> first | (cases h; done) | (constructor <;> omega))
    | (unfold RM at h; split at h <;> first | (cases h; done) | (constructor <;> omega))
    | (unfold RT at h; split at h <;> first | (cases h; done) | (constructor <;> omega))
    | (constructor <;> omega)
    | (unfold RS at h
       simp only [Bool.cond_eq_ite, Nat.blt_eq] at h
       repeat' split at h
       all_goals first | (cases h; done) | (constructor <;> omega))
    | (unfold RR at h
       repeat' split at h
       all_goals first | (cases h; done) | (constructor <;> omega) | (unfold RT at h; split at h <;> first | (cases h; done) | (constructor <;> omega))))
def pqL : List (Nat × Nat) := [(0, 99), (0, 0), (1, 0), (2, 5), (3, 5), (4, 5), (5, 5), (6, 33), (7, 0), (8, 5), (9, 5), (10, 5), (11, 5), (12, 5), (13, 5), (14, 5), (15, 5), (16, 5), (17, 5), (18, 5), (19, 5), (20, 5), (21, 5), (22, 5), (23, 5), (24, 5), (25, 5), (26, 5), (27, 5), (28, 5), (29, 5), (30, 5), (31, 5), (32, 5), (33, 5), (34, 5), (35, 5), (36, 5), (37, 5), (38, 5), (39, 5), (40, 5), (41, 5), (42, 5), (43, 5), (44, 5), (45, 5), (46, 5), (47, 5), (48, 5), (49, 5), (50, 5), (51, 5), (52, 5), (53, 5), (54, 5), (55, 5), (56, 5), (57, 5), (58, 5), (59, 5), (60, 5), (61, 5), (62, 5), (63, 5), (64, 5), (65, 5), (66, 5), (67, 5), (68, 5), (69, 5), (70, 5), (71, 5), (72, 5), (73, 5), (74, 5), (75, 5), (76, 5), (77, 5), (78, 5), (79, 5), (80, 5), (81, 5), (82, 5), (83, 5), (84, 5), (85, 5), (86, 5), (87, 5), (88, 5), (89, 5), (90, 5), (91, 5), (92, 5), (93, 5), (94, 5), (95, 5), (96, 5), (97, 5), (98, 5), (99, 5), (100, 5), (101, 5), (102, 5), (103, 5), (104, 5), (105, 5), (106, 5), (107, 5), (108, 5), (109, 5), (110, 5), (111, 5), (112, 5), (113, 5), (114, 5), (115, 5), (116, 5), (117, 5), (118, 5), (119, 5), (120, 5), (121, 5), (122, 5), (123, 5), (124, 5), (125, 5), (126, 5), (127, 5), (128, 5), (129, 5), (130, 5), (131, 5), (132, 5), (133, 5), (134, 5), (135, 5), (136, 5), (137, 0), (138, 5), (139, 5), (140, 5), (141, 5), (142, 33), (143, 0), (144, 5), (145, 5), (146, 5), (147, 5), (148, 5), (149, 5), (150, 5), (151, 5), (152, 5), (153, 5), (154, 5), (155, 5), (156, 5), (157, 5), (158, 5), (159, 5), (160, 5), (161, 5), (162, 5), (163, 5), (164, 5), (165, 5), (166, 5), (167, 5), (168, 5), (169, 5), (170, 5), (171, 5), (172, 5), (173, 5), (174, 5), (175, 5), (176, 5), (177, 5), (178, 5), (179, 5), (180, 5), (181, 5), (182, 5), (183, 5), (184, 5), (185, 5), (186, 5), (187, 5), (188, 5), (189, 5), (190, 5), (191, 5), (192, 5), (193, 5), (194, 5), (195, 5), (196, 5), (197, 5), (198, 5), (199, 5), (200, 5), (201, 5), (202, 5), (203, 5), (204, 5), (205, 5), (206, 5), (207, 5), (208, 5), (209, 5), (210, 5), (211, 5), (212, 5), (213, 5), (214, 5), (215, 5), (216, 5), (217, 5), (218, 5), (219, 5), (220, 5), (221, 5), (222, 5), (223, 5), (224, 5), (225, 5), (226, 5), (227, 5), (228, 5), (229, 5), (230, 5), (231, 5), (232, 5), (233, 5), (234, 5), (235, 5), (236, 5), (237, 5), (238, 5), (239, 5), (240, 5), (241, 5), (242, 5), (243, 5), (244, 5), (245, 5), (246, 5), (247, 5), (248, 5), (249, 5), (250, 5), (251, 5), (252, 5), (253, 5), (254, 5), (255, 5), (256, 5), (257, 5), (258, 5), (259, 5), (260, 5), (261, 5), (262, 5), (263, 5), (264, 5), (265, 5), (266, 5), (267, 5), (268, 5), (269, 5), (270, 5), (271, 5), (272, 5), (273, 0), (274, 1), (275, 1), (276, 1), (277, 1), (278, 1), (279, 1), (280, 1), (281, 1), (282, 1), (283, 1), (284, 1), (285, 1), (286, 1), (287, 1), (288, 1), (289, 1), (290, 1), (291, 1), (292, 1), (293, 1), (294, 1), (295, 1), (296, 1), (297, 1), (298, 1), (299, 1), (300, 1), (301, 1), (302, 1), (303, 1), (304, 1), (305, 1), (305, 2), (307, 3), (308, 1), (308, 2), (308, 3), (308, 5), (308, 6), (308, 7), (308, 8), (307, 4), (307, 5), (307, 6), (0, 6), (319, 0), (319, 1), (273, 6), (322, 0), (322, 1), (0, 8), (325, 0), (325, 1), (0, 9), (0, 10), (273, 7), (0, 99), (348, 0), (348, 1), (348, 2), (348, 3), (348, 15), (348, 20), (348, 21), (348, 22), (348, 25), (348, 26), (348, 27), (348, 28), (348, 29), (348, 30), (348, 31), (348, 32), (348, 33)]
theorem R0_all : ∀ o, o < 349 → ∀ k, k < 34 → (match R0 o k with | some q => Nat.blt o q && Nat.blt q 349 && !(Nat.beq q 331) && (pqL.getD q (0, 0) == (o, k)) | none => true) = true := by decide +kernel
theorem R0_fact {o k q : Nat} (h : R0 o k = some q) : o < q ∧ q < 349 ∧ ¬ q = 331 ∧ pqL.getD q (0, 0) = (o, k) := by
  have b := R0_some h
  have a := R0_all o b.1 k b.2
  rw [h] at a
  simp only [Bool.and_eq_true, Nat.blt_eq, Bool.not_eq_true', beq_iff_eq] at a
  refine ⟨a.1.1.1, a.1.1.2, fun e => ?_, a.2⟩
  rw [e] at a
  exact absurd a.1.2 (by decide)
theorem hn_new {n k len : Nat} {os : List Nat} {I : Nat → Nat → Int32} {X : Nat × (Nat → Int32)} (hk : K0 n = (k, len)) (hz : Zf n I) : puN (HN n os I X) k len = HN (n + 1) (n :: os) I X := by
  have e1 : slt n + len = slt (n + 1) := by show _ = slt n + (K0 n).2; rw [hk]
  have e2 : va_up (cutK n) n (k, len) = cutK (n + 1) := by
    funext o
    unfold va_up cutK
    by_cases ho : o = n
    · subst ho
      rw [if_pos rfl, show Nat.blt o (o + 1) = true from Nat.ble_eq.mpr (by omega)]
      exact hk.symm
    · rw [if_neg ho]
      by_cases h2 : o < n
      · rw [show Nat.blt o n = true from Nat.ble_eq.mpr h2, show Nat.blt o (n + 1) = true from Nat.ble_eq.mpr (by omega)]
      · rw [show Nat.blt o n = false from by rw [← Bool.not_eq_true]; exact fun e => h2 (Nat.ble_eq.mp e), show Nat.blt o (n + 1) = false from by rw [← Bool.not_eq_true]; exact fun e => by have := Nat.ble_eq.mp e; omega]
  have e3 : va_up I n (fun _ => 0) = I := by
    funext o
    unfold va_up
    by_cases ho : o = n
    · subst ho; rw [if_pos rfl]; exact (hz o (Nat.le_refl _)).symm
    · rw [if_neg ho]
  have e4 : va_up (fun _ _ => (0 : Int64)) n (fun _ => 0) = fun _ _ => (0 : Int64) := by
    funext o
    unfold va_up
    split <;> rfl
  have e5 : va_up (RD n os) n (fun _ => none) = RD (n + 1) (n :: os) := by
    funext o k
    unfold va_up RD
    by_cases ho : o = n
    · subst ho
      rw [if_pos rfl]
      cases h : R0 o k with
      | none => rfl
      | some q =>
        have := (R0_fact h).1
        exact (if_neg (by omega)).symm
    · rw [if_neg ho]
      cases h : R0 o k with
      | none => rfl
      | some q =>
        show (if q < n ∧ ¬ q ∈ os then some q else none) = (if q < n + 1 ∧ ¬ q ∈ n :: os then some q else none)
        by_cases hq : q = n
        · rw [if_neg (by omega), if_neg (by simp [hq])]
        · have : (q < n ∧ ¬ q ∈ os) = (q < n + 1 ∧ ¬ q ∈ n :: os) := by
            rw [List.mem_cons]
            apply propext
            constructor
            · exact fun ⟨a, b⟩ => ⟨by omega, fun e => e.elim hq b⟩
            · exact fun ⟨a, b⟩ => ⟨by omega, fun e => b (Or.inr e)⟩
          simp only [this]
  unfold puN HN
  dsimp only
  rw [e1, e2, e3, e4, e5]
theorem hn_link {n o k q : Nat} {os : List Nat} {I : Nat → Nat → Int32} {X : Nat × (Nat → Int32)} (hr : R0 o k = some q) (hq : q < n) (hn : ¬ q ∈ os) : puR (HN n (q :: os) I X) o k (some q) = HN n os I X := by
  have e : sR (RD n (q :: os)) o k (some q) = RD n os := by
    funext o2 k2
    unfold sR va_up RD
    by_cases ho : o2 = o ∧ k2 = k
    · obtain ⟨ha, hb⟩ := ho
      subst ha; subst hb
      rw [if_pos rfl, if_pos rfl, hr]
      exact (if_pos ⟨hq, hn⟩).symm
    · have e1 : (if o2 = o then (fun x => if x = k then some q else (R0 o x).bind (fun q_1 => if q_1 < n ∧ ¬ q_1 ∈ q :: os then some q_1 else none)) else fun k => (R0 o2 k).bind (fun q_1 => if q_1 < n ∧ ¬ q_1 ∈ q :: os then some q_1 else none)) k2 = (R0 o2 k2).bind (fun q_1 => if q_1 < n ∧ ¬ q_1 ∈ q :: os then some q_1 else none) := by
        by_cases ha : o2 = o
        · subst ha
          rw [if_pos rfl]
          have hb : ¬ k2 = k := fun e => ho ⟨rfl, e⟩
          show (if k2 = k then _ else _) = _
          rw [if_neg hb]
        · rw [if_neg ha]
      refine e1.trans ?_
      cases h : R0 o2 k2 with
      | none => rfl
      | some p =>
        show (if p < n ∧ ¬ p ∈ q :: os then some p else none) = (if p < n ∧ ¬ p ∈ os then some p else none)
        have hp : ¬ p = q := fun e => by
          subst e
          have a := (R0_fact h).2.2.2
          rw [(R0_fact hr).2.2.2] at a
          have b := Prod.mk.inj a
          exact ho ⟨b.1.symm, b.2.symm⟩
        have : (p < n ∧ ¬ p ∈ q :: os) = (p < n ∧ ¬ p ∈ os) := by
          rw [List.mem_cons]
          apply propext
          exact ⟨fun ⟨a, b⟩ => ⟨a, fun e => b (Or.inr e)⟩, fun ⟨a, b⟩ => ⟨a, fun e => e.elim hp b⟩⟩
        simp only [this]
  unfold HN
  show (n, slt n, cutK n, I, (fun _ _ => (0 : Int64)), sR (RD n (q :: os)) o k (some q), X) = _
  rw [e]
theorem nin {q b : Nat} {os : List Nat} (hos : ∀ x ∈ os, x < b) (h : b < q) : ¬ q ∈ b :: os := by
  intro e
  rcases List.mem_cons.mp e with e | e
  · omega
  · have := hos _ e; omega
theorem l_fill_g {d n0 s0 : Nat} {h : PH} {Q : PQ} {o n : Nat} {v : Int32} (ho : o < hN h) (hk : hK h o = (10, n)) (hn : n < 2 ^ 31) (q : Q none (puA h o (fillF (hI h o) v n))) :
    ∀ (m i : Nat), i + m = n → Wp (Ev d) cd_J_fill (0, 0) none n0 s0 Q 5 [(0, .ref o), (1, .int v), (2, .int (nI i)), (3, .int (nI n))] [] (puA h o (fillF (hI h o) v i)) := by
  intro m
  induction m with
  | zero =>
    intro i hi
    have : i = n := by omega
    subst this
    refine w_iload_n (Ev.cm _) rfl rfl ?_
    refine w_iload_n (Ev.cm _) rfl rfl ?_
    refine w_icmp_ge (Ev.cm _) rfl (fun _ => ?_) (fun c => absurd (Int32.le_refl _) c)
    exact w_return (Ev.cm _) rfl rfl rf0 q
  | succ m ih =>
    intro i hi
    have hlt : i < n := by omega
    refine w_iload_n (Ev.cm _) rfl rfl ?_
    refine w_iload_n (Ev.cm _) rfl rfl ?_
    refine w_icmp_ge (Ev.cm _) rfl (fun c => absurd c (nI_ge hlt hn)) (fun _ => ?_)
    refine w_aload_n (Ev.cm _) rfl rfl ?_
    refine w_iload_n (Ev.cm _) rfl rfl ?_
    refine w_iload_n (Ev.cm _) rfl rfl ?_
    refine w_iast (Ev.cm _) rfl ho (by show (hK h o).1 = 10; rw [hk]) (by show vp_in (nI i) (hK h o).2; rw [hk]; exact vp_in_nI hlt hn) ?_
    rw [nI_clamp (by omega)]
    show Wp _ _ _ _ _ _ _ 14 _ [] (h.1, h.2.1, h.2.2.1, sI (va_up (hI h) o (fillF (hI h o) v i)) o i v, h.2.2.2.2)
    rw [fillF_s]
    refine w_iinc (ls2 := [(0, .ref o), (1, .int v), (2, .int (nI i + 1)), (3, .int (nI n))]) (Ev.cm _) rfl rfl rfl ?_
    rw [nI_1]
    refine w_goto (Ev.cm _) rfl ?_
    exact ih (i + 1) (by omega)
theorem e_fill_g {d : Nat} {h : PH} {Q : PQ} {o n : Nat} {v : Int32} (ho : o < hN h) (hk : hK h o = (10, n)) (hn : n < 2 ^ 31) (q : Q none (puA h o (fillF (hI h o) v n))) : Ev (d + 1) m_J_fill [.ref o, .int v] h Q := by
  refine ev_start (d := d + 0) rfl rfl rfl (Nat.le_of_ble_eq_true rfl) ?_
  show Wp (Ev (d + 0)) cd_J_fill (0, 0) none _ _ Q 0 [(0, .ref o), (1, .int v)] [] h
  refine w_iconst (Ev.cm _) rfl ?_
  refine w_istore_n (ls2 := [(0, .ref o), (1, .int v), (2, .int 0)]) (Ev.cm _) rfl rfl ?_
  refine w_aload_n (Ev.cm _) rfl rfl ?_
  refine w_alen (Ev.cm _) rfl ho (by rw [hk]; exact Nat.le_of_ble_eq_true rfl) (by rw [hk]; exact Nat.le_of_ble_eq_true rfl) ?_
  rw [hk]
  refine w_istore_n (ls2 := [(0, .ref o), (1, .int v), (2, .int 0), (3, .int (nI n))]) (Ev.cm _) rfl rfl ?_
  have := l_fill_g (d := d + 0) (n0 := hN h) (s0 := hSl h) (Q := Q) ho hk hn q n 0 (by omega)
  have e : puA h o (fillF (hI h o) v 0) = h := by
    show (h.1, h.2.1, h.2.2.1, va_up (hI h) o (fillF (hI h o) v 0), h.2.2.2.2) = h
    rw [fillF_0]
  rw [e] at this
  exact this
theorem cutk2 {n o : Nat} {x : Nat × Nat} (h : o < n) (k : K0 o = x) : cutK n o = x := by
  unfold cutK
  rw [show Nat.blt o n = true from Nat.ble_eq.mpr h]
  exact k
theorem rd_get {n o k q : Nat} {os : List Nat} (hr : R0 o k = some q) (hq : q < n) (hn : ¬ q ∈ os) : RD n os o k = some q := by
  unfold RD
  rw [hr]
  exact if_pos ⟨hq, hn⟩
def iH (b : Nat) (I : Nat → Nat → Int32) : Nat → Nat → Int32 := sI (sI (sI (sI (sI I b 0 0) b 1 293) b 2 0) b 3 8190) b 4 0
theorem iH_z {b : Nat} {I : Nat → Nat → Int32} (hz : Zf (b + 1) I) : Zf (b + 4) (iH b I) := by
  unfold iH
  have z1 := (Zs (by omega) hz)
  have z2 := (Zs (by omega) z1)
  have z3 := (Zs (by omega) z2)
  have z4 := (Zs (by omega) z3)
  have z5 := (Zs (by omega) z4)
  have z6 := (Zn z5)
  have z7 := (Zn z6)
  have z8 := (Zn z7)
  exact z8
set_option maxHeartbeats 20000000 in
set_option maxRecDepth 20000 in
theorem e_iH {d : Nat} {b : Nat} (hb : isH b) {os : List Nat} {I : Nat → Nat → Int32} {X : Nat × (Nat → Int32)} {Q : PQ} (hos : ∀ x ∈ os, x < b) (hz : Zf (b + 1) I) (q : Q none (HN (b + 4) (b :: os) (iH b I) X)) : Ev (d + 1) m_H_new [.ref b] (HN (b + 1) (b :: os) I X) Q := by
  have hk0 := isH_k0 hb
  have hk1 := isH_k1 hb
  have hk2 := isH_k2 hb
  have hk3 := isH_k3 hb
  have hr5 := isH_r5 hb
  have hr6 := isH_r6 hb
  have hr7 := isH_r7 hb
  have sl1 : slt (b + 2) = slt (b + 1) + 6 := by show slt (b + 1) + (K0 (b + 1)).2 = _; rw [hk1]
  have sl2 : slt (b + 3) = slt (b + 2) + 6 := by show slt (b + 2) + (K0 (b + 2)).2 = _; rw [hk2]
  have sl3 : slt (b + 4) = slt (b + 3) + 90 := by show slt (b + 3) + (K0 (b + 3)).2 = _; rw [hk3]
  unfold iH at q
  refine ev_start (d := d + 0) rfl rfl rfl (Nat.le_of_ble_eq_true rfl) ?_
  show Wp (Ev (d + 0)) cd_H_new (mcs m_H_new) none _ _ Q 0 [(0, .ref b)] [] (HN (b + 1) (b :: os) I X)
  refine w_aload_n (Ev.cm _) rfl rfl ?_
  refine w_objI (Ev.cm _) rfl (Nat.le_of_ble_eq_true rfl) ?_
  refine w_aload_n (Ev.cm _) rfl rfl ?_
  refine w_iconst (Ev.cm _) rfl ?_
  refine w_putI (Ev.cm _) rfl (by omega) (cutk (by omega) hk0) ?_
  have z1 := (Zs (by omega) hz)
  show Wp _ _ _ _ _ _ _ 9 [(0, .ref b)] [] (HN (b + 1) (b :: os) (sI I b 0 0) X)
  refine w_aload_n (Ev.cm _) rfl rfl ?_
  refine w_sipush (Ev.cm _) rfl ?_
  refine w_putI (Ev.cm _) rfl (by omega) (cutk (by omega) hk0) ?_
  have z2 := (Zs (by omega) z1)
  show Wp _ _ _ _ _ _ _ 16 [(0, .ref b)] [] (HN (b + 1) (b :: os) (sI (sI I b 0 0) b 1 293) X)
  refine w_aload_n (Ev.cm _) rfl rfl ?_
  refine w_iconst (Ev.cm _) rfl ?_
  refine w_putI (Ev.cm _) rfl (by omega) (cutk (by omega) hk0) ?_
  have z3 := (Zs (by omega) z2)
  show Wp _ _ _ _ _ _ _ 21 [(0, .ref b)] [] (HN (b + 1) (b :: os) (sI (sI (sI I b 0 0) b 1 293) b 2 0) X)
  refine w_aload_n (Ev.cm _) rfl rfl ?_
  refine w_sipush (Ev.cm _) rfl ?_
  refine w_putI (Ev.cm _) rfl (by omega) (cutk (by omega) hk0) ?_
  have z4 := (Zs (by omega) z3)
  show Wp _ _ _ _ _ _ _ 28 [(0, .ref b)] [] (HN (b + 1) (b :: os) (sI (sI (sI (sI I b 0 0) b 1 293) b 2 0) b 3 8190) X)
  refine w_aload_n (Ev.cm _) rfl rfl ?_
  refine w_iconst (Ev.cm _) rfl ?_
  refine w_putI (Ev.cm _) rfl (by omega) (cutk (by omega) hk0) ?_
  have z5 := (Zs (by omega) z4)
  show Wp _ _ _ _ _ _ _ 33 [(0, .ref b)] [] (HN (b + 1) (b :: os) (sI (sI (sI (sI (sI I b 0 0) b 1 293) b 2 0) b 3 8190) b 4 0) X)
  refine w_aload_n (Ev.cm _) rfl rfl ?_
  refine w_bipush (Ev.cm _) rfl ?_
  refine w_newa (Ev.cm _) rfl (by decide) (by decide) (show _ ∧ _ from ⟨by show b + 1 + 1 ≤ b + 1 + 3; omega, by show slt (b + 1) + 6 ≤ slt (b + 1) + 102; omega⟩) ?_
  show Wp _ _ _ _ _ _ _ 38 [(0, .ref b)] [.ref (b + 1), .ref b] (puN (HN (b + 1) (b :: os) (sI (sI (sI (sI (sI I b 0 0) b 1 293) b 2 0) b 3 8190) b 4 0) X) 10 6)
  rw [hn_new hk1 z5]
  have z6 := (Zn z5)
  refine w_putR (Ev.cm _) rfl (by omega) (cutk (by omega) hk0) ?_
  show Wp _ _ _ _ _ _ _ 41 [(0, .ref b)] [] (puR (HN (b + 2) ((b + 1) :: b :: os) (sI (sI (sI (sI (sI I b 0 0) b 1 293) b 2 0) b 3 8190) b 4 0) X) b 5 (some (b + 1)))
  rw [hn_link hr5 (by omega) (nin hos (by omega))]
  refine w_aload_n (Ev.cm _) rfl rfl ?_
  refine w_bipush (Ev.cm _) rfl ?_
  refine w_newa (Ev.cm _) rfl (by decide) (by decide) (show _ ∧ _ from ⟨by show b + 2 + 1 ≤ b + 1 + 3; omega, by show slt (b + 2) + 6 ≤ slt (b + 1) + 102; omega⟩) ?_
  show Wp _ _ _ _ _ _ _ 46 [(0, .ref b)] [.ref (b + 2), .ref b] (puN (HN (b + 2) (b :: os) (sI (sI (sI (sI (sI I b 0 0) b 1 293) b 2 0) b 3 8190) b 4 0) X) 10 6)
  rw [hn_new hk2 z6]
  have z7 := (Zn z6)
  refine w_putR (Ev.cm _) rfl (by omega) (cutk (by omega) hk0) ?_
  show Wp _ _ _ _ _ _ _ 49 [(0, .ref b)] [] (puR (HN (b + 3) ((b + 2) :: b :: os) (sI (sI (sI (sI (sI I b 0 0) b 1 293) b 2 0) b 3 8190) b 4 0) X) b 6 (some (b + 2)))
  rw [hn_link hr6 (by omega) (nin hos (by omega))]
  refine w_aload_n (Ev.cm _) rfl rfl ?_
  refine w_bipush (Ev.cm _) rfl ?_
  refine w_newa (Ev.cm _) rfl (by decide) (by decide) (show _ ∧ _ from ⟨by show b + 3 + 1 ≤ b + 1 + 3; omega, by show slt (b + 3) + 90 ≤ slt (b + 1) + 102; omega⟩) ?_
  show Wp _ _ _ _ _ _ _ 54 [(0, .ref b)] [.ref (b + 3), .ref b] (puN (HN (b + 3) (b :: os) (sI (sI (sI (sI (sI I b 0 0) b 1 293) b 2 0) b 3 8190) b 4 0) X) 10 90)
  rw [hn_new hk3 z7]
  have z8 := (Zn z7)
  refine w_putR (Ev.cm _) rfl (by omega) (cutk (by omega) hk0) ?_
  show Wp _ _ _ _ _ _ _ 57 [(0, .ref b)] [] (puR (HN (b + 4) ((b + 3) :: b :: os) (sI (sI (sI (sI (sI I b 0 0) b 1 293) b 2 0) b 3 8190) b 4 0) X) b 7 (some (b + 3)))
  rw [hn_link hr7 (by omega) (nin hos (by omega))]
  refine w_return (Ev.cm _) rfl rfl (Or.inr ⟨(show b + 4 = b + 1 + 3 by omega), (show slt (b + 4) = slt (b + 1) + 102 by omega)⟩) ?_
  exact q
def iS_6 (I : Nat → Nat → Int32) : Nat → Nat → Int32 := sI (sI (iH 124 (iH 120 (iH 116 (iH 112 (iH 108 (iH 104 (iH 100 (iH 96 (iH 92 (iH 88 (iH 84 (iH 80 (iH 76 (iH 72 (iH 68 (iH 64 (iH 60 (iH 56 (iH 52 (iH 48 (iH 44 (iH 40 (iH 36 (iH 32 (iH 28 (iH 24 (iH 20 (iH 16 (iH 12 (iH 8 I)))))))))))))))))))))))))))))) 6 1 0) 6 2 0
theorem iS_6_z {I : Nat → Nat → Int32} (hz : Zf 7 I) : Zf (128) (iS_6 I) := by
  unfold iS_6
  have z1 := (Zn hz)
  have z2 := (Zn z1)
  have z3 := (iH_z (b := 8) z2)
  have z4 := (Zn z3)
  have z5 := (iH_z (b := 12) z4)
  have z6 := (Zn z5)
  have z7 := (iH_z (b := 16) z6)
  have z8 := (Zn z7)
  have z9 := (iH_z (b := 20) z8)
  have z10 := (Zn z9)
  have z11 := (iH_z (b := 24) z10)
  have z12 := (Zn z11)
  have z13 := (iH_z (b := 28) z12)
  have z14 := (Zn z13)
  have z15 := (iH_z (b := 32) z14)
  have z16 := (Zn z15)
  have z17 := (iH_z (b := 36) z16)
  have z18 := (Zn z17)
  have z19 := (iH_z (b := 40) z18)
  have z20 := (Zn z19)
  have z21 := (iH_z (b := 44) z20)
  have z22 := (Zn z21)
  have z23 := (iH_z (b := 48) z22)
  have z24 := (Zn z23)
  have z25 := (iH_z (b := 52) z24)
  have z26 := (Zn z25)
  have z27 := (iH_z (b := 56) z26)
  have z28 := (Zn z27)
  have z29 := (iH_z (b := 60) z28)
  have z30 := (Zn z29)
  have z31 := (iH_z (b := 64) z30)
  have z32 := (Zn z31)
  have z33 := (iH_z (b := 68) z32)
  have z34 := (Zn z33)
  have z35 := (iH_z (b := 72) z34)
  have z36 := (Zn z35)
  have z37 := (iH_z (b := 76) z36)
  have z38 := (Zn z37)
  have z39 := (iH_z (b := 80) z38)
  have z40 := (Zn z39)
  have z41 := (iH_z (b := 84) z40)
  have z42 := (Zn z41)
  have z43 := (iH_z (b := 88) z42)
  have z44 := (Zn z43)
  have z45 := (iH_z (b := 92) z44)
  have z46 := (Zn z45)
  have z47 := (iH_z (b := 96) z46)
  have z48 := (Zn z47)
  have z49 := (iH_z (b := 100) z48)
  have z50 := (Zn z49)
  have z51 := (iH_z (b := 104) z50)
  have z52 := (Zn z51)
  have z53 := (iH_z (b := 108) z52)
  have z54 := (Zn z53)
  have z55 := (iH_z (b := 112) z54)
  have z56 := (Zn z55)
  have z57 := (iH_z (b := 116) z56)
  have z58 := (Zn z57)
  have z59 := (iH_z (b := 120) z58)
  have z60 := (Zn z59)
  have z61 := (iH_z (b := 124) z60)
  have z62 := (Zs (Nat.le_of_ble_eq_true rfl) z61)
  have z63 := (Zs (Nat.le_of_ble_eq_true rfl) z62)
  exact z63
set_option maxHeartbeats 20000000 in
set_option maxRecDepth 20000 in
theorem e_iS_6 {d : Nat} {os : List Nat} {I : Nat → Nat → Int32} {X : Nat × (Nat → Int32)} {Q : PQ} (hos : ∀ x ∈ os, x < 6) (hz : Zf 7 I) (q : Q none (HN (128) (6 :: os) (iS_6 I) X)) : Ev (d + 2) m_S_new [.ref 6] (HN 7 (6 :: os) I X) Q := by
  unfold iS_6 at q
  refine ev_start (d := d + 1) rfl rfl rfl (Nat.le_of_ble_eq_true rfl) ?_
  show Wp (Ev (d + 1)) cd_S_new (mcs m_S_new) none _ _ Q 0 [(0, .ref 6)] [] (HN 7 (6 :: os) I X)
  refine w_aload_n (Ev.cm _) rfl rfl ?_
  refine w_objI (Ev.cm _) rfl (Nat.le_of_ble_eq_true rfl) ?_
  refine w_aload_n (Ev.cm _) rfl rfl ?_
  refine w_bipush (Ev.cm _) rfl ?_
  refine w_newr (Ev.cm _) rfl (by decide) (by decide) (show _ ∧ _ from ⟨by decide +kernel, by decide +kernel⟩) ?_
  show Wp _ _ _ _ _ _ _ 10 [(0, .ref 6)] [.ref 7, .ref 6] (puN (HN 7 (6 :: os) I X) 14 30)
  rw [hn_new rfl hz]
  have z1 := (Zn hz)
  refine w_putR (Ev.cm _) rfl (Nat.le_of_ble_eq_true rfl) rfl ?_
  show Wp _ _ _ _ _ _ _ 13 [(0, .ref 6)] [] (puR (HN 8 (7 :: 6 :: os) I X) 6 0 (some 7))
  rw [hn_link rfl (Nat.le_of_ble_eq_true rfl) (nin hos (Nat.le_of_ble_eq_true rfl))]
  refine w_iconst (Ev.cm _) rfl ?_
  refine w_istore_n (ls2 := [(0, .ref 6), (1, .int 0)]) (Ev.cm _) rfl rfl ?_
  refine w_iload_n (Ev.cm _) rfl rfl ?_
  refine w_bipush (Ev.cm _) rfl ?_
  refine w_icmp_ge (Ev.cm _) rfl (fun q => absurd q (by decide)) (fun _ => ?_)
  refine w_aload_n (Ev.cm _) rfl rfl ?_
  refine w_getR (q := 7) (Ev.cm _) rfl (Nat.le_of_ble_eq_true rfl) rfl (rd_get rfl (Nat.le_of_ble_eq_true rfl) (nin hos (Nat.le_of_ble_eq_true rfl))) ?_
  refine w_iload_n (Ev.cm _) rfl rfl ?_
  refine w_new (Ev.cm _) rfl (show _ ∧ _ from ⟨by decide +kernel, by decide +kernel⟩) ?_
  show Wp _ _ _ _ _ _ _ 29 [(0, .ref 6), (1, .int 0)] [.ref 8, .int 0, .ref 7] (puN (HN 8 (6 :: os) I X) 1 8)
  rw [hn_new rfl z1]
  have z2 := (Zn z1)
  refine w_dup (Ev.cm _) rfl rfl ?_
  refine w_cinit (as := []) (o := 8) (st := [.ref 8, .int 0, .ref 7]) (Ev.cm _) rfl rfl rfl (Nat.le_of_ble_eq_true rfl) (show _ ∧ _ from ⟨by decide +kernel, by decide +kernel⟩) (Nat.le_of_ble_eq_true rfl) (e_iH (show isH 8 from Or.inr (Or.inr (Or.inl ⟨0, (Nat.le_of_ble_eq_true rfl), rfl⟩))) (fun x hx => by rcases List.mem_cons.mp hx with e | e <;> [(rw [e]; exact (Nat.le_of_ble_eq_true rfl)); exact Nat.lt_trans (hos x e) (Nat.le_of_ble_eq_true rfl)]) z2 ?_)
  have z3 := (iH_z (b := 8) z2)
  show Wp _ _ _ _ _ _ _ 33 [(0, .ref 6), (1, .int 0)] [.ref 8, .int 0, .ref 7] (HN 12 (8 :: 6 :: os) (iH 8 I) X)
  refine w_aast (Ev.cm _) rfl (Nat.le_of_ble_eq_true rfl) rfl (by decide) (Nat.le_of_ble_eq_true rfl) rfl ?_
  show Wp _ _ _ _ _ _ _ 34 [(0, .ref 6), (1, .int 0)] [] (puR (HN 12 (8 :: 6 :: os) (iH 8 I) X) 7 0 (some 8))
  rw [hn_link rfl (Nat.le_of_ble_eq_true rfl) (nin hos (Nat.le_of_ble_eq_true rfl))]
  refine w_iinc (ls2 := [(0, .ref 6), (1, .int 1)]) (Ev.cm _) rfl rfl rfl ?_
  refine w_goto (Ev.cm _) rfl ?_
  refine w_iload_n (Ev.cm _) rfl rfl ?_
  refine w_bipush (Ev.cm _) rfl ?_
  refine w_icmp_ge (Ev.cm _) rfl (fun q => absurd q (by decide)) (fun _ => ?_)
  refine w_aload_n (Ev.cm _) rfl rfl ?_
  refine w_getR (q := 7) (Ev.cm _) rfl (Nat.le_of_ble_eq_true rfl) rfl (rd_get rfl (Nat.le_of_ble_eq_true rfl) (nin hos (Nat.le_of_ble_eq_true rfl))) ?_
  refine w_iload_n (Ev.cm _) rfl rfl ?_
  refine w_new (Ev.cm _) rfl (show _ ∧ _ from ⟨by decide +kernel, by decide +kernel⟩) ?_
  show Wp _ _ _ _ _ _ _ 29 [(0, .ref 6), (1, .int 1)] [.ref 12, .int 1, .ref 7] (puN (HN 12 (6 :: os) (iH 8 I) X) 1 8)
  rw [hn_new rfl z3]
  have z4 := (Zn z3)
  refine w_dup (Ev.cm _) rfl rfl ?_
  refine w_cinit (as := []) (o := 12) (st := [.ref 12, .int 1, .ref 7]) (Ev.cm _) rfl rfl rfl (Nat.le_of_ble_eq_true rfl) (show _ ∧ _ from ⟨by decide +kernel, by decide +kernel⟩) (Nat.le_of_ble_eq_true rfl) (e_iH (show isH 12 from Or.inr (Or.inr (Or.inl ⟨1, (Nat.le_of_ble_eq_true rfl), rfl⟩))) (fun x hx => by rcases List.mem_cons.mp hx with e | e <;> [(rw [e]; exact (Nat.le_of_ble_eq_true rfl)); exact Nat.lt_trans (hos x e) (Nat.le_of_ble_eq_true rfl)]) z4 ?_)
  have z5 := (iH_z (b := 12) z4)
  show Wp _ _ _ _ _ _ _ 33 [(0, .ref 6), (1, .int 1)] [.ref 12, .int 1, .ref 7] (HN 16 (12 :: 6 :: os) (iH 12 (iH 8 I)) X)
  refine w_aast (Ev.cm _) rfl (Nat.le_of_ble_eq_true rfl) rfl (by decide) (Nat.le_of_ble_eq_true rfl) rfl ?_
  show Wp _ _ _ _ _ _ _ 34 [(0, .ref 6), (1, .int 1)] [] (puR (HN 16 (12 :: 6 :: os) (iH 12 (iH 8 I)) X) 7 1 (some 12))
  rw [hn_link rfl (Nat.le_of_ble_eq_true rfl) (nin hos (Nat.le_of_ble_eq_true rfl))]
  refine w_iinc (ls2 := [(0, .ref 6), (1, .int 2)]) (Ev.cm _) rfl rfl rfl ?_
  refine w_goto (Ev.cm _) rfl ?_
  refine w_iload_n (Ev.cm _) rfl rfl ?_
  refine w_bipush (Ev.cm _) rfl ?_
  refine w_icmp_ge (Ev.cm _) rfl (fun q => absurd q (by decide)) (fun _ => ?_)
  refine w_aload_n (Ev.cm _) rfl rfl ?_
  refine w_getR (q := 7) (Ev.cm _) rfl (Nat.le_of_ble_eq_true rfl) rfl (rd_get rfl (Nat.le_of_ble_eq_true rfl) (nin hos (Nat.le_of_ble_eq_true rfl))) ?_
  refine w_iload_n (Ev.cm _) rfl rfl ?_
  refine w_new (Ev.cm _) rfl (show _ ∧ _ from ⟨by decide +kernel, by decide +kernel⟩) ?_
  show Wp _ _ _ _ _ _ _ 29 [(0, .ref 6), (1, .int 2)] [.ref 16, .int 2, .ref 7] (puN (HN 16 (6 :: os) (iH 12 (iH 8 I)) X) 1 8)
  rw [hn_new rfl z5]
  have z6 := (Zn z5)
  refine w_dup (Ev.cm _) rfl rfl ?_
  refine w_cinit (as := []) (o := 16) (st := [.ref 16, .int 2, .ref 7]) (Ev.cm _) rfl rfl rfl (Nat.le_of_ble_eq_true rfl) (show _ ∧ _ from ⟨by decide +kernel, by decide +kernel⟩) (Nat.le_of_ble_eq_true rfl) (e_iH (show isH 16 from Or.inr (Or.inr (Or.inl ⟨2, (Nat.le_of_ble_eq_true rfl), rfl⟩))) (fun x hx => by rcases List.mem_cons.mp hx with e | e <;> [(rw [e]; exact (Nat.le_of_ble_eq_true rfl)); exact Nat.lt_trans (hos x e) (Nat.le_of_ble_eq_true rfl)]) z6 ?_)
  have z7 := (iH_z (b := 16) z6)
  show Wp _ _ _ _ _ _ _ 33 [(0, .ref 6), (1, .int 2)] [.ref 16, .int 2, .ref 7] (HN 20 (16 :: 6 :: os) (iH 16 (iH 12 (iH 8 I))) X)
  refine w_aast (Ev.cm _) rfl (Nat.le_of_ble_eq_true rfl) rfl (by decide) (Nat.le_of_ble_eq_true rfl) rfl ?_
  show Wp _ _ _ _ _ _ _ 34 [(0, .ref 6), (1, .int 2)] [] (puR (HN 20 (16 :: 6 :: os) (iH 16 (iH 12 (iH 8 I))) X) 7 2 (some 16))
  rw [hn_link rfl (Nat.le_of_ble_eq_true rfl) (nin hos (Nat.le_of_ble_eq_true rfl))]
  refine w_iinc (ls2 := [(0, .ref 6), (1, .int 3)]) (Ev.cm _) rfl rfl rfl ?_
  refine w_goto (Ev.cm _) rfl ?_
  refine w_iload_n (Ev.cm _) rfl rfl ?_
  refine w_bipush (Ev.cm _) rfl ?_
  refine w_icmp_ge (Ev.cm _) rfl (fun q => absurd q (by decide)) (fun _ => ?_)
  refine w_aload_n (Ev.cm _) rfl rfl ?_
  refine w_getR (q := 7) (Ev.cm _) rfl (Nat.le_of_ble_eq_true rfl) rfl (rd_get rfl (Nat.le_of_ble_eq_true rfl) (nin hos (Nat.le_of_ble_eq_true rfl))) ?_
  refine w_iload_n (Ev.cm _) rfl rfl ?_
  refine w_new (Ev.cm _) rfl (show _ ∧ _ from ⟨by decide +kernel, by decide +kernel⟩) ?_
  show Wp _ _ _ _ _ _ _ 29 [(0, .ref 6), (1, .int 3)] [.ref 20, .int 3, .ref 7] (puN (HN 20 (6 :: os) (iH 16 (iH 12 (iH 8 I))) X) 1 8)
  rw [hn_new rfl z7]
  have z8 := (Zn z7)
  refine w_dup (Ev.cm _) rfl rfl ?_
  refine w_cinit (as := []) (o := 20) (st := [.ref 20, .int 3, .ref 7]) (Ev.cm _) rfl rfl rfl (Nat.le_of_ble_eq_true rfl) (show _ ∧ _ from ⟨by decide +kernel, by decide +kernel⟩) (Nat.le_of_ble_eq_true rfl) (e_iH (show isH 20 from Or.inr (Or.inr (Or.inl ⟨3, (Nat.le_of_ble_eq_true rfl), rfl⟩))) (fun x hx => by rcases List.mem_cons.mp hx with e | e <;> [(rw [e]; exact (Nat.le_of_ble_eq_true rfl)); exact Nat.lt_trans (hos x e) (Nat.le_of_ble_eq_true rfl)]) z8 ?_)
  have z9 := (iH_z (b := 20) z8)
  show Wp _ _ _ _ _ _ _ 33 [(0, .ref 6), (1, .int 3)] [.ref 20, .int 3, .ref 7] (HN 24 (20 :: 6 :: os) (iH 20 (iH 16 (iH 12 (iH 8 I)))) X)
  refine w_aast (Ev.cm _) rfl (Nat.le_of_ble_eq_true rfl) rfl (by decide) (Nat.le_of_ble_eq_true rfl) rfl ?_
  show Wp _ _ _ _ _ _ _ 34 [(0, .ref 6), (1, .int 3)] [] (puR (HN 24 (20 :: 6 :: os) (iH 20 (iH 16 (iH 12 (iH 8 I)))) X) 7 3 (some 20))
  rw [hn_link rfl (Nat.le_of_ble_eq_true rfl) (nin hos (Nat.le_of_ble_eq_true rfl))]
  refine w_iinc (ls2 := [(0, .ref 6), (1, .int 4)]) (Ev.cm _) rfl rfl rfl ?_
  refine w_goto (Ev.cm _) rfl ?_
  refine w_iload_n (Ev.cm _) rfl rfl ?_
  refine w_bipush (Ev.cm _) rfl ?_
  refine w_icmp_ge (Ev.cm _) rfl (fun q => absurd q (by decide)) (fun _ => ?_)
  refine w_aload_n (Ev.cm _) rfl rfl ?_
  refine w_getR (q := 7) (Ev.cm _) rfl (Nat.le_of_ble_eq_true rfl) rfl (rd_get rfl (Nat.le_of_ble_eq_true rfl) (nin hos (Nat.le_of_ble_eq_true rfl))) ?_
  refine w_iload_n (Ev.cm _) rfl rfl ?_
  refine w_new (Ev.cm _) rfl (show _ ∧ _ from ⟨by decide +kernel, by decide +kernel⟩) ?_
  show Wp _ _ _ _ _ _ _ 29 [(0, .ref 6), (1, .int 4)] [.ref 24, .int 4, .ref 7] (puN (HN 24 (6 :: os) (iH 20 (iH 16 (iH 12 (iH 8 I)))) X) 1 8)
  rw [hn_new rfl z9]
  have z10 := (Zn z9)
  refine w_dup (Ev.cm _) rfl rfl ?_
  refine w_cinit (as := []) (o := 24) (st := [.ref 24, .int 4, .ref 7]) (Ev.cm _) rfl rfl rfl (Nat.le_of_ble_eq_true rfl) (show _ ∧ _ from ⟨by decide +kernel, by decide +kernel⟩) (Nat.le_of_ble_eq_true rfl) (e_iH (show isH 24 from Or.inr (Or.inr (Or.inl ⟨4, (Nat.le_of_ble_eq_true rfl), rfl⟩))) (fun x hx => by rcases List.mem_cons.mp hx with e | e <;> [(rw [e]; exact (Nat.le_of_ble_eq_true rfl)); exact Nat.lt_trans (hos x e) (Nat.le_of_ble_eq_true rfl)]) z10 ?_)
  have z11 := (iH_z (b := 24) z10)
  show Wp _ _ _ _ _ _ _ 33 [(0, .ref 6), (1, .int 4)] [.ref 24, .int 4, .ref 7] (HN 28 (24 :: 6 :: os) (iH 24 (iH 20 (iH 16 (iH 12 (iH 8 I))))) X)
  refine w_aast (Ev.cm _) rfl (Nat.le_of_ble_eq_true rfl) rfl (by decide) (Nat.le_of_ble_eq_true rfl) rfl ?_
  show Wp _ _ _ _ _ _ _ 34 [(0, .ref 6), (1, .int 4)] [] (puR (HN 28 (24 :: 6 :: os) (iH 24 (iH 20 (iH 16 (iH 12 (iH 8 I))))) X) 7 4 (some 24))
  rw [hn_link rfl (Nat.le_of_ble_eq_true rfl) (nin hos (Nat.le_of_ble_eq_true rfl))]
  refine w_iinc (ls2 := [(0, .ref 6), (1, .int 5)]) (Ev.cm _) rfl rfl rfl ?_
  refine w_goto (Ev.cm _) rfl ?_
  refine w_iload_n (Ev.cm _) rfl rfl ?_
  refine w_bipush (Ev.cm _) rfl ?_
  refine w_icmp_ge (Ev.cm _) rfl (fun q => absurd q (by decide)) (fun _ => ?_)
  refine w_aload_n (Ev.cm _) rfl rfl ?_
  refine w_getR (q := 7) (Ev.cm _) rfl (Nat.le_of_ble_eq_true rfl) rfl (rd_get rfl (Nat.le_of_ble_eq_true rfl) (nin hos (Nat.le_of_ble_eq_true rfl))) ?_
  refine w_iload_n (Ev.cm _) rfl rfl ?_
  refine w_new (Ev.cm _) rfl (show _ ∧ _ from ⟨by decide +kernel, by decide +kernel⟩) ?_
  show Wp _ _ _ _ _ _ _ 29 [(0, .ref 6), (1, .int 5)] [.ref 28, .int 5, .ref 7] (puN (HN 28 (6 :: os) (iH 24 (iH 20 (iH 16 (iH 12 (iH 8 I))))) X) 1 8)
  rw [hn_new rfl z11]
  have z12 := (Zn z11)
  refine w_dup (Ev.cm _) rfl rfl ?_
  refine w_cinit (as := []) (o := 28) (st := [.ref 28, .int 5, .ref 7]) (Ev.cm _) rfl rfl rfl (Nat.le_of_ble_eq_true rfl) (show _ ∧ _ from ⟨by decide +kernel, by decide +kernel⟩) (Nat.le_of_ble_eq_true rfl) (e_iH (show isH 28 from Or.inr (Or.inr (Or.inl ⟨5, (Nat.le_of_ble_eq_true rfl), rfl⟩))) (fun x hx => by rcases List.mem_cons.mp hx with e | e <;> [(rw [e]; exact (Nat.le_of_ble_eq_true rfl)); exact Nat.lt_trans (hos x e) (Nat.le_of_ble_eq_true rfl)]) z12 ?_)
  have z13 := (iH_z (b := 28) z12)
  show Wp _ _ _ _ _ _ _ 33 [(0, .ref 6), (1, .int 5)] [.ref 28, .int 5, .ref 7] (HN 32 (28 :: 6 :: os) (iH 28 (iH 24 (iH 20 (iH 16 (iH 12 (iH 8 I)))))) X)
  refine w_aast (Ev.cm _) rfl (Nat.le_of_ble_eq_true rfl) rfl (by decide) (Nat.le_of_ble_eq_true rfl) rfl ?_
  show Wp _ _ _ _ _ _ _ 34 [(0, .ref 6), (1, .int 5)] [] (puR (HN 32 (28 :: 6 :: os) (iH 28 (iH 24 (iH 20 (iH 16 (iH 12 (iH 8 I)))))) X) 7 5 (some 28))
  rw [hn_link rfl (Nat.le_of_ble_eq_true rfl) (nin hos (Nat.le_of_ble_eq_true rfl))]
  refine w_iinc (ls2 := [(0, .ref 6), (1, .int 6)]) (Ev.cm _) rfl rfl rfl ?_
  refine w_goto (Ev.cm _) rfl ?_
  refine w_iload_n (Ev.cm _) rfl rfl ?_
  refine w_bipush (Ev.cm _) rfl ?_
  refine w_icmp_ge (Ev.cm _) rfl (fun q => absurd q (by decide)) (fun _ => ?_)
  refine w_aload_n (Ev.cm _) rfl rfl ?_
  refine w_getR (q := 7) (Ev.cm _) rfl (Nat.le_of_ble_eq_true rfl) rfl (rd_get rfl (Nat.le_of_ble_eq_true rfl) (nin hos (Nat.le_of_ble_eq_true rfl))) ?_
  refine w_iload_n (Ev.cm _) rfl rfl ?_
  refine w_new (Ev.cm _) rfl (show _ ∧ _ from ⟨by decide +kernel, by decide +kernel⟩) ?_
  show Wp _ _ _ _ _ _ _ 29 [(0, .ref 6), (1, .int 6)] [.ref 32, .int 6, .ref 7] (puN (HN 32 (6 :: os) (iH 28 (iH 24 (iH 20 (iH 16 (iH 12 (iH 8 I)))))) X) 1 8)
  rw [hn_new rfl z13]
  have z14 := (Zn z13)
  refine w_dup (Ev.cm _) rfl rfl ?_
  refine w_cinit (as := []) (o := 32) (st := [.ref 32, .int 6, .ref 7]) (Ev.cm _) rfl rfl rfl (Nat.le_of_ble_eq_true rfl) (show _ ∧ _ from ⟨by decide +kernel, by decide +kernel⟩) (Nat.le_of_ble_eq_true rfl) (e_iH (show isH 32 from Or.inr (Or.inr (Or.inl ⟨6, (Nat.le_of_ble_eq_true rfl), rfl⟩))) (fun x hx => by rcases List.mem_cons.mp hx with e | e <;> [(rw [e]; exact (Nat.le_of_ble_eq_true rfl)); exact Nat.lt_trans (hos x e) (Nat.le_of_ble_eq_true rfl)]) z14 ?_)
  have z15 := (iH_z (b := 32) z14)
  show Wp _ _ _ _ _ _ _ 33 [(0, .ref 6), (1, .int 6)] [.ref 32, .int 6, .ref 7] (HN 36 (32 :: 6 :: os) (iH 32 (iH 28 (iH 24 (iH 20 (iH 16 (iH 12 (iH 8 I))))))) X)
  refine w_aast (Ev.cm _) rfl (Nat.le_of_ble_eq_true rfl) rfl (by decide) (Nat.le_of_ble_eq_true rfl) rfl ?_
  show Wp _ _ _ _ _ _ _ 34 [(0, .ref 6), (1, .int 6)] [] (puR (HN 36 (32 :: 6 :: os) (iH 32 (iH 28 (iH 24 (iH 20 (iH 16 (iH 12 (iH 8 I))))))) X) 7 6 (some 32))
  rw [hn_link rfl (Nat.le_of_ble_eq_true rfl) (nin hos (Nat.le_of_ble_eq_true rfl))]
  refine w_iinc (ls2 := [(0, .ref 6), (1, .int 7)]) (Ev.cm _) rfl rfl rfl ?_
  refine w_goto (Ev.cm _) rfl ?_
  refine w_iload_n (Ev.cm _) rfl rfl ?_
  refine w_bipush (Ev.cm _) rfl ?_
  refine w_icmp_ge (Ev.cm _) rfl (fun q => absurd q (by decide)) (fun _ => ?_)
  refine w_aload_n (Ev.cm _) rfl rfl ?_
  refine w_getR (q := 7) (Ev.cm _) rfl (Nat.le_of_ble_eq_true rfl) rfl (rd_get rfl (Nat.le_of_ble_eq_true rfl) (nin hos (Nat.le_of_ble_eq_true rfl))) ?_
  refine w_iload_n (Ev.cm _) rfl rfl ?_
  refine w_new (Ev.cm _) rfl (show _ ∧ _ from ⟨by decide +kernel, by decide +kernel⟩) ?_
  show Wp _ _ _ _ _ _ _ 29 [(0, .ref 6), (1, .int 7)] [.ref 36, .int 7, .ref 7] (puN (HN 36 (6 :: os) (iH 32 (iH 28 (iH 24 (iH 20 (iH 16 (iH 12 (iH 8 I))))))) X) 1 8)
  rw [hn_new rfl z15]
  have z16 := (Zn z15)
  refine w_dup (Ev.cm _) rfl rfl ?_
  refine w_cinit (as := []) (o := 36) (st := [.ref 36, .int 7, .ref 7]) (Ev.cm _) rfl rfl rfl (Nat.le_of_ble_eq_true rfl) (show _ ∧ _ from ⟨by decide +kernel, by decide +kernel⟩) (Nat.le_of_ble_eq_true rfl) (e_iH (show isH 36 from Or.inr (Or.inr (Or.inl ⟨7, (Nat.le_of_ble_eq_true rfl), rfl⟩))) (fun x hx => by rcases List.mem_cons.mp hx with e | e <;> [(rw [e]; exact (Nat.le_of_ble_eq_true rfl)); exact Nat.lt_trans (hos x e) (Nat.le_of_ble_eq_true rfl)]) z16 ?_)
  have z17 := (iH_z (b := 36) z16)
  show Wp _ _ _ _ _ _ _ 33 [(0, .ref 6), (1, .int 7)] [.ref 36, .int 7, .ref 7] (HN 40 (36 :: 6 :: os) (iH 36 (iH 32 (iH 28 (iH 24 (iH 20 (iH 16 (iH 12 (iH 8 I)))))))) X)
  refine w_aast (Ev.cm _) rfl (Nat.le_of_ble_eq_true rfl) rfl (by decide) (Nat.le_of_ble_eq_true rfl) rfl ?_
  show Wp _ _ _ _ _ _ _ 34 [(0, .ref 6), (1, .int 7)] [] (puR (HN 40 (36 :: 6 :: os) (iH 36 (iH 32 (iH 28 (iH 24 (iH 20 (iH 16 (iH 12 (iH 8 I)))))))) X) 7 7 (some 36))
  rw [hn_link rfl (Nat.le_of_ble_eq_true rfl) (nin hos (Nat.le_of_ble_eq_true rfl))]
  refine w_iinc (ls2 := [(0, .ref 6), (1, .int 8)]) (Ev.cm _) rfl rfl rfl ?_
  refine w_goto (Ev.cm _) rfl ?_
  refine w_iload_n (Ev.cm _) rfl rfl ?_
  refine w_bipush (Ev.cm _) rfl ?_
  refine w_icmp_ge (Ev.cm _) rfl (fun q => absurd q (by decide)) (fun _ => ?_)
  refine w_aload_n (Ev.cm _) rfl rfl ?_
  refine w_getR (q := 7) (Ev.cm _) rfl (Nat.le_of_ble_eq_true rfl) rfl (rd_get rfl (Nat.le_of_ble_eq_true rfl) (nin hos (Nat.le_of_ble_eq_true rfl))) ?_
  refine w_iload_n (Ev.cm _) rfl rfl ?_
  refine w_new (Ev.cm _) rfl (show _ ∧ _ from ⟨by decide +kernel, by decide +kernel⟩) ?_
  show Wp _ _ _ _ _ _ _ 29 [(0, .ref 6), (1, .int 8)] [.ref 40, .int 8, .ref 7] (puN (HN 40 (6 :: os) (iH 36 (iH 32 (iH 28 (iH 24 (iH 20 (iH 16 (iH 12 (iH 8 I)))))))) X) 1 8)
  rw [hn_new rfl z17]
  have z18 := (Zn z17)
  refine w_dup (Ev.cm _) rfl rfl ?_
  refine w_cinit (as := []) (o := 40) (st := [.ref 40, .int 8, .ref 7]) (Ev.cm _) rfl rfl rfl (Nat.le_of_ble_eq_true rfl) (show _ ∧ _ from ⟨by decide +kernel, by decide +kernel⟩) (Nat.le_of_ble_eq_true rfl) (e_iH (show isH 40 from Or.inr (Or.inr (Or.inl ⟨8, (Nat.le_of_ble_eq_true rfl), rfl⟩))) (fun x hx => by rcases List.mem_cons.mp hx with e | e <;> [(rw [e]; exact (Nat.le_of_ble_eq_true rfl)); exact Nat.lt_trans (hos x e) (Nat.le_of_ble_eq_true rfl)]) z18 ?_)
  have z19 := (iH_z (b := 40) z18)
  show Wp _ _ _ _ _ _ _ 33 [(0, .ref 6), (1, .int 8)] [.ref 40, .int 8, .ref 7] (HN 44 (40 :: 6 :: os) (iH 40 (iH 36 (iH 32 (iH 28 (iH 24 (iH 20 (iH 16 (iH 12 (iH 8 I))))))))) X)
  refine w_aast (Ev.cm _) rfl (Nat.le_of_ble_eq_true rfl) rfl (by decide) (Nat.le_of_ble_eq_true rfl) rfl ?_
  show Wp _ _ _ _ _ _ _ 34 [(0, .ref 6), (1, .int 8)] [] (puR (HN 44 (40 :: 6 :: os) (iH 40 (iH 36 (iH 32 (iH 28 (iH 24 (iH 20 (iH 16 (iH 12 (iH 8 I))))))))) X) 7 8 (some 40))
  rw [hn_link rfl (Nat.le_of_ble_eq_true rfl) (nin hos (Nat.le_of_ble_eq_true rfl))]
  refine w_iinc (ls2 := [(0, .ref 6), (1, .int 9)]) (Ev.cm _) rfl rfl rfl ?_
  refine w_goto (Ev.cm _) rfl ?_
  refine w_iload_n (Ev.cm _) rfl rfl ?_
  refine w_bipush (Ev.cm _) rfl ?_
  refine w_icmp_ge (Ev.cm _) rfl (fun q => absurd q (by decide)) (fun _ => ?_)
  refine w_aload_n (Ev.cm _) rfl rfl ?_
  refine w_getR (q := 7) (Ev.cm _) rfl (Nat.le_of_ble_eq_true rfl) rfl (rd_get rfl (Nat.le_of_ble_eq_true rfl) (nin hos (Nat.le_of_ble_eq_true rfl))) ?_
  refine w_iload_n (Ev.cm _) rfl rfl ?_
  refine w_new (Ev.cm _) rfl (show _ ∧ _ from ⟨by decide +kernel, by decide +kernel⟩) ?_
  show Wp _ _ _ _ _ _ _ 29 [(0, .ref 6), (1, .int 9)] [.ref 44, .int 9, .ref 7] (puN (HN 44 (6 :: os) (iH 40 (iH 36 (iH 32 (iH 28 (iH 24 (iH 20 (iH 16 (iH 12 (iH 8 I))))))))) X) 1 8)
  rw [hn_new rfl z19]
  have z20 := (Zn z19)
  refine w_dup (Ev.cm _) rfl rfl ?_
  refine w_cinit (as := []) (o := 44) (st := [.ref 44, .int 9, .ref 7]) (Ev.cm _) rfl rfl rfl (Nat.le_of_ble_eq_true rfl) (show _ ∧ _ from ⟨by decide +kernel, by decide +kernel⟩) (Nat.le_of_ble_eq_true rfl) (e_iH (show isH 44 from Or.inr (Or.inr (Or.inl ⟨9, (Nat.le_of_ble_eq_true rfl), rfl⟩))) (fun x hx => by rcases List.mem_cons.mp hx with e | e <;> [(rw [e]; exact (Nat.le_of_ble_eq_true rfl)); exact Nat.lt_trans (hos x e) (Nat.le_of_ble_eq_true rfl)]) z20 ?_)
  have z21 := (iH_z (b := 44) z20)
  show Wp _ _ _ _ _ _ _ 33 [(0, .ref 6), (1, .int 9)] [.ref 44, .int 9, .ref 7] (HN 48 (44 :: 6 :: os) (iH 44 (iH 40 (iH 36 (iH 32 (iH 28 (iH 24 (iH 20 (iH 16 (iH 12 (iH 8 I)))))))))) X)
  refine w_aast (Ev.cm _) rfl (Nat.le_of_ble_eq_true rfl) rfl (by decide) (Nat.le_of_ble_eq_true rfl) rfl ?_
  show Wp _ _ _ _ _ _ _ 34 [(0, .ref 6), (1, .int 9)] [] (puR (HN 48 (44 :: 6 :: os) (iH 44 (iH 40 (iH 36 (iH 32 (iH 28 (iH 24 (iH 20 (iH 16 (iH 12 (iH 8 I)))))))))) X) 7 9 (some 44))
  rw [hn_link rfl (Nat.le_of_ble_eq_true rfl) (nin hos (Nat.le_of_ble_eq_true rfl))]
  refine w_iinc (ls2 := [(0, .ref 6), (1, .int 10)]) (Ev.cm _) rfl rfl rfl ?_
  refine w_goto (Ev.cm _) rfl ?_
  refine w_iload_n (Ev.cm _) rfl rfl ?_
  refine w_bipush (Ev.cm _) rfl ?_
  refine w_icmp_ge (Ev.cm _) rfl (fun q => absurd q (by decide)) (fun _ => ?_)
  refine w_aload_n (Ev.cm _) rfl rfl ?_
  refine w_getR (q := 7) (Ev.cm _) rfl (Nat.le_of_ble_eq_true rfl) rfl (rd_get rfl (Nat.le_of_ble_eq_true rfl) (nin hos (Nat.le_of_ble_eq_true rfl))) ?_
  refine w_iload_n (Ev.cm _) rfl rfl ?_
  refine w_new (Ev.cm _) rfl (show _ ∧ _ from ⟨by decide +kernel, by decide +kernel⟩) ?_
  show Wp _ _ _ _ _ _ _ 29 [(0, .ref 6), (1, .int 10)] [.ref 48, .int 10, .ref 7] (puN (HN 48 (6 :: os) (iH 44 (iH 40 (iH 36 (iH 32 (iH 28 (iH 24 (iH 20 (iH 16 (iH 12 (iH 8 I)))))))))) X) 1 8)
  rw [hn_new rfl z21]
  have z22 := (Zn z21)
  refine w_dup (Ev.cm _) rfl rfl ?_
  refine w_cinit (as := []) (o := 48) (st := [.ref 48, .int 10, .ref 7]) (Ev.cm _) rfl rfl rfl (Nat.le_of_ble_eq_true rfl) (show _ ∧ _ from ⟨by decide +kernel, by decide +kernel⟩) (Nat.le_of_ble_eq_true rfl) (e_iH (show isH 48 from Or.inr (Or.inr (Or.inl ⟨10, (Nat.le_of_ble_eq_true rfl), rfl⟩))) (fun x hx => by rcases List.mem_cons.mp hx with e | e <;> [(rw [e]; exact (Nat.le_of_ble_eq_true rfl)); exact Nat.lt_trans (hos x e) (Nat.le_of_ble_eq_true rfl)]) z22 ?_)
  have z23 := (iH_z (b := 48) z22)
  show Wp _ _ _ _ _ _ _ 33 [(0, .ref 6), (1, .int 10)] [.ref 48, .int 10, .ref 7] (HN 52 (48 :: 6 :: os) (iH 48 (iH 44 (iH 40 (iH 36 (iH 32 (iH 28 (iH 24 (iH 20 (iH 16 (iH 12 (iH 8 I))))))))))) X)
  refine w_aast (Ev.cm _) rfl (Nat.le_of_ble_eq_true rfl) rfl (by decide) (Nat.le_of_ble_eq_true rfl) rfl ?_
  show Wp _ _ _ _ _ _ _ 34 [(0, .ref 6), (1, .int 10)] [] (puR (HN 52 (48 :: 6 :: os) (iH 48 (iH 44 (iH 40 (iH 36 (iH 32 (iH 28 (iH 24 (iH 20 (iH 16 (iH 12 (iH 8 I))))))))))) X) 7 10 (some 48))
  rw [hn_link rfl (Nat.le_of_ble_eq_true rfl) (nin hos (Nat.le_of_ble_eq_true rfl))]
  refine w_iinc (ls2 := [(0, .ref 6), (1, .int 11)]) (Ev.cm _) rfl rfl rfl ?_
  refine w_goto (Ev.cm _) rfl ?_
  refine w_iload_n (Ev.cm _) rfl rfl ?_
  refine w_bipush (Ev.cm _) rfl ?_
  refine w_icmp_ge (Ev.cm _) rfl (fun q => absurd q (by decide)) (fun _ => ?_)
  refine w_aload_n (Ev.cm _) rfl rfl ?_
  refine w_getR (q := 7) (Ev.cm _) rfl (Nat.le_of_ble_eq_true rfl) rfl (rd_get rfl (Nat.le_of_ble_eq_true rfl) (nin hos (Nat.le_of_ble_eq_true rfl))) ?_
  refine w_iload_n (Ev.cm _) rfl rfl ?_
  refine w_new (Ev.cm _) rfl (show _ ∧ _ from ⟨by decide +kernel, by decide +kernel⟩) ?_
  show Wp _ _ _ _ _ _ _ 29 [(0, .ref 6), (1, .int 11)] [.ref 52, .int 11, .ref 7] (puN (HN 52 (6 :: os) (iH 48 (iH 44 (iH 40 (iH 36 (iH 32 (iH 28 (iH 24 (iH 20 (iH 16 (iH 12 (iH 8 I))))))))))) X) 1 8)
  rw [hn_new rfl z23]
  have z24 := (Zn z23)
  refine w_dup (Ev.cm _) rfl rfl ?_
  refine w_cinit (as := []) (o := 52) (st := [.ref 52, .int 11, .ref 7]) (Ev.cm _) rfl rfl rfl (Nat.le_of_ble_eq_true rfl) (show _ ∧ _ from ⟨by decide +kernel, by decide +kernel⟩) (Nat.le_of_ble_eq_true rfl) (e_iH (show isH 52 from Or.inr (Or.inr (Or.inl ⟨11, (Nat.le_of_ble_eq_true rfl), rfl⟩))) (fun x hx => by rcases List.mem_cons.mp hx with e | e <;> [(rw [e]; exact (Nat.le_of_ble_eq_true rfl)); exact Nat.lt_trans (hos x e) (Nat.le_of_ble_eq_true rfl)]) z24 ?_)
  have z25 := (iH_z (b := 52) z24)
  show Wp _ _ _ _ _ _ _ 33 [(0, .ref 6), (1, .int 11)] [.ref 52, .int 11, .ref 7] (HN 56 (52 :: 6 :: os) (iH 52 (iH 48 (iH 44 (iH 40 (iH 36 (iH 32 (iH 28 (iH 24 (iH 20 (iH 16 (iH 12 (iH 8 I)))))))))))) X)
  refine w_aast (Ev.cm _) rfl (Nat.le_of_ble_eq_true rfl) rfl (by decide) (Nat.le_of_ble_eq_true rfl) rfl ?_
  show Wp _ _ _ _ _ _ _ 34 [(0, .ref 6), (1, .int 11)] [] (puR (HN 56 (52 :: 6 :: os) (iH 52 (iH 48 (iH 44 (iH 40 (iH 36 (iH 32 (iH 28 (iH 24 (iH 20 (iH 16 (iH 12 (iH 8 I)))))))))))) X) 7 11 (some 52))
  rw [hn_link rfl (Nat.le_of_ble_eq_true rfl) (nin hos (Nat.le_of_ble_eq_true rfl))]
  refine w_iinc (ls2 := [(0, .ref 6), (1, .int 12)]) (Ev.cm _) rfl rfl rfl ?_
  refine w_goto (Ev.cm _) rfl ?_
  refine w_iload_n (Ev.cm _) rfl rfl ?_
  refine w_bipush (Ev.cm _) rfl ?_
  refine w_icmp_ge (Ev.cm _) rfl (fun q => absurd q (by decide)) (fun _ => ?_)
  refine w_aload_n (Ev.cm _) rfl rfl ?_
  refine w_getR (q := 7) (Ev.cm _) rfl (Nat.le_of_ble_eq_true rfl) rfl (rd_get rfl (Nat.le_of_ble_eq_true rfl) (nin hos (Nat.le_of_ble_eq_true rfl))) ?_
  refine w_iload_n (Ev.cm _) rfl rfl ?_
  refine w_new (Ev.cm _) rfl (show _ ∧ _ from ⟨by decide +kernel, by decide +kernel⟩) ?_
  show Wp _ _ _ _ _ _ _ 29 [(0, .ref 6), (1, .int 12)] [.ref 56, .int 12, .ref 7] (puN (HN 56 (6 :: os) (iH 52 (iH 48 (iH 44 (iH 40 (iH 36 (iH 32 (iH 28 (iH 24 (iH 20 (iH 16 (iH 12 (iH 8 I)))))))))))) X) 1 8)
  rw [hn_new rfl z25]
  have z26 := (Zn z25)
  refine w_dup (Ev.cm _) rfl rfl ?_
  refine w_cinit (as := []) (o := 56) (st := [.ref 56, .int 12, .ref 7]) (Ev.cm _) rfl rfl rfl (Nat.le_of_ble_eq_true rfl) (show _ ∧ _ from ⟨by decide +kernel, by decide +kernel⟩) (Nat.le_of_ble_eq_true rfl) (e_iH (show isH 56 from Or.inr (Or.inr (Or.inl ⟨12, (Nat.le_of_ble_eq_true rfl), rfl⟩))) (fun x hx => by rcases List.mem_cons.mp hx with e | e <;> [(rw [e]; exact (Nat.le_of_ble_eq_true rfl)); exact Nat.lt_trans (hos x e) (Nat.le_of_ble_eq_true rfl)]) z26 ?_)
  have z27 := (iH_z (b := 56) z26)
  show Wp _ _ _ _ _ _ _ 33 [(0, .ref 6), (1, .int 12)] [.ref 56, .int 12, .ref 7] (HN 60 (56 :: 6 :: os) (iH 56 (iH 52 (iH 48 (iH 44 (iH 40 (iH 36 (iH 32 (iH 28 (iH 24 (iH 20 (iH 16 (iH 12 (iH 8 I))))))))))))) X)
  refine w_aast (Ev.cm _) rfl (Nat.le_of_ble_eq_true rfl) rfl (by decide) (Nat.le_of_ble_eq_true rfl) rfl ?_
  show Wp _ _ _ _ _ _ _ 34 [(0, .ref 6), (1, .int 12)] [] (puR (HN 60 (56 :: 6 :: os) (iH 56 (iH 52 (iH 48 (iH 44 (iH 40 (iH 36 (iH 32 (iH 28 (iH 24 (iH 20 (iH 16 (iH 12 (iH 8 I))))))))))))) X) 7 12 (some 56))
  rw [hn_link rfl (Nat.le_of_ble_eq_true rfl) (nin hos (Nat.le_of_ble_eq_true rfl))]
  refine w_iinc (ls2 := [(0, .ref 6), (1, .int 13)]) (Ev.cm _) rfl rfl rfl ?_
  refine w_goto (Ev.cm _) rfl ?_
  refine w_iload_n (Ev.cm _) rfl rfl ?_
  refine w_bipush (Ev.cm _) rfl ?_
  refine w_icmp_ge (Ev.cm _) rfl (fun q => absurd q (by decide)) (fun _ => ?_)
  refine w_aload_n (Ev.cm _) rfl rfl ?_
  refine w_getR (q := 7) (Ev.cm _) rfl (Nat.le_of_ble_eq_true rfl) rfl (rd_get rfl (Nat.le_of_ble_eq_true rfl) (nin hos (Nat.le_of_ble_eq_true rfl))) ?_
  refine w_iload_n (Ev.cm _) rfl rfl ?_
  refine w_new (Ev.cm _) rfl (show _ ∧ _ from ⟨by decide +kernel, by decide +kernel⟩) ?_
  show Wp _ _ _ _ _ _ _ 29 [(0, .ref 6), (1, .int 13)] [.ref 60, .int 13, .ref 7] (puN (HN 60 (6 :: os) (iH 56 (iH 52 (iH 48 (iH 44 (iH 40 (iH 36 (iH 32 (iH 28 (iH 24 (iH 20 (iH 16 (iH 12 (iH 8 I))))))))))))) X) 1 8)
  rw [hn_new rfl z27]
  have z28 := (Zn z27)
  refine w_dup (Ev.cm _) rfl rfl ?_
  refine w_cinit (as := []) (o := 60) (st := [.ref 60, .int 13, .ref 7]) (Ev.cm _) rfl rfl rfl (Nat.le_of_ble_eq_true rfl) (show _ ∧ _ from ⟨by decide +kernel, by decide +kernel⟩) (Nat.le_of_ble_eq_true rfl) (e_iH (show isH 60 from Or.inr (Or.inr (Or.inl ⟨13, (Nat.le_of_ble_eq_true rfl), rfl⟩))) (fun x hx => by rcases List.mem_cons.mp hx with e | e <;> [(rw [e]; exact (Nat.le_of_ble_eq_true rfl)); exact Nat.lt_trans (hos x e) (Nat.le_of_ble_eq_true rfl)]) z28 ?_)
  have z29 := (iH_z (b := 60) z28)
  show Wp _ _ _ _ _ _ _ 33 [(0, .ref 6), (1, .int 13)] [.ref 60, .int 13, .ref 7] (HN 64 (60 :: 6 :: os) (iH 60 (iH 56 (iH 52 (iH 48 (iH 44 (iH 40 (iH 36 (iH 32 (iH 28 (iH 24 (iH 20 (iH 16 (iH 12 (iH 8 I)))))))))))))) X)
  refine w_aast (Ev.cm _) rfl (Nat.le_of_ble_eq_true rfl) rfl (by decide) (Nat.le_of_ble_eq_true rfl) rfl ?_
  show Wp _ _ _ _ _ _ _ 34 [(0, .ref 6), (1, .int 13)] [] (puR (HN 64 (60 :: 6 :: os) (iH 60 (iH 56 (iH 52 (iH 48 (iH 44 (iH 40 (iH 36 (iH 32 (iH 28 (iH 24 (iH 20 (iH 16 (iH 12 (iH 8 I)))))))))))))) X) 7 13 (some 60))
  rw [hn_link rfl (Nat.le_of_ble_eq_true rfl) (nin hos (Nat.le_of_ble_eq_true rfl))]
  refine w_iinc (ls2 := [(0, .ref 6), (1, .int 14)]) (Ev.cm _) rfl rfl rfl ?_
  refine w_goto (Ev.cm _) rfl ?_
  refine w_iload_n (Ev.cm _) rfl rfl ?_
  refine w_bipush (Ev.cm _) rfl ?_
  refine w_icmp_ge (Ev.cm _) rfl (fun q => absurd q (by decide)) (fun _ => ?_)
  refine w_aload_n (Ev.cm _) rfl rfl ?_
  refine w_getR (q := 7) (Ev.cm _) rfl (Nat.le_of_ble_eq_true rfl) rfl (rd_get rfl (Nat.le_of_ble_eq_true rfl) (nin hos (Nat.le_of_ble_eq_true rfl))) ?_
  refine w_iload_n (Ev.cm _) rfl rfl ?_
  refine w_new (Ev.cm _) rfl (show _ ∧ _ from ⟨by decide +kernel, by decide +kernel⟩) ?_
  show Wp _ _ _ _ _ _ _ 29 [(0, .ref 6), (1, .int 14)] [.ref 64, .int 14, .ref 7] (puN (HN 64 (6 :: os) (iH 60 (iH 56 (iH 52 (iH 48 (iH 44 (iH 40 (iH 36 (iH 32 (iH 28 (iH 24 (iH 20 (iH 16 (iH 12 (iH 8 I)))))))))))))) X) 1 8)
  rw [hn_new rfl z29]
  have z30 := (Zn z29)
  refine w_dup (Ev.cm _) rfl rfl ?_
  refine w_cinit (as := []) (o := 64) (st := [.ref 64, .int 14, .ref 7]) (Ev.cm _) rfl rfl rfl (Nat.le_of_ble_eq_true rfl) (show _ ∧ _ from ⟨by decide +kernel, by decide +kernel⟩) (Nat.le_of_ble_eq_true rfl) (e_iH (show isH 64 from Or.inr (Or.inr (Or.inl ⟨14, (Nat.le_of_ble_eq_true rfl), rfl⟩))) (fun x hx => by rcases List.mem_cons.mp hx with e | e <;> [(rw [e]; exact (Nat.le_of_ble_eq_true rfl)); exact Nat.lt_trans (hos x e) (Nat.le_of_ble_eq_true rfl)]) z30 ?_)
  have z31 := (iH_z (b := 64) z30)
  show Wp _ _ _ _ _ _ _ 33 [(0, .ref 6), (1, .int 14)] [.ref 64, .int 14, .ref 7] (HN 68 (64 :: 6 :: os) (iH 64 (iH 60 (iH 56 (iH 52 (iH 48 (iH 44 (iH 40 (iH 36 (iH 32 (iH 28 (iH 24 (iH 20 (iH 16 (iH 12 (iH 8 I))))))))))))))) X)
  refine w_aast (Ev.cm _) rfl (Nat.le_of_ble_eq_true rfl) rfl (by decide) (Nat.le_of_ble_eq_true rfl) rfl ?_
  show Wp _ _ _ _ _ _ _ 34 [(0, .ref 6), (1, .int 14)] [] (puR (HN 68 (64 :: 6 :: os) (iH 64 (iH 60 (iH 56 (iH 52 (iH 48 (iH 44 (iH 40 (iH 36 (iH 32 (iH 28 (iH 24 (iH 20 (iH 16 (iH 12 (iH 8 I))))))))))))))) X) 7 14 (some 64))
  rw [hn_link rfl (Nat.le_of_ble_eq_true rfl) (nin hos (Nat.le_of_ble_eq_true rfl))]
  refine w_iinc (ls2 := [(0, .ref 6), (1, .int 15)]) (Ev.cm _) rfl rfl rfl ?_
  refine w_goto (Ev.cm _) rfl ?_
  refine w_iload_n (Ev.cm _) rfl rfl ?_
  refine w_bipush (Ev.cm _) rfl ?_
  refine w_icmp_ge (Ev.cm _) rfl (fun q => absurd q (by decide)) (fun _ => ?_)
  refine w_aload_n (Ev.cm _) rfl rfl ?_
  refine w_getR (q := 7) (Ev.cm _) rfl (Nat.le_of_ble_eq_true rfl) rfl (rd_get rfl (Nat.le_of_ble_eq_true rfl) (nin hos (Nat.le_of_ble_eq_true rfl))) ?_
  refine w_iload_n (Ev.cm _) rfl rfl ?_
  refine w_new (Ev.cm _) rfl (show _ ∧ _ from ⟨by decide +kernel, by decide +kernel⟩) ?_
  show Wp _ _ _ _ _ _ _ 29 [(0, .ref 6), (1, .int 15)] [.ref 68, .int 15, .ref 7] (puN (HN 68 (6 :: os) (iH 64 (iH 60 (iH 56 (iH 52 (iH 48 (iH 44 (iH 40 (iH 36 (iH 32 (iH 28 (iH 24 (iH 20 (iH 16 (iH 12 (iH 8 I))))))))))))))) X) 1 8)
  rw [hn_new rfl z31]
  have z32 := (Zn z31)
  refine w_dup (Ev.cm _) rfl rfl ?_
  refine w_cinit (as := []) (o := 68) (st := [.ref 68, .int 15, .ref 7]) (Ev.cm _) rfl rfl rfl (Nat.le_of_ble_eq_true rfl) (show _ ∧ _ from ⟨by decide +kernel, by decide +kernel⟩) (Nat.le_of_ble_eq_true rfl) (e_iH (show isH 68 from Or.inr (Or.inr (Or.inl ⟨15, (Nat.le_of_ble_eq_true rfl), rfl⟩))) (fun x hx => by rcases List.mem_cons.mp hx with e | e <;> [(rw [e]; exact (Nat.le_of_ble_eq_true rfl)); exact Nat.lt_trans (hos x e) (Nat.le_of_ble_eq_true rfl)]) z32 ?_)
  have z33 := (iH_z (b := 68) z32)
  show Wp _ _ _ _ _ _ _ 33 [(0, .ref 6), (1, .int 15)] [.ref 68, .int 15, .ref 7] (HN 72 (68 :: 6 :: os) (iH 68 (iH 64 (iH 60 (iH 56 (iH 52 (iH 48 (iH 44 (iH 40 (iH 36 (iH 32 (iH 28 (iH 24 (iH 20 (iH 16 (iH 12 (iH 8 I)))))))))))))))) X)
  refine w_aast (Ev.cm _) rfl (Nat.le_of_ble_eq_true rfl) rfl (by decide) (Nat.le_of_ble_eq_true rfl) rfl ?_
  show Wp _ _ _ _ _ _ _ 34 [(0, .ref 6), (1, .int 15)] [] (puR (HN 72 (68 :: 6 :: os) (iH 68 (iH 64 (iH 60 (iH 56 (iH 52 (iH 48 (iH 44 (iH 40 (iH 36 (iH 32 (iH 28 (iH 24 (iH 20 (iH 16 (iH 12 (iH 8 I)))))))))))))))) X) 7 15 (some 68))
  rw [hn_link rfl (Nat.le_of_ble_eq_true rfl) (nin hos (Nat.le_of_ble_eq_true rfl))]
  refine w_iinc (ls2 := [(0, .ref 6), (1, .int 16)]) (Ev.cm _) rfl rfl rfl ?_
  refine w_goto (Ev.cm _) rfl ?_
  refine w_iload_n (Ev.cm _) rfl rfl ?_
  refine w_bipush (Ev.cm _) rfl ?_
  refine w_icmp_ge (Ev.cm _) rfl (fun q => absurd q (by decide)) (fun _ => ?_)
  refine w_aload_n (Ev.cm _) rfl rfl ?_
  refine w_getR (q := 7) (Ev.cm _) rfl (Nat.le_of_ble_eq_true rfl) rfl (rd_get rfl (Nat.le_of_ble_eq_true rfl) (nin hos (Nat.le_of_ble_eq_true rfl))) ?_
  refine w_iload_n (Ev.cm _) rfl rfl ?_
  refine w_new (Ev.cm _) rfl (show _ ∧ _ from ⟨by decide +kernel, by decide +kernel⟩) ?_
  show Wp _ _ _ _ _ _ _ 29 [(0, .ref 6), (1, .int 16)] [.ref 72, .int 16, .ref 7] (puN (HN 72 (6 :: os) (iH 68 (iH 64 (iH 60 (iH 56 (iH 52 (iH 48 (iH 44 (iH 40 (iH 36 (iH 32 (iH 28 (iH 24 (iH 20 (iH 16 (iH 12 (iH 8 I)))))))))))))))) X) 1 8)
  rw [hn_new rfl z33]
  have z34 := (Zn z33)
  refine w_dup (Ev.cm _) rfl rfl ?_
  refine w_cinit (as := []) (o := 72) (st := [.ref 72, .int 16, .ref 7]) (Ev.cm _) rfl rfl rfl (Nat.le_of_ble_eq_true rfl) (show _ ∧ _ from ⟨by decide +kernel, by decide +kernel⟩) (Nat.le_of_ble_eq_true rfl) (e_iH (show isH 72 from Or.inr (Or.inr (Or.inl ⟨16, (Nat.le_of_ble_eq_true rfl), rfl⟩))) (fun x hx => by rcases List.mem_cons.mp hx with e | e <;> [(rw [e]; exact (Nat.le_of_ble_eq_true rfl)); exact Nat.lt_trans (hos x e) (Nat.le_of_ble_eq_true rfl)]) z34 ?_)
  have z35 := (iH_z (b := 72) z34)
  show Wp _ _ _ _ _ _ _ 33 [(0, .ref 6), (1, .int 16)] [.ref 72, .int 16, .ref 7] (HN 76 (72 :: 6 :: os) (iH 72 (iH 68 (iH 64 (iH 60 (iH 56 (iH 52 (iH 48 (iH 44 (iH 40 (iH 36 (iH 32 (iH 28 (iH 24 (iH 20 (iH 16 (iH 12 (iH 8 I))))))))))))))))) X)
  refine w_aast (Ev.cm _) rfl (Nat.le_of_ble_eq_true rfl) rfl (by decide) (Nat.le_of_ble_eq_true rfl) rfl ?_
  show Wp _ _ _ _ _ _ _ 34 [(0, .ref 6), (1, .int 16)] [] (puR (HN 76 (72 :: 6 :: os) (iH 72 (iH 68 (iH 64 (iH 60 (iH 56 (iH 52 (iH 48 (iH 44 (iH 40 (iH 36 (iH 32 (iH 28 (iH 24 (iH 20 (iH 16 (iH 12 (iH 8 I))))))))))))))))) X) 7 16 (some 72))
  rw [hn_link rfl (Nat.le_of_ble_eq_true rfl) (nin hos (Nat.le_of_ble_eq_true rfl))]
  refine w_iinc (ls2 := [(0, .ref 6), (1, .int 17)]) (Ev.cm _) rfl rfl rfl ?_
  refine w_goto (Ev.cm _) rfl ?_
  refine w_iload_n (Ev.cm _) rfl rfl ?_
  refine w_bipush (Ev.cm _) rfl ?_
  refine w_icmp_ge (Ev.cm _) rfl (fun q => absurd q (by decide)) (fun _ => ?_)
  refine w_aload_n (Ev.cm _) rfl rfl ?_
  refine w_getR (q := 7) (Ev.cm _) rfl (Nat.le_of_ble_eq_true rfl) rfl (rd_get rfl (Nat.le_of_ble_eq_true rfl) (nin hos (Nat.le_of_ble_eq_true rfl))) ?_
  refine w_iload_n (Ev.cm _) rfl rfl ?_
  refine w_new (Ev.cm _) rfl (show _ ∧ _ from ⟨by decide +kernel, by decide +kernel⟩) ?_
  show Wp _ _ _ _ _ _ _ 29 [(0, .ref 6), (1, .int 17)] [.ref 76, .int 17, .ref 7] (puN (HN 76 (6 :: os) (iH 72 (iH 68 (iH 64 (iH 60 (iH 56 (iH 52 (iH 48 (iH 44 (iH 40 (iH 36 (iH 32 (iH 28 (iH 24 (iH 20 (iH 16 (iH 12 (iH 8 I))))))))))))))))) X) 1 8)
  rw [hn_new rfl z35]
  have z36 := (Zn z35)
  refine w_dup (Ev.cm _) rfl rfl ?_
  refine w_cinit (as := []) (o := 76) (st := [.ref 76, .int 17, .ref 7]) (Ev.cm _) rfl rfl rfl (Nat.le_of_ble_eq_true rfl) (show _ ∧ _ from ⟨by decide +kernel, by decide +kernel⟩) (Nat.le_of_ble_eq_true rfl) (e_iH (show isH 76 from Or.inr (Or.inr (Or.inl ⟨17, (Nat.le_of_ble_eq_true rfl), rfl⟩))) (fun x hx => by rcases List.mem_cons.mp hx with e | e <;> [(rw [e]; exact (Nat.le_of_ble_eq_true rfl)); exact Nat.lt_trans (hos x e) (Nat.le_of_ble_eq_true rfl)]) z36 ?_)
  have z37 := (iH_z (b := 76) z36)
  show Wp _ _ _ _ _ _ _ 33 [(0, .ref 6), (1, .int 17)] [.ref 76, .int 17, .ref 7] (HN 80 (76 :: 6 :: os) (iH 76 (iH 72 (iH 68 (iH 64 (iH 60 (iH 56 (iH 52 (iH 48 (iH 44 (iH 40 (iH 36 (iH 32 (iH 28 (iH 24 (iH 20 (iH 16 (iH 12 (iH 8 I)))))))))))))))))) X)
  refine w_aast (Ev.cm _) rfl (Nat.le_of_ble_eq_true rfl) rfl (by decide) (Nat.le_of_ble_eq_true rfl) rfl ?_
  show Wp _ _ _ _ _ _ _ 34 [(0, .ref 6), (1, .int 17)] [] (puR (HN 80 (76 :: 6 :: os) (iH 76 (iH 72 (iH 68 (iH 64 (iH 60 (iH 56 (iH 52 (iH 48 (iH 44 (iH 40 (iH 36 (iH 32 (iH 28 (iH 24 (iH 20 (iH 16 (iH 12 (iH 8 I)))))))))))))))))) X) 7 17 (some 76))
  rw [hn_link rfl (Nat.le_of_ble_eq_true rfl) (nin hos (Nat.le_of_ble_eq_true rfl))]
  refine w_iinc (ls2 := [(0, .ref 6), (1, .int 18)]) (Ev.cm _) rfl rfl rfl ?_
  refine w_goto (Ev.cm _) rfl ?_
  refine w_iload_n (Ev.cm _) rfl rfl ?_
  refine w_bipush (Ev.cm _) rfl ?_
  refine w_icmp_ge (Ev.cm _) rfl (fun q => absurd q (by decide)) (fun _ => ?_)
  refine w_aload_n (Ev.cm _) rfl rfl ?_
  refine w_getR (q := 7) (Ev.cm _) rfl (Nat.le_of_ble_eq_true rfl) rfl (rd_get rfl (Nat.le_of_ble_eq_true rfl) (nin hos (Nat.le_of_ble_eq_true rfl))) ?_
  refine w_iload_n (Ev.cm _) rfl rfl ?_
  refine w_new (Ev.cm _) rfl (show _ ∧ _ from ⟨by decide +kernel, by decide +kernel⟩) ?_
  show Wp _ _ _ _ _ _ _ 29 [(0, .ref 6), (1, .int 18)] [.ref 80, .int 18, .ref 7] (puN (HN 80 (6 :: os) (iH 76 (iH 72 (iH 68 (iH 64 (iH 60 (iH 56 (iH 52 (iH 48 (iH 44 (iH 40 (iH 36 (iH 32 (iH 28 (iH 24 (iH 20 (iH 16 (iH 12 (iH 8 I)))))))))))))))))) X) 1 8)
  rw [hn_new rfl z37]
  have z38 := (Zn z37)
  refine w_dup (Ev.cm _) rfl rfl ?_
  refine w_cinit (as := []) (o := 80) (st := [.ref 80, .int 18, .ref 7]) (Ev.cm _) rfl rfl rfl (Nat.le_of_ble_eq_true rfl) (show _ ∧ _ from ⟨by decide +kernel, by decide +kernel⟩) (Nat.le_of_ble_eq_true rfl) (e_iH (show isH 80 from Or.inr (Or.inr (Or.inl ⟨18, (Nat.le_of_ble_eq_true rfl), rfl⟩))) (fun x hx => by rcases List.mem_cons.mp hx with e | e <;> [(rw [e]; exact (Nat.le_of_ble_eq_true rfl)); exact Nat.lt_trans (hos x e) (Nat.le_of_ble_eq_true rfl)]) z38 ?_)
  have z39 := (iH_z (b := 80) z38)
  show Wp _ _ _ _ _ _ _ 33 [(0, .ref 6), (1, .int 18)] [.ref 80, .int 18, .ref 7] (HN 84 (80 :: 6 :: os) (iH 80 (iH 76 (iH 72 (iH 68 (iH 64 (iH 60 (iH 56 (iH 52 (iH 48 (iH 44 (iH 40 (iH 36 (iH 32 (iH 28 (iH 24 (iH 20 (iH 16 (iH 12 (iH 8 I))))))))))))))))))) X)
  refine w_aast (Ev.cm _) rfl (Nat.le_of_ble_eq_true rfl) rfl (by decide) (Nat.le_of_ble_eq_true rfl) rfl ?_
  show Wp _ _ _ _ _ _ _ 34 [(0, .ref 6), (1, .int 18)] [] (puR (HN 84 (80 :: 6 :: os) (iH 80 (iH 76 (iH 72 (iH 68 (iH 64 (iH 60 (iH 56 (iH 52 (iH 48 (iH 44 (iH 40 (iH 36 (iH 32 (iH 28 (iH 24 (iH 20 (iH 16 (iH 12 (iH 8 I))))))))))))))))))) X) 7 18 (some 80))
  rw [hn_link rfl (Nat.le_of_ble_eq_true rfl) (nin hos (Nat.le_of_ble_eq_true rfl))]
  refine w_iinc (ls2 := [(0, .ref 6), (1, .int 19)]) (Ev.cm _) rfl rfl rfl ?_
  refine w_goto (Ev.cm _) rfl ?_
  refine w_iload_n (Ev.cm _) rfl rfl ?_
  refine w_bipush (Ev.cm _) rfl ?_
  refine w_icmp_ge (Ev.cm _) rfl (fun q => absurd q (by decide)) (fun _ => ?_)
  refine w_aload_n (Ev.cm _) rfl rfl ?_
  refine w_getR (q := 7) (Ev.cm _) rfl (Nat.le_of_ble_eq_true rfl) rfl (rd_get rfl (Nat.le_of_ble_eq_true rfl) (nin hos (Nat.le_of_ble_eq_true rfl))) ?_
  refine w_iload_n (Ev.cm _) rfl rfl ?_
  refine w_new (Ev.cm _) rfl (show _ ∧ _ from ⟨by decide +kernel, by decide +kernel⟩) ?_
  show Wp _ _ _ _ _ _ _ 29 [(0, .ref 6), (1, .int 19)] [.ref 84, .int 19, .ref 7] (puN (HN 84 (6 :: os) (iH 80 (iH 76 (iH 72 (iH 68 (iH 64 (iH 60 (iH 56 (iH 52 (iH 48 (iH 44 (iH 40 (iH 36 (iH 32 (iH 28 (iH 24 (iH 20 (iH 16 (iH 12 (iH 8 I))))))))))))))))))) X) 1 8)
  rw [hn_new rfl z39]
  have z40 := (Zn z39)
  refine w_dup (Ev.cm _) rfl rfl ?_
  refine w_cinit (as := []) (o := 84) (st := [.ref 84, .int 19, .ref 7]) (Ev.cm _) rfl rfl rfl (Nat.le_of_ble_eq_true rfl) (show _ ∧ _ from ⟨by decide +kernel, by decide +kernel⟩) (Nat.le_of_ble_eq_true rfl) (e_iH (show isH 84 from Or.inr (Or.inr (Or.inl ⟨19, (Nat.le_of_ble_eq_true rfl), rfl⟩))) (fun x hx => by rcases List.mem_cons.mp hx with e | e <;> [(rw [e]; exact (Nat.le_of_ble_eq_true rfl)); exact Nat.lt_trans (hos x e) (Nat.le_of_ble_eq_true rfl)]) z40 ?_)
  have z41 := (iH_z (b := 84) z40)
  show Wp _ _ _ _ _ _ _ 33 [(0, .ref 6), (1, .int 19)] [.ref 84, .int 19, .ref 7] (HN 88 (84 :: 6 :: os) (iH 84 (iH 80 (iH 76 (iH 72 (iH 68 (iH 64 (iH 60 (iH 56 (iH 52 (iH 48 (iH 44 (iH 40 (iH 36 (iH 32 (iH 28 (iH 24 (iH 20 (iH 16 (iH 12 (iH 8 I)))))))))))))))))))) X)
  refine w_aast (Ev.cm _) rfl (Nat.le_of_ble_eq_true rfl) rfl (by decide) (Nat.le_of_ble_eq_true rfl) rfl ?_
  show Wp _ _ _ _ _ _ _ 34 [(0, .ref 6), (1, .int 19)] [] (puR (HN 88 (84 :: 6 :: os) (iH 84 (iH 80 (iH 76 (iH 72 (iH 68 (iH 64 (iH 60 (iH 56 (iH 52 (iH 48 (iH 44 (iH 40 (iH 36 (iH 32 (iH 28 (iH 24 (iH 20 (iH 16 (iH 12 (iH 8 I)))))))))))))))))))) X) 7 19 (some 84))
  rw [hn_link rfl (Nat.le_of_ble_eq_true rfl) (nin hos (Nat.le_of_ble_eq_true rfl))]
  refine w_iinc (ls2 := [(0, .ref 6), (1, .int 20)]) (Ev.cm _) rfl rfl rfl ?_
  refine w_goto (Ev.cm _) rfl ?_
  refine w_iload_n (Ev.cm _) rfl rfl ?_
  refine w_bipush (Ev.cm _) rfl ?_
  refine w_icmp_ge (Ev.cm _) rfl (fun q => absurd q (by decide)) (fun _ => ?_)
  refine w_aload_n (Ev.cm _) rfl rfl ?_
  refine w_getR (q := 7) (Ev.cm _) rfl (Nat.le_of_ble_eq_true rfl) rfl (rd_get rfl (Nat.le_of_ble_eq_true rfl) (nin hos (Nat.le_of_ble_eq_true rfl))) ?_
  refine w_iload_n (Ev.cm _) rfl rfl ?_
  refine w_new (Ev.cm _) rfl (show _ ∧ _ from ⟨by decide +kernel, by decide +kernel⟩) ?_
  show Wp _ _ _ _ _ _ _ 29 [(0, .ref 6), (1, .int 20)] [.ref 88, .int 20, .ref 7] (puN (HN 88 (6 :: os) (iH 84 (iH 80 (iH 76 (iH 72 (iH 68 (iH 64 (iH 60 (iH 56 (iH 52 (iH 48 (iH 44 (iH 40 (iH 36 (iH 32 (iH 28 (iH 24 (iH 20 (iH 16 (iH 12 (iH 8 I)))))))))))))))))))) X) 1 8)
  rw [hn_new rfl z41]
  have z42 := (Zn z41)
  refine w_dup (Ev.cm _) rfl rfl ?_
  refine w_cinit (as := []) (o := 88) (st := [.ref 88, .int 20, .ref 7]) (Ev.cm _) rfl rfl rfl (Nat.le_of_ble_eq_true rfl) (show _ ∧ _ from ⟨by decide +kernel, by decide +kernel⟩) (Nat.le_of_ble_eq_true rfl) (e_iH (show isH 88 from Or.inr (Or.inr (Or.inl ⟨20, (Nat.le_of_ble_eq_true rfl), rfl⟩))) (fun x hx => by rcases List.mem_cons.mp hx with e | e <;> [(rw [e]; exact (Nat.le_of_ble_eq_true rfl)); exact Nat.lt_trans (hos x e) (Nat.le_of_ble_eq_true rfl)]) z42 ?_)
  have z43 := (iH_z (b := 88) z42)
  show Wp _ _ _ _ _ _ _ 33 [(0, .ref 6), (1, .int 20)] [.ref 88, .int 20, .ref 7] (HN 92 (88 :: 6 :: os) (iH 88 (iH 84 (iH 80 (iH 76 (iH 72 (iH 68 (iH 64 (iH 60 (iH 56 (iH 52 (iH 48 (iH 44 (iH 40 (iH 36 (iH 32 (iH 28 (iH 24 (iH 20 (iH 16 (iH 12 (iH 8 I))))))))))))))))))))) X)
  refine w_aast (Ev.cm _) rfl (Nat.le_of_ble_eq_true rfl) rfl (by decide) (Nat.le_of_ble_eq_true rfl) rfl ?_
  show Wp _ _ _ _ _ _ _ 34 [(0, .ref 6), (1, .int 20)] [] (puR (HN 92 (88 :: 6 :: os) (iH 88 (iH 84 (iH 80 (iH 76 (iH 72 (iH 68 (iH 64 (iH 60 (iH 56 (iH 52 (iH 48 (iH 44 (iH 40 (iH 36 (iH 32 (iH 28 (iH 24 (iH 20 (iH 16 (iH 12 (iH 8 I))))))))))))))))))))) X) 7 20 (some 88))
  rw [hn_link rfl (Nat.le_of_ble_eq_true rfl) (nin hos (Nat.le_of_ble_eq_true rfl))]
  refine w_iinc (ls2 := [(0, .ref 6), (1, .int 21)]) (Ev.cm _) rfl rfl rfl ?_
  refine w_goto (Ev.cm _) rfl ?_
  refine w_iload_n (Ev.cm _) rfl rfl ?_
  refine w_bipush (Ev.cm _) rfl ?_
  refine w_icmp_ge (Ev.cm _) rfl (fun q => absurd q (by decide)) (fun _ => ?_)
  refine w_aload_n (Ev.cm _) rfl rfl ?_
  refine w_getR (q := 7) (Ev.cm _) rfl (Nat.le_of_ble_eq_true rfl) rfl (rd_get rfl (Nat.le_of_ble_eq_true rfl) (nin hos (Nat.le_of_ble_eq_true rfl))) ?_
  refine w_iload_n (Ev.cm _) rfl rfl ?_
  refine w_new (Ev.cm _) rfl (show _ ∧ _ from ⟨by decide +kernel, by decide +kernel⟩) ?_
  show Wp _ _ _ _ _ _ _ 29 [(0, .ref 6), (1, .int 21)] [.ref 92, .int 21, .ref 7] (puN (HN 92 (6 :: os) (iH 88 (iH 84 (iH 80 (iH 76 (iH 72 (iH 68 (iH 64 (iH 60 (iH 56 (iH 52 (iH 48 (iH 44 (iH 40 (iH 36 (iH 32 (iH 28 (iH 24 (iH 20 (iH 16 (iH 12 (iH 8 I))))))))))))))))))))) X) 1 8)
  rw [hn_new rfl z43]
  have z44 := (Zn z43)
  refine w_dup (Ev.cm _) rfl rfl ?_
  refine w_cinit (as := []) (o := 92) (st := [.ref 92, .int 21, .ref 7]) (Ev.cm _) rfl rfl rfl (Nat.le_of_ble_eq_true rfl) (show _ ∧ _ from ⟨by decide +kernel, by decide +kernel⟩) (Nat.le_of_ble_eq_true rfl) (e_iH (show isH 92 from Or.inr (Or.inr (Or.inl ⟨21, (Nat.le_of_ble_eq_true rfl), rfl⟩))) (fun x hx => by rcases List.mem_cons.mp hx with e | e <;> [(rw [e]; exact (Nat.le_of_ble_eq_true rfl)); exact Nat.lt_trans (hos x e) (Nat.le_of_ble_eq_true rfl)]) z44 ?_)
  have z45 := (iH_z (b := 92) z44)
  show Wp _ _ _ _ _ _ _ 33 [(0, .ref 6), (1, .int 21)] [.ref 92, .int 21, .ref 7] (HN 96 (92 :: 6 :: os) (iH 92 (iH 88 (iH 84 (iH 80 (iH 76 (iH 72 (iH 68 (iH 64 (iH 60 (iH 56 (iH 52 (iH 48 (iH 44 (iH 40 (iH 36 (iH 32 (iH 28 (iH 24 (iH 20 (iH 16 (iH 12 (iH 8 I)))))))))))))))))))))) X)
  refine w_aast (Ev.cm _) rfl (Nat.le_of_ble_eq_true rfl) rfl (by decide) (Nat.le_of_ble_eq_true rfl) rfl ?_
  show Wp _ _ _ _ _ _ _ 34 [(0, .ref 6), (1, .int 21)] [] (puR (HN 96 (92 :: 6 :: os) (iH 92 (iH 88 (iH 84 (iH 80 (iH 76 (iH 72 (iH 68 (iH 64 (iH 60 (iH 56 (iH 52 (iH 48 (iH 44 (iH 40 (iH 36 (iH 32 (iH 28 (iH 24 (iH 20 (iH 16 (iH 12 (iH 8 I)))))))))))))))))))))) X) 7 21 (some 92))
  rw [hn_link rfl (Nat.le_of_ble_eq_true rfl) (nin hos (Nat.le_of_ble_eq_true rfl))]
  refine w_iinc (ls2 := [(0, .ref 6), (1, .int 22)]) (Ev.cm _) rfl rfl rfl ?_
  refine w_goto (Ev.cm _) rfl ?_
  refine w_iload_n (Ev.cm _) rfl rfl ?_
  refine w_bipush (Ev.cm _) rfl ?_
  refine w_icmp_ge (Ev.cm _) rfl (fun q => absurd q (by decide)) (fun _ => ?_)
  refine w_aload_n (Ev.cm _) rfl rfl ?_
  refine w_getR (q := 7) (Ev.cm _) rfl (Nat.le_of_ble_eq_true rfl) rfl (rd_get rfl (Nat.le_of_ble_eq_true rfl) (nin hos (Nat.le_of_ble_eq_true rfl))) ?_
  refine w_iload_n (Ev.cm _) rfl rfl ?_
  refine w_new (Ev.cm _) rfl (show _ ∧ _ from ⟨by decide +kernel, by decide +kernel⟩) ?_
  show Wp _ _ _ _ _ _ _ 29 [(0, .ref 6), (1, .int 22)] [.ref 96, .int 22, .ref 7] (puN (HN 96 (6 :: os) (iH 92 (iH 88 (iH 84 (iH 80 (iH 76 (iH 72 (iH 68 (iH 64 (iH 60 (iH 56 (iH 52 (iH 48 (iH 44 (iH 40 (iH 36 (iH 32 (iH 28 (iH 24 (iH 20 (iH 16 (iH 12 (iH 8 I)))))))))))))))))))))) X) 1 8)
  rw [hn_new rfl z45]
  have z46 := (Zn z45)
  refine w_dup (Ev.cm _) rfl rfl ?_
  refine w_cinit (as := []) (o := 96) (st := [.ref 96, .int 22, .ref 7]) (Ev.cm _) rfl rfl rfl (Nat.le_of_ble_eq_true rfl) (show _ ∧ _ from ⟨by decide +kernel, by decide +kernel⟩) (Nat.le_of_ble_eq_true rfl) (e_iH (show isH 96 from Or.inr (Or.inr (Or.inl ⟨22, (Nat.le_of_ble_eq_true rfl), rfl⟩))) (fun x hx => by rcases List.mem_cons.mp hx with e | e <;> [(rw [e]; exact (Nat.le_of_ble_eq_true rfl)); exact Nat.lt_trans (hos x e) (Nat.le_of_ble_eq_true rfl)]) z46 ?_)
  have z47 := (iH_z (b := 96) z46)
  show Wp _ _ _ _ _ _ _ 33 [(0, .ref 6), (1, .int 22)] [.ref 96, .int 22, .ref 7] (HN 100 (96 :: 6 :: os) (iH 96 (iH 92 (iH 88 (iH 84 (iH 80 (iH 76 (iH 72 (iH 68 (iH 64 (iH 60 (iH 56 (iH 52 (iH 48 (iH 44 (iH 40 (iH 36 (iH 32 (iH 28 (iH 24 (iH 20 (iH 16 (iH 12 (iH 8 I))))))))))))))))))))))) X)
  refine w_aast (Ev.cm _) rfl (Nat.le_of_ble_eq_true rfl) rfl (by decide) (Nat.le_of_ble_eq_true rfl) rfl ?_
  show Wp _ _ _ _ _ _ _ 34 [(0, .ref 6), (1, .int 22)] [] (puR (HN 100 (96 :: 6 :: os) (iH 96 (iH 92 (iH 88 (iH 84 (iH 80 (iH 76 (iH 72 (iH 68 (iH 64 (iH 60 (iH 56 (iH 52 (iH 48 (iH 44 (iH 40 (iH 36 (iH 32 (iH 28 (iH 24 (iH 20 (iH 16 (iH 12 (iH 8 I))))))))))))))))))))))) X) 7 22 (some 96))
  rw [hn_link rfl (Nat.le_of_ble_eq_true rfl) (nin hos (Nat.le_of_ble_eq_true rfl))]
  refine w_iinc (ls2 := [(0, .ref 6), (1, .int 23)]) (Ev.cm _) rfl rfl rfl ?_
  refine w_goto (Ev.cm _) rfl ?_
  refine w_iload_n (Ev.cm _) rfl rfl ?_
  refine w_bipush (Ev.cm _) rfl ?_
  refine w_icmp_ge (Ev.cm _) rfl (fun q => absurd q (by decide)) (fun _ => ?_)
  refine w_aload_n (Ev.cm _) rfl rfl ?_
  refine w_getR (q := 7) (Ev.cm _) rfl (Nat.le_of_ble_eq_true rfl) rfl (rd_get rfl (Nat.le_of_ble_eq_true rfl) (nin hos (Nat.le_of_ble_eq_true rfl))) ?_
  refine w_iload_n (Ev.cm _) rfl rfl ?_
  refine w_new (Ev.cm _) rfl (show _ ∧ _ from ⟨by decide +kernel, by decide +kernel⟩) ?_
  show Wp _ _ _ _ _ _ _ 29 [(0, .ref 6), (1, .int 23)] [.ref 100, .int 23, .ref 7] (puN (HN 100 (6 :: os) (iH 96 (iH 92 (iH 88 (iH 84 (iH 80 (iH 76 (iH 72 (iH 68 (iH 64 (iH 60 (iH 56 (iH 52 (iH 48 (iH 44 (iH 40 (iH 36 (iH 32 (iH 28 (iH 24 (iH 20 (iH 16 (iH 12 (iH 8 I))))))))))))))))))))))) X) 1 8)
  rw [hn_new rfl z47]
  have z48 := (Zn z47)
  refine w_dup (Ev.cm _) rfl rfl ?_
  refine w_cinit (as := []) (o := 100) (st := [.ref 100, .int 23, .ref 7]) (Ev.cm _) rfl rfl rfl (Nat.le_of_ble_eq_true rfl) (show _ ∧ _ from ⟨by decide +kernel, by decide +kernel⟩) (Nat.le_of_ble_eq_true rfl) (e_iH (show isH 100 from Or.inr (Or.inr (Or.inl ⟨23, (Nat.le_of_ble_eq_true rfl), rfl⟩))) (fun x hx => by rcases List.mem_cons.mp hx with e | e <;> [(rw [e]; exact (Nat.le_of_ble_eq_true rfl)); exact Nat.lt_trans (hos x e) (Nat.le_of_ble_eq_true rfl)]) z48 ?_)
  have z49 := (iH_z (b := 100) z48)
  show Wp _ _ _ _ _ _ _ 33 [(0, .ref 6), (1, .int 23)] [.ref 100, .int 23, .ref 7] (HN 104 (100 :: 6 :: os) (iH 100 (iH 96 (iH 92 (iH 88 (iH 84 (iH 80 (iH 76 (iH 72 (iH 68 (iH 64 (iH 60 (iH 56 (iH 52 (iH 48 (iH 44 (iH 40 (iH 36 (iH 32 (iH 28 (iH 24 (iH 20 (iH 16 (iH 12 (iH 8 I)))))))))))))))))))))))) X)
  refine w_aast (Ev.cm _) rfl (Nat.le_of_ble_eq_true rfl) rfl (by decide) (Nat.le_of_ble_eq_true rfl) rfl ?_
  show Wp _ _ _ _ _ _ _ 34 [(0, .ref 6), (1, .int 23)] [] (puR (HN 104 (100 :: 6 :: os) (iH 100 (iH 96 (iH 92 (iH 88 (iH 84 (iH 80 (iH 76 (iH 72 (iH 68 (iH 64 (iH 60 (iH 56 (iH 52 (iH 48 (iH 44 (iH 40 (iH 36 (iH 32 (iH 28 (iH 24 (iH 20 (iH 16 (iH 12 (iH 8 I)))))))))))))))))))))))) X) 7 23 (some 100))
  rw [hn_link rfl (Nat.le_of_ble_eq_true rfl) (nin hos (Nat.le_of_ble_eq_true rfl))]
  refine w_iinc (ls2 := [(0, .ref 6), (1, .int 24)]) (Ev.cm _) rfl rfl rfl ?_
  refine w_goto (Ev.cm _) rfl ?_
  refine w_iload_n (Ev.cm _) rfl rfl ?_
  refine w_bipush (Ev.cm _) rfl ?_
  refine w_icmp_ge (Ev.cm _) rfl (fun q => absurd q (by decide)) (fun _ => ?_)
  refine w_aload_n (Ev.cm _) rfl rfl ?_
  refine w_getR (q := 7) (Ev.cm _) rfl (Nat.le_of_ble_eq_true rfl) rfl (rd_get rfl (Nat.le_of_ble_eq_true rfl) (nin hos (Nat.le_of_ble_eq_true rfl))) ?_
  refine w_iload_n (Ev.cm _) rfl rfl ?_
  refine w_new (Ev.cm _) rfl (show _ ∧ _ from ⟨by decide +kernel, by decide +kernel⟩) ?_
  show Wp _ _ _ _ _ _ _ 29 [(0, .ref 6), (1, .int 24)] [.ref 104, .int 24, .ref 7] (puN (HN 104 (6 :: os) (iH 100 (iH 96 (iH 92 (iH 88 (iH 84 (iH 80 (iH 76 (iH 72 (iH 68 (iH 64 (iH 60 (iH 56 (iH 52 (iH 48 (iH 44 (iH 40 (iH 36 (iH 32 (iH 28 (iH 24 (iH 20 (iH 16 (iH 12 (iH 8 I)))))))))))))))))))))))) X) 1 8)
  rw [hn_new rfl z49]
  have z50 := (Zn z49)
  refine w_dup (Ev.cm _) rfl rfl ?_
  refine w_cinit (as := []) (o := 104) (st := [.ref 104, .int 24, .ref 7]) (Ev.cm _) rfl rfl rfl (Nat.le_of_ble_eq_true rfl) (show _ ∧ _ from ⟨by decide +kernel, by decide +kernel⟩) (Nat.le_of_ble_eq_true rfl) (e_iH (show isH 104 from Or.inr (Or.inr (Or.inl ⟨24, (Nat.le_of_ble_eq_true rfl), rfl⟩))) (fun x hx => by rcases List.mem_cons.mp hx with e | e <;> [(rw [e]; exact (Nat.le_of_ble_eq_true rfl)); exact Nat.lt_trans (hos x e) (Nat.le_of_ble_eq_true rfl)]) z50 ?_)
  have z51 := (iH_z (b := 104) z50)
  show Wp _ _ _ _ _ _ _ 33 [(0, .ref 6), (1, .int 24)] [.ref 104, .int 24, .ref 7] (HN 108 (104 :: 6 :: os) (iH 104 (iH 100 (iH 96 (iH 92 (iH 88 (iH 84 (iH 80 (iH 76 (iH 72 (iH 68 (iH 64 (iH 60 (iH 56 (iH 52 (iH 48 (iH 44 (iH 40 (iH 36 (iH 32 (iH 28 (iH 24 (iH 20 (iH 16 (iH 12 (iH 8 I))))))))))))))))))))))))) X)
  refine w_aast (Ev.cm _) rfl (Nat.le_of_ble_eq_true rfl) rfl (by decide) (Nat.le_of_ble_eq_true rfl) rfl ?_
  show Wp _ _ _ _ _ _ _ 34 [(0, .ref 6), (1, .int 24)] [] (puR (HN 108 (104 :: 6 :: os) (iH 104 (iH 100 (iH 96 (iH 92 (iH 88 (iH 84 (iH 80 (iH 76 (iH 72 (iH 68 (iH 64 (iH 60 (iH 56 (iH 52 (iH 48 (iH 44 (iH 40 (iH 36 (iH 32 (iH 28 (iH 24 (iH 20 (iH 16 (iH 12 (iH 8 I))))))))))))))))))))))))) X) 7 24 (some 104))
  rw [hn_link rfl (Nat.le_of_ble_eq_true rfl) (nin hos (Nat.le_of_ble_eq_true rfl))]
  refine w_iinc (ls2 := [(0, .ref 6), (1, .int 25)]) (Ev.cm _) rfl rfl rfl ?_
  refine w_goto (Ev.cm _) rfl ?_
  refine w_iload_n (Ev.cm _) rfl rfl ?_
  refine w_bipush (Ev.cm _) rfl ?_
  refine w_icmp_ge (Ev.cm _) rfl (fun q => absurd q (by decide)) (fun _ => ?_)
  refine w_aload_n (Ev.cm _) rfl rfl ?_
  refine w_getR (q := 7) (Ev.cm _) rfl (Nat.le_of_ble_eq_true rfl) rfl (rd_get rfl (Nat.le_of_ble_eq_true rfl) (nin hos (Nat.le_of_ble_eq_true rfl))) ?_
  refine w_iload_n (Ev.cm _) rfl rfl ?_
  refine w_new (Ev.cm _) rfl (show _ ∧ _ from ⟨by decide +kernel, by decide +kernel⟩) ?_
  show Wp _ _ _ _ _ _ _ 29 [(0, .ref 6), (1, .int 25)] [.ref 108, .int 25, .ref 7] (puN (HN 108 (6 :: os) (iH 104 (iH 100 (iH 96 (iH 92 (iH 88 (iH 84 (iH 80 (iH 76 (iH 72 (iH 68 (iH 64 (iH 60 (iH 56 (iH 52 (iH 48 (iH 44 (iH 40 (iH 36 (iH 32 (iH 28 (iH 24 (iH 20 (iH 16 (iH 12 (iH 8 I))))))))))))))))))))))))) X) 1 8)
  rw [hn_new rfl z51]
  have z52 := (Zn z51)
  refine w_dup (Ev.cm _) rfl rfl ?_
  refine w_cinit (as := []) (o := 108) (st := [.ref 108, .int 25, .ref 7]) (Ev.cm _) rfl rfl rfl (Nat.le_of_ble_eq_true rfl) (show _ ∧ _ from ⟨by decide +kernel, by decide +kernel⟩) (Nat.le_of_ble_eq_true rfl) (e_iH (show isH 108 from Or.inr (Or.inr (Or.inl ⟨25, (Nat.le_of_ble_eq_true rfl), rfl⟩))) (fun x hx => by rcases List.mem_cons.mp hx with e | e <;> [(rw [e]; exact (Nat.le_of_ble_eq_true rfl)); exact Nat.lt_trans (hos x e) (Nat.le_of_ble_eq_true rfl)]) z52 ?_)
  have z53 := (iH_z (b := 108) z52)
  show Wp _ _ _ _ _ _ _ 33 [(0, .ref 6), (1, .int 25)] [.ref 108, .int 25, .ref 7] (HN 112 (108 :: 6 :: os) (iH 108 (iH 104 (iH 100 (iH 96 (iH 92 (iH 88 (iH 84 (iH 80 (iH 76 (iH 72 (iH 68 (iH 64 (iH 60 (iH 56 (iH 52 (iH 48 (iH 44 (iH 40 (iH 36 (iH 32 (iH 28 (iH 24 (iH 20 (iH 16 (iH 12 (iH 8 I)))))))))))))))))))))))))) X)
  refine w_aast (Ev.cm _) rfl (Nat.le_of_ble_eq_true rfl) rfl (by decide) (Nat.le_of_ble_eq_true rfl) rfl ?_
  show Wp _ _ _ _ _ _ _ 34 [(0, .ref 6), (1, .int 25)] [] (puR (HN 112 (108 :: 6 :: os) (iH 108 (iH 104 (iH 100 (iH 96 (iH 92 (iH 88 (iH 84 (iH 80 (iH 76 (iH 72 (iH 68 (iH 64 (iH 60 (iH 56 (iH 52 (iH 48 (iH 44 (iH 40 (iH 36 (iH 32 (iH 28 (iH 24 (iH 20 (iH 16 (iH 12 (iH 8 I)))))))))))))))))))))))))) X) 7 25 (some 108))
  rw [hn_link rfl (Nat.le_of_ble_eq_true rfl) (nin hos (Nat.le_of_ble_eq_true rfl))]
  refine w_iinc (ls2 := [(0, .ref 6), (1, .int 26)]) (Ev.cm _) rfl rfl rfl ?_
  refine w_goto (Ev.cm _) rfl ?_
  refine w_iload_n (Ev.cm _) rfl rfl ?_
  refine w_bipush (Ev.cm _) rfl ?_
  refine w_icmp_ge (Ev.cm _) rfl (fun q => absurd q (by decide)) (fun _ => ?_)
  refine w_aload_n (Ev.cm _) rfl rfl ?_
  refine w_getR (q := 7) (Ev.cm _) rfl (Nat.le_of_ble_eq_true rfl) rfl (rd_get rfl (Nat.le_of_ble_eq_true rfl) (nin hos (Nat.le_of_ble_eq_true rfl))) ?_
  refine w_iload_n (Ev.cm _) rfl rfl ?_
  refine w_new (Ev.cm _) rfl (show _ ∧ _ from ⟨by decide +kernel, by decide +kernel⟩) ?_
  show Wp _ _ _ _ _ _ _ 29 [(0, .ref 6), (1, .int 26)] [.ref 112, .int 26, .ref 7] (puN (HN 112 (6 :: os) (iH 108 (iH 104 (iH 100 (iH 96 (iH 92 (iH 88 (iH 84 (iH 80 (iH 76 (iH 72 (iH 68 (iH 64 (iH 60 (iH 56 (iH 52 (iH 48 (iH 44 (iH 40 (iH 36 (iH 32 (iH 28 (iH 24 (iH 20 (iH 16 (iH 12 (iH 8 I)))))))))))))))))))))))))) X) 1 8)
  rw [hn_new rfl z53]
  have z54 := (Zn z53)
  refine w_dup (Ev.cm _) rfl rfl ?_
  refine w_cinit (as := []) (o := 112) (st := [.ref 112, .int 26, .ref 7]) (Ev.cm _) rfl rfl rfl (Nat.le_of_ble_eq_true rfl) (show _ ∧ _ from ⟨by decide +kernel, by decide +kernel⟩) (Nat.le_of_ble_eq_true rfl) (e_iH (show isH 112 from Or.inr (Or.inr (Or.inl ⟨26, (Nat.le_of_ble_eq_true rfl), rfl⟩))) (fun x hx => by rcases List.mem_cons.mp hx with e | e <;> [(rw [e]; exact (Nat.le_of_ble_eq_true rfl)); exact Nat.lt_trans (hos x e) (Nat.le_of_ble_eq_true rfl)]) z54 ?_)
  have z55 := (iH_z (b := 112) z54)
  show Wp _ _ _ _ _ _ _ 33 [(0, .ref 6), (1, .int 26)] [.ref 112, .int 26, .ref 7] (HN 116 (112 :: 6 :: os) (iH 112 (iH 108 (iH 104 (iH 100 (iH 96 (iH 92 (iH 88 (iH 84 (iH 80 (iH 76 (iH 72 (iH 68 (iH 64 (iH 60 (iH 56 (iH 52 (iH 48 (iH 44 (iH 40 (iH 36 (iH 32 (iH 28 (iH 24 (iH 20 (iH 16 (iH 12 (iH 8 I))))))))))))))))))))))))))) X)
  refine w_aast (Ev.cm _) rfl (Nat.le_of_ble_eq_true rfl) rfl (by decide) (Nat.le_of_ble_eq_true rfl) rfl ?_
  show Wp _ _ _ _ _ _ _ 34 [(0, .ref 6), (1, .int 26)] [] (puR (HN 116 (112 :: 6 :: os) (iH 112 (iH 108 (iH 104 (iH 100 (iH 96 (iH 92 (iH 88 (iH 84 (iH 80 (iH 76 (iH 72 (iH 68 (iH 64 (iH 60 (iH 56 (iH 52 (iH 48 (iH 44 (iH 40 (iH 36 (iH 32 (iH 28 (iH 24 (iH 20 (iH 16 (iH 12 (iH 8 I))))))))))))))))))))))))))) X) 7 26 (some 112))
  rw [hn_link rfl (Nat.le_of_ble_eq_true rfl) (nin hos (Nat.le_of_ble_eq_true rfl))]
  refine w_iinc (ls2 := [(0, .ref 6), (1, .int 27)]) (Ev.cm _) rfl rfl rfl ?_
  refine w_goto (Ev.cm _) rfl ?_
  refine w_iload_n (Ev.cm _) rfl rfl ?_
  refine w_bipush (Ev.cm _) rfl ?_
  refine w_icmp_ge (Ev.cm _) rfl (fun q => absurd q (by decide)) (fun _ => ?_)
  refine w_aload_n (Ev.cm _) rfl rfl ?_
  refine w_getR (q := 7) (Ev.cm _) rfl (Nat.le_of_ble_eq_true rfl) rfl (rd_get rfl (Nat.le_of_ble_eq_true rfl) (nin hos (Nat.le_of_ble_eq_true rfl))) ?_
  refine w_iload_n (Ev.cm _) rfl rfl ?_
  refine w_new (Ev.cm _) rfl (show _ ∧ _ from ⟨by decide +kernel, by decide +kernel⟩) ?_
  show Wp _ _ _ _ _ _ _ 29 [(0, .ref 6), (1, .int 27)] [.ref 116, .int 27, .ref 7] (puN (HN 116 (6 :: os) (iH 112 (iH 108 (iH 104 (iH 100 (iH 96 (iH 92 (iH 88 (iH 84 (iH 80 (iH 76 (iH 72 (iH 68 (iH 64 (iH 60 (iH 56 (iH 52 (iH 48 (iH 44 (iH 40 (iH 36 (iH 32 (iH 28 (iH 24 (iH 20 (iH 16 (iH 12 (iH 8 I))))))))))))))))))))))))))) X) 1 8)
  rw [hn_new rfl z55]
  have z56 := (Zn z55)
  refine w_dup (Ev.cm _) rfl rfl ?_
  refine w_cinit (as := []) (o := 116) (st := [.ref 116, .int 27, .ref 7]) (Ev.cm _) rfl rfl rfl (Nat.le_of_ble_eq_true rfl) (show _ ∧ _ from ⟨by decide +kernel, by decide +kernel⟩) (Nat.le_of_ble_eq_true rfl) (e_iH (show isH 116 from Or.inr (Or.inr (Or.inl ⟨27, (Nat.le_of_ble_eq_true rfl), rfl⟩))) (fun x hx => by rcases List.mem_cons.mp hx with e | e <;> [(rw [e]; exact (Nat.le_of_ble_eq_true rfl)); exact Nat.lt_trans (hos x e) (Nat.le_of_ble_eq_true rfl)]) z56 ?_)
  have z57 := (iH_z (b := 116) z56)
  show Wp _ _ _ _ _ _ _ 33 [(0, .ref 6), (1, .int 27)] [.ref 116, .int 27, .ref 7] (HN 120 (116 :: 6 :: os) (iH 116 (iH 112 (iH 108 (iH 104 (iH 100 (iH 96 (iH 92 (iH 88 (iH 84 (iH 80 (iH 76 (iH 72 (iH 68 (iH 64 (iH 60 (iH 56 (iH 52 (iH 48 (iH 44 (iH 40 (iH 36 (iH 32 (iH 28 (iH 24 (iH 20 (iH 16 (iH 12 (iH 8 I)))))))))))))))))))))))))))) X)
  refine w_aast (Ev.cm _) rfl (Nat.le_of_ble_eq_true rfl) rfl (by decide) (Nat.le_of_ble_eq_true rfl) rfl ?_
  show Wp _ _ _ _ _ _ _ 34 [(0, .ref 6), (1, .int 27)] [] (puR (HN 120 (116 :: 6 :: os) (iH 116 (iH 112 (iH 108 (iH 104 (iH 100 (iH 96 (iH 92 (iH 88 (iH 84 (iH 80 (iH 76 (iH 72 (iH 68 (iH 64 (iH 60 (iH 56 (iH 52 (iH 48 (iH 44 (iH 40 (iH 36 (iH 32 (iH 28 (iH 24 (iH 20 (iH 16 (iH 12 (iH 8 I)))))))))))))))))))))))))))) X) 7 27 (some 116))
  rw [hn_link rfl (Nat.le_of_ble_eq_true rfl) (nin hos (Nat.le_of_ble_eq_true rfl))]
  refine w_iinc (ls2 := [(0, .ref 6), (1, .int 28)]) (Ev.cm _) rfl rfl rfl ?_
  refine w_goto (Ev.cm _) rfl ?_
  refine w_iload_n (Ev.cm _) rfl rfl ?_
  refine w_bipush (Ev.cm _) rfl ?_
  refine w_icmp_ge (Ev.cm _) rfl (fun q => absurd q (by decide)) (fun _ => ?_)
  refine w_aload_n (Ev.cm _) rfl rfl ?_
  refine w_getR (q := 7) (Ev.cm _) rfl (Nat.le_of_ble_eq_true rfl) rfl (rd_get rfl (Nat.le_of_ble_eq_true rfl) (nin hos (Nat.le_of_ble_eq_true rfl))) ?_
  refine w_iload_n (Ev.cm _) rfl rfl ?_
  refine w_new (Ev.cm _) rfl (show _ ∧ _ from ⟨by decide +kernel, by decide +kernel⟩) ?_
  show Wp _ _ _ _ _ _ _ 29 [(0, .ref 6), (1, .int 28)] [.ref 120, .int 28, .ref 7] (puN (HN 120 (6 :: os) (iH 116 (iH 112 (iH 108 (iH 104 (iH 100 (iH 96 (iH 92 (iH 88 (iH 84 (iH 80 (iH 76 (iH 72 (iH 68 (iH 64 (iH 60 (iH 56 (iH 52 (iH 48 (iH 44 (iH 40 (iH 36 (iH 32 (iH 28 (iH 24 (iH 20 (iH 16 (iH 12 (iH 8 I)))))))))))))))))))))))))))) X) 1 8)
  rw [hn_new rfl z57]
  have z58 := (Zn z57)
  refine w_dup (Ev.cm _) rfl rfl ?_
  refine w_cinit (as := []) (o := 120) (st := [.ref 120, .int 28, .ref 7]) (Ev.cm _) rfl rfl rfl (Nat.le_of_ble_eq_true rfl) (show _ ∧ _ from ⟨by decide +kernel, by decide +kernel⟩) (Nat.le_of_ble_eq_true rfl) (e_iH (show isH 120 from Or.inr (Or.inr (Or.inl ⟨28, (Nat.le_of_ble_eq_true rfl), rfl⟩))) (fun x hx => by rcases List.mem_cons.mp hx with e | e <;> [(rw [e]; exact (Nat.le_of_ble_eq_true rfl)); exact Nat.lt_trans (hos x e) (Nat.le_of_ble_eq_true rfl)]) z58 ?_)
  have z59 := (iH_z (b := 120) z58)
  show Wp _ _ _ _ _ _ _ 33 [(0, .ref 6), (1, .int 28)] [.ref 120, .int 28, .ref 7] (HN 124 (120 :: 6 :: os) (iH 120 (iH 116 (iH 112 (iH 108 (iH 104 (iH 100 (iH 96 (iH 92 (iH 88 (iH 84 (iH 80 (iH 76 (iH 72 (iH 68 (iH 64 (iH 60 (iH 56 (iH 52 (iH 48 (iH 44 (iH 40 (iH 36 (iH 32 (iH 28 (iH 24 (iH 20 (iH 16 (iH 12 (iH 8 I))))))))))))))))))))))))))))) X)
  refine w_aast (Ev.cm _) rfl (Nat.le_of_ble_eq_true rfl) rfl (by decide) (Nat.le_of_ble_eq_true rfl) rfl ?_
  show Wp _ _ _ _ _ _ _ 34 [(0, .ref 6), (1, .int 28)] [] (puR (HN 124 (120 :: 6 :: os) (iH 120 (iH 116 (iH 112 (iH 108 (iH 104 (iH 100 (iH 96 (iH 92 (iH 88 (iH 84 (iH 80 (iH 76 (iH 72 (iH 68 (iH 64 (iH 60 (iH 56 (iH 52 (iH 48 (iH 44 (iH 40 (iH 36 (iH 32 (iH 28 (iH 24 (iH 20 (iH 16 (iH 12 (iH 8 I))))))))))))))))))))))))))))) X) 7 28 (some 120))
  rw [hn_link rfl (Nat.le_of_ble_eq_true rfl) (nin hos (Nat.le_of_ble_eq_true rfl))]
  refine w_iinc (ls2 := [(0, .ref 6), (1, .int 29)]) (Ev.cm _) rfl rfl rfl ?_
  refine w_goto (Ev.cm _) rfl ?_
  refine w_iload_n (Ev.cm _) rfl rfl ?_
  refine w_bipush (Ev.cm _) rfl ?_
  refine w_icmp_ge (Ev.cm _) rfl (fun q => absurd q (by decide)) (fun _ => ?_)
  refine w_aload_n (Ev.cm _) rfl rfl ?_
  refine w_getR (q := 7) (Ev.cm _) rfl (Nat.le_of_ble_eq_true rfl) rfl (rd_get rfl (Nat.le_of_ble_eq_true rfl) (nin hos (Nat.le_of_ble_eq_true rfl))) ?_
  refine w_iload_n (Ev.cm _) rfl rfl ?_
  refine w_new (Ev.cm _) rfl (show _ ∧ _ from ⟨by decide +kernel, by decide +kernel⟩) ?_
  show Wp _ _ _ _ _ _ _ 29 [(0, .ref 6), (1, .int 29)] [.ref 124, .int 29, .ref 7] (puN (HN 124 (6 :: os) (iH 120 (iH 116 (iH 112 (iH 108 (iH 104 (iH 100 (iH 96 (iH 92 (iH 88 (iH 84 (iH 80 (iH 76 (iH 72 (iH 68 (iH 64 (iH 60 (iH 56 (iH 52 (iH 48 (iH 44 (iH 40 (iH 36 (iH 32 (iH 28 (iH 24 (iH 20 (iH 16 (iH 12 (iH 8 I))))))))))))))))))))))))))))) X) 1 8)
  rw [hn_new rfl z59]
  have z60 := (Zn z59)
  refine w_dup (Ev.cm _) rfl rfl ?_
  refine w_cinit (as := []) (o := 124) (st := [.ref 124, .int 29, .ref 7]) (Ev.cm _) rfl rfl rfl (Nat.le_of_ble_eq_true rfl) (show _ ∧ _ from ⟨by decide +kernel, by decide +kernel⟩) (Nat.le_of_ble_eq_true rfl) (e_iH (show isH 124 from Or.inr (Or.inr (Or.inl ⟨29, (Nat.le_of_ble_eq_true rfl), rfl⟩))) (fun x hx => by rcases List.mem_cons.mp hx with e | e <;> [(rw [e]; exact (Nat.le_of_ble_eq_true rfl)); exact Nat.lt_trans (hos x e) (Nat.le_of_ble_eq_true rfl)]) z60 ?_)
  have z61 := (iH_z (b := 124) z60)
  show Wp _ _ _ _ _ _ _ 33 [(0, .ref 6), (1, .int 29)] [.ref 124, .int 29, .ref 7] (HN 128 (124 :: 6 :: os) (iH 124 (iH 120 (iH 116 (iH 112 (iH 108 (iH 104 (iH 100 (iH 96 (iH 92 (iH 88 (iH 84 (iH 80 (iH 76 (iH 72 (iH 68 (iH 64 (iH 60 (iH 56 (iH 52 (iH 48 (iH 44 (iH 40 (iH 36 (iH 32 (iH 28 (iH 24 (iH 20 (iH 16 (iH 12 (iH 8 I)))))))))))))))))))))))))))))) X)
  refine w_aast (Ev.cm _) rfl (Nat.le_of_ble_eq_true rfl) rfl (by decide) (Nat.le_of_ble_eq_true rfl) rfl ?_
  show Wp _ _ _ _ _ _ _ 34 [(0, .ref 6), (1, .int 29)] [] (puR (HN 128 (124 :: 6 :: os) (iH 124 (iH 120 (iH 116 (iH 112 (iH 108 (iH 104 (iH 100 (iH 96 (iH 92 (iH 88 (iH 84 (iH 80 (iH 76 (iH 72 (iH 68 (iH 64 (iH 60 (iH 56 (iH 52 (iH 48 (iH 44 (iH 40 (iH 36 (iH 32 (iH 28 (iH 24 (iH 20 (iH 16 (iH 12 (iH 8 I)))))))))))))))))))))))))))))) X) 7 29 (some 124))
  rw [hn_link rfl (Nat.le_of_ble_eq_true rfl) (nin hos (Nat.le_of_ble_eq_true rfl))]
  refine w_iinc (ls2 := [(0, .ref 6), (1, .int 30)]) (Ev.cm _) rfl rfl rfl ?_
  refine w_goto (Ev.cm _) rfl ?_
  refine w_iload_n (Ev.cm _) rfl rfl ?_
  refine w_bipush (Ev.cm _) rfl ?_
  refine w_icmp_ge (Ev.cm _) rfl (fun _ => ?_) (fun q => absurd (by decide) q)
  refine w_aload_n (Ev.cm _) rfl rfl ?_
  refine w_iconst (Ev.cm _) rfl ?_
  refine w_putI (Ev.cm _) rfl (Nat.le_of_ble_eq_true rfl) rfl ?_
  have z62 := (Zs (Nat.le_of_ble_eq_true rfl) z61)
  show Wp _ _ _ _ _ _ _ 45 [(0, .ref 6), (1, .int 30)] [] (HN 128 (6 :: os) (sI (iH 124 (iH 120 (iH 116 (iH 112 (iH 108 (iH 104 (iH 100 (iH 96 (iH 92 (iH 88 (iH 84 (iH 80 (iH 76 (iH 72 (iH 68 (iH 64 (iH 60 (iH 56 (iH 52 (iH 48 (iH 44 (iH 40 (iH 36 (iH 32 (iH 28 (iH 24 (iH 20 (iH 16 (iH 12 (iH 8 I)))))))))))))))))))))))))))))) 6 1 0) X)
  refine w_aload_n (Ev.cm _) rfl rfl ?_
  refine w_iconst (Ev.cm _) rfl ?_
  refine w_putI (Ev.cm _) rfl (Nat.le_of_ble_eq_true rfl) rfl ?_
  have z63 := (Zs (Nat.le_of_ble_eq_true rfl) z62)
  show Wp _ _ _ _ _ _ _ 50 [(0, .ref 6), (1, .int 30)] [] (HN 128 (6 :: os) (sI (sI (iH 124 (iH 120 (iH 116 (iH 112 (iH 108 (iH 104 (iH 100 (iH 96 (iH 92 (iH 88 (iH 84 (iH 80 (iH 76 (iH 72 (iH 68 (iH 64 (iH 60 (iH 56 (iH 52 (iH 48 (iH 44 (iH 40 (iH 36 (iH 32 (iH 28 (iH 24 (iH 20 (iH 16 (iH 12 (iH 8 I)))))))))))))))))))))))))))))) 6 1 0) 6 2 0) X)
  refine w_return (Ev.cm _) rfl rfl (Or.inr ⟨(by decide +kernel), (by decide +kernel)⟩) ?_
  exact q
def iS_142 (I : Nat → Nat → Int32) : Nat → Nat → Int32 := sI (sI (iH 260 (iH 256 (iH 252 (iH 248 (iH 244 (iH 240 (iH 236 (iH 232 (iH 228 (iH 224 (iH 220 (iH 216 (iH 212 (iH 208 (iH 204 (iH 200 (iH 196 (iH 192 (iH 188 (iH 184 (iH 180 (iH 176 (iH 172 (iH 168 (iH 164 (iH 160 (iH 156 (iH 152 (iH 148 (iH 144 I)))))))))))))))))))))))))))))) 142 1 0) 142 2 0
theorem iS_142_z {I : Nat → Nat → Int32} (hz : Zf 143 I) : Zf (264) (iS_142 I) := by
  unfold iS_142
  have z1 := (Zn hz)
  have z2 := (Zn z1)
  have z3 := (iH_z (b := 144) z2)
  have z4 := (Zn z3)
  have z5 := (iH_z (b := 148) z4)
  have z6 := (Zn z5)
  have z7 := (iH_z (b := 152) z6)
  have z8 := (Zn z7)
  have z9 := (iH_z (b := 156) z8)
  have z10 := (Zn z9)
  have z11 := (iH_z (b := 160) z10)
  have z12 := (Zn z11)
  have z13 := (iH_z (b := 164) z12)
  have z14 := (Zn z13)
  have z15 := (iH_z (b := 168) z14)
  have z16 := (Zn z15)
  have z17 := (iH_z (b := 172) z16)
  have z18 := (Zn z17)
  have z19 := (iH_z (b := 176) z18)
  have z20 := (Zn z19)
  have z21 := (iH_z (b := 180) z20)
  have z22 := (Zn z21)
  have z23 := (iH_z (b := 184) z22)
  have z24 := (Zn z23)
  have z25 := (iH_z (b := 188) z24)
  have z26 := (Zn z25)
  have z27 := (iH_z (b := 192) z26)
  have z28 := (Zn z27)
  have z29 := (iH_z (b := 196) z28)
  have z30 := (Zn z29)
  have z31 := (iH_z (b := 200) z30)
  have z32 := (Zn z31)
  have z33 := (iH_z (b := 204) z32)
  have z34 := (Zn z33)
  have z35 := (iH_z (b := 208) z34)
  have z36 := (Zn z35)
  have z37 := (iH_z (b := 212) z36)
  have z38 := (Zn z37)
  have z39 := (iH_z (b := 216) z38)
  have z40 := (Zn z39)
  have z41 := (iH_z (b := 220) z40)
  have z42 := (Zn z41)
  have z43 := (iH_z (b := 224) z42)
  have z44 := (Zn z43)
  have z45 := (iH_z (b := 228) z44)
  have z46 := (Zn z45)
  have z47 := (iH_z (b := 232) z46)
  have z48 := (Zn z47)
  have z49 := (iH_z (b := 236) z48)
  have z50 := (Zn z49)
  have z51 := (iH_z (b := 240) z50)
  have z52 := (Zn z51)
  have z53 := (iH_z (b := 244) z52)
  have z54 := (Zn z53)
  have z55 := (iH_z (b := 248) z54)
  have z56 := (Zn z55)
  have z57 := (iH_z (b := 252) z56)
  have z58 := (Zn z57)
  have z59 := (iH_z (b := 256) z58)
  have z60 := (Zn z59)
  have z61 := (iH_z (b := 260) z60)
  have z62 := (Zs (Nat.le_of_ble_eq_true rfl) z61)
  have z63 := (Zs (Nat.le_of_ble_eq_true rfl) z62)
  exact z63
set_option maxHeartbeats 20000000 in
set_option maxRecDepth 20000 in
theorem e_iS_142 {d : Nat} {os : List Nat} {I : Nat → Nat → Int32} {X : Nat × (Nat → Int32)} {Q : PQ} (hos : ∀ x ∈ os, x < 142) (hz : Zf 143 I) (q : Q none (HN (264) (142 :: os) (iS_142 I) X)) : Ev (d + 2) m_S_new [.ref 142] (HN 143 (142 :: os) I X) Q := by
  unfold iS_142 at q
  refine ev_start (d := d + 1) rfl rfl rfl (Nat.le_of_ble_eq_true rfl) ?_
  show Wp (Ev (d + 1)) cd_S_new (mcs m_S_new) none _ _ Q 0 [(0, .ref 142)] [] (HN 143 (142 :: os) I X)
  refine w_aload_n (Ev.cm _) rfl rfl ?_
  refine w_objI (Ev.cm _) rfl (Nat.le_of_ble_eq_true rfl) ?_
  refine w_aload_n (Ev.cm _) rfl rfl ?_
  refine w_bipush (Ev.cm _) rfl ?_
  refine w_newr (Ev.cm _) rfl (by decide) (by decide) (show _ ∧ _ from ⟨by decide +kernel, by decide +kernel⟩) ?_
  show Wp _ _ _ _ _ _ _ 10 [(0, .ref 142)] [.ref 143, .ref 142] (puN (HN 143 (142 :: os) I X) 14 30)
  rw [hn_new rfl hz]
  have z1 := (Zn hz)
  refine w_putR (Ev.cm _) rfl (Nat.le_of_ble_eq_true rfl) rfl ?_
  show Wp _ _ _ _ _ _ _ 13 [(0, .ref 142)] [] (puR (HN 144 (143 :: 142 :: os) I X) 142 0 (some 143))
  rw [hn_link rfl (Nat.le_of_ble_eq_true rfl) (nin hos (Nat.le_of_ble_eq_true rfl))]
  refine w_iconst (Ev.cm _) rfl ?_
  refine w_istore_n (ls2 := [(0, .ref 142), (1, .int 0)]) (Ev.cm _) rfl rfl ?_
  refine w_iload_n (Ev.cm _) rfl rfl ?_
  refine w_bipush (Ev.cm _) rfl ?_
  refine w_icmp_ge (Ev.cm _) rfl (fun q => absurd q (by decide)) (fun _ => ?_)
  refine w_aload_n (Ev.cm _) rfl rfl ?_
  refine w_getR (q := 143) (Ev.cm _) rfl (Nat.le_of_ble_eq_true rfl) rfl (rd_get rfl (Nat.le_of_ble_eq_true rfl) (nin hos (Nat.le_of_ble_eq_true rfl))) ?_
  refine w_iload_n (Ev.cm _) rfl rfl ?_
  refine w_new (Ev.cm _) rfl (show _ ∧ _ from ⟨by decide +kernel, by decide +kernel⟩) ?_
  show Wp _ _ _ _ _ _ _ 29 [(0, .ref 142), (1, .int 0)] [.ref 144, .int 0, .ref 143] (puN (HN 144 (142 :: os) I X) 1 8)
  rw [hn_new rfl z1]
  have z2 := (Zn z1)
  refine w_dup (Ev.cm _) rfl rfl ?_
  refine w_cinit (as := []) (o := 144) (st := [.ref 144, .int 0, .ref 143]) (Ev.cm _) rfl rfl rfl (Nat.le_of_ble_eq_true rfl) (show _ ∧ _ from ⟨by decide +kernel, by decide +kernel⟩) (Nat.le_of_ble_eq_true rfl) (e_iH (show isH 144 from Or.inr (Or.inr (Or.inr ⟨0, (Nat.le_of_ble_eq_true rfl), rfl⟩))) (fun x hx => by rcases List.mem_cons.mp hx with e | e <;> [(rw [e]; exact (Nat.le_of_ble_eq_true rfl)); exact Nat.lt_trans (hos x e) (Nat.le_of_ble_eq_true rfl)]) z2 ?_)
  have z3 := (iH_z (b := 144) z2)
  show Wp _ _ _ _ _ _ _ 33 [(0, .ref 142), (1, .int 0)] [.ref 144, .int 0, .ref 143] (HN 148 (144 :: 142 :: os) (iH 144 I) X)
  refine w_aast (Ev.cm _) rfl (Nat.le_of_ble_eq_true rfl) rfl (by decide) (Nat.le_of_ble_eq_true rfl) rfl ?_
  show Wp _ _ _ _ _ _ _ 34 [(0, .ref 142), (1, .int 0)] [] (puR (HN 148 (144 :: 142 :: os) (iH 144 I) X) 143 0 (some 144))
  rw [hn_link rfl (Nat.le_of_ble_eq_true rfl) (nin hos (Nat.le_of_ble_eq_true rfl))]
  refine w_iinc (ls2 := [(0, .ref 142), (1, .int 1)]) (Ev.cm _) rfl rfl rfl ?_
  refine w_goto (Ev.cm _) rfl ?_
  refine w_iload_n (Ev.cm _) rfl rfl ?_
  refine w_bipush (Ev.cm _) rfl ?_
  refine w_icmp_ge (Ev.cm _) rfl (fun q => absurd q (by decide)) (fun _ => ?_)
  refine w_aload_n (Ev.cm _) rfl rfl ?_
  refine w_getR (q := 143) (Ev.cm _) rfl (Nat.le_of_ble_eq_true rfl) rfl (rd_get rfl (Nat.le_of_ble_eq_true rfl) (nin hos (Nat.le_of_ble_eq_true rfl))) ?_
  refine w_iload_n (Ev.cm _) rfl rfl ?_
  refine w_new (Ev.cm _) rfl (show _ ∧ _ from ⟨by decide +kernel, by decide +kernel⟩) ?_
  show Wp _ _ _ _ _ _ _ 29 [(0, .ref 142), (1, .int 1)] [.ref 148, .int 1, .ref 143] (puN (HN 148 (142 :: os) (iH 144 I) X) 1 8)
  rw [hn_new rfl z3]
  have z4 := (Zn z3)
  refine w_dup (Ev.cm _) rfl rfl ?_
  refine w_cinit (as := []) (o := 148) (st := [.ref 148, .int 1, .ref 143]) (Ev.cm _) rfl rfl rfl (Nat.le_of_ble_eq_true rfl) (show _ ∧ _ from ⟨by decide +kernel, by decide +kernel⟩) (Nat.le_of_ble_eq_true rfl) (e_iH (show isH 148 from Or.inr (Or.inr (Or.inr ⟨1, (Nat.le_of_ble_eq_true rfl), rfl⟩))) (fun x hx => by rcases List.mem_cons.mp hx with e | e <;> [(rw [e]; exact (Nat.le_of_ble_eq_true rfl)); exact Nat.lt_trans (hos x e) (Nat.le_of_ble_eq_true rfl)]) z4 ?_)
  have z5 := (iH_z (b := 148) z4)
  show Wp _ _ _ _ _ _ _ 33 [(0, .ref 142), (1, .int 1)] [.ref 148, .int 1, .ref 143] (HN 152 (148 :: 142 :: os) (iH 148 (iH 144 I)) X)
  refine w_aast (Ev.cm _) rfl (Nat.le_of_ble_eq_true rfl) rfl (by decide) (Nat.le_of_ble_eq_true rfl) rfl ?_
  show Wp _ _ _ _ _ _ _ 34 [(0, .ref 142), (1, .int 1)] [] (puR (HN 152 (148 :: 142 :: os) (iH 148 (iH 144 I)) X) 143 1 (some 148))
  rw [hn_link rfl (Nat.le_of_ble_eq_true rfl) (nin hos (Nat.le_of_ble_eq_true rfl))]
  refine w_iinc (ls2 := [(0, .ref 142), (1, .int 2)]) (Ev.cm _) rfl rfl rfl ?_
  refine w_goto (Ev.cm _) rfl ?_
  refine w_iload_n (Ev.cm _) rfl rfl ?_
  refine w_bipush (Ev.cm _) rfl ?_
  refine w_icmp_ge (Ev.cm _) rfl (fun q => absurd q (by decide)) (fun _ => ?_)
  refine w_aload_n (Ev.cm _) rfl rfl ?_
  refine w_getR (q := 143) (Ev.cm _) rfl (Nat.le_of_ble_eq_true rfl) rfl (rd_get rfl (Nat.le_of_ble_eq_true rfl) (nin hos (Nat.le_of_ble_eq_true rfl))) ?_
  refine w_iload_n (Ev.cm _) rfl rfl ?_
  refine w_new (Ev.cm _) rfl (show _ ∧ _ from ⟨by decide +kernel, by decide +kernel⟩) ?_
  show Wp _ _ _ _ _ _ _ 29 [(0, .ref 142), (1, .int 2)] [.ref 152, .int 2, .ref 143] (puN (HN 152 (142 :: os) (iH 148 (iH 144 I)) X) 1 8)
  rw [hn_new rfl z5]
  have z6 := (Zn z5)
  refine w_dup (Ev.cm _) rfl rfl ?_
  refine w_cinit (as := []) (o := 152) (st := [.ref 152, .int 2, .ref 143]) (Ev.cm _) rfl rfl rfl (Nat.le_of_ble_eq_true rfl) (show _ ∧ _ from ⟨by decide +kernel, by decide +kernel⟩) (Nat.le_of_ble_eq_true rfl) (e_iH (show isH 152 from Or.inr (Or.inr (Or.inr ⟨2, (Nat.le_of_ble_eq_true rfl), rfl⟩))) (fun x hx => by rcases List.mem_cons.mp hx with e | e <;> [(rw [e]; exact (Nat.le_of_ble_eq_true rfl)); exact Nat.lt_trans (hos x e) (Nat.le_of_ble_eq_true rfl)]) z6 ?_)
  have z7 := (iH_z (b := 152) z6)
  show Wp _ _ _ _ _ _ _ 33 [(0, .ref 142), (1, .int 2)] [.ref 152, .int 2, .ref 143] (HN 156 (152 :: 142 :: os) (iH 152 (iH 148 (iH 144 I))) X)
  refine w_aast (Ev.cm _) rfl (Nat.le_of_ble_eq_true rfl) rfl (by decide) (Nat.le_of_ble_eq_true rfl) rfl ?_
  show Wp _ _ _ _ _ _ _ 34 [(0, .ref 142), (1, .int 2)] [] (puR (HN 156 (152 :: 142 :: os) (iH 152 (iH 148 (iH 144 I))) X) 143 2 (some 152))
  rw [hn_link rfl (Nat.le_of_ble_eq_true rfl) (nin hos (Nat.le_of_ble_eq_true rfl))]
  refine w_iinc (ls2 := [(0, .ref 142), (1, .int 3)]) (Ev.cm _) rfl rfl rfl ?_
  refine w_goto (Ev.cm _) rfl ?_
  refine w_iload_n (Ev.cm _) rfl rfl ?_
  refine w_bipush (Ev.cm _) rfl ?_
  refine w_icmp_ge (Ev.cm _) rfl (fun q => absurd q (by decide)) (fun _ => ?_)
  refine w_aload_n (Ev.cm _) rfl rfl ?_
  refine w_getR (q := 143) (Ev.cm _) rfl (Nat.le_of_ble_eq_true rfl) rfl (rd_get rfl (Nat.le_of_ble_eq_true rfl) (nin hos (Nat.le_of_ble_eq_true rfl))) ?_
  refine w_iload_n (Ev.cm _) rfl rfl ?_
  refine w_new (Ev.cm _) rfl (show _ ∧ _ from ⟨by decide +kernel, by decide +kernel⟩) ?_
  show Wp _ _ _ _ _ _ _ 29 [(0, .ref 142), (1, .int 3)] [.ref 156, .int 3, .ref 143] (puN (HN 156 (142 :: os) (iH 152 (iH 148 (iH 144 I))) X) 1 8)
  rw [hn_new rfl z7]
  have z8 := (Zn z7)
  refine w_dup (Ev.cm _) rfl rfl ?_
  refine w_cinit (as := []) (o := 156) (st := [.ref 156, .int 3, .ref 143]) (Ev.cm _) rfl rfl rfl (Nat.le_of_ble_eq_true rfl) (show _ ∧ _ from ⟨by decide +kernel, by decide +kernel⟩) (Nat.le_of_ble_eq_true rfl) (e_iH (show isH 156 from Or.inr (Or.inr (Or.inr ⟨3, (Nat.le_of_ble_eq_true rfl), rfl⟩))) (fun x hx => by rcases List.mem_cons.mp hx with e | e <;> [(rw [e]; exact (Nat.le_of_ble_eq_true rfl)); exact Nat.lt_trans (hos x e) (Nat.le_of_ble_eq_true rfl)]) z8 ?_)
  have z9 := (iH_z (b := 156) z8)
  show Wp _ _ _ _ _ _ _ 33 [(0, .ref 142), (1, .int 3)] [.ref 156, .int 3, .ref 143] (HN 160 (156 :: 142 :: os) (iH 156 (iH 152 (iH 148 (iH 144 I)))) X)
  refine w_aast (Ev.cm _) rfl (Nat.le_of_ble_eq_true rfl) rfl (by decide) (Nat.le_of_ble_eq_true rfl) rfl ?_
  show Wp _ _ _ _ _ _ _ 34 [(0, .ref 142), (1, .int 3)] [] (puR (HN 160 (156 :: 142 :: os) (iH 156 (iH 152 (iH 148 (iH 144 I)))) X) 143 3 (some 156))
  rw [hn_link rfl (Nat.le_of_ble_eq_true rfl) (nin hos (Nat.le_of_ble_eq_true rfl))]
  refine w_iinc (ls2 := [(0, .ref 142), (1, .int 4)]) (Ev.cm _) rfl rfl rfl ?_
  refine w_goto (Ev.cm _) rfl ?_
  refine w_iload_n (Ev.cm _) rfl rfl ?_
  refine w_bipush (Ev.cm _) rfl ?_
  refine w_icmp_ge (Ev.cm _) rfl (fun q => absurd q (by decide)) (fun _ => ?_)
  refine w_aload_n (Ev.cm _) rfl rfl ?_
  refine w_getR (q := 143) (Ev.cm _) rfl (Nat.le_of_ble_eq_true rfl) rfl (rd_get rfl (Nat.le_of_ble_eq_true rfl) (nin hos (Nat.le_of_ble_eq_true rfl))) ?_
  refine w_iload_n (Ev.cm _) rfl rfl ?_
  refine w_new (Ev.cm _) rfl (show _ ∧ _ from ⟨by decide +kernel, by decide +kernel⟩) ?_
  show Wp _ _ _ _ _ _ _ 29 [(0, .ref 142), (1, .int 4)] [.ref 160, .int 4, .ref 143] (puN (HN 160 (142 :: os) (iH 156 (iH 152 (iH 148 (iH 144 I)))) X) 1 8)
  rw [hn_new rfl z9]
  have z10 := (Zn z9)
  refine w_dup (Ev.cm _) rfl rfl ?_
  refine w_cinit (as := []) (o := 160) (st := [.ref 160, .int 4, .ref 143]) (Ev.cm _) rfl rfl rfl (Nat.le_of_ble_eq_true rfl) (show _ ∧ _ from ⟨by decide +kernel, by decide +kernel⟩) (Nat.le_of_ble_eq_true rfl) (e_iH (show isH 160 from Or.inr (Or.inr (Or.inr ⟨4, (Nat.le_of_ble_eq_true rfl), rfl⟩))) (fun x hx => by rcases List.mem_cons.mp hx with e | e <;> [(rw [e]; exact (Nat.le_of_ble_eq_true rfl)); exact Nat.lt_trans (hos x e) (Nat.le_of_ble_eq_true rfl)]) z10 ?_)
  have z11 := (iH_z (b := 160) z10)
  show Wp _ _ _ _ _ _ _ 33 [(0, .ref 142), (1, .int 4)] [.ref 160, .int 4, .ref 143] (HN 164 (160 :: 142 :: os) (iH 160 (iH 156 (iH 152 (iH 148 (iH 144 I))))) X)
  refine w_aast (Ev.cm _) rfl (Nat.le_of_ble_eq_true rfl) rfl (by decide) (Nat.le_of_ble_eq_true rfl) rfl ?_
  show Wp _ _ _ _ _ _ _ 34 [(0, .ref 142), (1, .int 4)] [] (puR (HN 164 (160 :: 142 :: os) (iH 160 (iH 156 (iH 152 (iH 148 (iH 144 I))))) X) 143 4 (some 160))
  rw [hn_link rfl (Nat.le_of_ble_eq_true rfl) (nin hos (Nat.le_of_ble_eq_true rfl))]
  refine w_iinc (ls2 := [(0, .ref 142), (1, .int 5)]) (Ev.cm _) rfl rfl rfl ?_
  refine w_goto (Ev.cm _) rfl ?_
  refine w_iload_n (Ev.cm _) rfl rfl ?_
  refine w_bipush (Ev.cm _) rfl ?_
  refine w_icmp_ge (Ev.cm _) rfl (fun q => absurd q (by decide)) (fun _ => ?_)
  refine w_aload_n (Ev.cm _) rfl rfl ?_
  refine w_getR (q := 143) (Ev.cm _) rfl (Nat.le_of_ble_eq_true rfl) rfl (rd_get rfl (Nat.le_of_ble_eq_true rfl) (nin hos (Nat.le_of_ble_eq_true rfl))) ?_
  refine w_iload_n (Ev.cm _) rfl rfl ?_
  refine w_new (Ev.cm _) rfl (show _ ∧ _ from ⟨by decide +kernel, by decide +kernel⟩) ?_
  show Wp _ _ _ _ _ _ _ 29 [(0, .ref 142), (1, .int 5)] [.ref 164, .int 5, .ref 143] (puN (HN 164 (142 :: os) (iH 160 (iH 156 (iH 152 (iH 148 (iH 144 I))))) X) 1 8)
  rw [hn_new rfl z11]
  have z12 := (Zn z11)
  refine w_dup (Ev.cm _) rfl rfl ?_
  refine w_cinit (as := []) (o := 164) (st := [.ref 164, .int 5, .ref 143]) (Ev.cm _) rfl rfl rfl (Nat.le_of_ble_eq_true rfl) (show _ ∧ _ from ⟨by decide +kernel, by decide +kernel⟩) (Nat.le_of_ble_eq_true rfl) (e_iH (show isH 164 from Or.inr (Or.inr (Or.inr ⟨5, (Nat.le_of_ble_eq_true rfl), rfl⟩))) (fun x hx => by rcases List.mem_cons.mp hx with e | e <;> [(rw [e]; exact (Nat.le_of_ble_eq_true rfl)); exact Nat.lt_trans (hos x e) (Nat.le_of_ble_eq_true rfl)]) z12 ?_)
  have z13 := (iH_z (b := 164) z12)
  show Wp _ _ _ _ _ _ _ 33 [(0, .ref 142), (1, .int 5)] [.ref 164, .int 5, .ref 143] (HN 168 (164 :: 142 :: os) (iH 164 (iH 160 (iH 156 (iH 152 (iH 148 (iH 144 I)))))) X)
  refine w_aast (Ev.cm _) rfl (Nat.le_of_ble_eq_true rfl) rfl (by decide) (Nat.le_of_ble_eq_true rfl) rfl ?_
  show Wp _ _ _ _ _ _ _ 34 [(0, .ref 142), (1, .int 5)] [] (puR (HN 168 (164 :: 142 :: os) (iH 164 (iH 160 (iH 156 (iH 152 (iH 148 (iH 144 I)))))) X) 143 5 (some 164))
  rw [hn_link rfl (Nat.le_of_ble_eq_true rfl) (nin hos (Nat.le_of_ble_eq_true rfl))]
  refine w_iinc (ls2 := [(0, .ref 142), (1, .int 6)]) (Ev.cm _) rfl rfl rfl ?_
  refine w_goto (Ev.cm _) rfl ?_
  refine w_iload_n (Ev.cm _) rfl rfl ?_
  refine w_bipush (Ev.cm _) rfl ?_
  refine w_icmp_ge (Ev.cm _) rfl (fun q => absurd q (by decide)) (fun _ => ?_)
  refine w_aload_n (Ev.cm _) rfl rfl ?_
  refine w_getR (q := 143) (Ev.cm _) rfl (Nat.le_of_ble_eq_true rfl) rfl (rd_get rfl (Nat.le_of_ble_eq_true rfl) (nin hos (Nat.le_of_ble_eq_true rfl))) ?_
  refine w_iload_n (Ev.cm _) rfl rfl ?_
  refine w_new (Ev.cm _) rfl (show _ ∧ _ from ⟨by decide +kernel, by decide +kernel⟩) ?_
  show Wp _ _ _ _ _ _ _ 29 [(0, .ref 142), (1, .int 6)] [.ref 168, .int 6, .ref 143] (puN (HN 168 (142 :: os) (iH 164 (iH 160 (iH 156 (iH 152 (iH 148 (iH 144 I)))))) X) 1 8)
  rw [hn_new rfl z13]
  have z14 := (Zn z13)
  refine w_dup (Ev.cm _) rfl rfl ?_
  refine w_cinit (as := []) (o := 168) (st := [.ref 168, .int 6, .ref 143]) (Ev.cm _) rfl rfl rfl (Nat.le_of_ble_eq_true rfl) (show _ ∧ _ from ⟨by decide +kernel, by decide +kernel⟩) (Nat.le_of_ble_eq_true rfl) (e_iH (show isH 168 from Or.inr (Or.inr (Or.inr ⟨6, (Nat.le_of_ble_eq_true rfl), rfl⟩))) (fun x hx => by rcases List.mem_cons.mp hx with e | e <;> [(rw [e]; exact (Nat.le_of_ble_eq_true rfl)); exact Nat.lt_trans (hos x e) (Nat.le_of_ble_eq_true rfl)]) z14 ?_)
  have z15 := (iH_z (b := 168) z14)
  show Wp _ _ _ _ _ _ _ 33 [(0, .ref 142), (1, .int 6)] [.ref 168, .int 6, .ref 143] (HN 172 (168 :: 142 :: os) (iH 168 (iH 164 (iH 160 (iH 156 (iH 152 (iH 148 (iH 144 I))))))) X)
  refine w_aast (Ev.cm _) rfl (Nat.le_of_ble_eq_true rfl) rfl (by decide) (Nat.le_of_ble_eq_true rfl) rfl ?_
  show Wp _ _ _ _ _ _ _ 34 [(0, .ref 142), (1, .int 6)] [] (puR (HN 172 (168 :: 142 :: os) (iH 168 (iH 164 (iH 160 (iH 156 (iH 152 (iH 148 (iH 144 I))))))) X) 143 6 (some 168))
  rw [hn_link rfl (Nat.le_of_ble_eq_true rfl) (nin hos (Nat.le_of_ble_eq_true rfl))]
  refine w_iinc (ls2 := [(0, .ref 142), (1, .int 7)]) (Ev.cm _) rfl rfl rfl ?_
  refine w_goto (Ev.cm _) rfl ?_
  refine w_iload_n (Ev.cm _) rfl rfl ?_
  refine w_bipush (Ev.cm _) rfl ?_
  refine w_icmp_ge (Ev.cm _) rfl (fun q => absurd q (by decide)) (fun _ => ?_)
  refine w_aload_n (Ev.cm _) rfl rfl ?_
  refine w_getR (q := 143) (Ev.cm _) rfl (Nat.le_of_ble_eq_true rfl) rfl (rd_get rfl (Nat.le_of_ble_eq_true rfl) (nin hos (Nat.le_of_ble_eq_true rfl))) ?_
  refine w_iload_n (Ev.cm _) rfl rfl ?_
  refine w_new (Ev.cm _) rfl (show _ ∧ _ from ⟨by decide +kernel, by decide +kernel⟩) ?_
  show Wp _ _ _ _ _ _ _ 29 [(0, .ref 142), (1, .int 7)] [.ref 172, .int 7, .ref 143] (puN (HN 172 (142 :: os) (iH 168 (iH 164 (iH 160 (iH 156 (iH 152 (iH 148 (iH 144 I))))))) X) 1 8)
  rw [hn_new rfl z15]
  have z16 := (Zn z15)
  refine w_dup (Ev.cm _) rfl rfl ?_
  refine w_cinit (as := []) (o := 172) (st := [.ref 172, .int 7, .ref 143]) (Ev.cm _) rfl rfl rfl (Nat.le_of_ble_eq_true rfl) (show _ ∧ _ from ⟨by decide +kernel, by decide +kernel⟩) (Nat.le_of_ble_eq_true rfl) (e_iH (show isH 172 from Or.inr (Or.inr (Or.inr ⟨7, (Nat.le_of_ble_eq_true rfl), rfl⟩))) (fun x hx => by rcases List.mem_cons.mp hx with e | e <;> [(rw [e]; exact (Nat.le_of_ble_eq_true rfl)); exact Nat.lt_trans (hos x e) (Nat.le_of_ble_eq_true rfl)]) z16 ?_)
  have z17 := (iH_z (b := 172) z16)
  show Wp _ _ _ _ _ _ _ 33 [(0, .ref 142), (1, .int 7)] [.ref 172, .int 7, .ref 143] (HN 176 (172 :: 142 :: os) (iH 172 (iH 168 (iH 164 (iH 160 (iH 156 (iH 152 (iH 148 (iH 144 I)))))))) X)
  refine w_aast (Ev.cm _) rfl (Nat.le_of_ble_eq_true rfl) rfl (by decide) (Nat.le_of_ble_eq_true rfl) rfl ?_
  show Wp _ _ _ _ _ _ _ 34 [(0, .ref 142), (1, .int 7)] [] (puR (HN 176 (172 :: 142 :: os) (iH 172 (iH 168 (iH 164 (iH 160 (iH 156 (iH 152 (iH 148 (iH 144 I)))))))) X) 143 7 (some 172))
  rw [hn_link rfl (Nat.le_of_ble_eq_true rfl) (nin hos (Nat.le_of_ble_eq_true rfl))]
  refine w_iinc (ls2 := [(0, .ref 142), (1, .int 8)]) (Ev.cm _) rfl rfl rfl ?_
  refine w_goto (Ev.cm _) rfl ?_
  refine w_iload_n (Ev.cm _) rfl rfl ?_
  refine w_bipush (Ev.cm _) rfl ?_
  refine w_icmp_ge (Ev.cm _) rfl (fun q => absurd q (by decide)) (fun _ => ?_)
  refine w_aload_n (Ev.cm _) rfl rfl ?_
  refine w_getR (q := 143) (Ev.cm _) rfl (Nat.le_of_ble_eq_true rfl) rfl (rd_get rfl (Nat.le_of_ble_eq_true rfl) (nin hos (Nat.le_of_ble_eq_true rfl))) ?_
  refine w_iload_n (Ev.cm _) rfl rfl ?_
  refine w_new (Ev.cm _) rfl (show _ ∧ _ from ⟨by decide +kernel, by decide +kernel⟩) ?_
  show Wp _ _ _ _ _ _ _ 29 [(0, .ref 142), (1, .int 8)] [.ref 176, .int 8, .ref 143] (puN (HN 176 (142 :: os) (iH 172 (iH 168 (iH 164 (iH 160 (iH 156 (iH 152 (iH 148 (iH 144 I)))))))) X) 1 8)
  rw [hn_new rfl z17]
  have z18 := (Zn z17)
  refine w_dup (Ev.cm _) rfl rfl ?_
  refine w_cinit (as := []) (o := 176) (st := [.ref 176, .int 8, .ref 143]) (Ev.cm _) rfl rfl rfl (Nat.le_of_ble_eq_true rfl) (show _ ∧ _ from ⟨by decide +kernel, by decide +kernel⟩) (Nat.le_of_ble_eq_true rfl) (e_iH (show isH 176 from Or.inr (Or.inr (Or.inr ⟨8, (Nat.le_of_ble_eq_true rfl), rfl⟩))) (fun x hx => by rcases List.mem_cons.mp hx with e | e <;> [(rw [e]; exact (Nat.le_of_ble_eq_true rfl)); exact Nat.lt_trans (hos x e) (Nat.le_of_ble_eq_true rfl)]) z18 ?_)
  have z19 := (iH_z (b := 176) z18)
  show Wp _ _ _ _ _ _ _ 33 [(0, .ref 142), (1, .int 8)] [.ref 176, .int 8, .ref 143] (HN 180 (176 :: 142 :: os) (iH 176 (iH 172 (iH 168 (iH 164 (iH 160 (iH 156 (iH 152 (iH 148 (iH 144 I))))))))) X)
  refine w_aast (Ev.cm _) rfl (Nat.le_of_ble_eq_true rfl) rfl (by decide) (Nat.le_of_ble_eq_true rfl) rfl ?_
  show Wp _ _ _ _ _ _ _ 34 [(0, .ref 142), (1, .int 8)] [] (puR (HN 180 (176 :: 142 :: os) (iH 176 (iH 172 (iH 168 (iH 164 (iH 160 (iH 156 (iH 152 (iH 148 (iH 144 I))))))))) X) 143 8 (some 176))
  rw [hn_link rfl (Nat.le_of_ble_eq_true rfl) (nin hos (Nat.le_of_ble_eq_true rfl))]
  refine w_iinc (ls2 := [(0, .ref 142), (1, .int 9)]) (Ev.cm _) rfl rfl rfl ?_
  refine w_goto (Ev.cm _) rfl ?_
  refine w_iload_n (Ev.cm _) rfl rfl ?_
  refine w_bipush (Ev.cm _) rfl ?_
  refine w_icmp_ge (Ev.cm _) rfl (fun q => absurd q (by decide)) (fun _ => ?_)
  refine w_aload_n (Ev.cm _) rfl rfl ?_
  refine w_getR (q := 143) (Ev.cm _) rfl (Nat.le_of_ble_eq_true rfl) rfl (rd_get rfl (Nat.le_of_ble_eq_true rfl) (nin hos (Nat.le_of_ble_eq_true rfl))) ?_
  refine w_iload_n (Ev.cm _) rfl rfl ?_
  refine w_new (Ev.cm _) rfl (show _ ∧ _ from ⟨by decide +kernel, by decide +kernel⟩) ?_
  show Wp _ _ _ _ _ _ _ 29 [(0, .ref 142), (1, .int 9)] [.ref 180, .int 9, .ref 143] (puN (HN 180 (142 :: os) (iH 176 (iH 172 (iH 168 (iH 164 (iH 160 (iH 156 (iH 152 (iH 148 (iH 144 I))))))))) X) 1 8)
  rw [hn_new rfl z19]
  have z20 := (Zn z19)
  refine w_dup (Ev.cm _) rfl rfl ?_
  refine w_cinit (as := []) (o := 180) (st := [.ref 180, .int 9, .ref 143]) (Ev.cm _) rfl rfl rfl (Nat.le_of_ble_eq_true rfl) (show _ ∧ _ from ⟨by decide +kernel, by decide +kernel⟩) (Nat.le_of_ble_eq_true rfl) (e_iH (show isH 180 from Or.inr (Or.inr (Or.inr ⟨9, (Nat.le_of_ble_eq_true rfl), rfl⟩))) (fun x hx => by rcases List.mem_cons.mp hx with e | e <;> [(rw [e]; exact (Nat.le_of_ble_eq_true rfl)); exact Nat.lt_trans (hos x e) (Nat.le_of_ble_eq_true rfl)]) z20 ?_)
  have z21 := (iH_z (b := 180) z20)
  show Wp _ _ _ _ _ _ _ 33 [(0, .ref 142), (1, .int 9)] [.ref 180, .int 9, .ref 143] (HN 184 (180 :: 142 :: os) (iH 180 (iH 176 (iH 172 (iH 168 (iH 164 (iH 160 (iH 156 (iH 152 (iH 148 (iH 144 I)))))))))) X)
  refine w_aast (Ev.cm _) rfl (Nat.le_of_ble_eq_true rfl) rfl (by decide) (Nat.le_of_ble_eq_true rfl) rfl ?_
  show Wp _ _ _ _ _ _ _ 34 [(0, .ref 142), (1, .int 9)] [] (puR (HN 184 (180 :: 142 :: os) (iH 180 (iH 176 (iH 172 (iH 168 (iH 164 (iH 160 (iH 156 (iH 152 (iH 148 (iH 144 I)))))))))) X) 143 9 (some 180))
  rw [hn_link rfl (Nat.le_of_ble_eq_true rfl) (nin hos (Nat.le_of_ble_eq_true rfl))]
  refine w_iinc (ls2 := [(0, .ref 142), (1, .int 10)]) (Ev.cm _) rfl rfl rfl ?_
  refine w_goto (Ev.cm _) rfl ?_
  refine w_iload_n (Ev.cm _) rfl rfl ?_
  refine w_bipush (Ev.cm _) rfl ?_
  refine w_icmp_ge (Ev.cm _) rfl (fun q => absurd q (by decide)) (fun _ => ?_)
  refine w_aload_n (Ev.cm _) rfl rfl ?_
  refine w_getR (q := 143) (Ev.cm _) rfl (Nat.le_of_ble_eq_true rfl) rfl (rd_get rfl (Nat.le_of_ble_eq_true rfl) (nin hos (Nat.le_of_ble_eq_true rfl))) ?_
  refine w_iload_n (Ev.cm _) rfl rfl ?_
  refine w_new (Ev.cm _) rfl (show _ ∧ _ from ⟨by decide +kernel, by decide +kernel⟩) ?_
  show Wp _ _ _ _ _ _ _ 29 [(0, .ref 142), (1, .int 10)] [.ref 184, .int 10, .ref 143] (puN (HN 184 (142 :: os) (iH 180 (iH 176 (iH 172 (iH 168 (iH 164 (iH 160 (iH 156 (iH 152 (iH 148 (iH 144 I)))))))))) X) 1 8)
  rw [hn_new rfl z21]
  have z22 := (Zn z21)
  refine w_dup (Ev.cm _) rfl rfl ?_
  refine w_cinit (as := []) (o := 184) (st := [.ref 184, .int 10, .ref 143]) (Ev.cm _) rfl rfl rfl (Nat.le_of_ble_eq_true rfl) (show _ ∧ _ from ⟨by decide +kernel, by decide +kernel⟩) (Nat.le_of_ble_eq_true rfl) (e_iH (show isH 184 from Or.inr (Or.inr (Or.inr ⟨10, (Nat.le_of_ble_eq_true rfl), rfl⟩))) (fun x hx => by rcases List.mem_cons.mp hx with e | e <;> [(rw [e]; exact (Nat.le_of_ble_eq_true rfl)); exact Nat.lt_trans (hos x e) (Nat.le_of_ble_eq_true rfl)]) z22 ?_)
  have z23 := (iH_z (b := 184) z22)
  show Wp _ _ _ _ _ _ _ 33 [(0, .ref 142), (1, .int 10)] [.ref 184, .int 10, .ref 143] (HN 188 (184 :: 142 :: os) (iH 184 (iH 180 (iH 176 (iH 172 (iH 168 (iH 164 (iH 160 (iH 156 (iH 152 (iH 148 (iH 144 I))))))))))) X)
  refine w_aast (Ev.cm _) rfl (Nat.le_of_ble_eq_true rfl) rfl (by decide) (Nat.le_of_ble_eq_true rfl) rfl ?_
  show Wp _ _ _ _ _ _ _ 34 [(0, .ref 142), (1, .int 10)] [] (puR (HN 188 (184 :: 142 :: os) (iH 184 (iH 180 (iH 176 (iH 172 (iH 168 (iH 164 (iH 160 (iH 156 (iH 152 (iH 148 (iH 144 I))))))))))) X) 143 10 (some 184))
  rw [hn_link rfl (Nat.le_of_ble_eq_true rfl) (nin hos (Nat.le_of_ble_eq_true rfl))]
  refine w_iinc (ls2 := [(0, .ref 142), (1, .int 11)]) (Ev.cm _) rfl rfl rfl ?_
  refine w_goto (Ev.cm _) rfl ?_
  refine w_iload_n (Ev.cm _) rfl rfl ?_
  refine w_bipush (Ev.cm _) rfl ?_
  refine w_icmp_ge (Ev.cm _) rfl (fun q => absurd q (by decide)) (fun _ => ?_)
  refine w_aload_n (Ev.cm _) rfl rfl ?_
  refine w_getR (q := 143) (Ev.cm _) rfl (Nat.le_of_ble_eq_true rfl) rfl (rd_get rfl (Nat.le_of_ble_eq_true rfl) (nin hos (Nat.le_of_ble_eq_true rfl))) ?_
  refine w_iload_n (Ev.cm _) rfl rfl ?_
  refine w_new (Ev.cm _) rfl (show _ ∧ _ from ⟨by decide +kernel, by decide +kernel⟩) ?_
  show Wp _ _ _ _ _ _ _ 29 [(0, .ref 142), (1, .int 11)] [.ref 188, .int 11, .ref 143] (puN (HN 188 (142 :: os) (iH 184 (iH 180 (iH 176 (iH 172 (iH 168 (iH 164 (iH 160 (iH 156 (iH 152 (iH 148 (iH 144 I))))))))))) X) 1 8)
  rw [hn_new rfl z23]
  have z24 := (Zn z23)
  refine w_dup (Ev.cm _) rfl rfl ?_
  refine w_cinit (as := []) (o := 188) (st := [.ref 188, .int 11, .ref 143]) (Ev.cm _) rfl rfl rfl (Nat.le_of_ble_eq_true rfl) (show _ ∧ _ from ⟨by decide +kernel, by decide +kernel⟩) (Nat.le_of_ble_eq_true rfl) (e_iH (show isH 188 from Or.inr (Or.inr (Or.inr ⟨11, (Nat.le_of_ble_eq_true rfl), rfl⟩))) (fun x hx => by rcases List.mem_cons.mp hx with e | e <;> [(rw [e]; exact (Nat.le_of_ble_eq_true rfl)); exact Nat.lt_trans (hos x e) (Nat.le_of_ble_eq_true rfl)]) z24 ?_)
  have z25 := (iH_z (b := 188) z24)
  show Wp _ _ _ _ _ _ _ 33 [(0, .ref 142), (1, .int 11)] [.ref 188, .int 11, .ref 143] (HN 192 (188 :: 142 :: os) (iH 188 (iH 184 (iH 180 (iH 176 (iH 172 (iH 168 (iH 164 (iH 160 (iH 156 (iH 152 (iH 148 (iH 144 I)))))))))))) X)
  refine w_aast (Ev.cm _) rfl (Nat.le_of_ble_eq_true rfl) rfl (by decide) (Nat.le_of_ble_eq_true rfl) rfl ?_
  show Wp _ _ _ _ _ _ _ 34 [(0, .ref 142), (1, .int 11)] [] (puR (HN 192 (188 :: 142 :: os) (iH 188 (iH 184 (iH 180 (iH 176 (iH 172 (iH 168 (iH 164 (iH 160 (iH 156 (iH 152 (iH 148 (iH 144 I)))))))))))) X) 143 11 (some 188))
  rw [hn_link rfl (Nat.le_of_ble_eq_true rfl) (nin hos (Nat.le_of_ble_eq_true rfl))]
  refine w_iinc (ls2 := [(0, .ref 142), (1, .int 12)]) (Ev.cm _) rfl rfl rfl ?_
  refine w_goto (Ev.cm _) rfl ?_
  refine w_iload_n (Ev.cm _) rfl rfl ?_
  refine w_bipush (Ev.cm _) rfl ?_
  refine w_icmp_ge (Ev.cm _) rfl (fun q => absurd q (by decide)) (fun _ => ?_)
  refine w_aload_n (Ev.cm _) rfl rfl ?_
  refine w_getR (q := 143) (Ev.cm _) rfl (Nat.le_of_ble_eq_true rfl) rfl (rd_get rfl (Nat.le_of_ble_eq_true rfl) (nin hos (Nat.le_of_ble_eq_true rfl))) ?_
  refine w_iload_n (Ev.cm _) rfl rfl ?_
  refine w_new (Ev.cm _) rfl (show _ ∧ _ from ⟨by decide +kernel, by decide +kernel⟩) ?_
  show Wp _ _ _ _ _ _ _ 29 [(0, .ref 142), (1, .int 12)] [.ref 192, .int 12, .ref 143] (puN (HN 192 (142 :: os) (iH 188 (iH 184 (iH 180 (iH 176 (iH 172 (iH 168 (iH 164 (iH 160 (iH 156 (iH 152 (iH 148 (iH 144 I)))))))))))) X) 1 8)
  rw [hn_new rfl z25]
  have z26 := (Zn z25)
  refine w_dup (Ev.cm _) rfl rfl ?_
  refine w_cinit (as := []) (o := 192) (st := [.ref 192, .int 12, .ref 143]) (Ev.cm _) rfl rfl rfl (Nat.le_of_ble_eq_true rfl) (show _ ∧ _ from ⟨by decide +kernel, by decide +kernel⟩) (Nat.le_of_ble_eq_true rfl) (e_iH (show isH 192 from Or.inr (Or.inr (Or.inr ⟨12, (Nat.le_of_ble_eq_true rfl), rfl⟩))) (fun x hx => by rcases List.mem_cons.mp hx with e | e <;> [(rw [e]; exact (Nat.le_of_ble_eq_true rfl)); exact Nat.lt_trans (hos x e) (Nat.le_of_ble_eq_true rfl)]) z26 ?_)
  have z27 := (iH_z (b := 192) z26)
  show Wp _ _ _ _ _ _ _ 33 [(0, .ref 142), (1, .int 12)] [.ref 192, .int 12, .ref 143] (HN 196 (192 :: 142 :: os) (iH 192 (iH 188 (iH 184 (iH 180 (iH 176 (iH 172 (iH 168 (iH 164 (iH 160 (iH 156 (iH 152 (iH 148 (iH 144 I))))))))))))) X)
  refine w_aast (Ev.cm _) rfl (Nat.le_of_ble_eq_true rfl) rfl (by decide) (Nat.le_of_ble_eq_true rfl) rfl ?_
  show Wp _ _ _ _ _ _ _ 34 [(0, .ref 142), (1, .int 12)] [] (puR (HN 196 (192 :: 142 :: os) (iH 192 (iH 188 (iH 184 (iH 180 (iH 176 (iH 172 (iH 168 (iH 164 (iH 160 (iH 156 (iH 152 (iH 148 (iH 144 I))))))))))))) X) 143 12 (some 192))
  rw [hn_link rfl (Nat.le_of_ble_eq_true rfl) (nin hos (Nat.le_of_ble_eq_true rfl))]
  refine w_iinc (ls2 := [(0, .ref 142), (1, .int 13)]) (Ev.cm _) rfl rfl rfl ?_
  refine w_goto (Ev.cm _) rfl ?_
  refine w_iload_n (Ev.cm _) rfl rfl ?_
  refine w_bipush (Ev.cm _) rfl ?_
  refine w_icmp_ge (Ev.cm _) rfl (fun q => absurd q (by decide)) (fun _ => ?_)
  refine w_aload_n (Ev.cm _) rfl rfl ?_
  refine w_getR (q := 143) (Ev.cm _) rfl (Nat.le_of_ble_eq_true rfl) rfl (rd_get rfl (Nat.le_of_ble_eq_true rfl) (nin hos (Nat.le_of_ble_eq_true rfl))) ?_
  refine w_iload_n (Ev.cm _) rfl rfl ?_
  refine w_new (Ev.cm _) rfl (show _ ∧ _ from ⟨by decide +kernel, by decide +kernel⟩) ?_
  show Wp _ _ _ _ _ _ _ 29 [(0, .ref 142), (1, .int 13)] [.ref 196, .int 13, .ref 143] (puN (HN 196 (142 :: os) (iH 192 (iH 188 (iH 184 (iH 180 (iH 176 (iH 172 (iH 168 (iH 164 (iH 160 (iH 156 (iH 152 (iH 148 (iH 144 I))))))))))))) X) 1 8)
  rw [hn_new rfl z27]
  have z28 := (Zn z27)
  refine w_dup (Ev.cm _) rfl rfl ?_
  refine w_cinit (as := []) (o := 196) (st := [.ref 196, .int 13, .ref 143]) (Ev.cm _) rfl rfl rfl (Nat.le_of_ble_eq_true rfl) (show _ ∧ _ from ⟨by decide +kernel, by decide +kernel⟩) (Nat.le_of_ble_eq_true rfl) (e_iH (show isH 196 from Or.inr (Or.inr (Or.inr ⟨13, (Nat.le_of_ble_eq_true rfl), rfl⟩))) (fun x hx => by rcases List.mem_cons.mp hx with e | e <;> [(rw [e]; exact (Nat.le_of_ble_eq_true rfl)); exact Nat.lt_trans (hos x e) (Nat.le_of_ble_eq_true rfl)]) z28 ?_)
  have z29 := (iH_z (b := 196) z28)
  show Wp _ _ _ _ _ _ _ 33 [(0, .ref 142), (1, .int 13)] [.ref 196, .int 13, .ref 143] (HN 200 (196 :: 142 :: os) (iH 196 (iH 192 (iH 188 (iH 184 (iH 180 (iH 176 (iH 172 (iH 168 (iH 164 (iH 160 (iH 156 (iH 152 (iH 148 (iH 144 I)))))))))))))) X)
  refine w_aast (Ev.cm _) rfl (Nat.le_of_ble_eq_true rfl) rfl (by decide) (Nat.le_of_ble_eq_true rfl) rfl ?_
  show Wp _ _ _ _ _ _ _ 34 [(0, .ref 142), (1, .int 13)] [] (puR (HN 200 (196 :: 142 :: os) (iH 196 (iH 192 (iH 188 (iH 184 (iH 180 (iH 176 (iH 172 (iH 168 (iH 164 (iH 160 (iH 156 (iH 152 (iH 148 (iH 144 I)))))))))))))) X) 143 13 (some 196))
  rw [hn_link rfl (Nat.le_of_ble_eq_true rfl) (nin hos (Nat.le_of_ble_eq_true rfl))]
  refine w_iinc (ls2 := [(0, .ref 142), (1, .int 14)]) (Ev.cm _) rfl rfl rfl ?_
  refine w_goto (Ev.cm _) rfl ?_
  refine w_iload_n (Ev.cm _) rfl rfl ?_
  refine w_bipush (Ev.cm _) rfl ?_
  refine w_icmp_ge (Ev.cm _) rfl (fun q => absurd q (by decide)) (fun _ => ?_)
  refine w_aload_n (Ev.cm _) rfl rfl ?_
  refine w_getR (q := 143) (Ev.cm _) rfl (Nat.le_of_ble_eq_true rfl) rfl (rd_get rfl (Nat.le_of_ble_eq_true rfl) (nin hos (Nat.le_of_ble_eq_true rfl))) ?_
  refine w_iload_n (Ev.cm _) rfl rfl ?_
  refine w_new (Ev.cm _) rfl (show _ ∧ _ from ⟨by decide +kernel, by decide +kernel⟩) ?_
  show Wp _ _ _ _ _ _ _ 29 [(0, .ref 142), (1, .int 14)] [.ref 200, .int 14, .ref 143] (puN (HN 200 (142 :: os) (iH 196 (iH 192 (iH 188 (iH 184 (iH 180 (iH 176 (iH 172 (iH 168 (iH 164 (iH 160 (iH 156 (iH 152 (iH 148 (iH 144 I)))))))))))))) X) 1 8)
  rw [hn_new rfl z29]
  have z30 := (Zn z29)
  refine w_dup (Ev.cm _) rfl rfl ?_
  refine w_cinit (as := []) (o := 200) (st := [.ref 200, .int 14, .ref 143]) (Ev.cm _) rfl rfl rfl (Nat.le_of_ble_eq_true rfl) (show _ ∧ _ from ⟨by decide +kernel, by decide +kernel⟩) (Nat.le_of_ble_eq_true rfl) (e_iH (show isH 200 from Or.inr (Or.inr (Or.inr ⟨14, (Nat.le_of_ble_eq_true rfl), rfl⟩))) (fun x hx => by rcases List.mem_cons.mp hx with e | e <;> [(rw [e]; exact (Nat.le_of_ble_eq_true rfl)); exact Nat.lt_trans (hos x e) (Nat.le_of_ble_eq_true rfl)]) z30 ?_)
  have z31 := (iH_z (b := 200) z30)
  show Wp _ _ _ _ _ _ _ 33 [(0, .ref 142), (1, .int 14)] [.ref 200, .int 14, .ref 143] (HN 204 (200 :: 142 :: os) (iH 200 (iH 196 (iH 192 (iH 188 (iH 184 (iH 180 (iH 176 (iH 172 (iH 168 (iH 164 (iH 160 (iH 156 (iH 152 (iH 148 (iH 144 I))))))))))))))) X)
  refine w_aast (Ev.cm _) rfl (Nat.le_of_ble_eq_true rfl) rfl (by decide) (Nat.le_of_ble_eq_true rfl) rfl ?_
  show Wp _ _ _ _ _ _ _ 34 [(0, .ref 142), (1, .int 14)] [] (puR (HN 204 (200 :: 142 :: os) (iH 200 (iH 196 (iH 192 (iH 188 (iH 184 (iH 180 (iH 176 (iH 172 (iH 168 (iH 164 (iH 160 (iH 156 (iH 152 (iH 148 (iH 144 I))))))))))))))) X) 143 14 (some 200))
  rw [hn_link rfl (Nat.le_of_ble_eq_true rfl) (nin hos (Nat.le_of_ble_eq_true rfl))]
  refine w_iinc (ls2 := [(0, .ref 142), (1, .int 15)]) (Ev.cm _) rfl rfl rfl ?_
  refine w_goto (Ev.cm _) rfl ?_
  refine w_iload_n (Ev.cm _) rfl rfl ?_
  refine w_bipush (Ev.cm _) rfl ?_
  refine w_icmp_ge (Ev.cm _) rfl (fun q => absurd q (by decide)) (fun _ => ?_)
  refine w_aload_n (Ev.cm _) rfl rfl ?_
  refine w_getR (q := 143) (Ev.cm _) rfl (Nat.le_of_ble_eq_true rfl) rfl (rd_get rfl (Nat.le_of_ble_eq_true rfl) (nin hos (Nat.le_of_ble_eq_true rfl))) ?_
  refine w_iload_n (Ev.cm _) rfl rfl ?_
  refine w_new (Ev.cm _) rfl (show _ ∧ _ from ⟨by decide +kernel, by decide +kernel⟩) ?_
  show Wp _ _ _ _ _ _ _ 29 [(0, .ref 142), (1, .int 15)] [.ref 204, .int 15, .ref 143] (puN (HN 204 (142 :: os) (iH 200 (iH 196 (iH 192 (iH 188 (iH 184 (iH 180 (iH 176 (iH 172 (iH 168 (iH 164 (iH 160 (iH 156 (iH 152 (iH 148 (iH 144 I))))))))))))))) X) 1 8)
  rw [hn_new rfl z31]
  have z32 := (Zn z31)
  refine w_dup (Ev.cm _) rfl rfl ?_
  refine w_cinit (as := []) (o := 204) (st := [.ref 204, .int 15, .ref 143]) (Ev.cm _) rfl rfl rfl (Nat.le_of_ble_eq_true rfl) (show _ ∧ _ from ⟨by decide +kernel, by decide +kernel⟩) (Nat.le_of_ble_eq_true rfl) (e_iH (show isH 204 from Or.inr (Or.inr (Or.inr ⟨15, (Nat.le_of_ble_eq_true rfl), rfl⟩))) (fun x hx => by rcases List.mem_cons.mp hx with e | e <;> [(rw [e]; exact (Nat.le_of_ble_eq_true rfl)); exact Nat.lt_trans (hos x e) (Nat.le_of_ble_eq_true rfl)]) z32 ?_)
  have z33 := (iH_z (b := 204) z32)
  show Wp _ _ _ _ _ _ _ 33 [(0, .ref 142), (1, .int 15)] [.ref 204, .int 15, .ref 143] (HN 208 (204 :: 142 :: os) (iH 204 (iH 200 (iH 196 (iH 192 (iH 188 (iH 184 (iH 180 (iH 176 (iH 172 (iH 168 (iH 164 (iH 160 (iH 156 (iH 152 (iH 148 (iH 144 I)))))))))))))))) X)
  refine w_aast (Ev.cm _) rfl (Nat.le_of_ble_eq_true rfl) rfl (by decide) (Nat.le_of_ble_eq_true rfl) rfl ?_
  show Wp _ _ _ _ _ _ _ 34 [(0, .ref 142), (1, .int 15)] [] (puR (HN 208 (204 :: 142 :: os) (iH 204 (iH 200 (iH 196 (iH 192 (iH 188 (iH 184 (iH 180 (iH 176 (iH 172 (iH 168 (iH 164 (iH 160 (iH 156 (iH 152 (iH 148 (iH 144 I)))))))))))))))) X) 143 15 (some 204))
  rw [hn_link rfl (Nat.le_of_ble_eq_true rfl) (nin hos (Nat.le_of_ble_eq_true rfl))]
  refine w_iinc (ls2 := [(0, .ref 142), (1, .int 16)]) (Ev.cm _) rfl rfl rfl ?_
  refine w_goto (Ev.cm _) rfl ?_
  refine w_iload_n (Ev.cm _) rfl rfl ?_
  refine w_bipush (Ev.cm _) rfl ?_
  refine w_icmp_ge (Ev.cm _) rfl (fun q => absurd q (by decide)) (fun _ => ?_)
  refine w_aload_n (Ev.cm _) rfl rfl ?_
  refine w_getR (q := 143) (Ev.cm _) rfl (Nat.le_of_ble_eq_true rfl) rfl (rd_get rfl (Nat.le_of_ble_eq_true rfl) (nin hos (Nat.le_of_ble_eq_true rfl))) ?_
  refine w_iload_n (Ev.cm _) rfl rfl ?_
  refine w_new (Ev.cm _) rfl (show _ ∧ _ from ⟨by decide +kernel, by decide +kernel⟩) ?_
  show Wp _ _ _ _ _ _ _ 29 [(0, .ref 142), (1, .int 16)] [.ref 208, .int 16, .ref 143] (puN (HN 208 (142 :: os) (iH 204 (iH 200 (iH 196 (iH 192 (iH 188 (iH 184 (iH 180 (iH 176 (iH 172 (iH 168 (iH 164 (iH 160 (iH 156 (iH 152 (iH 148 (iH 144 I)))))))))))))))) X) 1 8)
  rw [hn_new rfl z33]
  have z34 := (Zn z33)
  refine w_dup (Ev.cm _) rfl rfl ?_
  refine w_cinit (as := []) (o := 208) (st := [.ref 208, .int 16, .ref 143]) (Ev.cm _) rfl rfl rfl (Nat.le_of_ble_eq_true rfl) (show _ ∧ _ from ⟨by decide +kernel, by decide +kernel⟩) (Nat.le_of_ble_eq_true rfl) (e_iH (show isH 208 from Or.inr (Or.inr (Or.inr ⟨16, (Nat.le_of_ble_eq_true rfl), rfl⟩))) (fun x hx => by rcases List.mem_cons.mp hx with e | e <;> [(rw [e]; exact (Nat.le_of_ble_eq_true rfl)); exact Nat.lt_trans (hos x e) (Nat.le_of_ble_eq_true rfl)]) z34 ?_)
  have z35 := (iH_z (b := 208) z34)
  show Wp _ _ _ _ _ _ _ 33 [(0, .ref 142), (1, .int 16)] [.ref 208, .int 16, .ref 143] (HN 212 (208 :: 142 :: os) (iH 208 (iH 204 (iH 200 (iH 196 (iH 192 (iH 188 (iH 184 (iH 180 (iH 176 (iH 172 (iH 168 (iH 164 (iH 160 (iH 156 (iH 152 (iH 148 (iH 144 I))))))))))))))))) X)
  refine w_aast (Ev.cm _) rfl (Nat.le_of_ble_eq_true rfl) rfl (by decide) (Nat.le_of_ble_eq_true rfl) rfl ?_
  show Wp _ _ _ _ _ _ _ 34 [(0, .ref 142), (1, .int 16)] [] (puR (HN 212 (208 :: 142 :: os) (iH 208 (iH 204 (iH 200 (iH 196 (iH 192 (iH 188 (iH 184 (iH 180 (iH 176 (iH 172 (iH 168 (iH 164 (iH 160 (iH 156 (iH 152 (iH 148 (iH 144 I))))))))))))))))) X) 143 16 (some 208))
  rw [hn_link rfl (Nat.le_of_ble_eq_true rfl) (nin hos (Nat.le_of_ble_eq_true rfl))]
  refine w_iinc (ls2 := [(0, .ref 142), (1, .int 17)]) (Ev.cm _) rfl rfl rfl ?_
  refine w_goto (Ev.cm _) rfl ?_
  refine w_iload_n (Ev.cm _) rfl rfl ?_
  refine w_bipush (Ev.cm _) rfl ?_
  refine w_icmp_ge (Ev.cm _) rfl (fun q => absurd q (by decide)) (fun _ => ?_)
  refine w_aload_n (Ev.cm _) rfl rfl ?_
  refine w_getR (q := 143) (Ev.cm _) rfl (Nat.le_of_ble_eq_true rfl) rfl (rd_get rfl (Nat.le_of_ble_eq_true rfl) (nin hos (Nat.le_of_ble_eq_true rfl))) ?_
  refine w_iload_n (Ev.cm _) rfl rfl ?_
  refine w_new (Ev.cm _) rfl (show _ ∧ _ from ⟨by decide +kernel, by decide +kernel⟩) ?_
  show Wp _ _ _ _ _ _ _ 29 [(0, .ref 142), (1, .int 17)] [.ref 212, .int 17, .ref 143] (puN (HN 212 (142 :: os) (iH 208 (iH 204 (iH 200 (iH 196 (iH 192 (iH 188 (iH 184 (iH 180 (iH 176 (iH 172 (iH 168 (iH 164 (iH 160 (iH 156 (iH 152 (iH 148 (iH 144 I))))))))))))))))) X) 1 8)
  rw [hn_new rfl z35]
  have z36 := (Zn z35)
  refine w_dup (Ev.cm _) rfl rfl ?_
  refine w_cinit (as := []) (o := 212) (st := [.ref 212, .int 17, .ref 143]) (Ev.cm _) rfl rfl rfl (Nat.le_of_ble_eq_true rfl) (show _ ∧ _ from ⟨by decide +kernel, by decide +kernel⟩) (Nat.le_of_ble_eq_true rfl) (e_iH (show isH 212 from Or.inr (Or.inr (Or.inr ⟨17, (Nat.le_of_ble_eq_true rfl), rfl⟩))) (fun x hx => by rcases List.mem_cons.mp hx with e | e <;> [(rw [e]; exact (Nat.le_of_ble_eq_true rfl)); exact Nat.lt_trans (hos x e) (Nat.le_of_ble_eq_true rfl)]) z36 ?_)
  have z37 := (iH_z (b := 212) z36)
  show Wp _ _ _ _ _ _ _ 33 [(0, .ref 142), (1, .int 17)] [.ref 212, .int 17, .ref 143] (HN 216 (212 :: 142 :: os) (iH 212 (iH 208 (iH 204 (iH 200 (iH 196 (iH 192 (iH 188 (iH 184 (iH 180 (iH 176 (iH 172 (iH 168 (iH 164 (iH 160 (iH 156 (iH 152 (iH 148 (iH 144 I)))))))))))))))))) X)
  refine w_aast (Ev.cm _) rfl (Nat.le_of_ble_eq_true rfl) rfl (by decide) (Nat.le_of_ble_eq_true rfl) rfl ?_
  show Wp _ _ _ _ _ _ _ 34 [(0, .ref 142), (1, .int 17)] [] (puR (HN 216 (212 :: 142 :: os) (iH 212 (iH 208 (iH 204 (iH 200 (iH 196 (iH 192 (iH 188 (iH 184 (iH 180 (iH 176 (iH 172 (iH 168 (iH 164 (iH 160 (iH 156 (iH 152 (iH 148 (iH 144 I)))))))))))))))))) X) 143 17 (some 212))
  rw [hn_link rfl (Nat.le_of_ble_eq_true rfl) (nin hos (Nat.le_of_ble_eq_true rfl))]
  refine w_iinc (ls2 := [(0, .ref 142), (1, .int 18)]) (Ev.cm _) rfl rfl rfl ?_
  refine w_goto (Ev.cm _) rfl ?_
  refine w_iload_n (Ev.cm _) rfl rfl ?_
  refine w_bipush (Ev.cm _) rfl ?_
  refine w_icmp_ge (Ev.cm _) rfl (fun q => absurd q (by decide)) (fun _ => ?_)
  refine w_aload_n (Ev.cm _) rfl rfl ?_
  refine w_getR (q := 143) (Ev.cm _) rfl (Nat.le_of_ble_eq_true rfl) rfl (rd_get rfl (Nat.le_of_ble_eq_true rfl) (nin hos (Nat.le_of_ble_eq_true rfl))) ?_
  refine w_iload_n (Ev.cm _) rfl rfl ?_
  refine w_new (Ev.cm _) rfl (show _ ∧ _ from ⟨by decide +kernel, by decide +kernel⟩) ?_
  show Wp _ _ _ _ _ _ _ 29 [(0, .ref 142), (1, .int 18)] [.ref 216, .int 18, .ref 143] (puN (HN 216 (142 :: os) (iH 212 (iH 208 (iH 204 (iH 200 (iH 196 (iH 192 (iH 188 (iH 184 (iH 180 (iH 176 (iH 172 (iH 168 (iH 164 (iH 160 (iH 156 (iH 152 (iH 148 (iH 144 I)))))))))))))))))) X) 1 8)
  rw [hn_new rfl z37]
  have z38 := (Zn z37)
  refine w_dup (Ev.cm _) rfl rfl ?_
  refine w_cinit (as := []) (o := 216) (st := [.ref 216, .int 18, .ref 143]) (Ev.cm _) rfl rfl rfl (Nat.le_of_ble_eq_true rfl) (show _ ∧ _ from ⟨by decide +kernel, by decide +kernel⟩) (Nat.le_of_ble_eq_true rfl) (e_iH (show isH 216 from Or.inr (Or.inr (Or.inr ⟨18, (Nat.le_of_ble_eq_true rfl), rfl⟩))) (fun x hx => by rcases List.mem_cons.mp hx with e | e <;> [(rw [e]; exact (Nat.le_of_ble_eq_true rfl)); exact Nat.lt_trans (hos x e) (Nat.le_of_ble_eq_true rfl)]) z38 ?_)
  have z39 := (iH_z (b := 216) z38)
  show Wp _ _ _ _ _ _ _ 33 [(0, .ref 142), (1, .int 18)] [.ref 216, .int 18, .ref 143] (HN 220 (216 :: 142 :: os) (iH 216 (iH 212 (iH 208 (iH 204 (iH 200 (iH 196 (iH 192 (iH 188 (iH 184 (iH 180 (iH 176 (iH 172 (iH 168 (iH 164 (iH 160 (iH 156 (iH 152 (iH 148 (iH 144 I))))))))))))))))))) X)
  refine w_aast (Ev.cm _) rfl (Nat.le_of_ble_eq_true rfl) rfl (by decide) (Nat.le_of_ble_eq_true rfl) rfl ?_
  show Wp _ _ _ _ _ _ _ 34 [(0, .ref 142), (1, .int 18)] [] (puR (HN 220 (216 :: 142 :: os) (iH 216 (iH 212 (iH 208 (iH 204 (iH 200 (iH 196 (iH 192 (iH 188 (iH 184 (iH 180 (iH 176 (iH 172 (iH 168 (iH 164 (iH 160 (iH 156 (iH 152 (iH 148 (iH 144 I))))))))))))))))))) X) 143 18 (some 216))
  rw [hn_link rfl (Nat.le_of_ble_eq_true rfl) (nin hos (Nat.le_of_ble_eq_true rfl))]
  refine w_iinc (ls2 := [(0, .ref 142), (1, .int 19)]) (Ev.cm _) rfl rfl rfl ?_
  refine w_goto (Ev.cm _) rfl ?_
  refine w_iload_n (Ev.cm _) rfl rfl ?_
  refine w_bipush (Ev.cm _) rfl ?_
  refine w_icmp_ge (Ev.cm _) rfl (fun q => absurd q (by decide)) (fun _ => ?_)
  refine w_aload_n (Ev.cm _) rfl rfl ?_
  refine w_getR (q := 143) (Ev.cm _) rfl (Nat.le_of_ble_eq_true rfl) rfl (rd_get rfl (Nat.le_of_ble_eq_true rfl) (nin hos (Nat.le_of_ble_eq_true rfl))) ?_
  refine w_iload_n (Ev.cm _) rfl rfl ?_
  refine w_new (Ev.cm _) rfl (show _ ∧ _ from ⟨by decide +kernel, by decide +kernel⟩) ?_
  show Wp _ _ _ _ _ _ _ 29 [(0, .ref 142), (1, .int 19)] [.ref 220, .int 19, .ref 143] (puN (HN 220 (142 :: os) (iH 216 (iH 212 (iH 208 (iH 204 (iH 200 (iH 196 (iH 192 (iH 188 (iH 184 (iH 180 (iH 176 (iH 172 (iH 168 (iH 164 (iH 160 (iH 156 (iH 152 (iH 148 (iH 144 I))))))))))))))))))) X) 1 8)
  rw [hn_new rfl z39]
  have z40 := (Zn z39)
  refine w_dup (Ev.cm _) rfl rfl ?_
  refine w_cinit (as := []) (o := 220) (st := [.ref 220, .int 19, .ref 143]) (Ev.cm _) rfl rfl rfl (Nat.le_of_ble_eq_true rfl) (show _ ∧ _ from ⟨by decide +kernel, by decide +kernel⟩) (Nat.le_of_ble_eq_true rfl) (e_iH (show isH 220 from Or.inr (Or.inr (Or.inr ⟨19, (Nat.le_of_ble_eq_true rfl), rfl⟩))) (fun x hx => by rcases List.mem_cons.mp hx with e | e <;> [(rw [e]; exact (Nat.le_of_ble_eq_true rfl)); exact Nat.lt_trans (hos x e) (Nat.le_of_ble_eq_true rfl)]) z40 ?_)
  have z41 := (iH_z (b := 220) z40)
  show Wp _ _ _ _ _ _ _ 33 [(0, .ref 142), (1, .int 19)] [.ref 220, .int 19, .ref 143] (HN 224 (220 :: 142 :: os) (iH 220 (iH 216 (iH 212 (iH 208 (iH 204 (iH 200 (iH 196 (iH 192 (iH 188 (iH 184 (iH 180 (iH 176 (iH 172 (iH 168 (iH 164 (iH 160 (iH 156 (iH 152 (iH 148 (iH 144 I)))))))))))))))))))) X)
  refine w_aast (Ev.cm _) rfl (Nat.le_of_ble_eq_true rfl) rfl (by decide) (Nat.le_of_ble_eq_true rfl) rfl ?_
  show Wp _ _ _ _ _ _ _ 34 [(0, .ref 142), (1, .int 19)] [] (puR (HN 224 (220 :: 142 :: os) (iH 220 (iH 216 (iH 212 (iH 208 (iH 204 (iH 200 (iH 196 (iH 192 (iH 188 (iH 184 (iH 180 (iH 176 (iH 172 (iH 168 (iH 164 (iH 160 (iH 156 (iH 152 (iH 148 (iH 144 I)))))))))))))))))))) X) 143 19 (some 220))
  rw [hn_link rfl (Nat.le_of_ble_eq_true rfl) (nin hos (Nat.le_of_ble_eq_true rfl))]
  refine w_iinc (ls2 := [(0, .ref 142), (1, .int 20)]) (Ev.cm _) rfl rfl rfl ?_
  refine w_goto (Ev.cm _) rfl ?_
  refine w_iload_n (Ev.cm _) rfl rfl ?_
  refine w_bipush (Ev.cm _) rfl ?_
  refine w_icmp_ge (Ev.cm _) rfl (fun q => absurd q (by decide)) (fun _ => ?_)
  refine w_aload_n (Ev.cm _) rfl rfl ?_
  refine w_getR (q := 143) (Ev.cm _) rfl (Nat.le_of_ble_eq_true rfl) rfl (rd_get rfl (Nat.le_of_ble_eq_true rfl) (nin hos (Nat.le_of_ble_eq_true rfl))) ?_
  refine w_iload_n (Ev.cm _) rfl rfl ?_
  refine w_new (Ev.cm _) rfl (show _ ∧ _ from ⟨by decide +kernel, by decide +kernel⟩) ?_
  show Wp _ _ _ _ _ _ _ 29 [(0, .ref 142), (1, .int 20)] [.ref 224, .int 20, .ref 143] (puN (HN 224 (142 :: os) (iH 220 (iH 216 (iH 212 (iH 208 (iH 204 (iH 200 (iH 196 (iH 192 (iH 188 (iH 184 (iH 180 (iH 176 (iH 172 (iH 168 (iH 164 (iH 160 (iH 156 (iH 152 (iH 148 (iH 144 I)))))))))))))))))))) X) 1 8)
  rw [hn_new rfl z41]
  have z42 := (Zn z41)
  refine w_dup (Ev.cm _) rfl rfl ?_
  refine w_cinit (as := []) (o := 224) (st := [.ref 224, .int 20, .ref 143]) (Ev.cm _) rfl rfl rfl (Nat.le_of_ble_eq_true rfl) (show _ ∧ _ from ⟨by decide +kernel, by decide +kernel⟩) (Nat.le_of_ble_eq_true rfl) (e_iH (show isH 224 from Or.inr (Or.inr (Or.inr ⟨20, (Nat.le_of_ble_eq_true rfl), rfl⟩))) (fun x hx => by rcases List.mem_cons.mp hx with e | e <;> [(rw [e]; exact (Nat.le_of_ble_eq_true rfl)); exact Nat.lt_trans (hos x e) (Nat.le_of_ble_eq_true rfl)]) z42 ?_)
  have z43 := (iH_z (b := 224) z42)
  show Wp _ _ _ _ _ _ _ 33 [(0, .ref 142), (1, .int 20)] [.ref 224, .int 20, .ref 143] (HN 228 (224 :: 142 :: os) (iH 224 (iH 220 (iH 216 (iH 212 (iH 208 (iH 204 (iH 200 (iH 196 (iH 192 (iH 188 (iH 184 (iH 180 (iH 176 (iH 172 (iH 168 (iH 164 (iH 160 (iH 156 (iH 152 (iH 148 (iH 144 I))))))))))))))))))))) X)
  refine w_aast (Ev.cm _) rfl (Nat.le_of_ble_eq_true rfl) rfl (by decide) (Nat.le_of_ble_eq_true rfl) rfl ?_
  show Wp _ _ _ _ _ _ _ 34 [(0, .ref 142), (1, .int 20)] [] (puR (HN 228 (224 :: 142 :: os) (iH 224 (iH 220 (iH 216 (iH 212 (iH 208 (iH 204 (iH 200 (iH 196 (iH 192 (iH 188 (iH 184 (iH 180 (iH 176 (iH 172 (iH 168 (iH 164 (iH 160 (iH 156 (iH 152 (iH 148 (iH 144 I))))))))))))))))))))) X) 143 20 (some 224))
  rw [hn_link rfl (Nat.le_of_ble_eq_true rfl) (nin hos (Nat.le_of_ble_eq_true rfl))]
  refine w_iinc (ls2 := [(0, .ref 142), (1, .int 21)]) (Ev.cm _) rfl rfl rfl ?_
  refine w_goto (Ev.cm _) rfl ?_
  refine w_iload_n (Ev.cm _) rfl rfl ?_
  refine w_bipush (Ev.cm _) rfl ?_
  refine w_icmp_ge (Ev.cm _) rfl (fun q => absurd q (by decide)) (fun _ => ?_)
  refine w_aload_n (Ev.cm _) rfl rfl ?_
  refine w_getR (q := 143) (Ev.cm _) rfl (Nat.le_of_ble_eq_true rfl) rfl (rd_get rfl (Nat.le_of_ble_eq_true rfl) (nin hos (Nat.le_of_ble_eq_true rfl))) ?_
  refine w_iload_n (Ev.cm _) rfl rfl ?_
  refine w_new (Ev.cm _) rfl (show _ ∧ _ from ⟨by decide +kernel, by decide +kernel⟩) ?_
  show Wp _ _ _ _ _ _ _ 29 [(0, .ref 142), (1, .int 21)] [.ref 228, .int 21, .ref 143] (puN (HN 228 (142 :: os) (iH 224 (iH 220 (iH 216 (iH 212 (iH 208 (iH 204 (iH 200 (iH 196 (iH 192 (iH 188 (iH 184 (iH 180 (iH 176 (iH 172 (iH 168 (iH 164 (iH 160 (iH 156 (iH 152 (iH 148 (iH 144 I))))))))))))))))))))) X) 1 8)
  rw [hn_new rfl z43]
  have z44 := (Zn z43)
  refine w_dup (Ev.cm _) rfl rfl ?_
  refine w_cinit (as := []) (o := 228) (st := [.ref 228, .int 21, .ref 143]) (Ev.cm _) rfl rfl rfl (Nat.le_of_ble_eq_true rfl) (show _ ∧ _ from ⟨by decide +kernel, by decide +kernel⟩) (Nat.le_of_ble_eq_true rfl) (e_iH (show isH 228 from Or.inr (Or.inr (Or.inr ⟨21, (Nat.le_of_ble_eq_true rfl), rfl⟩))) (fun x hx => by rcases List.mem_cons.mp hx with e | e <;> [(rw [e]; exact (Nat.le_of_ble_eq_true rfl)); exact Nat.lt_trans (hos x e) (Nat.le_of_ble_eq_true rfl)]) z44 ?_)
  have z45 := (iH_z (b := 228) z44)
  show Wp _ _ _ _ _ _ _ 33 [(0, .ref 142), (1, .int 21)] [.ref 228, .int 21, .ref 143] (HN 232 (228 :: 142 :: os) (iH 228 (iH 224 (iH 220 (iH 216 (iH 212 (iH 208 (iH 204 (iH 200 (iH 196 (iH 192 (iH 188 (iH 184 (iH 180 (iH 176 (iH 172 (iH 168 (iH 164 (iH 160 (iH 156 (iH 152 (iH 148 (iH 144 I)))))))))))))))))))))) X)
  refine w_aast (Ev.cm _) rfl (Nat.le_of_ble_eq_true rfl) rfl (by decide) (Nat.le_of_ble_eq_true rfl) rfl ?_
  show Wp _ _ _ _ _ _ _ 34 [(0, .ref 142), (1, .int 21)] [] (puR (HN 232 (228 :: 142 :: os) (iH 228 (iH 224 (iH 220 (iH 216 (iH 212 (iH 208 (iH 204 (iH 200 (iH 196 (iH 192 (iH 188 (iH 184 (iH 180 (iH 176 (iH 172 (iH 168 (iH 164 (iH 160 (iH 156 (iH 152 (iH 148 (iH 144 I)))))))))))))))))))))) X) 143 21 (some 228))
  rw [hn_link rfl (Nat.le_of_ble_eq_true rfl) (nin hos (Nat.le_of_ble_eq_true rfl))]
  refine w_iinc (ls2 := [(0, .ref 142), (1, .int 22)]) (Ev.cm _) rfl rfl rfl ?_
  refine w_goto (Ev.cm _) rfl ?_
  refine w_iload_n (Ev.cm _) rfl rfl ?_
  refine w_bipush (Ev.cm _) rfl ?_
  refine w_icmp_ge (Ev.cm _) rfl (fun q => absurd q (by decide)) (fun _ => ?_)
  refine w_aload_n (Ev.cm _) rfl rfl ?_
  refine w_getR (q := 143) (Ev.cm _) rfl (Nat.le_of_ble_eq_true rfl) rfl (rd_get rfl (Nat.le_of_ble_eq_true rfl) (nin hos (Nat.le_of_ble_eq_true rfl))) ?_
  refine w_iload_n (Ev.cm _) rfl rfl ?_
  refine w_new (Ev.cm _) rfl (show _ ∧ _ from ⟨by decide +kernel, by decide +kernel⟩) ?_
  show Wp _ _ _ _ _ _ _ 29 [(0, .ref 142), (1, .int 22)] [.ref 232, .int 22, .ref 143] (puN (HN 232 (142 :: os) (iH 228 (iH 224 (iH 220 (iH 216 (iH 212 (iH 208 (iH 204 (iH 200 (iH 196 (iH 192 (iH 188 (iH 184 (iH 180 (iH 176 (iH 172 (iH 168 (iH 164 (iH 160 (iH 156 (iH 152 (iH 148 (iH 144 I)))))))))))))))))))))) X) 1 8)
  rw [hn_new rfl z45]
  have z46 := (Zn z45)
  refine w_dup (Ev.cm _) rfl rfl ?_
  refine w_cinit (as := []) (o := 232) (st := [.ref 232, .int 22, .ref 143]) (Ev.cm _) rfl rfl rfl (Nat.le_of_ble_eq_true rfl) (show _ ∧ _ from ⟨by decide +kernel, by decide +kernel⟩) (Nat.le_of_ble_eq_true rfl) (e_iH (show isH 232 from Or.inr (Or.inr (Or.inr ⟨22, (Nat.le_of_ble_eq_true rfl), rfl⟩))) (fun x hx => by rcases List.mem_cons.mp hx with e | e <;> [(rw [e]; exact (Nat.le_of_ble_eq_true rfl)); exact Nat.lt_trans (hos x e) (Nat.le_of_ble_eq_true rfl)]) z46 ?_)
  have z47 := (iH_z (b := 232) z46)
  show Wp _ _ _ _ _ _ _ 33 [(0, .ref 142), (1, .int 22)] [.ref 232, .int 22, .ref 143] (HN 236 (232 :: 142 :: os) (iH 232 (iH 228 (iH 224 (iH 220 (iH 216 (iH 212 (iH 208 (iH 204 (iH 200 (iH 196 (iH 192 (iH 188 (iH 184 (iH 180 (iH 176 (iH 172 (iH 168 (iH 164 (iH 160 (iH 156 (iH 152 (iH 148 (iH 144 I))))))))))))))))))))))) X)
  refine w_aast (Ev.cm _) rfl (Nat.le_of_ble_eq_true rfl) rfl (by decide) (Nat.le_of_ble_eq_true rfl) rfl ?_
  show Wp _ _ _ _ _ _ _ 34 [(0, .ref 142), (1, .int 22)] [] (puR (HN 236 (232 :: 142 :: os) (iH 232 (iH 228 (iH 224 (iH 220 (iH 216 (iH 212 (iH 208 (iH 204 (iH 200 (iH 196 (iH 192 (iH 188 (iH 184 (iH 180 (iH 176 (iH 172 (iH 168 (iH 164 (iH 160 (iH 156 (iH 152 (iH 148 (iH 144 I))))))))))))))))))))))) X) 143 22 (some 232))
  rw [hn_link rfl (Nat.le_of_ble_eq_true rfl) (nin hos (Nat.le_of_ble_eq_true rfl))]
  refine w_iinc (ls2 := [(0, .ref 142), (1, .int 23)]) (Ev.cm _) rfl rfl rfl ?_
  refine w_goto (Ev.cm _) rfl ?_
  refine w_iload_n (Ev.cm _) rfl rfl ?_
  refine w_bipush (Ev.cm _) rfl ?_
  refine w_icmp_ge (Ev.cm _) rfl (fun q => absurd q (by decide)) (fun _ => ?_)
  refine w_aload_n (Ev.cm _) rfl rfl ?_
  refine w_getR (q := 143) (Ev.cm _) rfl (Nat.le_of_ble_eq_true rfl) rfl (rd_get rfl (Nat.le_of_ble_eq_true rfl) (nin hos (Nat.le_of_ble_eq_true rfl))) ?_
  refine w_iload_n (Ev.cm _) rfl rfl ?_
  refine w_new (Ev.cm _) rfl (show _ ∧ _ from ⟨by decide +kernel, by decide +kernel⟩) ?_
  show Wp _ _ _ _ _ _ _ 29 [(0, .ref 142), (1, .int 23)] [.ref 236, .int 23, .ref 143] (puN (HN 236 (142 :: os) (iH 232 (iH 228 (iH 224 (iH 220 (iH 216 (iH 212 (iH 208 (iH 204 (iH 200 (iH 196 (iH 192 (iH 188 (iH 184 (iH 180 (iH 176 (iH 172 (iH 168 (iH 164 (iH 160 (iH 156 (iH 152 (iH 148 (iH 144 I))))))))))))))))))))))) X) 1 8)
  rw [hn_new rfl z47]
  have z48 := (Zn z47)
  refine w_dup (Ev.cm _) rfl rfl ?_
  refine w_cinit (as := []) (o := 236) (st := [.ref 236, .int 23, .ref 143]) (Ev.cm _) rfl rfl rfl (Nat.le_of_ble_eq_true rfl) (show _ ∧ _ from ⟨by decide +kernel, by decide +kernel⟩) (Nat.le_of_ble_eq_true rfl) (e_iH (show isH 236 from Or.inr (Or.inr (Or.inr ⟨23, (Nat.le_of_ble_eq_true rfl), rfl⟩))) (fun x hx => by rcases List.mem_cons.mp hx with e | e <;> [(rw [e]; exact (Nat.le_of_ble_eq_true rfl)); exact Nat.lt_trans (hos x e) (Nat.le_of_ble_eq_true rfl)]) z48 ?_)
  have z49 := (iH_z (b := 236) z48)
  show Wp _ _ _ _ _ _ _ 33 [(0, .ref 142), (1, .int 23)] [.ref 236, .int 23, .ref 143] (HN 240 (236 :: 142 :: os) (iH 236 (iH 232 (iH 228 (iH 224 (iH 220 (iH 216 (iH 212 (iH 208 (iH 204 (iH 200 (iH 196 (iH 192 (iH 188 (iH 184 (iH 180 (iH 176 (iH 172 (iH 168 (iH 164 (iH 160 (iH 156 (iH 152 (iH 148 (iH 144 I)))))))))))))))))))))))) X)
  refine w_aast (Ev.cm _) rfl (Nat.le_of_ble_eq_true rfl) rfl (by decide) (Nat.le_of_ble_eq_true rfl) rfl ?_
  show Wp _ _ _ _ _ _ _ 34 [(0, .ref 142), (1, .int 23)] [] (puR (HN 240 (236 :: 142 :: os) (iH 236 (iH 232 (iH 228 (iH 224 (iH 220 (iH 216 (iH 212 (iH 208 (iH 204 (iH 200 (iH 196 (iH 192 (iH 188 (iH 184 (iH 180 (iH 176 (iH 172 (iH 168 (iH 164 (iH 160 (iH 156 (iH 152 (iH 148 (iH 144 I)))))))))))))))))))))))) X) 143 23 (some 236))
  rw [hn_link rfl (Nat.le_of_ble_eq_true rfl) (nin hos (Nat.le_of_ble_eq_true rfl))]
  refine w_iinc (ls2 := [(0, .ref 142), (1, .int 24)]) (Ev.cm _) rfl rfl rfl ?_
  refine w_goto (Ev.cm _) rfl ?_
  refine w_iload_n (Ev.cm _) rfl rfl ?_
  refine w_bipush (Ev.cm _) rfl ?_
  refine w_icmp_ge (Ev.cm _) rfl (fun q => absurd q (by decide)) (fun _ => ?_)
  refine w_aload_n (Ev.cm _) rfl rfl ?_
  refine w_getR (q := 143) (Ev.cm _) rfl (Nat.le_of_ble_eq_true rfl) rfl (rd_get rfl (Nat.le_of_ble_eq_true rfl) (nin hos (Nat.le_of_ble_eq_true rfl))) ?_
  refine w_iload_n (Ev.cm _) rfl rfl ?_
  refine w_new (Ev.cm _) rfl (show _ ∧ _ from ⟨by decide +kernel, by decide +kernel⟩) ?_
  show Wp _ _ _ _ _ _ _ 29 [(0, .ref 142), (1, .int 24)] [.ref 240, .int 24, .ref 143] (puN (HN 240 (142 :: os) (iH 236 (iH 232 (iH 228 (iH 224 (iH 220 (iH 216 (iH 212 (iH 208 (iH 204 (iH 200 (iH 196 (iH 192 (iH 188 (iH 184 (iH 180 (iH 176 (iH 172 (iH 168 (iH 164 (iH 160 (iH 156 (iH 152 (iH 148 (iH 144 I)))))))))))))))))))))))) X) 1 8)
  rw [hn_new rfl z49]
  have z50 := (Zn z49)
  refine w_dup (Ev.cm _) rfl rfl ?_
  refine w_cinit (as := []) (o := 240) (st := [.ref 240, .int 24, .ref 143]) (Ev.cm _) rfl rfl rfl (Nat.le_of_ble_eq_true rfl) (show _ ∧ _ from ⟨by decide +kernel, by decide +kernel⟩) (Nat.le_of_ble_eq_true rfl) (e_iH (show isH 240 from Or.inr (Or.inr (Or.inr ⟨24, (Nat.le_of_ble_eq_true rfl), rfl⟩))) (fun x hx => by rcases List.mem_cons.mp hx with e | e <;> [(rw [e]; exact (Nat.le_of_ble_eq_true rfl)); exact Nat.lt_trans (hos x e) (Nat.le_of_ble_eq_true rfl)]) z50 ?_)
  have z51 := (iH_z (b := 240) z50)
  show Wp _ _ _ _ _ _ _ 33 [(0, .ref 142), (1, .int 24)] [.ref 240, .int 24, .ref 143] (HN 244 (240 :: 142 :: os) (iH 240 (iH 236 (iH 232 (iH 228 (iH 224 (iH 220 (iH 216 (iH 212 (iH 208 (iH 204 (iH 200 (iH 196 (iH 192 (iH 188 (iH 184 (iH 180 (iH 176 (iH 172 (iH 168 (iH 164 (iH 160 (iH 156 (iH 152 (iH 148 (iH 144 I))))))))))))))))))))))))) X)
  refine w_aast (Ev.cm _) rfl (Nat.le_of_ble_eq_true rfl) rfl (by decide) (Nat.le_of_ble_eq_true rfl) rfl ?_
  show Wp _ _ _ _ _ _ _ 34 [(0, .ref 142), (1, .int 24)] [] (puR (HN 244 (240 :: 142 :: os) (iH 240 (iH 236 (iH 232 (iH 228 (iH 224 (iH 220 (iH 216 (iH 212 (iH 208 (iH 204 (iH 200 (iH 196 (iH 192 (iH 188 (iH 184 (iH 180 (iH 176 (iH 172 (iH 168 (iH 164 (iH 160 (iH 156 (iH 152 (iH 148 (iH 144 I))))))))))))))))))))))))) X) 143 24 (some 240))
  rw [hn_link rfl (Nat.le_of_ble_eq_true rfl) (nin hos (Nat.le_of_ble_eq_true rfl))]
  refine w_iinc (ls2 := [(0, .ref 142), (1, .int 25)]) (Ev.cm _) rfl rfl rfl ?_
  refine w_goto (Ev.cm _) rfl ?_
  refine w_iload_n (Ev.cm _) rfl rfl ?_
  refine w_bipush (Ev.cm _) rfl ?_
  refine w_icmp_ge (Ev.cm _) rfl (fun q => absurd q (by decide)) (fun _ => ?_)
  refine w_aload_n (Ev.cm _) rfl rfl ?_
  refine w_getR (q := 143) (Ev.cm _) rfl (Nat.le_of_ble_eq_true rfl) rfl (rd_get rfl (Nat.le_of_ble_eq_true rfl) (nin hos (Nat.le_of_ble_eq_true rfl))) ?_
  refine w_iload_n (Ev.cm _) rfl rfl ?_
  refine w_new (Ev.cm _) rfl (show _ ∧ _ from ⟨by decide +kernel, by decide +kernel⟩) ?_
  show Wp _ _ _ _ _ _ _ 29 [(0, .ref 142), (1, .int 25)] [.ref 244, .int 25, .ref 143] (puN (HN 244 (142 :: os) (iH 240 (iH 236 (iH 232 (iH 228 (iH 224 (iH 220 (iH 216 (iH 212 (iH 208 (iH 204 (iH 200 (iH 196 (iH 192 (iH 188 (iH 184 (iH 180 (iH 176 (iH 172 (iH 168 (iH 164 (iH 160 (iH 156 (iH 152 (iH 148 (iH 144 I))))))))))))))))))))))))) X) 1 8)
  rw [hn_new rfl z51]
  have z52 := (Zn z51)
  refine w_dup (Ev.cm _) rfl rfl ?_
  refine w_cinit (as := []) (o := 244) (st := [.ref 244, .int 25, .ref 143]) (Ev.cm _) rfl rfl rfl (Nat.le_of_ble_eq_true rfl) (show _ ∧ _ from ⟨by decide +kernel, by decide +kernel⟩) (Nat.le_of_ble_eq_true rfl) (e_iH (show isH 244 from Or.inr (Or.inr (Or.inr ⟨25, (Nat.le_of_ble_eq_true rfl), rfl⟩))) (fun x hx => by rcases List.mem_cons.mp hx with e | e <;> [(rw [e]; exact (Nat.le_of_ble_eq_true rfl)); exact Nat.lt_trans (hos x e) (Nat.le_of_ble_eq_true rfl)]) z52 ?_)
  have z53 := (iH_z (b := 244) z52)
  show Wp _ _ _ _ _ _ _ 33 [(0, .ref 142), (1, .int 25)] [.ref 244, .int 25, .ref 143] (HN 248 (244 :: 142 :: os) (iH 244 (iH 240 (iH 236 (iH 232 (iH 228 (iH 224 (iH 220 (iH 216 (iH 212 (iH 208 (iH 204 (iH 200 (iH 196 (iH 192 (iH 188 (iH 184 (iH 180 (iH 176 (iH 172 (iH 168 (iH 164 (iH 160 (iH 156 (iH 152 (iH 148 (iH 144 I)))))))))))))))))))))))))) X)
  refine w_aast (Ev.cm _) rfl (Nat.le_of_ble_eq_true rfl) rfl (by decide) (Nat.le_of_ble_eq_true rfl) rfl ?_
  show Wp _ _ _ _ _ _ _ 34 [(0, .ref 142), (1, .int 25)] [] (puR (HN 248 (244 :: 142 :: os) (iH 244 (iH 240 (iH 236 (iH 232 (iH 228 (iH 224 (iH 220 (iH 216 (iH 212 (iH 208 (iH 204 (iH 200 (iH 196 (iH 192 (iH 188 (iH 184 (iH 180 (iH 176 (iH 172 (iH 168 (iH 164 (iH 160 (iH 156 (iH 152 (iH 148 (iH 144 I)))))))))))))))))))))))))) X) 143 25 (some 244))
  rw [hn_link rfl (Nat.le_of_ble_eq_true rfl) (nin hos (Nat.le_of_ble_eq_true rfl))]
  refine w_iinc (ls2 := [(0, .ref 142), (1, .int 26)]) (Ev.cm _) rfl rfl rfl ?_
  refine w_goto (Ev.cm _) rfl ?_
  refine w_iload_n (Ev.cm _) rfl rfl ?_
  refine w_bipush (Ev.cm _) rfl ?_
  refine w_icmp_ge (Ev.cm _) rfl (fun q => absurd q (by decide)) (fun _ => ?_)
  refine w_aload_n (Ev.cm _) rfl rfl ?_
  refine w_getR (q := 143) (Ev.cm _) rfl (Nat.le_of_ble_eq_true rfl) rfl (rd_get rfl (Nat.le_of_ble_eq_true rfl) (nin hos (Nat.le_of_ble_eq_true rfl))) ?_
  refine w_iload_n (Ev.cm _) rfl rfl ?_
  refine w_new (Ev.cm _) rfl (show _ ∧ _ from ⟨by decide +kernel, by decide +kernel⟩) ?_
  show Wp _ _ _ _ _ _ _ 29 [(0, .ref 142), (1, .int 26)] [.ref 248, .int 26, .ref 143] (puN (HN 248 (142 :: os) (iH 244 (iH 240 (iH 236 (iH 232 (iH 228 (iH 224 (iH 220 (iH 216 (iH 212 (iH 208 (iH 204 (iH 200 (iH 196 (iH 192 (iH 188 (iH 184 (iH 180 (iH 176 (iH 172 (iH 168 (iH 164 (iH 160 (iH 156 (iH 152 (iH 148 (iH 144 I)))))))))))))))))))))))))) X) 1 8)
  rw [hn_new rfl z53]
  have z54 := (Zn z53)
  refine w_dup (Ev.cm _) rfl rfl ?_
  refine w_cinit (as := []) (o := 248) (st := [.ref 248, .int 26, .ref 143]) (Ev.cm _) rfl rfl rfl (Nat.le_of_ble_eq_true rfl) (show _ ∧ _ from ⟨by decide +kernel, by decide +kernel⟩) (Nat.le_of_ble_eq_true rfl) (e_iH (show isH 248 from Or.inr (Or.inr (Or.inr ⟨26, (Nat.le_of_ble_eq_true rfl), rfl⟩))) (fun x hx => by rcases List.mem_cons.mp hx with e | e <;> [(rw [e]; exact (Nat.le_of_ble_eq_true rfl)); exact Nat.lt_trans (hos x e) (Nat.le_of_ble_eq_true rfl)]) z54 ?_)
  have z55 := (iH_z (b := 248) z54)
  show Wp _ _ _ _ _ _ _ 33 [(0, .ref 142), (1, .int 26)] [.ref 248, .int 26, .ref 143] (HN 252 (248 :: 142 :: os) (iH 248 (iH 244 (iH 240 (iH 236 (iH 232 (iH 228 (iH 224 (iH 220 (iH 216 (iH 212 (iH 208 (iH 204 (iH 200 (iH 196 (iH 192 (iH 188 (iH 184 (iH 180 (iH 176 (iH 172 (iH 168 (iH 164 (iH 160 (iH 156 (iH 152 (iH 148 (iH 144 I))))))))))))))))))))))))))) X)
  refine w_aast (Ev.cm _) rfl (Nat.le_of_ble_eq_true rfl) rfl (by decide) (Nat.le_of_ble_eq_true rfl) rfl ?_
  show Wp _ _ _ _ _ _ _ 34 [(0, .ref 142), (1, .int 26)] [] (puR (HN 252 (248 :: 142 :: os) (iH 248 (iH 244 (iH 240 (iH 236 (iH 232 (iH 228 (iH 224 (iH 220 (iH 216 (iH 212 (iH 208 (iH 204 (iH 200 (iH 196 (iH 192 (iH 188 (iH 184 (iH 180 (iH 176 (iH 172 (iH 168 (iH 164 (iH 160 (iH 156 (iH 152 (iH 148 (iH 144 I))))))))))))))))))))))))))) X) 143 26 (some 248))
  rw [hn_link rfl (Nat.le_of_ble_eq_true rfl) (nin hos (Nat.le_of_ble_eq_true rfl))]
  refine w_iinc (ls2 := [(0, .ref 142), (1, .int 27)]) (Ev.cm _) rfl rfl rfl ?_
  refine w_goto (Ev.cm _) rfl ?_
  refine w_iload_n (Ev.cm _) rfl rfl ?_
  refine w_bipush (Ev.cm _) rfl ?_
  refine w_icmp_ge (Ev.cm _) rfl (fun q => absurd q (by decide)) (fun _ => ?_)
  refine w_aload_n (Ev.cm _) rfl rfl ?_
  refine w_getR (q := 143) (Ev.cm _) rfl (Nat.le_of_ble_eq_true rfl) rfl (rd_get rfl (Nat.le_of_ble_eq_true rfl) (nin hos (Nat.le_of_ble_eq_true rfl))) ?_
  refine w_iload_n (Ev.cm _) rfl rfl ?_
  refine w_new (Ev.cm _) rfl (show _ ∧ _ from ⟨by decide +kernel, by decide +kernel⟩) ?_
  show Wp _ _ _ _ _ _ _ 29 [(0, .ref 142), (1, .int 27)] [.ref 252, .int 27, .ref 143] (puN (HN 252 (142 :: os) (iH 248 (iH 244 (iH 240 (iH 236 (iH 232 (iH 228 (iH 224 (iH 220 (iH 216 (iH 212 (iH 208 (iH 204 (iH 200 (iH 196 (iH 192 (iH 188 (iH 184 (iH 180 (iH 176 (iH 172 (iH 168 (iH 164 (iH 160 (iH 156 (iH 152 (iH 148 (iH 144 I))))))))))))))))))))))))))) X) 1 8)
  rw [hn_new rfl z55]
  have z56 := (Zn z55)
  refine w_dup (Ev.cm _) rfl rfl ?_
  refine w_cinit (as := []) (o := 252) (st := [.ref 252, .int 27, .ref 143]) (Ev.cm _) rfl rfl rfl (Nat.le_of_ble_eq_true rfl) (show _ ∧ _ from ⟨by decide +kernel, by decide +kernel⟩) (Nat.le_of_ble_eq_true rfl) (e_iH (show isH 252 from Or.inr (Or.inr (Or.inr ⟨27, (Nat.le_of_ble_eq_true rfl), rfl⟩))) (fun x hx => by rcases List.mem_cons.mp hx with e | e <;> [(rw [e]; exact (Nat.le_of_ble_eq_true rfl)); exact Nat.lt_trans (hos x e) (Nat.le_of_ble_eq_true rfl)]) z56 ?_)
  have z57 := (iH_z (b := 252) z56)
  show Wp _ _ _ _ _ _ _ 33 [(0, .ref 142), (1, .int 27)] [.ref 252, .int 27, .ref 143] (HN 256 (252 :: 142 :: os) (iH 252 (iH 248 (iH 244 (iH 240 (iH 236 (iH 232 (iH 228 (iH 224 (iH 220 (iH 216 (iH 212 (iH 208 (iH 204 (iH 200 (iH 196 (iH 192 (iH 188 (iH 184 (iH 180 (iH 176 (iH 172 (iH 168 (iH 164 (iH 160 (iH 156 (iH 152 (iH 148 (iH 144 I)))))))))))))))))))))))))))) X)
  refine w_aast (Ev.cm _) rfl (Nat.le_of_ble_eq_true rfl) rfl (by decide) (Nat.le_of_ble_eq_true rfl) rfl ?_
  show Wp _ _ _ _ _ _ _ 34 [(0, .ref 142), (1, .int 27)] [] (puR (HN 256 (252 :: 142 :: os) (iH 252 (iH 248 (iH 244 (iH 240 (iH 236 (iH 232 (iH 228 (iH 224 (iH 220 (iH 216 (iH 212 (iH 208 (iH 204 (iH 200 (iH 196 (iH 192 (iH 188 (iH 184 (iH 180 (iH 176 (iH 172 (iH 168 (iH 164 (iH 160 (iH 156 (iH 152 (iH 148 (iH 144 I)))))))))))))))))))))))))))) X) 143 27 (some 252))
  rw [hn_link rfl (Nat.le_of_ble_eq_true rfl) (nin hos (Nat.le_of_ble_eq_true rfl))]
  refine w_iinc (ls2 := [(0, .ref 142), (1, .int 28)]) (Ev.cm _) rfl rfl rfl ?_
  refine w_goto (Ev.cm _) rfl ?_
  refine w_iload_n (Ev.cm _) rfl rfl ?_
  refine w_bipush (Ev.cm _) rfl ?_
  refine w_icmp_ge (Ev.cm _) rfl (fun q => absurd q (by decide)) (fun _ => ?_)
  refine w_aload_n (Ev.cm _) rfl rfl ?_
  refine w_getR (q := 143) (Ev.cm _) rfl (Nat.le_of_ble_eq_true rfl) rfl (rd_get rfl (Nat.le_of_ble_eq_true rfl) (nin hos (Nat.le_of_ble_eq_true rfl))) ?_
  refine w_iload_n (Ev.cm _) rfl rfl ?_
  refine w_new (Ev.cm _) rfl (show _ ∧ _ from ⟨by decide +kernel, by decide +kernel⟩) ?_
  show Wp _ _ _ _ _ _ _ 29 [(0, .ref 142), (1, .int 28)] [.ref 256, .int 28, .ref 143] (puN (HN 256 (142 :: os) (iH 252 (iH 248 (iH 244 (iH 240 (iH 236 (iH 232 (iH 228 (iH 224 (iH 220 (iH 216 (iH 212 (iH 208 (iH 204 (iH 200 (iH 196 (iH 192 (iH 188 (iH 184 (iH 180 (iH 176 (iH 172 (iH 168 (iH 164 (iH 160 (iH 156 (iH 152 (iH 148 (iH 144 I)))))))))))))))))))))))))))) X) 1 8)
  rw [hn_new rfl z57]
  have z58 := (Zn z57)
  refine w_dup (Ev.cm _) rfl rfl ?_
  refine w_cinit (as := []) (o := 256) (st := [.ref 256, .int 28, .ref 143]) (Ev.cm _) rfl rfl rfl (Nat.le_of_ble_eq_true rfl) (show _ ∧ _ from ⟨by decide +kernel, by decide +kernel⟩) (Nat.le_of_ble_eq_true rfl) (e_iH (show isH 256 from Or.inr (Or.inr (Or.inr ⟨28, (Nat.le_of_ble_eq_true rfl), rfl⟩))) (fun x hx => by rcases List.mem_cons.mp hx with e | e <;> [(rw [e]; exact (Nat.le_of_ble_eq_true rfl)); exact Nat.lt_trans (hos x e) (Nat.le_of_ble_eq_true rfl)]) z58 ?_)
  have z59 := (iH_z (b := 256) z58)
  show Wp _ _ _ _ _ _ _ 33 [(0, .ref 142), (1, .int 28)] [.ref 256, .int 28, .ref 143] (HN 260 (256 :: 142 :: os) (iH 256 (iH 252 (iH 248 (iH 244 (iH 240 (iH 236 (iH 232 (iH 228 (iH 224 (iH 220 (iH 216 (iH 212 (iH 208 (iH 204 (iH 200 (iH 196 (iH 192 (iH 188 (iH 184 (iH 180 (iH 176 (iH 172 (iH 168 (iH 164 (iH 160 (iH 156 (iH 152 (iH 148 (iH 144 I))))))))))))))))))))))))))))) X)
  refine w_aast (Ev.cm _) rfl (Nat.le_of_ble_eq_true rfl) rfl (by decide) (Nat.le_of_ble_eq_true rfl) rfl ?_
  show Wp _ _ _ _ _ _ _ 34 [(0, .ref 142), (1, .int 28)] [] (puR (HN 260 (256 :: 142 :: os) (iH 256 (iH 252 (iH 248 (iH 244 (iH 240 (iH 236 (iH 232 (iH 228 (iH 224 (iH 220 (iH 216 (iH 212 (iH 208 (iH 204 (iH 200 (iH 196 (iH 192 (iH 188 (iH 184 (iH 180 (iH 176 (iH 172 (iH 168 (iH 164 (iH 160 (iH 156 (iH 152 (iH 148 (iH 144 I))))))))))))))))))))))))))))) X) 143 28 (some 256))
  rw [hn_link rfl (Nat.le_of_ble_eq_true rfl) (nin hos (Nat.le_of_ble_eq_true rfl))]
  refine w_iinc (ls2 := [(0, .ref 142), (1, .int 29)]) (Ev.cm _) rfl rfl rfl ?_
  refine w_goto (Ev.cm _) rfl ?_
  refine w_iload_n (Ev.cm _) rfl rfl ?_
  refine w_bipush (Ev.cm _) rfl ?_
  refine w_icmp_ge (Ev.cm _) rfl (fun q => absurd q (by decide)) (fun _ => ?_)
  refine w_aload_n (Ev.cm _) rfl rfl ?_
  refine w_getR (q := 143) (Ev.cm _) rfl (Nat.le_of_ble_eq_true rfl) rfl (rd_get rfl (Nat.le_of_ble_eq_true rfl) (nin hos (Nat.le_of_ble_eq_true rfl))) ?_
  refine w_iload_n (Ev.cm _) rfl rfl ?_
  refine w_new (Ev.cm _) rfl (show _ ∧ _ from ⟨by decide +kernel, by decide +kernel⟩) ?_
  show Wp _ _ _ _ _ _ _ 29 [(0, .ref 142), (1, .int 29)] [.ref 260, .int 29, .ref 143] (puN (HN 260 (142 :: os) (iH 256 (iH 252 (iH 248 (iH 244 (iH 240 (iH 236 (iH 232 (iH 228 (iH 224 (iH 220 (iH 216 (iH 212 (iH 208 (iH 204 (iH 200 (iH 196 (iH 192 (iH 188 (iH 184 (iH 180 (iH 176 (iH 172 (iH 168 (iH 164 (iH 160 (iH 156 (iH 152 (iH 148 (iH 144 I))))))))))))))))))))))))))))) X) 1 8)
  rw [hn_new rfl z59]
  have z60 := (Zn z59)
  refine w_dup (Ev.cm _) rfl rfl ?_
  refine w_cinit (as := []) (o := 260) (st := [.ref 260, .int 29, .ref 143]) (Ev.cm _) rfl rfl rfl (Nat.le_of_ble_eq_true rfl) (show _ ∧ _ from ⟨by decide +kernel, by decide +kernel⟩) (Nat.le_of_ble_eq_true rfl) (e_iH (show isH 260 from Or.inr (Or.inr (Or.inr ⟨29, (Nat.le_of_ble_eq_true rfl), rfl⟩))) (fun x hx => by rcases List.mem_cons.mp hx with e | e <;> [(rw [e]; exact (Nat.le_of_ble_eq_true rfl)); exact Nat.lt_trans (hos x e) (Nat.le_of_ble_eq_true rfl)]) z60 ?_)
  have z61 := (iH_z (b := 260) z60)
  show Wp _ _ _ _ _ _ _ 33 [(0, .ref 142), (1, .int 29)] [.ref 260, .int 29, .ref 143] (HN 264 (260 :: 142 :: os) (iH 260 (iH 256 (iH 252 (iH 248 (iH 244 (iH 240 (iH 236 (iH 232 (iH 228 (iH 224 (iH 220 (iH 216 (iH 212 (iH 208 (iH 204 (iH 200 (iH 196 (iH 192 (iH 188 (iH 184 (iH 180 (iH 176 (iH 172 (iH 168 (iH 164 (iH 160 (iH 156 (iH 152 (iH 148 (iH 144 I)))))))))))))))))))))))))))))) X)
  refine w_aast (Ev.cm _) rfl (Nat.le_of_ble_eq_true rfl) rfl (by decide) (Nat.le_of_ble_eq_true rfl) rfl ?_
  show Wp _ _ _ _ _ _ _ 34 [(0, .ref 142), (1, .int 29)] [] (puR (HN 264 (260 :: 142 :: os) (iH 260 (iH 256 (iH 252 (iH 248 (iH 244 (iH 240 (iH 236 (iH 232 (iH 228 (iH 224 (iH 220 (iH 216 (iH 212 (iH 208 (iH 204 (iH 200 (iH 196 (iH 192 (iH 188 (iH 184 (iH 180 (iH 176 (iH 172 (iH 168 (iH 164 (iH 160 (iH 156 (iH 152 (iH 148 (iH 144 I)))))))))))))))))))))))))))))) X) 143 29 (some 260))
  rw [hn_link rfl (Nat.le_of_ble_eq_true rfl) (nin hos (Nat.le_of_ble_eq_true rfl))]
  refine w_iinc (ls2 := [(0, .ref 142), (1, .int 30)]) (Ev.cm _) rfl rfl rfl ?_
  refine w_goto (Ev.cm _) rfl ?_
  refine w_iload_n (Ev.cm _) rfl rfl ?_
  refine w_bipush (Ev.cm _) rfl ?_
  refine w_icmp_ge (Ev.cm _) rfl (fun _ => ?_) (fun q => absurd (by decide) q)
  refine w_aload_n (Ev.cm _) rfl rfl ?_
  refine w_iconst (Ev.cm _) rfl ?_
  refine w_putI (Ev.cm _) rfl (Nat.le_of_ble_eq_true rfl) rfl ?_
  have z62 := (Zs (Nat.le_of_ble_eq_true rfl) z61)
  show Wp _ _ _ _ _ _ _ 45 [(0, .ref 142), (1, .int 30)] [] (HN 264 (142 :: os) (sI (iH 260 (iH 256 (iH 252 (iH 248 (iH 244 (iH 240 (iH 236 (iH 232 (iH 228 (iH 224 (iH 220 (iH 216 (iH 212 (iH 208 (iH 204 (iH 200 (iH 196 (iH 192 (iH 188 (iH 184 (iH 180 (iH 176 (iH 172 (iH 168 (iH 164 (iH 160 (iH 156 (iH 152 (iH 148 (iH 144 I)))))))))))))))))))))))))))))) 142 1 0) X)
  refine w_aload_n (Ev.cm _) rfl rfl ?_
  refine w_iconst (Ev.cm _) rfl ?_
  refine w_putI (Ev.cm _) rfl (Nat.le_of_ble_eq_true rfl) rfl ?_
  have z63 := (Zs (Nat.le_of_ble_eq_true rfl) z62)
  show Wp _ _ _ _ _ _ _ 50 [(0, .ref 142), (1, .int 30)] [] (HN 264 (142 :: os) (sI (sI (iH 260 (iH 256 (iH 252 (iH 248 (iH 244 (iH 240 (iH 236 (iH 232 (iH 228 (iH 224 (iH 220 (iH 216 (iH 212 (iH 208 (iH 204 (iH 200 (iH 196 (iH 192 (iH 188 (iH 184 (iH 180 (iH 176 (iH 172 (iH 168 (iH 164 (iH 160 (iH 156 (iH 152 (iH 148 (iH 144 I)))))))))))))))))))))))))))))) 142 1 0) 142 2 0) X)
  refine w_return (Ev.cm _) rfl rfl (Or.inr ⟨(by decide +kernel), (by decide +kernel)⟩) ?_
  exact q
def iQ_1 (I : Nat → Nat → Int32) : Nat → Nat → Int32 := sI (va_up (sI (sI (va_up (va_up (sI (sI (sI (iS_6 (iH 2 I)) 1 2 0) 1 6 0) 1 7 (-1)) 131 (fillF ((sI (sI (sI (iS_6 (iH 2 I)) 1 2 0) 1 6 0) 1 7 (-1)) 131) 1 9)) 132 (fillF ((va_up (sI (sI (sI (iS_6 (iH 2 I)) 1 2 0) 1 6 0) 1 7 (-1)) 131 (fillF ((sI (sI (sI (iS_6 (iH 2 I)) 1 2 0) 1 6 0) 1 7 (-1)) 131) 1 9)) 132) 1 9)) 1 11 0) 1 13 0) 135 (fillF ((sI (sI (va_up (va_up (sI (sI (sI (iS_6 (iH 2 I)) 1 2 0) 1 6 0) 1 7 (-1)) 131 (fillF ((sI (sI (sI (iS_6 (iH 2 I)) 1 2 0) 1 6 0) 1 7 (-1)) 131) 1 9)) 132 (fillF ((va_up (sI (sI (sI (iS_6 (iH 2 I)) 1 2 0) 1 6 0) 1 7 (-1)) 131 (fillF ((sI (sI (sI (iS_6 (iH 2 I)) 1 2 0) 1 6 0) 1 7 (-1)) 131) 1 9)) 132) 1 9)) 1 11 0) 1 13 0) 135) 1 6)) 1 16 0
theorem iQ_1_z {I : Nat → Nat → Int32} (hz : Zf 2 I) : Zf (137) (iQ_1 I) := by
  unfold iQ_1
  have z1 := (Zn hz)
  have z2 := (iH_z (b := 2) z1)
  have z3 := (Zn z2)
  have z4 := (iS_6_z z3)
  have z5 := (Zs (Nat.le_of_ble_eq_true rfl) z4)
  have z6 := (Zn z5)
  have z7 := (Zn z6)
  have z8 := (Zn z7)
  have z9 := (Zs (Nat.le_of_ble_eq_true rfl) z8)
  have z10 := (Zs (Nat.le_of_ble_eq_true rfl) z9)
  have z11 := (Zn z10)
  have z12 := (Zn z11)
  have z13 := (Zv (Nat.le_of_ble_eq_true rfl) z12)
  have z14 := (Zv (Nat.le_of_ble_eq_true rfl) z13)
  have z15 := (Zn z14)
  have z16 := (Zs (Nat.le_of_ble_eq_true rfl) z15)
  have z17 := (Zn z16)
  have z18 := (Zs (Nat.le_of_ble_eq_true rfl) z17)
  have z19 := (Zn z18)
  have z20 := (Zv (Nat.le_of_ble_eq_true rfl) z19)
  have z21 := (Zn z20)
  have z22 := (Zs (Nat.le_of_ble_eq_true rfl) z21)
  exact z22
set_option maxHeartbeats 20000000 in
set_option maxRecDepth 20000 in
theorem e_iQ_1 {d : Nat} {os : List Nat} {I : Nat → Nat → Int32} {X : Nat × (Nat → Int32)} {Q : PQ} (hos : ∀ x ∈ os, x < 1) (hz : Zf 2 I) (q : Q none (HN (137) (1 :: os) (iQ_1 I) X)) : Ev (d + 3) m_Q_new [.ref 1] (HN 2 (1 :: os) I X) Q := by
  unfold iQ_1 at q
  refine ev_start (d := d + 2) rfl rfl rfl (Nat.le_of_ble_eq_true rfl) ?_
  show Wp (Ev (d + 2)) cd_Q_new (mcs m_Q_new) none _ _ Q 0 [(0, .ref 1)] [] (HN 2 (1 :: os) I X)
  refine w_aload_n (Ev.cm _) rfl rfl ?_
  refine w_objI (Ev.cm _) rfl (Nat.le_of_ble_eq_true rfl) ?_
  refine w_aload_n (Ev.cm _) rfl rfl ?_
  refine w_new (Ev.cm _) rfl (show _ ∧ _ from ⟨by decide +kernel, by decide +kernel⟩) ?_
  show Wp _ _ _ _ _ _ _ 8 [(0, .ref 1)] [.ref 2, .ref 1] (puN (HN 2 (1 :: os) I X) 1 8)
  rw [hn_new rfl hz]
  have z1 := (Zn hz)
  refine w_dup (Ev.cm _) rfl rfl ?_
  refine w_cinit (as := []) (o := 2) (st := [.ref 2, .ref 1]) (Ev.cm _) rfl rfl rfl (Nat.le_of_ble_eq_true rfl) (show _ ∧ _ from ⟨by decide +kernel, by decide +kernel⟩) (Nat.le_of_ble_eq_true rfl) (e_iH (show isH 2 from Or.inl rfl) (fun x hx => by rcases List.mem_cons.mp hx with e | e <;> [(rw [e]; exact (Nat.le_of_ble_eq_true rfl)); exact Nat.lt_trans (hos x e) (Nat.le_of_ble_eq_true rfl)]) z1 ?_)
  have z2 := (iH_z (b := 2) z1)
  show Wp _ _ _ _ _ _ _ 12 [(0, .ref 1)] [.ref 2, .ref 1] (HN 6 (2 :: 1 :: os) (iH 2 I) X)
  refine w_putR (Ev.cm _) rfl (Nat.le_of_ble_eq_true rfl) rfl ?_
  show Wp _ _ _ _ _ _ _ 15 [(0, .ref 1)] [] (puR (HN 6 (2 :: 1 :: os) (iH 2 I) X) 1 0 (some 2))
  rw [hn_link rfl (Nat.le_of_ble_eq_true rfl) (nin hos (Nat.le_of_ble_eq_true rfl))]
  refine w_aload_n (Ev.cm _) rfl rfl ?_
  refine w_new (Ev.cm _) rfl (show _ ∧ _ from ⟨by decide +kernel, by decide +kernel⟩) ?_
  show Wp _ _ _ _ _ _ _ 19 [(0, .ref 1)] [.ref 6, .ref 1] (puN (HN 6 (1 :: os) (iH 2 I) X) 6 3)
  rw [hn_new rfl z2]
  have z3 := (Zn z2)
  refine w_dup (Ev.cm _) rfl rfl ?_
  refine w_cinit (as := []) (o := 6) (st := [.ref 6, .ref 1]) (Ev.cm _) rfl rfl rfl (Nat.le_of_ble_eq_true rfl) (show _ ∧ _ from ⟨by decide +kernel, by decide +kernel⟩) (Nat.le_of_ble_eq_true rfl) (e_iS_6 (fun x hx => by rcases List.mem_cons.mp hx with e | e <;> [(rw [e]; exact (Nat.le_of_ble_eq_true rfl)); exact Nat.lt_trans (hos x e) (Nat.le_of_ble_eq_true rfl)]) z3 ?_)
  have z4 := (iS_6_z z3)
  show Wp _ _ _ _ _ _ _ 23 [(0, .ref 1)] [.ref 6, .ref 1] (HN 128 (6 :: 1 :: os) (iS_6 (iH 2 I)) X)
  refine w_putR (Ev.cm _) rfl (Nat.le_of_ble_eq_true rfl) rfl ?_
  show Wp _ _ _ _ _ _ _ 26 [(0, .ref 1)] [] (puR (HN 128 (6 :: 1 :: os) (iS_6 (iH 2 I)) X) 1 1 (some 6))
  rw [hn_link rfl (Nat.le_of_ble_eq_true rfl) (nin hos (Nat.le_of_ble_eq_true rfl))]
  refine w_aload_n (Ev.cm _) rfl rfl ?_
  refine w_iconst (Ev.cm _) rfl ?_
  refine w_putI (Ev.cm _) rfl (Nat.le_of_ble_eq_true rfl) rfl ?_
  have z5 := (Zs (Nat.le_of_ble_eq_true rfl) z4)
  show Wp _ _ _ _ _ _ _ 31 [(0, .ref 1)] [] (HN 128 (1 :: os) (sI (iS_6 (iH 2 I)) 1 2 0) X)
  refine w_aload_n (Ev.cm _) rfl rfl ?_
  refine w_bipush (Ev.cm _) rfl ?_
  refine w_newa (Ev.cm _) rfl (by decide) (by decide) (show _ ∧ _ from ⟨by decide +kernel, by decide +kernel⟩) ?_
  show Wp _ _ _ _ _ _ _ 36 [(0, .ref 1)] [.ref 128, .ref 1] (puN (HN 128 (1 :: os) (sI (iS_6 (iH 2 I)) 1 2 0) X) 10 6)
  rw [hn_new rfl z5]
  have z6 := (Zn z5)
  refine w_putR (Ev.cm _) rfl (Nat.le_of_ble_eq_true rfl) rfl ?_
  show Wp _ _ _ _ _ _ _ 39 [(0, .ref 1)] [] (puR (HN 129 (128 :: 1 :: os) (sI (iS_6 (iH 2 I)) 1 2 0) X) 1 3 (some 128))
  rw [hn_link rfl (Nat.le_of_ble_eq_true rfl) (nin hos (Nat.le_of_ble_eq_true rfl))]
  refine w_aload_n (Ev.cm _) rfl rfl ?_
  refine w_bipush (Ev.cm _) rfl ?_
  refine w_newa (Ev.cm _) rfl (by decide) (by decide) (show _ ∧ _ from ⟨by decide +kernel, by decide +kernel⟩) ?_
  show Wp _ _ _ _ _ _ _ 44 [(0, .ref 1)] [.ref 129, .ref 1] (puN (HN 129 (1 :: os) (sI (iS_6 (iH 2 I)) 1 2 0) X) 10 6)
  rw [hn_new rfl z6]
  have z7 := (Zn z6)
  refine w_putR (Ev.cm _) rfl (Nat.le_of_ble_eq_true rfl) rfl ?_
  show Wp _ _ _ _ _ _ _ 47 [(0, .ref 1)] [] (puR (HN 130 (129 :: 1 :: os) (sI (iS_6 (iH 2 I)) 1 2 0) X) 1 4 (some 129))
  rw [hn_link rfl (Nat.le_of_ble_eq_true rfl) (nin hos (Nat.le_of_ble_eq_true rfl))]
  refine w_aload_n (Ev.cm _) rfl rfl ?_
  refine w_bipush (Ev.cm _) rfl ?_
  refine w_newa (Ev.cm _) rfl (by decide) (by decide) (show _ ∧ _ from ⟨by decide +kernel, by decide +kernel⟩) ?_
  show Wp _ _ _ _ _ _ _ 52 [(0, .ref 1)] [.ref 130, .ref 1] (puN (HN 130 (1 :: os) (sI (iS_6 (iH 2 I)) 1 2 0) X) 10 6)
  rw [hn_new rfl z7]
  have z8 := (Zn z7)
  refine w_putR (Ev.cm _) rfl (Nat.le_of_ble_eq_true rfl) rfl ?_
  show Wp _ _ _ _ _ _ _ 55 [(0, .ref 1)] [] (puR (HN 131 (130 :: 1 :: os) (sI (iS_6 (iH 2 I)) 1 2 0) X) 1 5 (some 130))
  rw [hn_link rfl (Nat.le_of_ble_eq_true rfl) (nin hos (Nat.le_of_ble_eq_true rfl))]
  refine w_aload_n (Ev.cm _) rfl rfl ?_
  refine w_iconst (Ev.cm _) rfl ?_
  refine w_putI (Ev.cm _) rfl (Nat.le_of_ble_eq_true rfl) rfl ?_
  have z9 := (Zs (Nat.le_of_ble_eq_true rfl) z8)
  show Wp _ _ _ _ _ _ _ 60 [(0, .ref 1)] [] (HN 131 (1 :: os) (sI (sI (iS_6 (iH 2 I)) 1 2 0) 1 6 0) X)
  refine w_aload_n (Ev.cm _) rfl rfl ?_
  refine w_iconst (Ev.cm _) rfl ?_
  refine w_putI (Ev.cm _) rfl (Nat.le_of_ble_eq_true rfl) rfl ?_
  have z10 := (Zs (Nat.le_of_ble_eq_true rfl) z9)
  show Wp _ _ _ _ _ _ _ 65 [(0, .ref 1)] [] (HN 131 (1 :: os) (sI (sI (sI (iS_6 (iH 2 I)) 1 2 0) 1 6 0) 1 7 (-1)) X)
  refine w_aload_n (Ev.cm _) rfl rfl ?_
  refine w_bipush (Ev.cm _) rfl ?_
  refine w_newa (Ev.cm _) rfl (by decide) (by decide) (show _ ∧ _ from ⟨by decide +kernel, by decide +kernel⟩) ?_
  show Wp _ _ _ _ _ _ _ 70 [(0, .ref 1)] [.ref 131, .ref 1] (puN (HN 131 (1 :: os) (sI (sI (sI (iS_6 (iH 2 I)) 1 2 0) 1 6 0) 1 7 (-1)) X) 10 9)
  rw [hn_new rfl z10]
  have z11 := (Zn z10)
  refine w_putR (Ev.cm _) rfl (Nat.le_of_ble_eq_true rfl) rfl ?_
  show Wp _ _ _ _ _ _ _ 73 [(0, .ref 1)] [] (puR (HN 132 (131 :: 1 :: os) (sI (sI (sI (iS_6 (iH 2 I)) 1 2 0) 1 6 0) 1 7 (-1)) X) 1 8 (some 131))
  rw [hn_link rfl (Nat.le_of_ble_eq_true rfl) (nin hos (Nat.le_of_ble_eq_true rfl))]
  refine w_aload_n (Ev.cm _) rfl rfl ?_
  refine w_bipush (Ev.cm _) rfl ?_
  refine w_newa (Ev.cm _) rfl (by decide) (by decide) (show _ ∧ _ from ⟨by decide +kernel, by decide +kernel⟩) ?_
  show Wp _ _ _ _ _ _ _ 78 [(0, .ref 1)] [.ref 132, .ref 1] (puN (HN 132 (1 :: os) (sI (sI (sI (iS_6 (iH 2 I)) 1 2 0) 1 6 0) 1 7 (-1)) X) 10 9)
  rw [hn_new rfl z11]
  have z12 := (Zn z11)
  refine w_putR (Ev.cm _) rfl (Nat.le_of_ble_eq_true rfl) rfl ?_
  show Wp _ _ _ _ _ _ _ 81 [(0, .ref 1)] [] (puR (HN 133 (132 :: 1 :: os) (sI (sI (sI (iS_6 (iH 2 I)) 1 2 0) 1 6 0) 1 7 (-1)) X) 1 9 (some 132))
  rw [hn_link rfl (Nat.le_of_ble_eq_true rfl) (nin hos (Nat.le_of_ble_eq_true rfl))]
  refine w_aload_n (Ev.cm _) rfl rfl ?_
  refine w_getR (q := 131) (Ev.cm _) rfl (Nat.le_of_ble_eq_true rfl) rfl (rd_get rfl (Nat.le_of_ble_eq_true rfl) (nin hos (Nat.le_of_ble_eq_true rfl))) ?_
  refine w_iconst (Ev.cm _) rfl ?_
  refine w_cstat (as := [.ref 131, .int 1]) (st := []) (Ev.cm _) rfl rfl rfl (Nat.le_of_ble_eq_true rfl) (Nat.le_of_ble_eq_true rfl) (e_fill_g (n := 9) (Nat.le_of_ble_eq_true rfl) rfl (by decide) ?_)
  have z13 := (Zv (Nat.le_of_ble_eq_true rfl) z12)
  show Wp _ _ _ _ _ _ _ 89 [(0, .ref 1)] [] (HN 133 (1 :: os) (va_up (sI (sI (sI (iS_6 (iH 2 I)) 1 2 0) 1 6 0) 1 7 (-1)) 131 (fillF ((sI (sI (sI (iS_6 (iH 2 I)) 1 2 0) 1 6 0) 1 7 (-1)) 131) 1 9)) X)
  refine w_aload_n (Ev.cm _) rfl rfl ?_
  refine w_getR (q := 132) (Ev.cm _) rfl (Nat.le_of_ble_eq_true rfl) rfl (rd_get rfl (Nat.le_of_ble_eq_true rfl) (nin hos (Nat.le_of_ble_eq_true rfl))) ?_
  refine w_iconst (Ev.cm _) rfl ?_
  refine w_cstat (as := [.ref 132, .int 1]) (st := []) (Ev.cm _) rfl rfl rfl (Nat.le_of_ble_eq_true rfl) (Nat.le_of_ble_eq_true rfl) (e_fill_g (n := 9) (Nat.le_of_ble_eq_true rfl) rfl (by decide) ?_)
  have z14 := (Zv (Nat.le_of_ble_eq_true rfl) z13)
  show Wp _ _ _ _ _ _ _ 97 [(0, .ref 1)] [] (HN 133 (1 :: os) (va_up (va_up (sI (sI (sI (iS_6 (iH 2 I)) 1 2 0) 1 6 0) 1 7 (-1)) 131 (fillF ((sI (sI (sI (iS_6 (iH 2 I)) 1 2 0) 1 6 0) 1 7 (-1)) 131) 1 9)) 132 (fillF ((va_up (sI (sI (sI (iS_6 (iH 2 I)) 1 2 0) 1 6 0) 1 7 (-1)) 131 (fillF ((sI (sI (sI (iS_6 (iH 2 I)) 1 2 0) 1 6 0) 1 7 (-1)) 131) 1 9)) 132) 1 9)) X)
  refine w_aload_n (Ev.cm _) rfl rfl ?_
  refine w_bipush (Ev.cm _) rfl ?_
  refine w_newa (Ev.cm _) rfl (by decide) (by decide) (show _ ∧ _ from ⟨by decide +kernel, by decide +kernel⟩) ?_
  show Wp _ _ _ _ _ _ _ 102 [(0, .ref 1)] [.ref 133, .ref 1] (puN (HN 133 (1 :: os) (va_up (va_up (sI (sI (sI (iS_6 (iH 2 I)) 1 2 0) 1 6 0) 1 7 (-1)) 131 (fillF ((sI (sI (sI (iS_6 (iH 2 I)) 1 2 0) 1 6 0) 1 7 (-1)) 131) 1 9)) 132 (fillF ((va_up (sI (sI (sI (iS_6 (iH 2 I)) 1 2 0) 1 6 0) 1 7 (-1)) 131 (fillF ((sI (sI (sI (iS_6 (iH 2 I)) 1 2 0) 1 6 0) 1 7 (-1)) 131) 1 9)) 132) 1 9)) X) 10 6)
  rw [hn_new rfl z14]
  have z15 := (Zn z14)
  refine w_putR (Ev.cm _) rfl (Nat.le_of_ble_eq_true rfl) rfl ?_
  show Wp _ _ _ _ _ _ _ 105 [(0, .ref 1)] [] (puR (HN 134 (133 :: 1 :: os) (va_up (va_up (sI (sI (sI (iS_6 (iH 2 I)) 1 2 0) 1 6 0) 1 7 (-1)) 131 (fillF ((sI (sI (sI (iS_6 (iH 2 I)) 1 2 0) 1 6 0) 1 7 (-1)) 131) 1 9)) 132 (fillF ((va_up (sI (sI (sI (iS_6 (iH 2 I)) 1 2 0) 1 6 0) 1 7 (-1)) 131 (fillF ((sI (sI (sI (iS_6 (iH 2 I)) 1 2 0) 1 6 0) 1 7 (-1)) 131) 1 9)) 132) 1 9)) X) 1 10 (some 133))
  rw [hn_link rfl (Nat.le_of_ble_eq_true rfl) (nin hos (Nat.le_of_ble_eq_true rfl))]
  refine w_aload_n (Ev.cm _) rfl rfl ?_
  refine w_iconst (Ev.cm _) rfl ?_
  refine w_putI (Ev.cm _) rfl (Nat.le_of_ble_eq_true rfl) rfl ?_
  have z16 := (Zs (Nat.le_of_ble_eq_true rfl) z15)
  show Wp _ _ _ _ _ _ _ 110 [(0, .ref 1)] [] (HN 134 (1 :: os) (sI (va_up (va_up (sI (sI (sI (iS_6 (iH 2 I)) 1 2 0) 1 6 0) 1 7 (-1)) 131 (fillF ((sI (sI (sI (iS_6 (iH 2 I)) 1 2 0) 1 6 0) 1 7 (-1)) 131) 1 9)) 132 (fillF ((va_up (sI (sI (sI (iS_6 (iH 2 I)) 1 2 0) 1 6 0) 1 7 (-1)) 131 (fillF ((sI (sI (sI (iS_6 (iH 2 I)) 1 2 0) 1 6 0) 1 7 (-1)) 131) 1 9)) 132) 1 9)) 1 11 0) X)
  refine w_aload_n (Ev.cm _) rfl rfl ?_
  refine w_iconst (Ev.cm _) rfl ?_
  refine w_newa (Ev.cm _) rfl (by decide) (by decide) (show _ ∧ _ from ⟨by decide +kernel, by decide +kernel⟩) ?_
  show Wp _ _ _ _ _ _ _ 114 [(0, .ref 1)] [.ref 134, .ref 1] (puN (HN 134 (1 :: os) (sI (va_up (va_up (sI (sI (sI (iS_6 (iH 2 I)) 1 2 0) 1 6 0) 1 7 (-1)) 131 (fillF ((sI (sI (sI (iS_6 (iH 2 I)) 1 2 0) 1 6 0) 1 7 (-1)) 131) 1 9)) 132 (fillF ((va_up (sI (sI (sI (iS_6 (iH 2 I)) 1 2 0) 1 6 0) 1 7 (-1)) 131 (fillF ((sI (sI (sI (iS_6 (iH 2 I)) 1 2 0) 1 6 0) 1 7 (-1)) 131) 1 9)) 132) 1 9)) 1 11 0) X) 10 5)
  rw [hn_new rfl z16]
  have z17 := (Zn z16)
  refine w_putR (Ev.cm _) rfl (Nat.le_of_ble_eq_true rfl) rfl ?_
  show Wp _ _ _ _ _ _ _ 117 [(0, .ref 1)] [] (puR (HN 135 (134 :: 1 :: os) (sI (va_up (va_up (sI (sI (sI (iS_6 (iH 2 I)) 1 2 0) 1 6 0) 1 7 (-1)) 131 (fillF ((sI (sI (sI (iS_6 (iH 2 I)) 1 2 0) 1 6 0) 1 7 (-1)) 131) 1 9)) 132 (fillF ((va_up (sI (sI (sI (iS_6 (iH 2 I)) 1 2 0) 1 6 0) 1 7 (-1)) 131 (fillF ((sI (sI (sI (iS_6 (iH 2 I)) 1 2 0) 1 6 0) 1 7 (-1)) 131) 1 9)) 132) 1 9)) 1 11 0) X) 1 12 (some 134))
  rw [hn_link rfl (Nat.le_of_ble_eq_true rfl) (nin hos (Nat.le_of_ble_eq_true rfl))]
  refine w_aload_n (Ev.cm _) rfl rfl ?_
  refine w_iconst (Ev.cm _) rfl ?_
  refine w_putI (Ev.cm _) rfl (Nat.le_of_ble_eq_true rfl) rfl ?_
  have z18 := (Zs (Nat.le_of_ble_eq_true rfl) z17)
  show Wp _ _ _ _ _ _ _ 122 [(0, .ref 1)] [] (HN 135 (1 :: os) (sI (sI (va_up (va_up (sI (sI (sI (iS_6 (iH 2 I)) 1 2 0) 1 6 0) 1 7 (-1)) 131 (fillF ((sI (sI (sI (iS_6 (iH 2 I)) 1 2 0) 1 6 0) 1 7 (-1)) 131) 1 9)) 132 (fillF ((va_up (sI (sI (sI (iS_6 (iH 2 I)) 1 2 0) 1 6 0) 1 7 (-1)) 131 (fillF ((sI (sI (sI (iS_6 (iH 2 I)) 1 2 0) 1 6 0) 1 7 (-1)) 131) 1 9)) 132) 1 9)) 1 11 0) 1 13 0) X)
  refine w_aload_n (Ev.cm _) rfl rfl ?_
  refine w_bipush (Ev.cm _) rfl ?_
  refine w_newa (Ev.cm _) rfl (by decide) (by decide) (show _ ∧ _ from ⟨by decide +kernel, by decide +kernel⟩) ?_
  show Wp _ _ _ _ _ _ _ 127 [(0, .ref 1)] [.ref 135, .ref 1] (puN (HN 135 (1 :: os) (sI (sI (va_up (va_up (sI (sI (sI (iS_6 (iH 2 I)) 1 2 0) 1 6 0) 1 7 (-1)) 131 (fillF ((sI (sI (sI (iS_6 (iH 2 I)) 1 2 0) 1 6 0) 1 7 (-1)) 131) 1 9)) 132 (fillF ((va_up (sI (sI (sI (iS_6 (iH 2 I)) 1 2 0) 1 6 0) 1 7 (-1)) 131 (fillF ((sI (sI (sI (iS_6 (iH 2 I)) 1 2 0) 1 6 0) 1 7 (-1)) 131) 1 9)) 132) 1 9)) 1 11 0) 1 13 0) X) 10 6)
  rw [hn_new rfl z18]
  have z19 := (Zn z18)
  refine w_putR (Ev.cm _) rfl (Nat.le_of_ble_eq_true rfl) rfl ?_
  show Wp _ _ _ _ _ _ _ 130 [(0, .ref 1)] [] (puR (HN 136 (135 :: 1 :: os) (sI (sI (va_up (va_up (sI (sI (sI (iS_6 (iH 2 I)) 1 2 0) 1 6 0) 1 7 (-1)) 131 (fillF ((sI (sI (sI (iS_6 (iH 2 I)) 1 2 0) 1 6 0) 1 7 (-1)) 131) 1 9)) 132 (fillF ((va_up (sI (sI (sI (iS_6 (iH 2 I)) 1 2 0) 1 6 0) 1 7 (-1)) 131 (fillF ((sI (sI (sI (iS_6 (iH 2 I)) 1 2 0) 1 6 0) 1 7 (-1)) 131) 1 9)) 132) 1 9)) 1 11 0) 1 13 0) X) 1 14 (some 135))
  rw [hn_link rfl (Nat.le_of_ble_eq_true rfl) (nin hos (Nat.le_of_ble_eq_true rfl))]
  refine w_aload_n (Ev.cm _) rfl rfl ?_
  refine w_getR (q := 135) (Ev.cm _) rfl (Nat.le_of_ble_eq_true rfl) rfl (rd_get rfl (Nat.le_of_ble_eq_true rfl) (nin hos (Nat.le_of_ble_eq_true rfl))) ?_
  refine w_iconst (Ev.cm _) rfl ?_
  refine w_cstat (as := [.ref 135, .int 1]) (st := []) (Ev.cm _) rfl rfl rfl (Nat.le_of_ble_eq_true rfl) (Nat.le_of_ble_eq_true rfl) (e_fill_g (n := 6) (Nat.le_of_ble_eq_true rfl) rfl (by decide) ?_)
  have z20 := (Zv (Nat.le_of_ble_eq_true rfl) z19)
  show Wp _ _ _ _ _ _ _ 138 [(0, .ref 1)] [] (HN 136 (1 :: os) (va_up (sI (sI (va_up (va_up (sI (sI (sI (iS_6 (iH 2 I)) 1 2 0) 1 6 0) 1 7 (-1)) 131 (fillF ((sI (sI (sI (iS_6 (iH 2 I)) 1 2 0) 1 6 0) 1 7 (-1)) 131) 1 9)) 132 (fillF ((va_up (sI (sI (sI (iS_6 (iH 2 I)) 1 2 0) 1 6 0) 1 7 (-1)) 131 (fillF ((sI (sI (sI (iS_6 (iH 2 I)) 1 2 0) 1 6 0) 1 7 (-1)) 131) 1 9)) 132) 1 9)) 1 11 0) 1 13 0) 135 (fillF ((sI (sI (va_up (va_up (sI (sI (sI (iS_6 (iH 2 I)) 1 2 0) 1 6 0) 1 7 (-1)) 131 (fillF ((sI (sI (sI (iS_6 (iH 2 I)) 1 2 0) 1 6 0) 1 7 (-1)) 131) 1 9)) 132 (fillF ((va_up (sI (sI (sI (iS_6 (iH 2 I)) 1 2 0) 1 6 0) 1 7 (-1)) 131 (fillF ((sI (sI (sI (iS_6 (iH 2 I)) 1 2 0) 1 6 0) 1 7 (-1)) 131) 1 9)) 132) 1 9)) 1 11 0) 1 13 0) 135) 1 6)) X)
  refine w_aload_n (Ev.cm _) rfl rfl ?_
  refine w_bipush (Ev.cm _) rfl ?_
  refine w_newa (Ev.cm _) rfl (by decide) (by decide) (show _ ∧ _ from ⟨by decide +kernel, by decide +kernel⟩) ?_
  show Wp _ _ _ _ _ _ _ 143 [(0, .ref 1)] [.ref 136, .ref 1] (puN (HN 136 (1 :: os) (va_up (sI (sI (va_up (va_up (sI (sI (sI (iS_6 (iH 2 I)) 1 2 0) 1 6 0) 1 7 (-1)) 131 (fillF ((sI (sI (sI (iS_6 (iH 2 I)) 1 2 0) 1 6 0) 1 7 (-1)) 131) 1 9)) 132 (fillF ((va_up (sI (sI (sI (iS_6 (iH 2 I)) 1 2 0) 1 6 0) 1 7 (-1)) 131 (fillF ((sI (sI (sI (iS_6 (iH 2 I)) 1 2 0) 1 6 0) 1 7 (-1)) 131) 1 9)) 132) 1 9)) 1 11 0) 1 13 0) 135 (fillF ((sI (sI (va_up (va_up (sI (sI (sI (iS_6 (iH 2 I)) 1 2 0) 1 6 0) 1 7 (-1)) 131 (fillF ((sI (sI (sI (iS_6 (iH 2 I)) 1 2 0) 1 6 0) 1 7 (-1)) 131) 1 9)) 132 (fillF ((va_up (sI (sI (sI (iS_6 (iH 2 I)) 1 2 0) 1 6 0) 1 7 (-1)) 131 (fillF ((sI (sI (sI (iS_6 (iH 2 I)) 1 2 0) 1 6 0) 1 7 (-1)) 131) 1 9)) 132) 1 9)) 1 11 0) 1 13 0) 135) 1 6)) X) 10 24)
  rw [hn_new rfl z20]
  have z21 := (Zn z20)
  refine w_putR (Ev.cm _) rfl (Nat.le_of_ble_eq_true rfl) rfl ?_
  show Wp _ _ _ _ _ _ _ 146 [(0, .ref 1)] [] (puR (HN 137 (136 :: 1 :: os) (va_up (sI (sI (va_up (va_up (sI (sI (sI (iS_6 (iH 2 I)) 1 2 0) 1 6 0) 1 7 (-1)) 131 (fillF ((sI (sI (sI (iS_6 (iH 2 I)) 1 2 0) 1 6 0) 1 7 (-1)) 131) 1 9)) 132 (fillF ((va_up (sI (sI (sI (iS_6 (iH 2 I)) 1 2 0) 1 6 0) 1 7 (-1)) 131 (fillF ((sI (sI (sI (iS_6 (iH 2 I)) 1 2 0) 1 6 0) 1 7 (-1)) 131) 1 9)) 132) 1 9)) 1 11 0) 1 13 0) 135 (fillF ((sI (sI (va_up (va_up (sI (sI (sI (iS_6 (iH 2 I)) 1 2 0) 1 6 0) 1 7 (-1)) 131 (fillF ((sI (sI (sI (iS_6 (iH 2 I)) 1 2 0) 1 6 0) 1 7 (-1)) 131) 1 9)) 132 (fillF ((va_up (sI (sI (sI (iS_6 (iH 2 I)) 1 2 0) 1 6 0) 1 7 (-1)) 131 (fillF ((sI (sI (sI (iS_6 (iH 2 I)) 1 2 0) 1 6 0) 1 7 (-1)) 131) 1 9)) 132) 1 9)) 1 11 0) 1 13 0) 135) 1 6)) X) 1 15 (some 136))
  rw [hn_link rfl (Nat.le_of_ble_eq_true rfl) (nin hos (Nat.le_of_ble_eq_true rfl))]
  refine w_aload_n (Ev.cm _) rfl rfl ?_
  refine w_iconst (Ev.cm _) rfl ?_
  refine w_putI (Ev.cm _) rfl (Nat.le_of_ble_eq_true rfl) rfl ?_
  have z22 := (Zs (Nat.le_of_ble_eq_true rfl) z21)
  show Wp _ _ _ _ _ _ _ 151 [(0, .ref 1)] [] (HN 137 (1 :: os) (sI (va_up (sI (sI (va_up (va_up (sI (sI (sI (iS_6 (iH 2 I)) 1 2 0) 1 6 0) 1 7 (-1)) 131 (fillF ((sI (sI (sI (iS_6 (iH 2 I)) 1 2 0) 1 6 0) 1 7 (-1)) 131) 1 9)) 132 (fillF ((va_up (sI (sI (sI (iS_6 (iH 2 I)) 1 2 0) 1 6 0) 1 7 (-1)) 131 (fillF ((sI (sI (sI (iS_6 (iH 2 I)) 1 2 0) 1 6 0) 1 7 (-1)) 131) 1 9)) 132) 1 9)) 1 11 0) 1 13 0) 135 (fillF ((sI (sI (va_up (va_up (sI (sI (sI (iS_6 (iH 2 I)) 1 2 0) 1 6 0) 1 7 (-1)) 131 (fillF ((sI (sI (sI (iS_6 (iH 2 I)) 1 2 0) 1 6 0) 1 7 (-1)) 131) 1 9)) 132 (fillF ((va_up (sI (sI (sI (iS_6 (iH 2 I)) 1 2 0) 1 6 0) 1 7 (-1)) 131 (fillF ((sI (sI (sI (iS_6 (iH 2 I)) 1 2 0) 1 6 0) 1 7 (-1)) 131) 1 9)) 132) 1 9)) 1 11 0) 1 13 0) 135) 1 6)) 1 16 0) X)
  refine w_return (Ev.cm _) rfl rfl (Or.inr ⟨(by decide +kernel), (by decide +kernel)⟩) ?_
  exact q
def iQ_137 (I : Nat → Nat → Int32) : Nat → Nat → Int32 := sI (va_up (sI (sI (va_up (va_up (sI (sI (sI (iS_142 (iH 138 I)) 137 2 0) 137 6 0) 137 7 (-1)) 267 (fillF ((sI (sI (sI (iS_142 (iH 138 I)) 137 2 0) 137 6 0) 137 7 (-1)) 267) 1 9)) 268 (fillF ((va_up (sI (sI (sI (iS_142 (iH 138 I)) 137 2 0) 137 6 0) 137 7 (-1)) 267 (fillF ((sI (sI (sI (iS_142 (iH 138 I)) 137 2 0) 137 6 0) 137 7 (-1)) 267) 1 9)) 268) 1 9)) 137 11 0) 137 13 0) 271 (fillF ((sI (sI (va_up (va_up (sI (sI (sI (iS_142 (iH 138 I)) 137 2 0) 137 6 0) 137 7 (-1)) 267 (fillF ((sI (sI (sI (iS_142 (iH 138 I)) 137 2 0) 137 6 0) 137 7 (-1)) 267) 1 9)) 268 (fillF ((va_up (sI (sI (sI (iS_142 (iH 138 I)) 137 2 0) 137 6 0) 137 7 (-1)) 267 (fillF ((sI (sI (sI (iS_142 (iH 138 I)) 137 2 0) 137 6 0) 137 7 (-1)) 267) 1 9)) 268) 1 9)) 137 11 0) 137 13 0) 271) 1 6)) 137 16 0
theorem iQ_137_z {I : Nat → Nat → Int32} (hz : Zf 138 I) : Zf (273) (iQ_137 I) := by
  unfold iQ_137
  have z1 := (Zn hz)
  have z2 := (iH_z (b := 138) z1)
  have z3 := (Zn z2)
  have z4 := (iS_142_z z3)
  have z5 := (Zs (Nat.le_of_ble_eq_true rfl) z4)
  have z6 := (Zn z5)
  have z7 := (Zn z6)
  have z8 := (Zn z7)
  have z9 := (Zs (Nat.le_of_ble_eq_true rfl) z8)
  have z10 := (Zs (Nat.le_of_ble_eq_true rfl) z9)
  have z11 := (Zn z10)
  have z12 := (Zn z11)
  have z13 := (Zv (Nat.le_of_ble_eq_true rfl) z12)
  have z14 := (Zv (Nat.le_of_ble_eq_true rfl) z13)
  have z15 := (Zn z14)
  have z16 := (Zs (Nat.le_of_ble_eq_true rfl) z15)
  have z17 := (Zn z16)
  have z18 := (Zs (Nat.le_of_ble_eq_true rfl) z17)
  have z19 := (Zn z18)
  have z20 := (Zv (Nat.le_of_ble_eq_true rfl) z19)
  have z21 := (Zn z20)
  have z22 := (Zs (Nat.le_of_ble_eq_true rfl) z21)
  exact z22
set_option maxHeartbeats 20000000 in
set_option maxRecDepth 20000 in
theorem e_iQ_137 {d : Nat} {os : List Nat} {I : Nat → Nat → Int32} {X : Nat × (Nat → Int32)} {Q : PQ} (hos : ∀ x ∈ os, x < 137) (hz : Zf 138 I) (q : Q none (HN (273) (137 :: os) (iQ_137 I) X)) : Ev (d + 3) m_Q_new [.ref 137] (HN 138 (137 :: os) I X) Q := by
  unfold iQ_137 at q
  refine ev_start (d := d + 2) rfl rfl rfl (Nat.le_of_ble_eq_true rfl) ?_
  show Wp (Ev (d + 2)) cd_Q_new (mcs m_Q_new) none _ _ Q 0 [(0, .ref 137)] [] (HN 138 (137 :: os) I X)
  refine w_aload_n (Ev.cm _) rfl rfl ?_
  refine w_objI (Ev.cm _) rfl (Nat.le_of_ble_eq_true rfl) ?_
  refine w_aload_n (Ev.cm _) rfl rfl ?_
  refine w_new (Ev.cm _) rfl (show _ ∧ _ from ⟨by decide +kernel, by decide +kernel⟩) ?_
  show Wp _ _ _ _ _ _ _ 8 [(0, .ref 137)] [.ref 138, .ref 137] (puN (HN 138 (137 :: os) I X) 1 8)
  rw [hn_new rfl hz]
  have z1 := (Zn hz)
  refine w_dup (Ev.cm _) rfl rfl ?_
  refine w_cinit (as := []) (o := 138) (st := [.ref 138, .ref 137]) (Ev.cm _) rfl rfl rfl (Nat.le_of_ble_eq_true rfl) (show _ ∧ _ from ⟨by decide +kernel, by decide +kernel⟩) (Nat.le_of_ble_eq_true rfl) (e_iH (show isH 138 from Or.inr (Or.inl rfl)) (fun x hx => by rcases List.mem_cons.mp hx with e | e <;> [(rw [e]; exact (Nat.le_of_ble_eq_true rfl)); exact Nat.lt_trans (hos x e) (Nat.le_of_ble_eq_true rfl)]) z1 ?_)
  have z2 := (iH_z (b := 138) z1)
  show Wp _ _ _ _ _ _ _ 12 [(0, .ref 137)] [.ref 138, .ref 137] (HN 142 (138 :: 137 :: os) (iH 138 I) X)
  refine w_putR (Ev.cm _) rfl (Nat.le_of_ble_eq_true rfl) rfl ?_
  show Wp _ _ _ _ _ _ _ 15 [(0, .ref 137)] [] (puR (HN 142 (138 :: 137 :: os) (iH 138 I) X) 137 0 (some 138))
  rw [hn_link rfl (Nat.le_of_ble_eq_true rfl) (nin hos (Nat.le_of_ble_eq_true rfl))]
  refine w_aload_n (Ev.cm _) rfl rfl ?_
  refine w_new (Ev.cm _) rfl (show _ ∧ _ from ⟨by decide +kernel, by decide +kernel⟩) ?_
  show Wp _ _ _ _ _ _ _ 19 [(0, .ref 137)] [.ref 142, .ref 137] (puN (HN 142 (137 :: os) (iH 138 I) X) 6 3)
  rw [hn_new rfl z2]
  have z3 := (Zn z2)
  refine w_dup (Ev.cm _) rfl rfl ?_
  refine w_cinit (as := []) (o := 142) (st := [.ref 142, .ref 137]) (Ev.cm _) rfl rfl rfl (Nat.le_of_ble_eq_true rfl) (show _ ∧ _ from ⟨by decide +kernel, by decide +kernel⟩) (Nat.le_of_ble_eq_true rfl) (e_iS_142 (fun x hx => by rcases List.mem_cons.mp hx with e | e <;> [(rw [e]; exact (Nat.le_of_ble_eq_true rfl)); exact Nat.lt_trans (hos x e) (Nat.le_of_ble_eq_true rfl)]) z3 ?_)
  have z4 := (iS_142_z z3)
  show Wp _ _ _ _ _ _ _ 23 [(0, .ref 137)] [.ref 142, .ref 137] (HN 264 (142 :: 137 :: os) (iS_142 (iH 138 I)) X)
  refine w_putR (Ev.cm _) rfl (Nat.le_of_ble_eq_true rfl) rfl ?_
  show Wp _ _ _ _ _ _ _ 26 [(0, .ref 137)] [] (puR (HN 264 (142 :: 137 :: os) (iS_142 (iH 138 I)) X) 137 1 (some 142))
  rw [hn_link rfl (Nat.le_of_ble_eq_true rfl) (nin hos (Nat.le_of_ble_eq_true rfl))]
  refine w_aload_n (Ev.cm _) rfl rfl ?_
  refine w_iconst (Ev.cm _) rfl ?_
  refine w_putI (Ev.cm _) rfl (Nat.le_of_ble_eq_true rfl) rfl ?_
  have z5 := (Zs (Nat.le_of_ble_eq_true rfl) z4)
  show Wp _ _ _ _ _ _ _ 31 [(0, .ref 137)] [] (HN 264 (137 :: os) (sI (iS_142 (iH 138 I)) 137 2 0) X)
  refine w_aload_n (Ev.cm _) rfl rfl ?_
  refine w_bipush (Ev.cm _) rfl ?_
  refine w_newa (Ev.cm _) rfl (by decide) (by decide) (show _ ∧ _ from ⟨by decide +kernel, by decide +kernel⟩) ?_
  show Wp _ _ _ _ _ _ _ 36 [(0, .ref 137)] [.ref 264, .ref 137] (puN (HN 264 (137 :: os) (sI (iS_142 (iH 138 I)) 137 2 0) X) 10 6)
  rw [hn_new rfl z5]
  have z6 := (Zn z5)
  refine w_putR (Ev.cm _) rfl (Nat.le_of_ble_eq_true rfl) rfl ?_
  show Wp _ _ _ _ _ _ _ 39 [(0, .ref 137)] [] (puR (HN 265 (264 :: 137 :: os) (sI (iS_142 (iH 138 I)) 137 2 0) X) 137 3 (some 264))
  rw [hn_link rfl (Nat.le_of_ble_eq_true rfl) (nin hos (Nat.le_of_ble_eq_true rfl))]
  refine w_aload_n (Ev.cm _) rfl rfl ?_
  refine w_bipush (Ev.cm _) rfl ?_
  refine w_newa (Ev.cm _) rfl (by decide) (by decide) (show _ ∧ _ from ⟨by decide +kernel, by decide +kernel⟩) ?_
  show Wp _ _ _ _ _ _ _ 44 [(0, .ref 137)] [.ref 265, .ref 137] (puN (HN 265 (137 :: os) (sI (iS_142 (iH 138 I)) 137 2 0) X) 10 6)
  rw [hn_new rfl z6]
  have z7 := (Zn z6)
  refine w_putR (Ev.cm _) rfl (Nat.le_of_ble_eq_true rfl) rfl ?_
  show Wp _ _ _ _ _ _ _ 47 [(0, .ref 137)] [] (puR (HN 266 (265 :: 137 :: os) (sI (iS_142 (iH 138 I)) 137 2 0) X) 137 4 (some 265))
  rw [hn_link rfl (Nat.le_of_ble_eq_true rfl) (nin hos (Nat.le_of_ble_eq_true rfl))]
  refine w_aload_n (Ev.cm _) rfl rfl ?_
  refine w_bipush (Ev.cm _) rfl ?_
  refine w_newa (Ev.cm _) rfl (by decide) (by decide) (show _ ∧ _ from ⟨by decide +kernel, by decide +kernel⟩) ?_
  show Wp _ _ _ _ _ _ _ 52 [(0, .ref 137)] [.ref 266, .ref 137] (puN (HN 266 (137 :: os) (sI (iS_142 (iH 138 I)) 137 2 0) X) 10 6)
  rw [hn_new rfl z7]
  have z8 := (Zn z7)
  refine w_putR (Ev.cm _) rfl (Nat.le_of_ble_eq_true rfl) rfl ?_
  show Wp _ _ _ _ _ _ _ 55 [(0, .ref 137)] [] (puR (HN 267 (266 :: 137 :: os) (sI (iS_142 (iH 138 I)) 137 2 0) X) 137 5 (some 266))
  rw [hn_link rfl (Nat.le_of_ble_eq_true rfl) (nin hos (Nat.le_of_ble_eq_true rfl))]
  refine w_aload_n (Ev.cm _) rfl rfl ?_
  refine w_iconst (Ev.cm _) rfl ?_
  refine w_putI (Ev.cm _) rfl (Nat.le_of_ble_eq_true rfl) rfl ?_
  have z9 := (Zs (Nat.le_of_ble_eq_true rfl) z8)
  show Wp _ _ _ _ _ _ _ 60 [(0, .ref 137)] [] (HN 267 (137 :: os) (sI (sI (iS_142 (iH 138 I)) 137 2 0) 137 6 0) X)
  refine w_aload_n (Ev.cm _) rfl rfl ?_
  refine w_iconst (Ev.cm _) rfl ?_
  refine w_putI (Ev.cm _) rfl (Nat.le_of_ble_eq_true rfl) rfl ?_
  have z10 := (Zs (Nat.le_of_ble_eq_true rfl) z9)
  show Wp _ _ _ _ _ _ _ 65 [(0, .ref 137)] [] (HN 267 (137 :: os) (sI (sI (sI (iS_142 (iH 138 I)) 137 2 0) 137 6 0) 137 7 (-1)) X)
  refine w_aload_n (Ev.cm _) rfl rfl ?_
  refine w_bipush (Ev.cm _) rfl ?_
  refine w_newa (Ev.cm _) rfl (by decide) (by decide) (show _ ∧ _ from ⟨by decide +kernel, by decide +kernel⟩) ?_
  show Wp _ _ _ _ _ _ _ 70 [(0, .ref 137)] [.ref 267, .ref 137] (puN (HN 267 (137 :: os) (sI (sI (sI (iS_142 (iH 138 I)) 137 2 0) 137 6 0) 137 7 (-1)) X) 10 9)
  rw [hn_new rfl z10]
  have z11 := (Zn z10)
  refine w_putR (Ev.cm _) rfl (Nat.le_of_ble_eq_true rfl) rfl ?_
  show Wp _ _ _ _ _ _ _ 73 [(0, .ref 137)] [] (puR (HN 268 (267 :: 137 :: os) (sI (sI (sI (iS_142 (iH 138 I)) 137 2 0) 137 6 0) 137 7 (-1)) X) 137 8 (some 267))
  rw [hn_link rfl (Nat.le_of_ble_eq_true rfl) (nin hos (Nat.le_of_ble_eq_true rfl))]
  refine w_aload_n (Ev.cm _) rfl rfl ?_
  refine w_bipush (Ev.cm _) rfl ?_
  refine w_newa (Ev.cm _) rfl (by decide) (by decide) (show _ ∧ _ from ⟨by decide +kernel, by decide +kernel⟩) ?_
  show Wp _ _ _ _ _ _ _ 78 [(0, .ref 137)] [.ref 268, .ref 137] (puN (HN 268 (137 :: os) (sI (sI (sI (iS_142 (iH 138 I)) 137 2 0) 137 6 0) 137 7 (-1)) X) 10 9)
  rw [hn_new rfl z11]
  have z12 := (Zn z11)
  refine w_putR (Ev.cm _) rfl (Nat.le_of_ble_eq_true rfl) rfl ?_
  show Wp _ _ _ _ _ _ _ 81 [(0, .ref 137)] [] (puR (HN 269 (268 :: 137 :: os) (sI (sI (sI (iS_142 (iH 138 I)) 137 2 0) 137 6 0) 137 7 (-1)) X) 137 9 (some 268))
  rw [hn_link rfl (Nat.le_of_ble_eq_true rfl) (nin hos (Nat.le_of_ble_eq_true rfl))]
  refine w_aload_n (Ev.cm _) rfl rfl ?_
  refine w_getR (q := 267) (Ev.cm _) rfl (Nat.le_of_ble_eq_true rfl) rfl (rd_get rfl (Nat.le_of_ble_eq_true rfl) (nin hos (Nat.le_of_ble_eq_true rfl))) ?_
  refine w_iconst (Ev.cm _) rfl ?_
  refine w_cstat (as := [.ref 267, .int 1]) (st := []) (Ev.cm _) rfl rfl rfl (Nat.le_of_ble_eq_true rfl) (Nat.le_of_ble_eq_true rfl) (e_fill_g (n := 9) (Nat.le_of_ble_eq_true rfl) rfl (by decide) ?_)
  have z13 := (Zv (Nat.le_of_ble_eq_true rfl) z12)
  show Wp _ _ _ _ _ _ _ 89 [(0, .ref 137)] [] (HN 269 (137 :: os) (va_up (sI (sI (sI (iS_142 (iH 138 I)) 137 2 0) 137 6 0) 137 7 (-1)) 267 (fillF ((sI (sI (sI (iS_142 (iH 138 I)) 137 2 0) 137 6 0) 137 7 (-1)) 267) 1 9)) X)
  refine w_aload_n (Ev.cm _) rfl rfl ?_
  refine w_getR (q := 268) (Ev.cm _) rfl (Nat.le_of_ble_eq_true rfl) rfl (rd_get rfl (Nat.le_of_ble_eq_true rfl) (nin hos (Nat.le_of_ble_eq_true rfl))) ?_
  refine w_iconst (Ev.cm _) rfl ?_
  refine w_cstat (as := [.ref 268, .int 1]) (st := []) (Ev.cm _) rfl rfl rfl (Nat.le_of_ble_eq_true rfl) (Nat.le_of_ble_eq_true rfl) (e_fill_g (n := 9) (Nat.le_of_ble_eq_true rfl) rfl (by decide) ?_)
  have z14 := (Zv (Nat.le_of_ble_eq_true rfl) z13)
  show Wp _ _ _ _ _ _ _ 97 [(0, .ref 137)] [] (HN 269 (137 :: os) (va_up (va_up (sI (sI (sI (iS_142 (iH 138 I)) 137 2 0) 137 6 0) 137 7 (-1)) 267 (fillF ((sI (sI (sI (iS_142 (iH 138 I)) 137 2 0) 137 6 0) 137 7 (-1)) 267) 1 9)) 268 (fillF ((va_up (sI (sI (sI (iS_142 (iH 138 I)) 137 2 0) 137 6 0) 137 7 (-1)) 267 (fillF ((sI (sI (sI (iS_142 (iH 138 I)) 137 2 0) 137 6 0) 137 7 (-1)) 267) 1 9)) 268) 1 9)) X)
  refine w_aload_n (Ev.cm _) rfl rfl ?_
  refine w_bipush (Ev.cm _) rfl ?_
  refine w_newa (Ev.cm _) rfl (by decide) (by decide) (show _ ∧ _ from ⟨by decide +kernel, by decide +kernel⟩) ?_
  show Wp _ _ _ _ _ _ _ 102 [(0, .ref 137)] [.ref 269, .ref 137] (puN (HN 269 (137 :: os) (va_up (va_up (sI (sI (sI (iS_142 (iH 138 I)) 137 2 0) 137 6 0) 137 7 (-1)) 267 (fillF ((sI (sI (sI (iS_142 (iH 138 I)) 137 2 0) 137 6 0) 137 7 (-1)) 267) 1 9)) 268 (fillF ((va_up (sI (sI (sI (iS_142 (iH 138 I)) 137 2 0) 137 6 0) 137 7 (-1)) 267 (fillF ((sI (sI (sI (iS_142 (iH 138 I)) 137 2 0) 137 6 0) 137 7 (-1)) 267) 1 9)) 268) 1 9)) X) 10 6)
  rw [hn_new rfl z14]
  have z15 := (Zn z14)
  refine w_putR (Ev.cm _) rfl (Nat.le_of_ble_eq_true rfl) rfl ?_
  show Wp _ _ _ _ _ _ _ 105 [(0, .ref 137)] [] (puR (HN 270 (269 :: 137 :: os) (va_up (va_up (sI (sI (sI (iS_142 (iH 138 I)) 137 2 0) 137 6 0) 137 7 (-1)) 267 (fillF ((sI (sI (sI (iS_142 (iH 138 I)) 137 2 0) 137 6 0) 137 7 (-1)) 267) 1 9)) 268 (fillF ((va_up (sI (sI (sI (iS_142 (iH 138 I)) 137 2 0) 137 6 0) 137 7 (-1)) 267 (fillF ((sI (sI (sI (iS_142 (iH 138 I)) 137 2 0) 137 6 0) 137 7 (-1)) 267) 1 9)) 268) 1 9)) X) 137 10 (some 269))
  rw [hn_link rfl (Nat.le_of_ble_eq_true rfl) (nin hos (Nat.le_of_ble_eq_true rfl))]
  refine w_aload_n (Ev.cm _) rfl rfl ?_
  refine w_iconst (Ev.cm _) rfl ?_
  refine w_putI (Ev.cm _) rfl (Nat.le_of_ble_eq_true rfl) rfl ?_
  have z16 := (Zs (Nat.le_of_ble_eq_true rfl) z15)
  show Wp _ _ _ _ _ _ _ 110 [(0, .ref 137)] [] (HN 270 (137 :: os) (sI (va_up (va_up (sI (sI (sI (iS_142 (iH 138 I)) 137 2 0) 137 6 0) 137 7 (-1)) 267 (fillF ((sI (sI (sI (iS_142 (iH 138 I)) 137 2 0) 137 6 0) 137 7 (-1)) 267) 1 9)) 268 (fillF ((va_up (sI (sI (sI (iS_142 (iH 138 I)) 137 2 0) 137 6 0) 137 7 (-1)) 267 (fillF ((sI (sI (sI (iS_142 (iH 138 I)) 137 2 0) 137 6 0) 137 7 (-1)) 267) 1 9)) 268) 1 9)) 137 11 0) X)
  refine w_aload_n (Ev.cm _) rfl rfl ?_
  refine w_iconst (Ev.cm _) rfl ?_
  refine w_newa (Ev.cm _) rfl (by decide) (by decide) (show _ ∧ _ from ⟨by decide +kernel, by decide +kernel⟩) ?_
  show Wp _ _ _ _ _ _ _ 114 [(0, .ref 137)] [.ref 270, .ref 137] (puN (HN 270 (137 :: os) (sI (va_up (va_up (sI (sI (sI (iS_142 (iH 138 I)) 137 2 0) 137 6 0) 137 7 (-1)) 267 (fillF ((sI (sI (sI (iS_142 (iH 138 I)) 137 2 0) 137 6 0) 137 7 (-1)) 267) 1 9)) 268 (fillF ((va_up (sI (sI (sI (iS_142 (iH 138 I)) 137 2 0) 137 6 0) 137 7 (-1)) 267 (fillF ((sI (sI (sI (iS_142 (iH 138 I)) 137 2 0) 137 6 0) 137 7 (-1)) 267) 1 9)) 268) 1 9)) 137 11 0) X) 10 5)
  rw [hn_new rfl z16]
  have z17 := (Zn z16)
  refine w_putR (Ev.cm _) rfl (Nat.le_of_ble_eq_true rfl) rfl ?_
  show Wp _ _ _ _ _ _ _ 117 [(0, .ref 137)] [] (puR (HN 271 (270 :: 137 :: os) (sI (va_up (va_up (sI (sI (sI (iS_142 (iH 138 I)) 137 2 0) 137 6 0) 137 7 (-1)) 267 (fillF ((sI (sI (sI (iS_142 (iH 138 I)) 137 2 0) 137 6 0) 137 7 (-1)) 267) 1 9)) 268 (fillF ((va_up (sI (sI (sI (iS_142 (iH 138 I)) 137 2 0) 137 6 0) 137 7 (-1)) 267 (fillF ((sI (sI (sI (iS_142 (iH 138 I)) 137 2 0) 137 6 0) 137 7 (-1)) 267) 1 9)) 268) 1 9)) 137 11 0) X) 137 12 (some 270))
  rw [hn_link rfl (Nat.le_of_ble_eq_true rfl) (nin hos (Nat.le_of_ble_eq_true rfl))]
  refine w_aload_n (Ev.cm _) rfl rfl ?_
  refine w_iconst (Ev.cm _) rfl ?_
  refine w_putI (Ev.cm _) rfl (Nat.le_of_ble_eq_true rfl) rfl ?_
  have z18 := (Zs (Nat.le_of_ble_eq_true rfl) z17)
  show Wp _ _ _ _ _ _ _ 122 [(0, .ref 137)] [] (HN 271 (137 :: os) (sI (sI (va_up (va_up (sI (sI (sI (iS_142 (iH 138 I)) 137 2 0) 137 6 0) 137 7 (-1)) 267 (fillF ((sI (sI (sI (iS_142 (iH 138 I)) 137 2 0) 137 6 0) 137 7 (-1)) 267) 1 9)) 268 (fillF ((va_up (sI (sI (sI (iS_142 (iH 138 I)) 137 2 0) 137 6 0) 137 7 (-1)) 267 (fillF ((sI (sI (sI (iS_142 (iH 138 I)) 137 2 0) 137 6 0) 137 7 (-1)) 267) 1 9)) 268) 1 9)) 137 11 0) 137 13 0) X)
  refine w_aload_n (Ev.cm _) rfl rfl ?_
  refine w_bipush (Ev.cm _) rfl ?_
  refine w_newa (Ev.cm _) rfl (by decide) (by decide) (show _ ∧ _ from ⟨by decide +kernel, by decide +kernel⟩) ?_
  show Wp _ _ _ _ _ _ _ 127 [(0, .ref 137)] [.ref 271, .ref 137] (puN (HN 271 (137 :: os) (sI (sI (va_up (va_up (sI (sI (sI (iS_142 (iH 138 I)) 137 2 0) 137 6 0) 137 7 (-1)) 267 (fillF ((sI (sI (sI (iS_142 (iH 138 I)) 137 2 0) 137 6 0) 137 7 (-1)) 267) 1 9)) 268 (fillF ((va_up (sI (sI (sI (iS_142 (iH 138 I)) 137 2 0) 137 6 0) 137 7 (-1)) 267 (fillF ((sI (sI (sI (iS_142 (iH 138 I)) 137 2 0) 137 6 0) 137 7 (-1)) 267) 1 9)) 268) 1 9)) 137 11 0) 137 13 0) X) 10 6)
  rw [hn_new rfl z18]
  have z19 := (Zn z18)
  refine w_putR (Ev.cm _) rfl (Nat.le_of_ble_eq_true rfl) rfl ?_
  show Wp _ _ _ _ _ _ _ 130 [(0, .ref 137)] [] (puR (HN 272 (271 :: 137 :: os) (sI (sI (va_up (va_up (sI (sI (sI (iS_142 (iH 138 I)) 137 2 0) 137 6 0) 137 7 (-1)) 267 (fillF ((sI (sI (sI (iS_142 (iH 138 I)) 137 2 0) 137 6 0) 137 7 (-1)) 267) 1 9)) 268 (fillF ((va_up (sI (sI (sI (iS_142 (iH 138 I)) 137 2 0) 137 6 0) 137 7 (-1)) 267 (fillF ((sI (sI (sI (iS_142 (iH 138 I)) 137 2 0) 137 6 0) 137 7 (-1)) 267) 1 9)) 268) 1 9)) 137 11 0) 137 13 0) X) 137 14 (some 271))
  rw [hn_link rfl (Nat.le_of_ble_eq_true rfl) (nin hos (Nat.le_of_ble_eq_true rfl))]
  refine w_aload_n (Ev.cm _) rfl rfl ?_
  refine w_getR (q := 271) (Ev.cm _) rfl (Nat.le_of_ble_eq_true rfl) rfl (rd_get rfl (Nat.le_of_ble_eq_true rfl) (nin hos (Nat.le_of_ble_eq_true rfl))) ?_
  refine w_iconst (Ev.cm _) rfl ?_
  refine w_cstat (as := [.ref 271, .int 1]) (st := []) (Ev.cm _) rfl rfl rfl (Nat.le_of_ble_eq_true rfl) (Nat.le_of_ble_eq_true rfl) (e_fill_g (n := 6) (Nat.le_of_ble_eq_true rfl) rfl (by decide) ?_)
  have z20 := (Zv (Nat.le_of_ble_eq_true rfl) z19)
  show Wp _ _ _ _ _ _ _ 138 [(0, .ref 137)] [] (HN 272 (137 :: os) (va_up (sI (sI (va_up (va_up (sI (sI (sI (iS_142 (iH 138 I)) 137 2 0) 137 6 0) 137 7 (-1)) 267 (fillF ((sI (sI (sI (iS_142 (iH 138 I)) 137 2 0) 137 6 0) 137 7 (-1)) 267) 1 9)) 268 (fillF ((va_up (sI (sI (sI (iS_142 (iH 138 I)) 137 2 0) 137 6 0) 137 7 (-1)) 267 (fillF ((sI (sI (sI (iS_142 (iH 138 I)) 137 2 0) 137 6 0) 137 7 (-1)) 267) 1 9)) 268) 1 9)) 137 11 0) 137 13 0) 271 (fillF ((sI (sI (va_up (va_up (sI (sI (sI (iS_142 (iH 138 I)) 137 2 0) 137 6 0) 137 7 (-1)) 267 (fillF ((sI (sI (sI (iS_142 (iH 138 I)) 137 2 0) 137 6 0) 137 7 (-1)) 267) 1 9)) 268 (fillF ((va_up (sI (sI (sI (iS_142 (iH 138 I)) 137 2 0) 137 6 0) 137 7 (-1)) 267 (fillF ((sI (sI (sI (iS_142 (iH 138 I)) 137 2 0) 137 6 0) 137 7 (-1)) 267) 1 9)) 268) 1 9)) 137 11 0) 137 13 0) 271) 1 6)) X)
  refine w_aload_n (Ev.cm _) rfl rfl ?_
  refine w_bipush (Ev.cm _) rfl ?_
  refine w_newa (Ev.cm _) rfl (by decide) (by decide) (show _ ∧ _ from ⟨by decide +kernel, by decide +kernel⟩) ?_
  show Wp _ _ _ _ _ _ _ 143 [(0, .ref 137)] [.ref 272, .ref 137] (puN (HN 272 (137 :: os) (va_up (sI (sI (va_up (va_up (sI (sI (sI (iS_142 (iH 138 I)) 137 2 0) 137 6 0) 137 7 (-1)) 267 (fillF ((sI (sI (sI (iS_142 (iH 138 I)) 137 2 0) 137 6 0) 137 7 (-1)) 267) 1 9)) 268 (fillF ((va_up (sI (sI (sI (iS_142 (iH 138 I)) 137 2 0) 137 6 0) 137 7 (-1)) 267 (fillF ((sI (sI (sI (iS_142 (iH 138 I)) 137 2 0) 137 6 0) 137 7 (-1)) 267) 1 9)) 268) 1 9)) 137 11 0) 137 13 0) 271 (fillF ((sI (sI (va_up (va_up (sI (sI (sI (iS_142 (iH 138 I)) 137 2 0) 137 6 0) 137 7 (-1)) 267 (fillF ((sI (sI (sI (iS_142 (iH 138 I)) 137 2 0) 137 6 0) 137 7 (-1)) 267) 1 9)) 268 (fillF ((va_up (sI (sI (sI (iS_142 (iH 138 I)) 137 2 0) 137 6 0) 137 7 (-1)) 267 (fillF ((sI (sI (sI (iS_142 (iH 138 I)) 137 2 0) 137 6 0) 137 7 (-1)) 267) 1 9)) 268) 1 9)) 137 11 0) 137 13 0) 271) 1 6)) X) 10 24)
  rw [hn_new rfl z20]
  have z21 := (Zn z20)
  refine w_putR (Ev.cm _) rfl (Nat.le_of_ble_eq_true rfl) rfl ?_
  show Wp _ _ _ _ _ _ _ 146 [(0, .ref 137)] [] (puR (HN 273 (272 :: 137 :: os) (va_up (sI (sI (va_up (va_up (sI (sI (sI (iS_142 (iH 138 I)) 137 2 0) 137 6 0) 137 7 (-1)) 267 (fillF ((sI (sI (sI (iS_142 (iH 138 I)) 137 2 0) 137 6 0) 137 7 (-1)) 267) 1 9)) 268 (fillF ((va_up (sI (sI (sI (iS_142 (iH 138 I)) 137 2 0) 137 6 0) 137 7 (-1)) 267 (fillF ((sI (sI (sI (iS_142 (iH 138 I)) 137 2 0) 137 6 0) 137 7 (-1)) 267) 1 9)) 268) 1 9)) 137 11 0) 137 13 0) 271 (fillF ((sI (sI (va_up (va_up (sI (sI (sI (iS_142 (iH 138 I)) 137 2 0) 137 6 0) 137 7 (-1)) 267 (fillF ((sI (sI (sI (iS_142 (iH 138 I)) 137 2 0) 137 6 0) 137 7 (-1)) 267) 1 9)) 268 (fillF ((va_up (sI (sI (sI (iS_142 (iH 138 I)) 137 2 0) 137 6 0) 137 7 (-1)) 267 (fillF ((sI (sI (sI (iS_142 (iH 138 I)) 137 2 0) 137 6 0) 137 7 (-1)) 267) 1 9)) 268) 1 9)) 137 11 0) 137 13 0) 271) 1 6)) X) 137 15 (some 272))
  rw [hn_link rfl (Nat.le_of_ble_eq_true rfl) (nin hos (Nat.le_of_ble_eq_true rfl))]
  refine w_aload_n (Ev.cm _) rfl rfl ?_
  refine w_iconst (Ev.cm _) rfl ?_
  refine w_putI (Ev.cm _) rfl (Nat.le_of_ble_eq_true rfl) rfl ?_
  have z22 := (Zs (Nat.le_of_ble_eq_true rfl) z21)
  show Wp _ _ _ _ _ _ _ 151 [(0, .ref 137)] [] (HN 273 (137 :: os) (sI (va_up (sI (sI (va_up (va_up (sI (sI (sI (iS_142 (iH 138 I)) 137 2 0) 137 6 0) 137 7 (-1)) 267 (fillF ((sI (sI (sI (iS_142 (iH 138 I)) 137 2 0) 137 6 0) 137 7 (-1)) 267) 1 9)) 268 (fillF ((va_up (sI (sI (sI (iS_142 (iH 138 I)) 137 2 0) 137 6 0) 137 7 (-1)) 267 (fillF ((sI (sI (sI (iS_142 (iH 138 I)) 137 2 0) 137 6 0) 137 7 (-1)) 267) 1 9)) 268) 1 9)) 137 11 0) 137 13 0) 271 (fillF ((sI (sI (va_up (va_up (sI (sI (sI (iS_142 (iH 138 I)) 137 2 0) 137 6 0) 137 7 (-1)) 267 (fillF ((sI (sI (sI (iS_142 (iH 138 I)) 137 2 0) 137 6 0) 137 7 (-1)) 267) 1 9)) 268 (fillF ((va_up (sI (sI (sI (iS_142 (iH 138 I)) 137 2 0) 137 6 0) 137 7 (-1)) 267 (fillF ((sI (sI (sI (iS_142 (iH 138 I)) 137 2 0) 137 6 0) 137 7 (-1)) 267) 1 9)) 268) 1 9)) 137 11 0) 137 13 0) 271) 1 6)) 137 16 0) X)
  refine w_return (Ev.cm _) rfl rfl (Or.inr ⟨(by decide +kernel), (by decide +kernel)⟩) ?_
  exact q
def iT (b : Nat) (I : Nat → Nat → Int32) : Nat → Nat → Int32 := va_up (sI (sI I b 0 0) b 4 0) (b + 6) (fillF ((sI (sI I b 0 0) b 4 0) (b + 6)) (-1) 2)
theorem iT_z {b : Nat} {I : Nat → Nat → Int32} (hz : Zf (b + 1) I) : Zf (b + 8) (iT b I) := by
  unfold iT
  have z1 := (Zs (by omega) hz)
  have z2 := (Zn z1)
  have z3 := (Zn z2)
  have z4 := (Zn z3)
  have z5 := (Zs (by omega) z4)
  have z6 := (Zn z5)
  have z7 := (Zn z6)
  have z8 := (Zn z7)
  have z9 := (Zn z8)
  have z10 := (Zv (by omega) z9)
  exact z10
set_option maxHeartbeats 20000000 in
set_option maxRecDepth 20000 in
theorem e_iT {d : Nat} {b : Nat} (hb : isT b) {os : List Nat} {I : Nat → Nat → Int32} {X : Nat × (Nat → Int32)} {Q : PQ} (hos : ∀ x ∈ os, x < b) (hz : Zf (b + 1) I) (q : Q none (HN (b + 8) (b :: os) (iT b I) X)) : Ev (d + 2) m_T_new [.ref b] (HN (b + 1) (b :: os) I X) Q := by
  have hk0 := isT_k0 hb
  have hk1 := isT_k1 hb
  have hk2 := isT_k2 hb
  have hk3 := isT_k3 hb
  have hk4 := isT_k4 hb
  have hk5 := isT_k5 hb
  have hk6 := isT_k6 hb
  have hk7 := isT_k7 hb
  have hr1 := isT_r1 hb
  have hr2 := isT_r2 hb
  have hr3 := isT_r3 hb
  have hr5 := isT_r5 hb
  have hr6 := isT_r6 hb
  have hr7 := isT_r7 hb
  have hr8 := isT_r8 hb
  have sl1 : slt (b + 2) = slt (b + 1) + 24 := by show slt (b + 1) + (K0 (b + 1)).2 = _; rw [hk1]
  have sl2 : slt (b + 3) = slt (b + 2) + 24 := by show slt (b + 2) + (K0 (b + 2)).2 = _; rw [hk2]
  have sl3 : slt (b + 4) = slt (b + 3) + 24 := by show slt (b + 3) + (K0 (b + 3)).2 = _; rw [hk3]
  have sl4 : slt (b + 5) = slt (b + 4) + 300 := by show slt (b + 4) + (K0 (b + 4)).2 = _; rw [hk4]
  have sl5 : slt (b + 6) = slt (b + 5) + 300 := by show slt (b + 5) + (K0 (b + 5)).2 = _; rw [hk5]
  have sl6 : slt (b + 7) = slt (b + 6) + 2 := by show slt (b + 6) + (K0 (b + 6)).2 = _; rw [hk6]
  have sl7 : slt (b + 8) = slt (b + 7) + 2 := by show slt (b + 7) + (K0 (b + 7)).2 = _; rw [hk7]
  unfold iT at q
  refine ev_start (d := d + 1) rfl rfl rfl (Nat.le_of_ble_eq_true rfl) ?_
  show Wp (Ev (d + 1)) cd_T_new (mcs m_T_new) none _ _ Q 0 [(0, .ref b)] [] (HN (b + 1) (b :: os) I X)
  refine w_aload_n (Ev.cm _) rfl rfl ?_
  refine w_objI (Ev.cm _) rfl (Nat.le_of_ble_eq_true rfl) ?_
  refine w_aload_n (Ev.cm _) rfl rfl ?_
  refine w_iconst (Ev.cm _) rfl ?_
  refine w_putI (Ev.cm _) rfl (by omega) (cutk (by omega) hk0) ?_
  have z1 := (Zs (by omega) hz)
  show Wp _ _ _ _ _ _ _ 9 [(0, .ref b)] [] (HN (b + 1) (b :: os) (sI I b 0 0) X)
  refine w_aload_n (Ev.cm _) rfl rfl ?_
  refine w_bipush (Ev.cm _) rfl ?_
  refine w_newa (Ev.cm _) rfl (by decide) (by decide) (show _ ∧ _ from ⟨by show b + 1 + 1 ≤ b + 1 + 7; omega, by show slt (b + 1) + 24 ≤ slt (b + 1) + 676; omega⟩) ?_
  show Wp _ _ _ _ _ _ _ 14 [(0, .ref b)] [.ref (b + 1), .ref b] (puN (HN (b + 1) (b :: os) (sI I b 0 0) X) 10 24)
  rw [hn_new hk1 z1]
  have z2 := (Zn z1)
  refine w_putR (Ev.cm _) rfl (by omega) (cutk (by omega) hk0) ?_
  show Wp _ _ _ _ _ _ _ 17 [(0, .ref b)] [] (puR (HN (b + 2) ((b + 1) :: b :: os) (sI I b 0 0) X) b 1 (some (b + 1)))
  rw [hn_link hr1 (by omega) (nin hos (by omega))]
  refine w_aload_n (Ev.cm _) rfl rfl ?_
  refine w_bipush (Ev.cm _) rfl ?_
  refine w_newa (Ev.cm _) rfl (by decide) (by decide) (show _ ∧ _ from ⟨by show b + 2 + 1 ≤ b + 1 + 7; omega, by show slt (b + 2) + 24 ≤ slt (b + 1) + 676; omega⟩) ?_
  show Wp _ _ _ _ _ _ _ 22 [(0, .ref b)] [.ref (b + 2), .ref b] (puN (HN (b + 2) (b :: os) (sI I b 0 0) X) 10 24)
  rw [hn_new hk2 z2]
  have z3 := (Zn z2)
  refine w_putR (Ev.cm _) rfl (by omega) (cutk (by omega) hk0) ?_
  show Wp _ _ _ _ _ _ _ 25 [(0, .ref b)] [] (puR (HN (b + 3) ((b + 2) :: b :: os) (sI I b 0 0) X) b 2 (some (b + 2)))
  rw [hn_link hr2 (by omega) (nin hos (by omega))]
  refine w_aload_n (Ev.cm _) rfl rfl ?_
  refine w_bipush (Ev.cm _) rfl ?_
  refine w_newa (Ev.cm _) rfl (by decide) (by decide) (show _ ∧ _ from ⟨by show b + 3 + 1 ≤ b + 1 + 7; omega, by show slt (b + 3) + 24 ≤ slt (b + 1) + 676; omega⟩) ?_
  show Wp _ _ _ _ _ _ _ 30 [(0, .ref b)] [.ref (b + 3), .ref b] (puN (HN (b + 3) (b :: os) (sI I b 0 0) X) 10 24)
  rw [hn_new hk3 z3]
  have z4 := (Zn z3)
  refine w_putR (Ev.cm _) rfl (by omega) (cutk (by omega) hk0) ?_
  show Wp _ _ _ _ _ _ _ 33 [(0, .ref b)] [] (puR (HN (b + 4) ((b + 3) :: b :: os) (sI I b 0 0) X) b 3 (some (b + 3)))
  rw [hn_link hr3 (by omega) (nin hos (by omega))]
  refine w_aload_n (Ev.cm _) rfl rfl ?_
  refine w_iconst (Ev.cm _) rfl ?_
  refine w_putI (Ev.cm _) rfl (by omega) (cutk (by omega) hk0) ?_
  have z5 := (Zs (by omega) z4)
  show Wp _ _ _ _ _ _ _ 38 [(0, .ref b)] [] (HN (b + 4) (b :: os) (sI (sI I b 0 0) b 4 0) X)
  refine w_aload_n (Ev.cm _) rfl rfl ?_
  refine w_sipush (Ev.cm _) rfl ?_
  refine w_newa (Ev.cm _) rfl (by decide) (by decide) (show _ ∧ _ from ⟨by show b + 4 + 1 ≤ b + 1 + 7; omega, by show slt (b + 4) + 300 ≤ slt (b + 1) + 676; omega⟩) ?_
  show Wp _ _ _ _ _ _ _ 44 [(0, .ref b)] [.ref (b + 4), .ref b] (puN (HN (b + 4) (b :: os) (sI (sI I b 0 0) b 4 0) X) 10 300)
  rw [hn_new hk4 z5]
  have z6 := (Zn z5)
  refine w_putR (Ev.cm _) rfl (by omega) (cutk (by omega) hk0) ?_
  show Wp _ _ _ _ _ _ _ 47 [(0, .ref b)] [] (puR (HN (b + 5) ((b + 4) :: b :: os) (sI (sI I b 0 0) b 4 0) X) b 5 (some (b + 4)))
  rw [hn_link hr5 (by omega) (nin hos (by omega))]
  refine w_aload_n (Ev.cm _) rfl rfl ?_
  refine w_sipush (Ev.cm _) rfl ?_
  refine w_newa (Ev.cm _) rfl (by decide) (by decide) (show _ ∧ _ from ⟨by show b + 5 + 1 ≤ b + 1 + 7; omega, by show slt (b + 5) + 300 ≤ slt (b + 1) + 676; omega⟩) ?_
  show Wp _ _ _ _ _ _ _ 53 [(0, .ref b)] [.ref (b + 5), .ref b] (puN (HN (b + 5) (b :: os) (sI (sI I b 0 0) b 4 0) X) 10 300)
  rw [hn_new hk5 z6]
  have z7 := (Zn z6)
  refine w_putR (Ev.cm _) rfl (by omega) (cutk (by omega) hk0) ?_
  show Wp _ _ _ _ _ _ _ 56 [(0, .ref b)] [] (puR (HN (b + 6) ((b + 5) :: b :: os) (sI (sI I b 0 0) b 4 0) X) b 6 (some (b + 5)))
  rw [hn_link hr6 (by omega) (nin hos (by omega))]
  refine w_aload_n (Ev.cm _) rfl rfl ?_
  refine w_iconst (Ev.cm _) rfl ?_
  refine w_newa (Ev.cm _) rfl (by decide) (by decide) (show _ ∧ _ from ⟨by show b + 6 + 1 ≤ b + 1 + 7; omega, by show slt (b + 6) + 2 ≤ slt (b + 1) + 676; omega⟩) ?_
  show Wp _ _ _ _ _ _ _ 60 [(0, .ref b)] [.ref (b + 6), .ref b] (puN (HN (b + 6) (b :: os) (sI (sI I b 0 0) b 4 0) X) 10 2)
  rw [hn_new hk6 z7]
  have z8 := (Zn z7)
  refine w_putR (Ev.cm _) rfl (by omega) (cutk (by omega) hk0) ?_
  show Wp _ _ _ _ _ _ _ 63 [(0, .ref b)] [] (puR (HN (b + 7) ((b + 6) :: b :: os) (sI (sI I b 0 0) b 4 0) X) b 7 (some (b + 6)))
  rw [hn_link hr7 (by omega) (nin hos (by omega))]
  refine w_aload_n (Ev.cm _) rfl rfl ?_
  refine w_iconst (Ev.cm _) rfl ?_
  refine w_newa (Ev.cm _) rfl (by decide) (by decide) (show _ ∧ _ from ⟨by show b + 7 + 1 ≤ b + 1 + 7; omega, by show slt (b + 7) + 2 ≤ slt (b + 1) + 676; omega⟩) ?_
  show Wp _ _ _ _ _ _ _ 67 [(0, .ref b)] [.ref (b + 7), .ref b] (puN (HN (b + 7) (b :: os) (sI (sI I b 0 0) b 4 0) X) 10 2)
  rw [hn_new hk7 z8]
  have z9 := (Zn z8)
  refine w_putR (Ev.cm _) rfl (by omega) (cutk (by omega) hk0) ?_
  show Wp _ _ _ _ _ _ _ 70 [(0, .ref b)] [] (puR (HN (b + 8) ((b + 7) :: b :: os) (sI (sI I b 0 0) b 4 0) X) b 8 (some (b + 7)))
  rw [hn_link hr8 (by omega) (nin hos (by omega))]
  refine w_aload_n (Ev.cm _) rfl rfl ?_
  refine w_getR (q := b + 6) (Ev.cm _) rfl (by omega) (cutk (by omega) hk0) (rd_get hr7 (by omega) (nin hos (by omega))) ?_
  refine w_iconst (Ev.cm _) rfl ?_
  refine w_cstat (as := [.ref (b + 6), .int (-1)]) (st := []) (Ev.cm _) rfl rfl rfl (Nat.le_of_ble_eq_true rfl) (Nat.le_of_ble_eq_true rfl) (e_fill_g (n := 2) (by omega) (cutk2 (by omega) hk6) (by decide) ?_)
  have z10 := (Zv (by omega) z9)
  show Wp _ _ _ _ _ _ _ 78 [(0, .ref b)] [] (HN (b + 8) (b :: os) (va_up (sI (sI I b 0 0) b 4 0) (b + 6) (fillF ((sI (sI I b 0 0) b 4 0) (b + 6)) (-1) 2)) X)
  refine w_return (Ev.cm _) rfl rfl (Or.inr ⟨(show b + 8 = b + 1 + 7 by omega), (show slt (b + 8) = slt (b + 1) + 676 by omega)⟩) ?_
  exact q
def iR_ (I : Nat → Nat → Int32) : Nat → Nat → Int32 := sI (sI (sI (sI (sI (iT 308 (sI (sI (sI I 307 0 0) 307 1 0) 307 2 (-1))) 307 7 0) 307 8 0) 307 9 0) 307 10 0) 307 11 38
theorem iR__z {I : Nat → Nat → Int32} (hz : Zf 308 I) : Zf (319) (iR_ I) := by
  unfold iR_
  have z1 := (Zs (Nat.le_of_ble_eq_true rfl) hz)
  have z2 := (Zs (Nat.le_of_ble_eq_true rfl) z1)
  have z3 := (Zs (Nat.le_of_ble_eq_true rfl) z2)
  have z4 := (Zn z3)
  have z5 := (iT_z (b := 308) z4)
  have z6 := (Zn z5)
  have z7 := (Zn z6)
  have z8 := (Zn z7)
  have z9 := (Zs (Nat.le_of_ble_eq_true rfl) z8)
  have z10 := (Zs (Nat.le_of_ble_eq_true rfl) z9)
  have z11 := (Zs (Nat.le_of_ble_eq_true rfl) z10)
  have z12 := (Zs (Nat.le_of_ble_eq_true rfl) z11)
  have z13 := (Zs (Nat.le_of_ble_eq_true rfl) z12)
  exact z13
set_option maxHeartbeats 20000000 in
set_option maxRecDepth 20000 in
theorem e_iR_ {d : Nat} {os : List Nat} {I : Nat → Nat → Int32} {X : Nat × (Nat → Int32)} {Q : PQ} (hos : ∀ x ∈ os, x < 307) (hz : Zf 308 I) (q : Q none (HN (319) (307 :: os) (iR_ I) X)) : Ev (d + 3) m_R_new [.ref 307] (HN 308 (307 :: os) I X) Q := by
  unfold iR_ at q
  refine ev_start (d := d + 2) rfl rfl rfl (Nat.le_of_ble_eq_true rfl) ?_
  show Wp (Ev (d + 2)) cd_R_new (mcs m_R_new) none _ _ Q 0 [(0, .ref 307)] [] (HN 308 (307 :: os) I X)
  refine w_aload_n (Ev.cm _) rfl rfl ?_
  refine w_objI (Ev.cm _) rfl (Nat.le_of_ble_eq_true rfl) ?_
  refine w_aload_n (Ev.cm _) rfl rfl ?_
  refine w_iconst (Ev.cm _) rfl ?_
  refine w_putZ (Ev.cm _) rfl (Nat.le_of_ble_eq_true rfl) rfl (by decide) ?_
  have z1 := (Zs (Nat.le_of_ble_eq_true rfl) hz)
  show Wp _ _ _ _ _ _ _ 9 [(0, .ref 307)] [] (HN 308 (307 :: os) (sI I 307 0 0) X)
  refine w_aload_n (Ev.cm _) rfl rfl ?_
  refine w_iconst (Ev.cm _) rfl ?_
  refine w_putI (Ev.cm _) rfl (Nat.le_of_ble_eq_true rfl) rfl ?_
  have z2 := (Zs (Nat.le_of_ble_eq_true rfl) z1)
  show Wp _ _ _ _ _ _ _ 14 [(0, .ref 307)] [] (HN 308 (307 :: os) (sI (sI I 307 0 0) 307 1 0) X)
  refine w_aload_n (Ev.cm _) rfl rfl ?_
  refine w_iconst (Ev.cm _) rfl ?_
  refine w_putI (Ev.cm _) rfl (Nat.le_of_ble_eq_true rfl) rfl ?_
  have z3 := (Zs (Nat.le_of_ble_eq_true rfl) z2)
  show Wp _ _ _ _ _ _ _ 19 [(0, .ref 307)] [] (HN 308 (307 :: os) (sI (sI (sI I 307 0 0) 307 1 0) 307 2 (-1)) X)
  refine w_aload_n (Ev.cm _) rfl rfl ?_
  refine w_new (Ev.cm _) rfl (show _ ∧ _ from ⟨by decide +kernel, by decide +kernel⟩) ?_
  show Wp _ _ _ _ _ _ _ 23 [(0, .ref 307)] [.ref 308, .ref 307] (puN (HN 308 (307 :: os) (sI (sI (sI I 307 0 0) 307 1 0) 307 2 (-1)) X) 7 9)
  rw [hn_new rfl z3]
  have z4 := (Zn z3)
  refine w_dup (Ev.cm _) rfl rfl ?_
  refine w_cinit (as := []) (o := 308) (st := [.ref 308, .ref 307]) (Ev.cm _) rfl rfl rfl (Nat.le_of_ble_eq_true rfl) (show _ ∧ _ from ⟨by decide +kernel, by decide +kernel⟩) (Nat.le_of_ble_eq_true rfl) (e_iT (show isT 308 from by unfold isT; omega) (fun x hx => by rcases List.mem_cons.mp hx with e | e <;> [(rw [e]; exact (Nat.le_of_ble_eq_true rfl)); exact Nat.lt_trans (hos x e) (Nat.le_of_ble_eq_true rfl)]) z4 ?_)
  have z5 := (iT_z (b := 308) z4)
  show Wp _ _ _ _ _ _ _ 27 [(0, .ref 307)] [.ref 308, .ref 307] (HN 316 (308 :: 307 :: os) (iT 308 (sI (sI (sI I 307 0 0) 307 1 0) 307 2 (-1))) X)
  refine w_putR (Ev.cm _) rfl (Nat.le_of_ble_eq_true rfl) rfl ?_
  show Wp _ _ _ _ _ _ _ 30 [(0, .ref 307)] [] (puR (HN 316 (308 :: 307 :: os) (iT 308 (sI (sI (sI I 307 0 0) 307 1 0) 307 2 (-1))) X) 307 3 (some 308))
  rw [hn_link rfl (Nat.le_of_ble_eq_true rfl) (nin hos (Nat.le_of_ble_eq_true rfl))]
  refine w_aload_n (Ev.cm _) rfl rfl ?_
  refine w_sipush (Ev.cm _) rfl ?_
  refine w_newa (Ev.cm _) rfl (by decide) (by decide) (show _ ∧ _ from ⟨by decide +kernel, by decide +kernel⟩) ?_
  show Wp _ _ _ _ _ _ _ 36 [(0, .ref 307)] [.ref 316, .ref 307] (puN (HN 316 (307 :: os) (iT 308 (sI (sI (sI I 307 0 0) 307 1 0) 307 2 (-1))) X) 10 301)
  rw [hn_new rfl z5]
  have z6 := (Zn z5)
  refine w_putR (Ev.cm _) rfl (Nat.le_of_ble_eq_true rfl) rfl ?_
  show Wp _ _ _ _ _ _ _ 39 [(0, .ref 307)] [] (puR (HN 317 (316 :: 307 :: os) (iT 308 (sI (sI (sI I 307 0 0) 307 1 0) 307 2 (-1))) X) 307 4 (some 316))
  rw [hn_link rfl (Nat.le_of_ble_eq_true rfl) (nin hos (Nat.le_of_ble_eq_true rfl))]
  refine w_aload_n (Ev.cm _) rfl rfl ?_
  refine w_sipush (Ev.cm _) rfl ?_
  refine w_newa (Ev.cm _) rfl (by decide) (by decide) (show _ ∧ _ from ⟨by decide +kernel, by decide +kernel⟩) ?_
  show Wp _ _ _ _ _ _ _ 45 [(0, .ref 307)] [.ref 317, .ref 307] (puN (HN 317 (307 :: os) (iT 308 (sI (sI (sI I 307 0 0) 307 1 0) 307 2 (-1))) X) 10 301)
  rw [hn_new rfl z6]
  have z7 := (Zn z6)
  refine w_putR (Ev.cm _) rfl (Nat.le_of_ble_eq_true rfl) rfl ?_
  show Wp _ _ _ _ _ _ _ 48 [(0, .ref 307)] [] (puR (HN 318 (317 :: 307 :: os) (iT 308 (sI (sI (sI I 307 0 0) 307 1 0) 307 2 (-1))) X) 307 5 (some 317))
  rw [hn_link rfl (Nat.le_of_ble_eq_true rfl) (nin hos (Nat.le_of_ble_eq_true rfl))]
  refine w_aload_n (Ev.cm _) rfl rfl ?_
  refine w_sipush (Ev.cm _) rfl ?_
  refine w_newa (Ev.cm _) rfl (by decide) (by decide) (show _ ∧ _ from ⟨by decide +kernel, by decide +kernel⟩) ?_
  show Wp _ _ _ _ _ _ _ 54 [(0, .ref 307)] [.ref 318, .ref 307] (puN (HN 318 (307 :: os) (iT 308 (sI (sI (sI I 307 0 0) 307 1 0) 307 2 (-1))) X) 10 301)
  rw [hn_new rfl z7]
  have z8 := (Zn z7)
  refine w_putR (Ev.cm _) rfl (Nat.le_of_ble_eq_true rfl) rfl ?_
  show Wp _ _ _ _ _ _ _ 57 [(0, .ref 307)] [] (puR (HN 319 (318 :: 307 :: os) (iT 308 (sI (sI (sI I 307 0 0) 307 1 0) 307 2 (-1))) X) 307 6 (some 318))
  rw [hn_link rfl (Nat.le_of_ble_eq_true rfl) (nin hos (Nat.le_of_ble_eq_true rfl))]
  refine w_aload_n (Ev.cm _) rfl rfl ?_
  refine w_iconst (Ev.cm _) rfl ?_
  refine w_putI (Ev.cm _) rfl (Nat.le_of_ble_eq_true rfl) rfl ?_
  have z9 := (Zs (Nat.le_of_ble_eq_true rfl) z8)
  show Wp _ _ _ _ _ _ _ 62 [(0, .ref 307)] [] (HN 319 (307 :: os) (sI (iT 308 (sI (sI (sI I 307 0 0) 307 1 0) 307 2 (-1))) 307 7 0) X)
  refine w_aload_n (Ev.cm _) rfl rfl ?_
  refine w_iconst (Ev.cm _) rfl ?_
  refine w_putI (Ev.cm _) rfl (Nat.le_of_ble_eq_true rfl) rfl ?_
  have z10 := (Zs (Nat.le_of_ble_eq_true rfl) z9)
  show Wp _ _ _ _ _ _ _ 67 [(0, .ref 307)] [] (HN 319 (307 :: os) (sI (sI (iT 308 (sI (sI (sI I 307 0 0) 307 1 0) 307 2 (-1))) 307 7 0) 307 8 0) X)
  refine w_aload_n (Ev.cm _) rfl rfl ?_
  refine w_iconst (Ev.cm _) rfl ?_
  refine w_putI (Ev.cm _) rfl (Nat.le_of_ble_eq_true rfl) rfl ?_
  have z11 := (Zs (Nat.le_of_ble_eq_true rfl) z10)
  show Wp _ _ _ _ _ _ _ 72 [(0, .ref 307)] [] (HN 319 (307 :: os) (sI (sI (sI (iT 308 (sI (sI (sI I 307 0 0) 307 1 0) 307 2 (-1))) 307 7 0) 307 8 0) 307 9 0) X)
  refine w_aload_n (Ev.cm _) rfl rfl ?_
  refine w_iconst (Ev.cm _) rfl ?_
  refine w_putI (Ev.cm _) rfl (Nat.le_of_ble_eq_true rfl) rfl ?_
  have z12 := (Zs (Nat.le_of_ble_eq_true rfl) z11)
  show Wp _ _ _ _ _ _ _ 77 [(0, .ref 307)] [] (HN 319 (307 :: os) (sI (sI (sI (sI (iT 308 (sI (sI (sI I 307 0 0) 307 1 0) 307 2 (-1))) 307 7 0) 307 8 0) 307 9 0) 307 10 0) X)
  refine w_aload_n (Ev.cm _) rfl rfl ?_
  refine w_bipush (Ev.cm _) rfl ?_
  refine w_putI (Ev.cm _) rfl (Nat.le_of_ble_eq_true rfl) rfl ?_
  have z13 := (Zs (Nat.le_of_ble_eq_true rfl) z12)
  show Wp _ _ _ _ _ _ _ 83 [(0, .ref 307)] [] (HN 319 (307 :: os) (sI (sI (sI (sI (sI (iT 308 (sI (sI (sI I 307 0 0) 307 1 0) 307 2 (-1))) 307 7 0) 307 8 0) 307 9 0) 307 10 0) 307 11 38) X)
  refine w_return (Ev.cm _) rfl rfl (Or.inr ⟨(by decide +kernel), (by decide +kernel)⟩) ?_
  exact q
def iW (I : Nat → Nat → Int32) : Nat → Nat → Int32 := sI I 319 2 0
theorem iW_z {I : Nat → Nat → Int32} (hz : Zf 320 I) : Zf (322) (iW I) := by
  unfold iW
  have z1 := (Zn hz)
  have z2 := (Zn z1)
  have z3 := (Zs (Nat.le_of_ble_eq_true rfl) z2)
  exact z3
set_option maxHeartbeats 20000000 in
set_option maxRecDepth 20000 in
theorem e_iW {d : Nat} {os : List Nat} {I : Nat → Nat → Int32} {X : Nat × (Nat → Int32)} {Q : PQ} (hos : ∀ x ∈ os, x < 319) (hz : Zf 320 I) (q : Q none (HN (322) (319 :: os) (iW I) X)) : Ev (d + 1) m_W_new [.ref 319] (HN 320 (319 :: os) I X) Q := by
  unfold iW at q
  refine ev_start (d := d + 0) rfl rfl rfl (Nat.le_of_ble_eq_true rfl) ?_
  show Wp (Ev (d + 0)) cd_W_new (mcs m_W_new) none _ _ Q 0 [(0, .ref 319)] [] (HN 320 (319 :: os) I X)
  refine w_aload_n (Ev.cm _) rfl rfl ?_
  refine w_objI (Ev.cm _) rfl (Nat.le_of_ble_eq_true rfl) ?_
  refine w_aload_n (Ev.cm _) rfl rfl ?_
  refine w_bipush (Ev.cm _) rfl ?_
  refine w_newa (Ev.cm _) rfl (by decide) (by decide) (show _ ∧ _ from ⟨by decide +kernel, by decide +kernel⟩) ?_
  show Wp _ _ _ _ _ _ _ 9 [(0, .ref 319)] [.ref 320, .ref 319] (puN (HN 320 (319 :: os) I X) 10 80)
  rw [hn_new rfl hz]
  have z1 := (Zn hz)
  refine w_putR (Ev.cm _) rfl (Nat.le_of_ble_eq_true rfl) rfl ?_
  show Wp _ _ _ _ _ _ _ 12 [(0, .ref 319)] [] (puR (HN 321 (320 :: 319 :: os) I X) 319 0 (some 320))
  rw [hn_link rfl (Nat.le_of_ble_eq_true rfl) (nin hos (Nat.le_of_ble_eq_true rfl))]
  refine w_aload_n (Ev.cm _) rfl rfl ?_
  refine w_bipush (Ev.cm _) rfl ?_
  refine w_newa (Ev.cm _) rfl (by decide) (by decide) (show _ ∧ _ from ⟨by decide +kernel, by decide +kernel⟩) ?_
  show Wp _ _ _ _ _ _ _ 17 [(0, .ref 319)] [.ref 321, .ref 319] (puN (HN 321 (319 :: os) I X) 10 8)
  rw [hn_new rfl z1]
  have z2 := (Zn z1)
  refine w_putR (Ev.cm _) rfl (Nat.le_of_ble_eq_true rfl) rfl ?_
  show Wp _ _ _ _ _ _ _ 20 [(0, .ref 319)] [] (puR (HN 322 (321 :: 319 :: os) I X) 319 1 (some 321))
  rw [hn_link rfl (Nat.le_of_ble_eq_true rfl) (nin hos (Nat.le_of_ble_eq_true rfl))]
  refine w_aload_n (Ev.cm _) rfl rfl ?_
  refine w_iconst (Ev.cm _) rfl ?_
  refine w_putI (Ev.cm _) rfl (Nat.le_of_ble_eq_true rfl) rfl ?_
  have z3 := (Zs (Nat.le_of_ble_eq_true rfl) z2)
  show Wp _ _ _ _ _ _ _ 25 [(0, .ref 319)] [] (HN 322 (319 :: os) (sI I 319 2 0) X)
  refine w_return (Ev.cm _) rfl rfl (Or.inr ⟨(by decide +kernel), (by decide +kernel)⟩) ?_
  exact q
def iO (I : Nat → Nat → Int32) : Nat → Nat → Int32 := I
theorem iO_z {I : Nat → Nat → Int32} (hz : Zf 323 I) : Zf (325) (iO I) := by
  unfold iO
  have z1 := (Zn hz)
  have z2 := (Zn z1)
  exact z2
set_option maxHeartbeats 20000000 in
set_option maxRecDepth 20000 in
theorem e_iO {d : Nat} {os : List Nat} {I : Nat → Nat → Int32} {X : Nat × (Nat → Int32)} {Q : PQ} (hos : ∀ x ∈ os, x < 322) (hz : Zf 323 I) (q : Q none (HN (325) (322 :: os) (iO I) X)) : Ev (d + 1) m_O_new [.ref 322] (HN 323 (322 :: os) I X) Q := by
  unfold iO at q
  refine ev_start (d := d + 0) rfl rfl rfl (Nat.le_of_ble_eq_true rfl) ?_
  show Wp (Ev (d + 0)) cd_O_new (mcs m_O_new) none _ _ Q 0 [(0, .ref 322)] [] (HN 323 (322 :: os) I X)
  refine w_aload_n (Ev.cm _) rfl rfl ?_
  refine w_objI (Ev.cm _) rfl (Nat.le_of_ble_eq_true rfl) ?_
  refine w_aload_n (Ev.cm _) rfl rfl ?_
  refine w_bipush (Ev.cm _) rfl ?_
  refine w_newa (Ev.cm _) rfl (by decide) (by decide) (show _ ∧ _ from ⟨by decide +kernel, by decide +kernel⟩) ?_
  show Wp _ _ _ _ _ _ _ 9 [(0, .ref 322)] [.ref 323, .ref 322] (puN (HN 323 (322 :: os) I X) 11 18)
  rw [hn_new rfl hz]
  have z1 := (Zn hz)
  refine w_putR (Ev.cm _) rfl (Nat.le_of_ble_eq_true rfl) rfl ?_
  show Wp _ _ _ _ _ _ _ 12 [(0, .ref 322)] [] (puR (HN 324 (323 :: 322 :: os) I X) 322 0 (some 323))
  rw [hn_link rfl (Nat.le_of_ble_eq_true rfl) (nin hos (Nat.le_of_ble_eq_true rfl))]
  refine w_aload_n (Ev.cm _) rfl rfl ?_
  refine w_bipush (Ev.cm _) rfl ?_
  refine w_newa (Ev.cm _) rfl (by decide) (by decide) (show _ ∧ _ from ⟨by decide +kernel, by decide +kernel⟩) ?_
  show Wp _ _ _ _ _ _ _ 17 [(0, .ref 322)] [.ref 324, .ref 322] (puN (HN 324 (322 :: os) I X) 11 18)
  rw [hn_new rfl z1]
  have z2 := (Zn z1)
  refine w_putR (Ev.cm _) rfl (Nat.le_of_ble_eq_true rfl) rfl ?_
  show Wp _ _ _ _ _ _ _ 20 [(0, .ref 322)] [] (puR (HN 325 (324 :: 322 :: os) I X) 322 1 (some 324))
  rw [hn_link rfl (Nat.le_of_ble_eq_true rfl) (nin hos (Nat.le_of_ble_eq_true rfl))]
  refine w_return (Ev.cm _) rfl rfl (Or.inr ⟨(by decide +kernel), (by decide +kernel)⟩) ?_
  exact q
def iC (I : Nat → Nat → Int32) : Nat → Nat → Int32 := I
theorem iC_z {I : Nat → Nat → Int32} (hz : Zf 326 I) : Zf (328) (iC I) := by
  unfold iC
  have z1 := (Zn hz)
  have z2 := (Zn z1)
  exact z2
set_option maxHeartbeats 20000000 in
set_option maxRecDepth 20000 in
theorem e_iC {d : Nat} {os : List Nat} {I : Nat → Nat → Int32} {X : Nat × (Nat → Int32)} {Q : PQ} (hos : ∀ x ∈ os, x < 325) (hz : Zf 326 I) (q : Q none (HN (328) (325 :: os) (iC I) X)) : Ev (d + 1) m_C_new [.ref 325] (HN 326 (325 :: os) I X) Q := by
  unfold iC at q
  refine ev_start (d := d + 0) rfl rfl rfl (Nat.le_of_ble_eq_true rfl) ?_
  show Wp (Ev (d + 0)) cd_C_new (mcs m_C_new) none _ _ Q 0 [(0, .ref 325)] [] (HN 326 (325 :: os) I X)
  refine w_aload_n (Ev.cm _) rfl rfl ?_
  refine w_objI (Ev.cm _) rfl (Nat.le_of_ble_eq_true rfl) ?_
  refine w_aload_n (Ev.cm _) rfl rfl ?_
  refine w_bipush (Ev.cm _) rfl ?_
  refine w_newa (Ev.cm _) rfl (by decide) (by decide) (show _ ∧ _ from ⟨by decide +kernel, by decide +kernel⟩) ?_
  show Wp _ _ _ _ _ _ _ 9 [(0, .ref 325)] [.ref 326, .ref 325] (puN (HN 326 (325 :: os) I X) 10 64)
  rw [hn_new rfl hz]
  have z1 := (Zn hz)
  refine w_putR (Ev.cm _) rfl (Nat.le_of_ble_eq_true rfl) rfl ?_
  show Wp _ _ _ _ _ _ _ 12 [(0, .ref 325)] [] (puR (HN 327 (326 :: 325 :: os) I X) 325 0 (some 326))
  rw [hn_link rfl (Nat.le_of_ble_eq_true rfl) (nin hos (Nat.le_of_ble_eq_true rfl))]
  refine w_aload_n (Ev.cm _) rfl rfl ?_
  refine w_bipush (Ev.cm _) rfl ?_
  refine w_newa (Ev.cm _) rfl (by decide) (by decide) (show _ ∧ _ from ⟨by decide +kernel, by decide +kernel⟩) ?_
  show Wp _ _ _ _ _ _ _ 17 [(0, .ref 325)] [.ref 327, .ref 325] (puN (HN 327 (325 :: os) I X) 10 9)
  rw [hn_new rfl z1]
  have z2 := (Zn z1)
  refine w_putR (Ev.cm _) rfl (Nat.le_of_ble_eq_true rfl) rfl ?_
  show Wp _ _ _ _ _ _ _ 20 [(0, .ref 325)] [] (puR (HN 328 (327 :: 325 :: os) I X) 325 1 (some 327))
  rw [hn_link rfl (Nat.le_of_ble_eq_true rfl) (nin hos (Nat.le_of_ble_eq_true rfl))]
  refine w_return (Ev.cm _) rfl rfl (Or.inr ⟨(by decide +kernel), (by decide +kernel)⟩) ?_
  exact q
def iX (I : Nat → Nat → Int32) : Nat → Nat → Int32 := iC (iO (iW (iR_ (sI (iT 298 (iT 290 (iT 282 (iT 274 (iQ_137 (iQ_1 I)))))) 0 4 0))))
theorem iX_z {I : Nat → Nat → Int32} (hz : Zf 1 I) : Zf (331) (iX I) := by
  unfold iX
  have z1 := (Zn hz)
  have z2 := (iQ_1_z z1)
  have z3 := (Zn z2)
  have z4 := (iQ_137_z z3)
  have z5 := (Zn z4)
  have z6 := (Zn z5)
  have z7 := (iT_z (b := 274) z6)
  have z8 := (Zn z7)
  have z9 := (iT_z (b := 282) z8)
  have z10 := (Zn z9)
  have z11 := (iT_z (b := 290) z10)
  have z12 := (Zn z11)
  have z13 := (iT_z (b := 298) z12)
  have z14 := (Zn z13)
  have z15 := (Zs (Nat.le_of_ble_eq_true rfl) z14)
  have z16 := (Zn z15)
  have z17 := (iR__z z16)
  have z18 := (Zn z17)
  have z19 := (iW_z z18)
  have z20 := (Zn z19)
  have z21 := (iO_z z20)
  have z22 := (Zn z21)
  have z23 := (iC_z z22)
  have z24 := (Zn z23)
  have z25 := (Zn z24)
  have z26 := (Zn z25)
  exact z26
set_option maxHeartbeats 20000000 in
set_option maxRecDepth 20000 in
theorem e_iX {d : Nat} {os : List Nat} {I : Nat → Nat → Int32} {X : Nat × (Nat → Int32)} {Q : PQ} (hos : ∀ x ∈ os, x < 0) (hz : Zf 1 I) (q : Q none (HN (331) (0 :: os) (iX I) X)) : Ev (d + 4) m_X_new [.ref 0] (HN 1 (0 :: os) I X) Q := by
  unfold iX at q
  refine ev_start (d := d + 3) rfl rfl rfl (Nat.le_of_ble_eq_true rfl) ?_
  show Wp (Ev (d + 3)) cd_X_new (mcs m_X_new) none _ _ Q 0 [(0, .ref 0)] [] (HN 1 (0 :: os) I X)
  refine w_aload_n (Ev.cm _) rfl rfl ?_
  refine w_objI (Ev.cm _) rfl (Nat.le_of_ble_eq_true rfl) ?_
  refine w_aload_n (Ev.cm _) rfl rfl ?_
  refine w_new (Ev.cm _) rfl (show _ ∧ _ from ⟨by decide +kernel, by decide +kernel⟩) ?_
  show Wp _ _ _ _ _ _ _ 8 [(0, .ref 0)] [.ref 1, .ref 0] (puN (HN 1 (0 :: os) I X) 5 17)
  rw [hn_new rfl hz]
  have z1 := (Zn hz)
  refine w_dup (Ev.cm _) rfl rfl ?_
  refine w_cinit (as := []) (o := 1) (st := [.ref 1, .ref 0]) (Ev.cm _) rfl rfl rfl (Nat.le_of_ble_eq_true rfl) (show _ ∧ _ from ⟨by decide +kernel, by decide +kernel⟩) (Nat.le_of_ble_eq_true rfl) (e_iQ_1 (fun x hx => by rcases List.mem_cons.mp hx with e | e <;> [(rw [e]; exact (Nat.le_of_ble_eq_true rfl)); exact Nat.lt_trans (hos x e) (Nat.le_of_ble_eq_true rfl)]) z1 ?_)
  have z2 := (iQ_1_z z1)
  show Wp _ _ _ _ _ _ _ 12 [(0, .ref 0)] [.ref 1, .ref 0] (HN 137 (1 :: 0 :: os) (iQ_1 I) X)
  refine w_putR (Ev.cm _) rfl (Nat.le_of_ble_eq_true rfl) rfl ?_
  show Wp _ _ _ _ _ _ _ 15 [(0, .ref 0)] [] (puR (HN 137 (1 :: 0 :: os) (iQ_1 I) X) 0 0 (some 1))
  rw [hn_link rfl (Nat.le_of_ble_eq_true rfl) (nin hos (Nat.le_of_ble_eq_true rfl))]
  refine w_aload_n (Ev.cm _) rfl rfl ?_
  refine w_new (Ev.cm _) rfl (show _ ∧ _ from ⟨by decide +kernel, by decide +kernel⟩) ?_
  show Wp _ _ _ _ _ _ _ 19 [(0, .ref 0)] [.ref 137, .ref 0] (puN (HN 137 (0 :: os) (iQ_1 I) X) 5 17)
  rw [hn_new rfl z2]
  have z3 := (Zn z2)
  refine w_dup (Ev.cm _) rfl rfl ?_
  refine w_cinit (as := []) (o := 137) (st := [.ref 137, .ref 0]) (Ev.cm _) rfl rfl rfl (Nat.le_of_ble_eq_true rfl) (show _ ∧ _ from ⟨by decide +kernel, by decide +kernel⟩) (Nat.le_of_ble_eq_true rfl) (e_iQ_137 (fun x hx => by rcases List.mem_cons.mp hx with e | e <;> [(rw [e]; exact (Nat.le_of_ble_eq_true rfl)); exact Nat.lt_trans (hos x e) (Nat.le_of_ble_eq_true rfl)]) z3 ?_)
  have z4 := (iQ_137_z z3)
  show Wp _ _ _ _ _ _ _ 23 [(0, .ref 0)] [.ref 137, .ref 0] (HN 273 (137 :: 0 :: os) (iQ_137 (iQ_1 I)) X)
  refine w_putR (Ev.cm _) rfl (Nat.le_of_ble_eq_true rfl) rfl ?_
  show Wp _ _ _ _ _ _ _ 26 [(0, .ref 0)] [] (puR (HN 273 (137 :: 0 :: os) (iQ_137 (iQ_1 I)) X) 0 1 (some 137))
  rw [hn_link rfl (Nat.le_of_ble_eq_true rfl) (nin hos (Nat.le_of_ble_eq_true rfl))]
  refine w_aload_n (Ev.cm _) rfl rfl ?_
  refine w_iconst (Ev.cm _) rfl ?_
  refine w_newr (Ev.cm _) rfl (by decide) (by decide) (show _ ∧ _ from ⟨by decide +kernel, by decide +kernel⟩) ?_
  show Wp _ _ _ _ _ _ _ 31 [(0, .ref 0)] [.ref 273, .ref 0] (puN (HN 273 (0 :: os) (iQ_137 (iQ_1 I)) X) 13 4)
  rw [hn_new rfl z4]
  have z5 := (Zn z4)
  refine w_putR (Ev.cm _) rfl (Nat.le_of_ble_eq_true rfl) rfl ?_
  show Wp _ _ _ _ _ _ _ 34 [(0, .ref 0)] [] (puR (HN 274 (273 :: 0 :: os) (iQ_137 (iQ_1 I)) X) 0 2 (some 273))
  rw [hn_link rfl (Nat.le_of_ble_eq_true rfl) (nin hos (Nat.le_of_ble_eq_true rfl))]
  refine w_iconst (Ev.cm _) rfl ?_
  refine w_istore_n (ls2 := [(0, .ref 0), (1, .int 0)]) (Ev.cm _) rfl rfl ?_
  refine w_iload_n (Ev.cm _) rfl rfl ?_
  refine w_iconst (Ev.cm _) rfl ?_
  refine w_icmp_ge (Ev.cm _) rfl (fun q => absurd q (by decide)) (fun _ => ?_)
  refine w_aload_n (Ev.cm _) rfl rfl ?_
  refine w_getR (q := 273) (Ev.cm _) rfl (Nat.le_of_ble_eq_true rfl) rfl (rd_get rfl (Nat.le_of_ble_eq_true rfl) (nin hos (Nat.le_of_ble_eq_true rfl))) ?_
  refine w_iload_n (Ev.cm _) rfl rfl ?_
  refine w_new (Ev.cm _) rfl (show _ ∧ _ from ⟨by decide +kernel, by decide +kernel⟩) ?_
  show Wp _ _ _ _ _ _ _ 49 [(0, .ref 0), (1, .int 0)] [.ref 274, .int 0, .ref 273] (puN (HN 274 (0 :: os) (iQ_137 (iQ_1 I)) X) 7 9)
  rw [hn_new rfl z5]
  have z6 := (Zn z5)
  refine w_dup (Ev.cm _) rfl rfl ?_
  refine w_cinit (as := []) (o := 274) (st := [.ref 274, .int 0, .ref 273]) (Ev.cm _) rfl rfl rfl (Nat.le_of_ble_eq_true rfl) (show _ ∧ _ from ⟨by decide +kernel, by decide +kernel⟩) (Nat.le_of_ble_eq_true rfl) (e_iT (show isT 274 from by unfold isT; omega) (fun x hx => by rcases List.mem_cons.mp hx with e | e <;> [(rw [e]; exact (Nat.le_of_ble_eq_true rfl)); exact Nat.lt_trans (hos x e) (Nat.le_of_ble_eq_true rfl)]) z6 ?_)
  have z7 := (iT_z (b := 274) z6)
  show Wp _ _ _ _ _ _ _ 53 [(0, .ref 0), (1, .int 0)] [.ref 274, .int 0, .ref 273] (HN 282 (274 :: 0 :: os) (iT 274 (iQ_137 (iQ_1 I))) X)
  refine w_aast (Ev.cm _) rfl (Nat.le_of_ble_eq_true rfl) rfl (by decide) (Nat.le_of_ble_eq_true rfl) rfl ?_
  show Wp _ _ _ _ _ _ _ 54 [(0, .ref 0), (1, .int 0)] [] (puR (HN 282 (274 :: 0 :: os) (iT 274 (iQ_137 (iQ_1 I))) X) 273 0 (some 274))
  rw [hn_link rfl (Nat.le_of_ble_eq_true rfl) (nin hos (Nat.le_of_ble_eq_true rfl))]
  refine w_iinc (ls2 := [(0, .ref 0), (1, .int 1)]) (Ev.cm _) rfl rfl rfl ?_
  refine w_goto (Ev.cm _) rfl ?_
  refine w_iload_n (Ev.cm _) rfl rfl ?_
  refine w_iconst (Ev.cm _) rfl ?_
  refine w_icmp_ge (Ev.cm _) rfl (fun q => absurd q (by decide)) (fun _ => ?_)
  refine w_aload_n (Ev.cm _) rfl rfl ?_
  refine w_getR (q := 273) (Ev.cm _) rfl (Nat.le_of_ble_eq_true rfl) rfl (rd_get rfl (Nat.le_of_ble_eq_true rfl) (nin hos (Nat.le_of_ble_eq_true rfl))) ?_
  refine w_iload_n (Ev.cm _) rfl rfl ?_
  refine w_new (Ev.cm _) rfl (show _ ∧ _ from ⟨by decide +kernel, by decide +kernel⟩) ?_
  show Wp _ _ _ _ _ _ _ 49 [(0, .ref 0), (1, .int 1)] [.ref 282, .int 1, .ref 273] (puN (HN 282 (0 :: os) (iT 274 (iQ_137 (iQ_1 I))) X) 7 9)
  rw [hn_new rfl z7]
  have z8 := (Zn z7)
  refine w_dup (Ev.cm _) rfl rfl ?_
  refine w_cinit (as := []) (o := 282) (st := [.ref 282, .int 1, .ref 273]) (Ev.cm _) rfl rfl rfl (Nat.le_of_ble_eq_true rfl) (show _ ∧ _ from ⟨by decide +kernel, by decide +kernel⟩) (Nat.le_of_ble_eq_true rfl) (e_iT (show isT 282 from by unfold isT; omega) (fun x hx => by rcases List.mem_cons.mp hx with e | e <;> [(rw [e]; exact (Nat.le_of_ble_eq_true rfl)); exact Nat.lt_trans (hos x e) (Nat.le_of_ble_eq_true rfl)]) z8 ?_)
  have z9 := (iT_z (b := 282) z8)
  show Wp _ _ _ _ _ _ _ 53 [(0, .ref 0), (1, .int 1)] [.ref 282, .int 1, .ref 273] (HN 290 (282 :: 0 :: os) (iT 282 (iT 274 (iQ_137 (iQ_1 I)))) X)
  refine w_aast (Ev.cm _) rfl (Nat.le_of_ble_eq_true rfl) rfl (by decide) (Nat.le_of_ble_eq_true rfl) rfl ?_
  show Wp _ _ _ _ _ _ _ 54 [(0, .ref 0), (1, .int 1)] [] (puR (HN 290 (282 :: 0 :: os) (iT 282 (iT 274 (iQ_137 (iQ_1 I)))) X) 273 1 (some 282))
  rw [hn_link rfl (Nat.le_of_ble_eq_true rfl) (nin hos (Nat.le_of_ble_eq_true rfl))]
  refine w_iinc (ls2 := [(0, .ref 0), (1, .int 2)]) (Ev.cm _) rfl rfl rfl ?_
  refine w_goto (Ev.cm _) rfl ?_
  refine w_iload_n (Ev.cm _) rfl rfl ?_
  refine w_iconst (Ev.cm _) rfl ?_
  refine w_icmp_ge (Ev.cm _) rfl (fun q => absurd q (by decide)) (fun _ => ?_)
  refine w_aload_n (Ev.cm _) rfl rfl ?_
  refine w_getR (q := 273) (Ev.cm _) rfl (Nat.le_of_ble_eq_true rfl) rfl (rd_get rfl (Nat.le_of_ble_eq_true rfl) (nin hos (Nat.le_of_ble_eq_true rfl))) ?_
  refine w_iload_n (Ev.cm _) rfl rfl ?_
  refine w_new (Ev.cm _) rfl (show _ ∧ _ from ⟨by decide +kernel, by decide +kernel⟩) ?_
  show Wp _ _ _ _ _ _ _ 49 [(0, .ref 0), (1, .int 2)] [.ref 290, .int 2, .ref 273] (puN (HN 290 (0 :: os) (iT 282 (iT 274 (iQ_137 (iQ_1 I)))) X) 7 9)
  rw [hn_new rfl z9]
  have z10 := (Zn z9)
  refine w_dup (Ev.cm _) rfl rfl ?_
  refine w_cinit (as := []) (o := 290) (st := [.ref 290, .int 2, .ref 273]) (Ev.cm _) rfl rfl rfl (Nat.le_of_ble_eq_true rfl) (show _ ∧ _ from ⟨by decide +kernel, by decide +kernel⟩) (Nat.le_of_ble_eq_true rfl) (e_iT (show isT 290 from by unfold isT; omega) (fun x hx => by rcases List.mem_cons.mp hx with e | e <;> [(rw [e]; exact (Nat.le_of_ble_eq_true rfl)); exact Nat.lt_trans (hos x e) (Nat.le_of_ble_eq_true rfl)]) z10 ?_)
  have z11 := (iT_z (b := 290) z10)
  show Wp _ _ _ _ _ _ _ 53 [(0, .ref 0), (1, .int 2)] [.ref 290, .int 2, .ref 273] (HN 298 (290 :: 0 :: os) (iT 290 (iT 282 (iT 274 (iQ_137 (iQ_1 I))))) X)
  refine w_aast (Ev.cm _) rfl (Nat.le_of_ble_eq_true rfl) rfl (by decide) (Nat.le_of_ble_eq_true rfl) rfl ?_
  show Wp _ _ _ _ _ _ _ 54 [(0, .ref 0), (1, .int 2)] [] (puR (HN 298 (290 :: 0 :: os) (iT 290 (iT 282 (iT 274 (iQ_137 (iQ_1 I))))) X) 273 2 (some 290))
  rw [hn_link rfl (Nat.le_of_ble_eq_true rfl) (nin hos (Nat.le_of_ble_eq_true rfl))]
  refine w_iinc (ls2 := [(0, .ref 0), (1, .int 3)]) (Ev.cm _) rfl rfl rfl ?_
  refine w_goto (Ev.cm _) rfl ?_
  refine w_iload_n (Ev.cm _) rfl rfl ?_
  refine w_iconst (Ev.cm _) rfl ?_
  refine w_icmp_ge (Ev.cm _) rfl (fun q => absurd q (by decide)) (fun _ => ?_)
  refine w_aload_n (Ev.cm _) rfl rfl ?_
  refine w_getR (q := 273) (Ev.cm _) rfl (Nat.le_of_ble_eq_true rfl) rfl (rd_get rfl (Nat.le_of_ble_eq_true rfl) (nin hos (Nat.le_of_ble_eq_true rfl))) ?_
  refine w_iload_n (Ev.cm _) rfl rfl ?_
  refine w_new (Ev.cm _) rfl (show _ ∧ _ from ⟨by decide +kernel, by decide +kernel⟩) ?_
  show Wp _ _ _ _ _ _ _ 49 [(0, .ref 0), (1, .int 3)] [.ref 298, .int 3, .ref 273] (puN (HN 298 (0 :: os) (iT 290 (iT 282 (iT 274 (iQ_137 (iQ_1 I))))) X) 7 9)
  rw [hn_new rfl z11]
  have z12 := (Zn z11)
  refine w_dup (Ev.cm _) rfl rfl ?_
  refine w_cinit (as := []) (o := 298) (st := [.ref 298, .int 3, .ref 273]) (Ev.cm _) rfl rfl rfl (Nat.le_of_ble_eq_true rfl) (show _ ∧ _ from ⟨by decide +kernel, by decide +kernel⟩) (Nat.le_of_ble_eq_true rfl) (e_iT (show isT 298 from by unfold isT; omega) (fun x hx => by rcases List.mem_cons.mp hx with e | e <;> [(rw [e]; exact (Nat.le_of_ble_eq_true rfl)); exact Nat.lt_trans (hos x e) (Nat.le_of_ble_eq_true rfl)]) z12 ?_)
  have z13 := (iT_z (b := 298) z12)
  show Wp _ _ _ _ _ _ _ 53 [(0, .ref 0), (1, .int 3)] [.ref 298, .int 3, .ref 273] (HN 306 (298 :: 0 :: os) (iT 298 (iT 290 (iT 282 (iT 274 (iQ_137 (iQ_1 I)))))) X)
  refine w_aast (Ev.cm _) rfl (Nat.le_of_ble_eq_true rfl) rfl (by decide) (Nat.le_of_ble_eq_true rfl) rfl ?_
  show Wp _ _ _ _ _ _ _ 54 [(0, .ref 0), (1, .int 3)] [] (puR (HN 306 (298 :: 0 :: os) (iT 298 (iT 290 (iT 282 (iT 274 (iQ_137 (iQ_1 I)))))) X) 273 3 (some 298))
  rw [hn_link rfl (Nat.le_of_ble_eq_true rfl) (nin hos (Nat.le_of_ble_eq_true rfl))]
  refine w_iinc (ls2 := [(0, .ref 0), (1, .int 4)]) (Ev.cm _) rfl rfl rfl ?_
  refine w_goto (Ev.cm _) rfl ?_
  refine w_iload_n (Ev.cm _) rfl rfl ?_
  refine w_iconst (Ev.cm _) rfl ?_
  refine w_icmp_ge (Ev.cm _) rfl (fun _ => ?_) (fun q => absurd (by decide) q)
  refine w_aload_n (Ev.cm _) rfl rfl ?_
  refine w_sipush (Ev.cm _) rfl ?_
  refine w_newa (Ev.cm _) rfl (by decide) (by decide) (show _ ∧ _ from ⟨by decide +kernel, by decide +kernel⟩) ?_
  show Wp _ _ _ _ _ _ _ 66 [(0, .ref 0), (1, .int 4)] [.ref 306, .ref 0] (puN (HN 306 (0 :: os) (iT 298 (iT 290 (iT 282 (iT 274 (iQ_137 (iQ_1 I)))))) X) 10 300)
  rw [hn_new rfl z13]
  have z14 := (Zn z13)
  refine w_putR (Ev.cm _) rfl (Nat.le_of_ble_eq_true rfl) rfl ?_
  show Wp _ _ _ _ _ _ _ 69 [(0, .ref 0), (1, .int 4)] [] (puR (HN 307 (306 :: 0 :: os) (iT 298 (iT 290 (iT 282 (iT 274 (iQ_137 (iQ_1 I)))))) X) 0 3 (some 306))
  rw [hn_link rfl (Nat.le_of_ble_eq_true rfl) (nin hos (Nat.le_of_ble_eq_true rfl))]
  refine w_aload_n (Ev.cm _) rfl rfl ?_
  refine w_iconst (Ev.cm _) rfl ?_
  refine w_putI (Ev.cm _) rfl (Nat.le_of_ble_eq_true rfl) rfl ?_
  have z15 := (Zs (Nat.le_of_ble_eq_true rfl) z14)
  show Wp _ _ _ _ _ _ _ 74 [(0, .ref 0), (1, .int 4)] [] (HN 307 (0 :: os) (sI (iT 298 (iT 290 (iT 282 (iT 274 (iQ_137 (iQ_1 I)))))) 0 4 0) X)
  refine w_aload_n (Ev.cm _) rfl rfl ?_
  refine w_new (Ev.cm _) rfl (show _ ∧ _ from ⟨by decide +kernel, by decide +kernel⟩) ?_
  show Wp _ _ _ _ _ _ _ 78 [(0, .ref 0), (1, .int 4)] [.ref 307, .ref 0] (puN (HN 307 (0 :: os) (sI (iT 298 (iT 290 (iT 282 (iT 274 (iQ_137 (iQ_1 I)))))) 0 4 0) X) 4 12)
  rw [hn_new rfl z15]
  have z16 := (Zn z15)
  refine w_dup (Ev.cm _) rfl rfl ?_
  refine w_cinit (as := []) (o := 307) (st := [.ref 307, .ref 0]) (Ev.cm _) rfl rfl rfl (Nat.le_of_ble_eq_true rfl) (show _ ∧ _ from ⟨by decide +kernel, by decide +kernel⟩) (Nat.le_of_ble_eq_true rfl) (e_iR_ (fun x hx => by rcases List.mem_cons.mp hx with e | e <;> [(rw [e]; exact (Nat.le_of_ble_eq_true rfl)); exact Nat.lt_trans (hos x e) (Nat.le_of_ble_eq_true rfl)]) z16 ?_)
  have z17 := (iR__z z16)
  show Wp _ _ _ _ _ _ _ 82 [(0, .ref 0), (1, .int 4)] [.ref 307, .ref 0] (HN 319 (307 :: 0 :: os) (iR_ (sI (iT 298 (iT 290 (iT 282 (iT 274 (iQ_137 (iQ_1 I)))))) 0 4 0)) X)
  refine w_putR (Ev.cm _) rfl (Nat.le_of_ble_eq_true rfl) rfl ?_
  show Wp _ _ _ _ _ _ _ 85 [(0, .ref 0), (1, .int 4)] [] (puR (HN 319 (307 :: 0 :: os) (iR_ (sI (iT 298 (iT 290 (iT 282 (iT 274 (iQ_137 (iQ_1 I)))))) 0 4 0)) X) 0 5 (some 307))
  rw [hn_link rfl (Nat.le_of_ble_eq_true rfl) (nin hos (Nat.le_of_ble_eq_true rfl))]
  refine w_aload_n (Ev.cm _) rfl rfl ?_
  refine w_new (Ev.cm _) rfl (show _ ∧ _ from ⟨by decide +kernel, by decide +kernel⟩) ?_
  show Wp _ _ _ _ _ _ _ 89 [(0, .ref 0), (1, .int 4)] [.ref 319, .ref 0] (puN (HN 319 (0 :: os) (iR_ (sI (iT 298 (iT 290 (iT 282 (iT 274 (iQ_137 (iQ_1 I)))))) 0 4 0)) X) 2 3)
  rw [hn_new rfl z17]
  have z18 := (Zn z17)
  refine w_dup (Ev.cm _) rfl rfl ?_
  refine w_cinit (as := []) (o := 319) (st := [.ref 319, .ref 0]) (Ev.cm _) rfl rfl rfl (Nat.le_of_ble_eq_true rfl) (show _ ∧ _ from ⟨by decide +kernel, by decide +kernel⟩) (Nat.le_of_ble_eq_true rfl) (e_iW (fun x hx => by rcases List.mem_cons.mp hx with e | e <;> [(rw [e]; exact (Nat.le_of_ble_eq_true rfl)); exact Nat.lt_trans (hos x e) (Nat.le_of_ble_eq_true rfl)]) z18 ?_)
  have z19 := (iW_z z18)
  show Wp _ _ _ _ _ _ _ 93 [(0, .ref 0), (1, .int 4)] [.ref 319, .ref 0] (HN 322 (319 :: 0 :: os) (iW (iR_ (sI (iT 298 (iT 290 (iT 282 (iT 274 (iQ_137 (iQ_1 I)))))) 0 4 0))) X)
  refine w_putR (Ev.cm _) rfl (Nat.le_of_ble_eq_true rfl) rfl ?_
  show Wp _ _ _ _ _ _ _ 96 [(0, .ref 0), (1, .int 4)] [] (puR (HN 322 (319 :: 0 :: os) (iW (iR_ (sI (iT 298 (iT 290 (iT 282 (iT 274 (iQ_137 (iQ_1 I)))))) 0 4 0))) X) 0 6 (some 319))
  rw [hn_link rfl (Nat.le_of_ble_eq_true rfl) (nin hos (Nat.le_of_ble_eq_true rfl))]
  refine w_aload_n (Ev.cm _) rfl rfl ?_
  refine w_new (Ev.cm _) rfl (show _ ∧ _ from ⟨by decide +kernel, by decide +kernel⟩) ?_
  show Wp _ _ _ _ _ _ _ 100 [(0, .ref 0), (1, .int 4)] [.ref 322, .ref 0] (puN (HN 322 (0 :: os) (iW (iR_ (sI (iT 298 (iT 290 (iT 282 (iT 274 (iQ_137 (iQ_1 I)))))) 0 4 0))) X) 3 2)
  rw [hn_new rfl z19]
  have z20 := (Zn z19)
  refine w_dup (Ev.cm _) rfl rfl ?_
  refine w_cinit (as := []) (o := 322) (st := [.ref 322, .ref 0]) (Ev.cm _) rfl rfl rfl (Nat.le_of_ble_eq_true rfl) (show _ ∧ _ from ⟨by decide +kernel, by decide +kernel⟩) (Nat.le_of_ble_eq_true rfl) (e_iO (fun x hx => by rcases List.mem_cons.mp hx with e | e <;> [(rw [e]; exact (Nat.le_of_ble_eq_true rfl)); exact Nat.lt_trans (hos x e) (Nat.le_of_ble_eq_true rfl)]) z20 ?_)
  have z21 := (iO_z z20)
  show Wp _ _ _ _ _ _ _ 104 [(0, .ref 0), (1, .int 4)] [.ref 322, .ref 0] (HN 325 (322 :: 0 :: os) (iO (iW (iR_ (sI (iT 298 (iT 290 (iT 282 (iT 274 (iQ_137 (iQ_1 I)))))) 0 4 0)))) X)
  refine w_putR (Ev.cm _) rfl (Nat.le_of_ble_eq_true rfl) rfl ?_
  show Wp _ _ _ _ _ _ _ 107 [(0, .ref 0), (1, .int 4)] [] (puR (HN 325 (322 :: 0 :: os) (iO (iW (iR_ (sI (iT 298 (iT 290 (iT 282 (iT 274 (iQ_137 (iQ_1 I)))))) 0 4 0)))) X) 0 7 (some 322))
  rw [hn_link rfl (Nat.le_of_ble_eq_true rfl) (nin hos (Nat.le_of_ble_eq_true rfl))]
  refine w_aload_n (Ev.cm _) rfl rfl ?_
  refine w_new (Ev.cm _) rfl (show _ ∧ _ from ⟨by decide +kernel, by decide +kernel⟩) ?_
  show Wp _ _ _ _ _ _ _ 111 [(0, .ref 0), (1, .int 4)] [.ref 325, .ref 0] (puN (HN 325 (0 :: os) (iO (iW (iR_ (sI (iT 298 (iT 290 (iT 282 (iT 274 (iQ_137 (iQ_1 I)))))) 0 4 0)))) X) 0 2)
  rw [hn_new rfl z21]
  have z22 := (Zn z21)
  refine w_dup (Ev.cm _) rfl rfl ?_
  refine w_cinit (as := []) (o := 325) (st := [.ref 325, .ref 0]) (Ev.cm _) rfl rfl rfl (Nat.le_of_ble_eq_true rfl) (show _ ∧ _ from ⟨by decide +kernel, by decide +kernel⟩) (Nat.le_of_ble_eq_true rfl) (e_iC (fun x hx => by rcases List.mem_cons.mp hx with e | e <;> [(rw [e]; exact (Nat.le_of_ble_eq_true rfl)); exact Nat.lt_trans (hos x e) (Nat.le_of_ble_eq_true rfl)]) z22 ?_)
  have z23 := (iC_z z22)
  show Wp _ _ _ _ _ _ _ 115 [(0, .ref 0), (1, .int 4)] [.ref 325, .ref 0] (HN 328 (325 :: 0 :: os) (iC (iO (iW (iR_ (sI (iT 298 (iT 290 (iT 282 (iT 274 (iQ_137 (iQ_1 I)))))) 0 4 0))))) X)
  refine w_putR (Ev.cm _) rfl (Nat.le_of_ble_eq_true rfl) rfl ?_
  show Wp _ _ _ _ _ _ _ 118 [(0, .ref 0), (1, .int 4)] [] (puR (HN 328 (325 :: 0 :: os) (iC (iO (iW (iR_ (sI (iT 298 (iT 290 (iT 282 (iT 274 (iQ_137 (iQ_1 I)))))) 0 4 0))))) X) 0 8 (some 325))
  rw [hn_link rfl (Nat.le_of_ble_eq_true rfl) (nin hos (Nat.le_of_ble_eq_true rfl))]
  refine w_aload_n (Ev.cm _) rfl rfl ?_
  refine w_bipush (Ev.cm _) rfl ?_
  refine w_newa (Ev.cm _) rfl (by decide) (by decide) (show _ ∧ _ from ⟨by decide +kernel, by decide +kernel⟩) ?_
  show Wp _ _ _ _ _ _ _ 123 [(0, .ref 0), (1, .int 4)] [.ref 328, .ref 0] (puN (HN 328 (0 :: os) (iC (iO (iW (iR_ (sI (iT 298 (iT 290 (iT 282 (iT 274 (iQ_137 (iQ_1 I)))))) 0 4 0))))) X) 10 13)
  rw [hn_new rfl z23]
  have z24 := (Zn z23)
  refine w_putR (Ev.cm _) rfl (Nat.le_of_ble_eq_true rfl) rfl ?_
  show Wp _ _ _ _ _ _ _ 126 [(0, .ref 0), (1, .int 4)] [] (puR (HN 329 (328 :: 0 :: os) (iC (iO (iW (iR_ (sI (iT 298 (iT 290 (iT 282 (iT 274 (iQ_137 (iQ_1 I)))))) 0 4 0))))) X) 0 9 (some 328))
  rw [hn_link rfl (Nat.le_of_ble_eq_true rfl) (nin hos (Nat.le_of_ble_eq_true rfl))]
  refine w_aload_n (Ev.cm _) rfl rfl ?_
  refine w_bipush (Ev.cm _) rfl ?_
  refine w_newa (Ev.cm _) rfl (by decide) (by decide) (show _ ∧ _ from ⟨by decide +kernel, by decide +kernel⟩) ?_
  show Wp _ _ _ _ _ _ _ 131 [(0, .ref 0), (1, .int 4)] [.ref 329, .ref 0] (puN (HN 329 (0 :: os) (iC (iO (iW (iR_ (sI (iT 298 (iT 290 (iT 282 (iT 274 (iQ_137 (iQ_1 I)))))) 0 4 0))))) X) 11 13)
  rw [hn_new rfl z24]
  have z25 := (Zn z24)
  refine w_putR (Ev.cm _) rfl (Nat.le_of_ble_eq_true rfl) rfl ?_
  show Wp _ _ _ _ _ _ _ 134 [(0, .ref 0), (1, .int 4)] [] (puR (HN 330 (329 :: 0 :: os) (iC (iO (iW (iR_ (sI (iT 298 (iT 290 (iT 282 (iT 274 (iQ_137 (iQ_1 I)))))) 0 4 0))))) X) 0 10 (some 329))
  rw [hn_link rfl (Nat.le_of_ble_eq_true rfl) (nin hos (Nat.le_of_ble_eq_true rfl))]
  refine w_aload_n (Ev.cm _) rfl rfl ?_
  refine w_bipush (Ev.cm _) rfl ?_
  refine w_newa (Ev.cm _) rfl (by decide) (by decide) (show _ ∧ _ from ⟨by decide +kernel, by decide +kernel⟩) ?_
  show Wp _ _ _ _ _ _ _ 139 [(0, .ref 0), (1, .int 4)] [.ref 330, .ref 0] (puN (HN 330 (0 :: os) (iC (iO (iW (iR_ (sI (iT 298 (iT 290 (iT 282 (iT 274 (iQ_137 (iQ_1 I)))))) 0 4 0))))) X) 10 6)
  rw [hn_new rfl z25]
  have z26 := (Zn z25)
  refine w_putR (Ev.cm _) rfl (Nat.le_of_ble_eq_true rfl) rfl ?_
  show Wp _ _ _ _ _ _ _ 142 [(0, .ref 0), (1, .int 4)] [] (puR (HN 331 (330 :: 0 :: os) (iC (iO (iW (iR_ (sI (iT 298 (iT 290 (iT 282 (iT 274 (iQ_137 (iQ_1 I)))))) 0 4 0))))) X) 0 11 (some 330))
  rw [hn_link rfl (Nat.le_of_ble_eq_true rfl) (nin hos (Nat.le_of_ble_eq_true rfl))]
  refine w_return (Ev.cm _) rfl rfl (Or.inr ⟨(by decide +kernel), (by decide +kernel)⟩) ?_
  exact q
theorem hn_hs {I : Nat → Nat → Int32} {X : Nat × (Nat → Int32)} : HN 349 [331, 0] I X = HS I (fun _ _ => 0) X := by
  have e1 : slt 349 = 19117 := by decide +kernel
  have e2 : cutK 349 = K0 := by
    funext o
    unfold cutK
    by_cases h : o < 349
    · rw [show Nat.blt o 349 = true from Nat.ble_eq.mpr h]; rfl
    · rw [show Nat.blt o 349 = false from by rw [← Bool.not_eq_true]; exact fun e => h (Nat.ble_eq.mp e)]
      unfold K0
      rw [show Nat.blt o 273 = false from by rw [← Bool.not_eq_true]; exact fun e => by have := Nat.ble_eq.mp e; omega, show Nat.blt o 306 = false from by rw [← Bool.not_eq_true]; exact fun e => by have := Nat.ble_eq.mp e; omega, show Nat.blt o 331 = false from by rw [← Bool.not_eq_true]; exact fun e => by have := Nat.ble_eq.mp e; omega]
      show (0, 0) = KM (o - 331)
      obtain ⟨j, hj⟩ : ∃ j, o - 331 = j + 18 := ⟨o - 349, by omega⟩
      rw [hj]
      rfl
  have e3 : RD 349 [331, 0] = R0 := by
    funext o k
    unfold RD
    cases h : R0 o k with
    | none => rfl
    | some q =>
      have f := R0_fact h
      exact if_pos ⟨f.2.1, fun e => by rcases List.mem_cons.mp e with e | e <;> [exact f.2.2.1 e; (have := List.mem_singleton.mp e; omega)]⟩
  unfold HN HS
  rw [e1, e2, e3]
def iM (I : Nat → Nat → Int32) : Nat → Nat → Int32 := sI (sI (sI (sI (sI (sI (sI (sI (sI (sI (sI (sI (sI (sI (sI (sI (sI (sI (sI (sI (sI (sI (sI (sI (sI (sI (sI (sI (sI (sI I 331 5 (-1)) 331 6 (-1)) 331 23 1) 332 8 293) 332 10 8190) 332 2 (-1)) 332 42 1) 332 43 1) 332 44 1) 332 45 1) 332 46 1) 332 47 1) 332 48 1) 332 49 1) 332 50 1) 332 51 1) 332 52 1) 332 53 1) 332 54 1) 332 55 1) 332 56 1) 332 57 1) 332 58 1) 332 59 1) 332 71 1) 332 72 1) 332 73 1) 332 74 1) 332 75 1) 332 76 1
set_option maxHeartbeats 20000000 in
set_option maxRecDepth 20000 in
theorem e_iM {d fu : Nat} {os : List Nat} {I : Nat → Nat → Int32} {X : Nat × (Nat → Int32)} {Q : PQ} {res : Unit × (Nat → Nat → Int32) × (Nat → Nat → Int64)} (hos0 : os = [0]) (hos : ∀ x ∈ os, x < 331) (hz : Zf 332 I) (e : FO_M_copy_332 fu  (iM I) (fun _ _ => 0) = some res) (q : Q none (HS res.2.1 res.2.2 X)) : Ev (d + 2) m_M_new [.ref 331] (HN 332 (331 :: os) I X) Q := by
  unfold iM at e
  refine ev_start (d := d + 1) rfl rfl rfl (Nat.le_of_ble_eq_true rfl) ?_
  show Wp (Ev (d + 1)) cd_M_new (mcs m_M_new) none _ _ Q 0 [(0, .ref 331)] [] (HN 332 (331 :: os) I X)
  refine w_aload_n (Ev.cm _) rfl rfl ?_
  refine w_objI (Ev.cm _) rfl (Nat.le_of_ble_eq_true rfl) ?_
  refine w_aload_n (Ev.cm _) rfl rfl ?_
  refine w_sipush (Ev.cm _) rfl ?_
  refine w_newa (Ev.cm _) rfl (by decide) (by decide) (show _ ∧ _ from ⟨by decide +kernel, by decide +kernel⟩) ?_
  show Wp _ _ _ _ _ _ _ 10 [(0, .ref 331)] [.ref 332, .ref 331] (puN (HN 332 (331 :: os) I X) 10 1541)
  rw [hn_new rfl hz]
  have z1 := (Zn hz)
  refine w_putR (Ev.cm _) rfl (Nat.le_of_ble_eq_true rfl) rfl ?_
  show Wp _ _ _ _ _ _ _ 13 [(0, .ref 331)] [] (puR (HN 333 (332 :: 331 :: os) I X) 331 0 (some 332))
  rw [hn_link rfl (Nat.le_of_ble_eq_true rfl) (nin hos (Nat.le_of_ble_eq_true rfl))]
  refine w_aload_n (Ev.cm _) rfl rfl ?_
  refine w_sipush (Ev.cm _) rfl ?_
  refine w_newa (Ev.cm _) rfl (by decide) (by decide) (show _ ∧ _ from ⟨by decide +kernel, by decide +kernel⟩) ?_
  show Wp _ _ _ _ _ _ _ 19 [(0, .ref 331)] [.ref 333, .ref 331] (puN (HN 333 (331 :: os) I X) 10 1541)
  rw [hn_new rfl z1]
  have z2 := (Zn z1)
  refine w_putR (Ev.cm _) rfl (Nat.le_of_ble_eq_true rfl) rfl ?_
  show Wp _ _ _ _ _ _ _ 22 [(0, .ref 331)] [] (puR (HN 334 (333 :: 331 :: os) I X) 331 1 (some 333))
  rw [hn_link rfl (Nat.le_of_ble_eq_true rfl) (nin hos (Nat.le_of_ble_eq_true rfl))]
  refine w_aload_n (Ev.cm _) rfl rfl ?_
  refine w_sipush (Ev.cm _) rfl ?_
  refine w_newa (Ev.cm _) rfl (by decide) (by decide) (show _ ∧ _ from ⟨by decide +kernel, by decide +kernel⟩) ?_
  show Wp _ _ _ _ _ _ _ 28 [(0, .ref 331)] [.ref 334, .ref 331] (puN (HN 334 (331 :: os) I X) 10 2724)
  rw [hn_new rfl z2]
  have z3 := (Zn z2)
  refine w_putR (Ev.cm _) rfl (Nat.le_of_ble_eq_true rfl) rfl ?_
  show Wp _ _ _ _ _ _ _ 31 [(0, .ref 331)] [] (puR (HN 335 (334 :: 331 :: os) I X) 331 2 (some 334))
  rw [hn_link rfl (Nat.le_of_ble_eq_true rfl) (nin hos (Nat.le_of_ble_eq_true rfl))]
  refine w_aload_n (Ev.cm _) rfl rfl ?_
  refine w_sipush (Ev.cm _) rfl ?_
  refine w_newa (Ev.cm _) rfl (by decide) (by decide) (show _ ∧ _ from ⟨by decide +kernel, by decide +kernel⟩) ?_
  show Wp _ _ _ _ _ _ _ 37 [(0, .ref 331)] [.ref 335, .ref 331] (puN (HN 335 (331 :: os) I X) 10 300)
  rw [hn_new rfl z3]
  have z4 := (Zn z3)
  refine w_putR (Ev.cm _) rfl (Nat.le_of_ble_eq_true rfl) rfl ?_
  show Wp _ _ _ _ _ _ _ 40 [(0, .ref 331)] [] (puR (HN 336 (335 :: 331 :: os) I X) 331 3 (some 335))
  rw [hn_link rfl (Nat.le_of_ble_eq_true rfl) (nin hos (Nat.le_of_ble_eq_true rfl))]
  refine w_aload_n (Ev.cm _) rfl rfl ?_
  refine w_iconst (Ev.cm _) rfl ?_
  refine w_putI (Ev.cm _) rfl (Nat.le_of_ble_eq_true rfl) rfl ?_
  have z5 := (Zs (Nat.le_of_ble_eq_true rfl) z4)
  show Wp _ _ _ _ _ _ _ 45 [(0, .ref 331)] [] (HN 336 (331 :: os) (sI I 331 5 (-1)) X)
  refine w_aload_n (Ev.cm _) rfl rfl ?_
  refine w_iconst (Ev.cm _) rfl ?_
  refine w_putI (Ev.cm _) rfl (Nat.le_of_ble_eq_true rfl) rfl ?_
  have z6 := (Zs (Nat.le_of_ble_eq_true rfl) z5)
  show Wp _ _ _ _ _ _ _ 50 [(0, .ref 331)] [] (HN 336 (331 :: os) (sI (sI I 331 5 (-1)) 331 6 (-1)) X)
  refine w_aload_n (Ev.cm _) rfl rfl ?_
  refine w_sipush (Ev.cm _) rfl ?_
  refine w_newa (Ev.cm _) rfl (by decide) (by decide) (show _ ∧ _ from ⟨by decide +kernel, by decide +kernel⟩) ?_
  show Wp _ _ _ _ _ _ _ 56 [(0, .ref 331)] [.ref 336, .ref 331] (puN (HN 336 (331 :: os) (sI (sI I 331 5 (-1)) 331 6 (-1)) X) 10 160)
  rw [hn_new rfl z6]
  have z7 := (Zn z6)
  refine w_putR (Ev.cm _) rfl (Nat.le_of_ble_eq_true rfl) rfl ?_
  show Wp _ _ _ _ _ _ _ 59 [(0, .ref 331)] [] (puR (HN 337 (336 :: 331 :: os) (sI (sI I 331 5 (-1)) 331 6 (-1)) X) 331 15 (some 336))
  rw [hn_link rfl (Nat.le_of_ble_eq_true rfl) (nin hos (Nat.le_of_ble_eq_true rfl))]
  refine w_aload_n (Ev.cm _) rfl rfl ?_
  refine w_bipush (Ev.cm _) rfl ?_
  refine w_newa (Ev.cm _) rfl (by decide) (by decide) (show _ ∧ _ from ⟨by decide +kernel, by decide +kernel⟩) ?_
  show Wp _ _ _ _ _ _ _ 64 [(0, .ref 331)] [.ref 337, .ref 331] (puN (HN 337 (331 :: os) (sI (sI I 331 5 (-1)) 331 6 (-1)) X) 10 8)
  rw [hn_new rfl z7]
  have z8 := (Zn z7)
  refine w_putR (Ev.cm _) rfl (Nat.le_of_ble_eq_true rfl) rfl ?_
  show Wp _ _ _ _ _ _ _ 67 [(0, .ref 331)] [] (puR (HN 338 (337 :: 331 :: os) (sI (sI I 331 5 (-1)) 331 6 (-1)) X) 331 20 (some 337))
  rw [hn_link rfl (Nat.le_of_ble_eq_true rfl) (nin hos (Nat.le_of_ble_eq_true rfl))]
  refine w_aload_n (Ev.cm _) rfl rfl ?_
  refine w_sipush (Ev.cm _) rfl ?_
  refine w_newa (Ev.cm _) rfl (by decide) (by decide) (show _ ∧ _ from ⟨by decide +kernel, by decide +kernel⟩) ?_
  show Wp _ _ _ _ _ _ _ 73 [(0, .ref 331)] [.ref 338, .ref 331] (puN (HN 338 (331 :: os) (sI (sI I 331 5 (-1)) 331 6 (-1)) X) 11 330)
  rw [hn_new rfl z8]
  have z9 := (Zn z8)
  refine w_putR (Ev.cm _) rfl (Nat.le_of_ble_eq_true rfl) rfl ?_
  show Wp _ _ _ _ _ _ _ 76 [(0, .ref 331)] [] (puR (HN 339 (338 :: 331 :: os) (sI (sI I 331 5 (-1)) 331 6 (-1)) X) 331 21 (some 338))
  rw [hn_link rfl (Nat.le_of_ble_eq_true rfl) (nin hos (Nat.le_of_ble_eq_true rfl))]
  refine w_aload_n (Ev.cm _) rfl rfl ?_
  refine w_sipush (Ev.cm _) rfl ?_
  refine w_newa (Ev.cm _) rfl (by decide) (by decide) (show _ ∧ _ from ⟨by decide +kernel, by decide +kernel⟩) ?_
  show Wp _ _ _ _ _ _ _ 82 [(0, .ref 331)] [.ref 339, .ref 331] (puN (HN 339 (331 :: os) (sI (sI I 331 5 (-1)) 331 6 (-1)) X) 12 330)
  rw [hn_new rfl z9]
  have z10 := (Zn z9)
  refine w_putR (Ev.cm _) rfl (Nat.le_of_ble_eq_true rfl) rfl ?_
  show Wp _ _ _ _ _ _ _ 85 [(0, .ref 331)] [] (puR (HN 340 (339 :: 331 :: os) (sI (sI I 331 5 (-1)) 331 6 (-1)) X) 331 22 (some 339))
  rw [hn_link rfl (Nat.le_of_ble_eq_true rfl) (nin hos (Nat.le_of_ble_eq_true rfl))]
  refine w_aload_n (Ev.cm _) rfl rfl ?_
  refine w_iconst (Ev.cm _) rfl ?_
  refine w_putZ (Ev.cm _) rfl (Nat.le_of_ble_eq_true rfl) rfl (by decide) ?_
  have z11 := (Zs (Nat.le_of_ble_eq_true rfl) z10)
  show Wp _ _ _ _ _ _ _ 90 [(0, .ref 331)] [] (HN 340 (331 :: os) (sI (sI (sI I 331 5 (-1)) 331 6 (-1)) 331 23 1) X)
  refine w_aload_n (Ev.cm _) rfl rfl ?_
  refine w_bipush (Ev.cm _) rfl ?_
  refine w_newa (Ev.cm _) rfl (by decide) (by decide) (show _ ∧ _ from ⟨by decide +kernel, by decide +kernel⟩) ?_
  show Wp _ _ _ _ _ _ _ 95 [(0, .ref 331)] [.ref 340, .ref 331] (puN (HN 340 (331 :: os) (sI (sI (sI I 331 5 (-1)) 331 6 (-1)) 331 23 1) X) 10 24)
  rw [hn_new rfl z11]
  have z12 := (Zn z11)
  refine w_putR (Ev.cm _) rfl (Nat.le_of_ble_eq_true rfl) rfl ?_
  show Wp _ _ _ _ _ _ _ 98 [(0, .ref 331)] [] (puR (HN 341 (340 :: 331 :: os) (sI (sI (sI I 331 5 (-1)) 331 6 (-1)) 331 23 1) X) 331 25 (some 340))
  rw [hn_link rfl (Nat.le_of_ble_eq_true rfl) (nin hos (Nat.le_of_ble_eq_true rfl))]
  refine w_aload_n (Ev.cm _) rfl rfl ?_
  refine w_bipush (Ev.cm _) rfl ?_
  refine w_newa (Ev.cm _) rfl (by decide) (by decide) (show _ ∧ _ from ⟨by decide +kernel, by decide +kernel⟩) ?_
  show Wp _ _ _ _ _ _ _ 103 [(0, .ref 331)] [.ref 341, .ref 331] (puN (HN 341 (331 :: os) (sI (sI (sI I 331 5 (-1)) 331 6 (-1)) 331 23 1) X) 10 13)
  rw [hn_new rfl z12]
  have z13 := (Zn z12)
  refine w_putR (Ev.cm _) rfl (Nat.le_of_ble_eq_true rfl) rfl ?_
  show Wp _ _ _ _ _ _ _ 106 [(0, .ref 331)] [] (puR (HN 342 (341 :: 331 :: os) (sI (sI (sI I 331 5 (-1)) 331 6 (-1)) 331 23 1) X) 331 26 (some 341))
  rw [hn_link rfl (Nat.le_of_ble_eq_true rfl) (nin hos (Nat.le_of_ble_eq_true rfl))]
  refine w_aload_n (Ev.cm _) rfl rfl ?_
  refine w_bipush (Ev.cm _) rfl ?_
  refine w_newa (Ev.cm _) rfl (by decide) (by decide) (show _ ∧ _ from ⟨by decide +kernel, by decide +kernel⟩) ?_
  show Wp _ _ _ _ _ _ _ 111 [(0, .ref 331)] [.ref 342, .ref 331] (puN (HN 342 (331 :: os) (sI (sI (sI I 331 5 (-1)) 331 6 (-1)) 331 23 1) X) 11 13)
  rw [hn_new rfl z13]
  have z14 := (Zn z13)
  refine w_putR (Ev.cm _) rfl (Nat.le_of_ble_eq_true rfl) rfl ?_
  show Wp _ _ _ _ _ _ _ 114 [(0, .ref 331)] [] (puR (HN 343 (342 :: 331 :: os) (sI (sI (sI I 331 5 (-1)) 331 6 (-1)) 331 23 1) X) 331 27 (some 342))
  rw [hn_link rfl (Nat.le_of_ble_eq_true rfl) (nin hos (Nat.le_of_ble_eq_true rfl))]
  refine w_aload_n (Ev.cm _) rfl rfl ?_
  refine w_bipush (Ev.cm _) rfl ?_
  refine w_newa (Ev.cm _) rfl (by decide) (by decide) (show _ ∧ _ from ⟨by decide +kernel, by decide +kernel⟩) ?_
  show Wp _ _ _ _ _ _ _ 119 [(0, .ref 331)] [.ref 343, .ref 331] (puN (HN 343 (331 :: os) (sI (sI (sI I 331 5 (-1)) 331 6 (-1)) 331 23 1) X) 11 18)
  rw [hn_new rfl z14]
  have z15 := (Zn z14)
  refine w_putR (Ev.cm _) rfl (Nat.le_of_ble_eq_true rfl) rfl ?_
  show Wp _ _ _ _ _ _ _ 122 [(0, .ref 331)] [] (puR (HN 344 (343 :: 331 :: os) (sI (sI (sI I 331 5 (-1)) 331 6 (-1)) 331 23 1) X) 331 28 (some 343))
  rw [hn_link rfl (Nat.le_of_ble_eq_true rfl) (nin hos (Nat.le_of_ble_eq_true rfl))]
  refine w_aload_n (Ev.cm _) rfl rfl ?_
  refine w_bipush (Ev.cm _) rfl ?_
  refine w_newa (Ev.cm _) rfl (by decide) (by decide) (show _ ∧ _ from ⟨by decide +kernel, by decide +kernel⟩) ?_
  show Wp _ _ _ _ _ _ _ 127 [(0, .ref 331)] [.ref 344, .ref 331] (puN (HN 344 (331 :: os) (sI (sI (sI I 331 5 (-1)) 331 6 (-1)) 331 23 1) X) 11 18)
  rw [hn_new rfl z15]
  have z16 := (Zn z15)
  refine w_putR (Ev.cm _) rfl (Nat.le_of_ble_eq_true rfl) rfl ?_
  show Wp _ _ _ _ _ _ _ 130 [(0, .ref 331)] [] (puR (HN 345 (344 :: 331 :: os) (sI (sI (sI I 331 5 (-1)) 331 6 (-1)) 331 23 1) X) 331 29 (some 344))
  rw [hn_link rfl (Nat.le_of_ble_eq_true rfl) (nin hos (Nat.le_of_ble_eq_true rfl))]
  refine w_aload_n (Ev.cm _) rfl rfl ?_
  refine w_bipush (Ev.cm _) rfl ?_
  refine w_newa (Ev.cm _) rfl (by decide) (by decide) (show _ ∧ _ from ⟨by decide +kernel, by decide +kernel⟩) ?_
  show Wp _ _ _ _ _ _ _ 135 [(0, .ref 331)] [.ref 345, .ref 331] (puN (HN 345 (331 :: os) (sI (sI (sI I 331 5 (-1)) 331 6 (-1)) 331 23 1) X) 11 18)
  rw [hn_new rfl z16]
  have z17 := (Zn z16)
  refine w_putR (Ev.cm _) rfl (Nat.le_of_ble_eq_true rfl) rfl ?_
  show Wp _ _ _ _ _ _ _ 138 [(0, .ref 331)] [] (puR (HN 346 (345 :: 331 :: os) (sI (sI (sI I 331 5 (-1)) 331 6 (-1)) 331 23 1) X) 331 30 (some 345))
  rw [hn_link rfl (Nat.le_of_ble_eq_true rfl) (nin hos (Nat.le_of_ble_eq_true rfl))]
  refine w_aload_n (Ev.cm _) rfl rfl ?_
  refine w_bipush (Ev.cm _) rfl ?_
  refine w_newa (Ev.cm _) rfl (by decide) (by decide) (show _ ∧ _ from ⟨by decide +kernel, by decide +kernel⟩) ?_
  show Wp _ _ _ _ _ _ _ 143 [(0, .ref 331)] [.ref 346, .ref 331] (puN (HN 346 (331 :: os) (sI (sI (sI I 331 5 (-1)) 331 6 (-1)) 331 23 1) X) 10 64)
  rw [hn_new rfl z17]
  have z18 := (Zn z17)
  refine w_putR (Ev.cm _) rfl (Nat.le_of_ble_eq_true rfl) rfl ?_
  show Wp _ _ _ _ _ _ _ 146 [(0, .ref 331)] [] (puR (HN 347 (346 :: 331 :: os) (sI (sI (sI I 331 5 (-1)) 331 6 (-1)) 331 23 1) X) 331 31 (some 346))
  rw [hn_link rfl (Nat.le_of_ble_eq_true rfl) (nin hos (Nat.le_of_ble_eq_true rfl))]
  refine w_aload_n (Ev.cm _) rfl rfl ?_
  refine w_bipush (Ev.cm _) rfl ?_
  refine w_newa (Ev.cm _) rfl (by decide) (by decide) (show _ ∧ _ from ⟨by decide +kernel, by decide +kernel⟩) ?_
  show Wp _ _ _ _ _ _ _ 151 [(0, .ref 331)] [.ref 347, .ref 331] (puN (HN 347 (331 :: os) (sI (sI (sI I 331 5 (-1)) 331 6 (-1)) 331 23 1) X) 10 9)
  rw [hn_new rfl z18]
  have z19 := (Zn z18)
  refine w_putR (Ev.cm _) rfl (Nat.le_of_ble_eq_true rfl) rfl ?_
  show Wp _ _ _ _ _ _ _ 154 [(0, .ref 331)] [] (puR (HN 348 (347 :: 331 :: os) (sI (sI (sI I 331 5 (-1)) 331 6 (-1)) 331 23 1) X) 331 32 (some 347))
  rw [hn_link rfl (Nat.le_of_ble_eq_true rfl) (nin hos (Nat.le_of_ble_eq_true rfl))]
  refine w_aload_n (Ev.cm _) rfl rfl ?_
  refine w_bipush (Ev.cm _) rfl ?_
  refine w_newa (Ev.cm _) rfl (by decide) (by decide) (show _ ∧ _ from ⟨by decide +kernel, by decide +kernel⟩) ?_
  show Wp _ _ _ _ _ _ _ 159 [(0, .ref 331)] [.ref 348, .ref 331] (puN (HN 348 (331 :: os) (sI (sI (sI I 331 5 (-1)) 331 6 (-1)) 331 23 1) X) 10 6)
  rw [hn_new rfl z19]
  have z20 := (Zn z19)
  refine w_putR (Ev.cm _) rfl (Nat.le_of_ble_eq_true rfl) rfl ?_
  show Wp _ _ _ _ _ _ _ 162 [(0, .ref 331)] [] (puR (HN 349 (348 :: 331 :: os) (sI (sI (sI I 331 5 (-1)) 331 6 (-1)) 331 23 1) X) 331 33 (some 348))
  rw [hn_link rfl (Nat.le_of_ble_eq_true rfl) (nin hos (Nat.le_of_ble_eq_true rfl))]
  refine w_aload_n (Ev.cm _) rfl rfl ?_
  refine w_getR (q := 332) (Ev.cm _) rfl (Nat.le_of_ble_eq_true rfl) rfl (rd_get rfl (Nat.le_of_ble_eq_true rfl) (nin hos (Nat.le_of_ble_eq_true rfl))) ?_
  refine w_bipush (Ev.cm _) rfl ?_
  refine w_sipush (Ev.cm _) rfl ?_
  refine w_iast (Ev.cm _) rfl (Nat.le_of_ble_eq_true rfl) rfl (by decide) ?_
  have z21 := (Zs (Nat.le_of_ble_eq_true rfl) z20)
  show Wp _ _ _ _ _ _ _ 172 [(0, .ref 331)] [] (HN 349 (331 :: os) (sI (sI (sI (sI I 331 5 (-1)) 331 6 (-1)) 331 23 1) 332 8 293) X)
  refine w_aload_n (Ev.cm _) rfl rfl ?_
  refine w_getR (q := 332) (Ev.cm _) rfl (Nat.le_of_ble_eq_true rfl) rfl (rd_get rfl (Nat.le_of_ble_eq_true rfl) (nin hos (Nat.le_of_ble_eq_true rfl))) ?_
  refine w_bipush (Ev.cm _) rfl ?_
  refine w_sipush (Ev.cm _) rfl ?_
  refine w_iast (Ev.cm _) rfl (Nat.le_of_ble_eq_true rfl) rfl (by decide) ?_
  have z22 := (Zs (Nat.le_of_ble_eq_true rfl) z21)
  show Wp _ _ _ _ _ _ _ 182 [(0, .ref 331)] [] (HN 349 (331 :: os) (sI (sI (sI (sI (sI I 331 5 (-1)) 331 6 (-1)) 331 23 1) 332 8 293) 332 10 8190) X)
  refine w_aload_n (Ev.cm _) rfl rfl ?_
  refine w_getR (q := 332) (Ev.cm _) rfl (Nat.le_of_ble_eq_true rfl) rfl (rd_get rfl (Nat.le_of_ble_eq_true rfl) (nin hos (Nat.le_of_ble_eq_true rfl))) ?_
  refine w_iconst (Ev.cm _) rfl ?_
  refine w_iconst (Ev.cm _) rfl ?_
  refine w_iast (Ev.cm _) rfl (Nat.le_of_ble_eq_true rfl) rfl (by decide) ?_
  have z23 := (Zs (Nat.le_of_ble_eq_true rfl) z22)
  show Wp _ _ _ _ _ _ _ 189 [(0, .ref 331)] [] (HN 349 (331 :: os) (sI (sI (sI (sI (sI (sI I 331 5 (-1)) 331 6 (-1)) 331 23 1) 332 8 293) 332 10 8190) 332 2 (-1)) X)
  refine w_iconst (Ev.cm _) rfl ?_
  refine w_istore_n (ls2 := [(0, .ref 331), (1, .int 0)]) (Ev.cm _) rfl rfl ?_
  refine w_iload_n (Ev.cm _) rfl rfl ?_
  refine w_bipush (Ev.cm _) rfl ?_
  refine w_icmp_ge (Ev.cm _) rfl (fun q => absurd q (by decide)) (fun _ => ?_)
  refine w_aload_n (Ev.cm _) rfl rfl ?_
  refine w_getR (q := 332) (Ev.cm _) rfl (Nat.le_of_ble_eq_true rfl) rfl (rd_get rfl (Nat.le_of_ble_eq_true rfl) (nin hos (Nat.le_of_ble_eq_true rfl))) ?_
  refine w_bipush (Ev.cm _) rfl ?_
  refine w_iload_n (Ev.cm _) rfl rfl ?_
  refine w_iadd (Ev.cm _) rfl ?_
  show Wp _ _ _ _ _ _ _ 205 [(0, .ref 331), (1, .int 0)] [.int 42, .ref 332] (HN 349 (331 :: os) (sI (sI (sI (sI (sI (sI I 331 5 (-1)) 331 6 (-1)) 331 23 1) 332 8 293) 332 10 8190) 332 2 (-1)) X)
  refine w_iconst (Ev.cm _) rfl ?_
  refine w_iast (Ev.cm _) rfl (Nat.le_of_ble_eq_true rfl) rfl (by decide) ?_
  have z24 := (Zs (Nat.le_of_ble_eq_true rfl) z23)
  show Wp _ _ _ _ _ _ _ 207 [(0, .ref 331), (1, .int 0)] [] (HN 349 (331 :: os) (sI (sI (sI (sI (sI (sI (sI I 331 5 (-1)) 331 6 (-1)) 331 23 1) 332 8 293) 332 10 8190) 332 2 (-1)) 332 42 1) X)
  refine w_iinc (ls2 := [(0, .ref 331), (1, .int 1)]) (Ev.cm _) rfl rfl rfl ?_
  refine w_goto (Ev.cm _) rfl ?_
  refine w_iload_n (Ev.cm _) rfl rfl ?_
  refine w_bipush (Ev.cm _) rfl ?_
  refine w_icmp_ge (Ev.cm _) rfl (fun q => absurd q (by decide)) (fun _ => ?_)
  refine w_aload_n (Ev.cm _) rfl rfl ?_
  refine w_getR (q := 332) (Ev.cm _) rfl (Nat.le_of_ble_eq_true rfl) rfl (rd_get rfl (Nat.le_of_ble_eq_true rfl) (nin hos (Nat.le_of_ble_eq_true rfl))) ?_
  refine w_bipush (Ev.cm _) rfl ?_
  refine w_iload_n (Ev.cm _) rfl rfl ?_
  refine w_iadd (Ev.cm _) rfl ?_
  show Wp _ _ _ _ _ _ _ 205 [(0, .ref 331), (1, .int 1)] [.int 43, .ref 332] (HN 349 (331 :: os) (sI (sI (sI (sI (sI (sI (sI I 331 5 (-1)) 331 6 (-1)) 331 23 1) 332 8 293) 332 10 8190) 332 2 (-1)) 332 42 1) X)
  refine w_iconst (Ev.cm _) rfl ?_
  refine w_iast (Ev.cm _) rfl (Nat.le_of_ble_eq_true rfl) rfl (by decide) ?_
  have z25 := (Zs (Nat.le_of_ble_eq_true rfl) z24)
  show Wp _ _ _ _ _ _ _ 207 [(0, .ref 331), (1, .int 1)] [] (HN 349 (331 :: os) (sI (sI (sI (sI (sI (sI (sI (sI I 331 5 (-1)) 331 6 (-1)) 331 23 1) 332 8 293) 332 10 8190) 332 2 (-1)) 332 42 1) 332 43 1) X)
  refine w_iinc (ls2 := [(0, .ref 331), (1, .int 2)]) (Ev.cm _) rfl rfl rfl ?_
  refine w_goto (Ev.cm _) rfl ?_
  refine w_iload_n (Ev.cm _) rfl rfl ?_
  refine w_bipush (Ev.cm _) rfl ?_
  refine w_icmp_ge (Ev.cm _) rfl (fun q => absurd q (by decide)) (fun _ => ?_)
  refine w_aload_n (Ev.cm _) rfl rfl ?_
  refine w_getR (q := 332) (Ev.cm _) rfl (Nat.le_of_ble_eq_true rfl) rfl (rd_get rfl (Nat.le_of_ble_eq_true rfl) (nin hos (Nat.le_of_ble_eq_true rfl))) ?_
  refine w_bipush (Ev.cm _) rfl ?_
  refine w_iload_n (Ev.cm _) rfl rfl ?_
  refine w_iadd (Ev.cm _) rfl ?_
  show Wp _ _ _ _ _ _ _ 205 [(0, .ref 331), (1, .int 2)] [.int 44, .ref 332] (HN 349 (331 :: os) (sI (sI (sI (sI (sI (sI (sI (sI I 331 5 (-1)) 331 6 (-1)) 331 23 1) 332 8 293) 332 10 8190) 332 2 (-1)) 332 42 1) 332 43 1) X)
  refine w_iconst (Ev.cm _) rfl ?_
  refine w_iast (Ev.cm _) rfl (Nat.le_of_ble_eq_true rfl) rfl (by decide) ?_
  have z26 := (Zs (Nat.le_of_ble_eq_true rfl) z25)
  show Wp _ _ _ _ _ _ _ 207 [(0, .ref 331), (1, .int 2)] [] (HN 349 (331 :: os) (sI (sI (sI (sI (sI (sI (sI (sI (sI I 331 5 (-1)) 331 6 (-1)) 331 23 1) 332 8 293) 332 10 8190) 332 2 (-1)) 332 42 1) 332 43 1) 332 44 1) X)
  refine w_iinc (ls2 := [(0, .ref 331), (1, .int 3)]) (Ev.cm _) rfl rfl rfl ?_
  refine w_goto (Ev.cm _) rfl ?_
  refine w_iload_n (Ev.cm _) rfl rfl ?_
  refine w_bipush (Ev.cm _) rfl ?_
  refine w_icmp_ge (Ev.cm _) rfl (fun q => absurd q (by decide)) (fun _ => ?_)
  refine w_aload_n (Ev.cm _) rfl rfl ?_
  refine w_getR (q := 332) (Ev.cm _) rfl (Nat.le_of_ble_eq_true rfl) rfl (rd_get rfl (Nat.le_of_ble_eq_true rfl) (nin hos (Nat.le_of_ble_eq_true rfl))) ?_
  refine w_bipush (Ev.cm _) rfl ?_
  refine w_iload_n (Ev.cm _) rfl rfl ?_
  refine w_iadd (Ev.cm _) rfl ?_
  show Wp _ _ _ _ _ _ _ 205 [(0, .ref 331), (1, .int 3)] [.int 45, .ref 332] (HN 349 (331 :: os) (sI (sI (sI (sI (sI (sI (sI (sI (sI I 331 5 (-1)) 331 6 (-1)) 331 23 1) 332 8 293) 332 10 8190) 332 2 (-1)) 332 42 1) 332 43 1) 332 44 1) X)
  refine w_iconst (Ev.cm _) rfl ?_
  refine w_iast (Ev.cm _) rfl (Nat.le_of_ble_eq_true rfl) rfl (by decide) ?_
  have z27 := (Zs (Nat.le_of_ble_eq_true rfl) z26)
  show Wp _ _ _ _ _ _ _ 207 [(0, .ref 331), (1, .int 3)] [] (HN 349 (331 :: os) (sI (sI (sI (sI (sI (sI (sI (sI (sI (sI I 331 5 (-1)) 331 6 (-1)) 331 23 1) 332 8 293) 332 10 8190) 332 2 (-1)) 332 42 1) 332 43 1) 332 44 1) 332 45 1) X)
  refine w_iinc (ls2 := [(0, .ref 331), (1, .int 4)]) (Ev.cm _) rfl rfl rfl ?_
  refine w_goto (Ev.cm _) rfl ?_
  refine w_iload_n (Ev.cm _) rfl rfl ?_
  refine w_bipush (Ev.cm _) rfl ?_
  refine w_icmp_ge (Ev.cm _) rfl (fun q => absurd q (by decide)) (fun _ => ?_)
  refine w_aload_n (Ev.cm _) rfl rfl ?_
  refine w_getR (q := 332) (Ev.cm _) rfl (Nat.le_of_ble_eq_true rfl) rfl (rd_get rfl (Nat.le_of_ble_eq_true rfl) (nin hos (Nat.le_of_ble_eq_true rfl))) ?_
  refine w_bipush (Ev.cm _) rfl ?_
  refine w_iload_n (Ev.cm _) rfl rfl ?_
  refine w_iadd (Ev.cm _) rfl ?_
  show Wp _ _ _ _ _ _ _ 205 [(0, .ref 331), (1, .int 4)] [.int 46, .ref 332] (HN 349 (331 :: os) (sI (sI (sI (sI (sI (sI (sI (sI (sI (sI I 331 5 (-1)) 331 6 (-1)) 331 23 1) 332 8 293) 332 10 8190) 332 2 (-1)) 332 42 1) 332 43 1) 332 44 1) 332 45 1) X)
  refine w_iconst (Ev.cm _) rfl ?_
  refine w_iast (Ev.cm _) rfl (Nat.le_of_ble_eq_true rfl) rfl (by decide) ?_
  have z28 := (Zs (Nat.le_of_ble_eq_true rfl) z27)
  show Wp _ _ _ _ _ _ _ 207 [(0, .ref 331), (1, .int 4)] [] (HN 349 (331 :: os) (sI (sI (sI (sI (sI (sI (sI (sI (sI (sI (sI I 331 5 (-1)) 331 6 (-1)) 331 23 1) 332 8 293) 332 10 8190) 332 2 (-1)) 332 42 1) 332 43 1) 332 44 1) 332 45 1) 332 46 1) X)
  refine w_iinc (ls2 := [(0, .ref 331), (1, .int 5)]) (Ev.cm _) rfl rfl rfl ?_
  refine w_goto (Ev.cm _) rfl ?_
  refine w_iload_n (Ev.cm _) rfl rfl ?_
  refine w_bipush (Ev.cm _) rfl ?_
  refine w_icmp_ge (Ev.cm _) rfl (fun q => absurd q (by decide)) (fun _ => ?_)
  refine w_aload_n (Ev.cm _) rfl rfl ?_
  refine w_getR (q := 332) (Ev.cm _) rfl (Nat.le_of_ble_eq_true rfl) rfl (rd_get rfl (Nat.le_of_ble_eq_true rfl) (nin hos (Nat.le_of_ble_eq_true rfl))) ?_
  refine w_bipush (Ev.cm _) rfl ?_
  refine w_iload_n (Ev.cm _) rfl rfl ?_
  refine w_iadd (Ev.cm _) rfl ?_
  show Wp _ _ _ _ _ _ _ 205 [(0, .ref 331), (1, .int 5)] [.int 47, .ref 332] (HN 349 (331 :: os) (sI (sI (sI (sI (sI (sI (sI (sI (sI (sI (sI I 331 5 (-1)) 331 6 (-1)) 331 23 1) 332 8 293) 332 10 8190) 332 2 (-1)) 332 42 1) 332 43 1) 332 44 1) 332 45 1) 332 46 1) X)
  refine w_iconst (Ev.cm _) rfl ?_
  refine w_iast (Ev.cm _) rfl (Nat.le_of_ble_eq_true rfl) rfl (by decide) ?_
  have z29 := (Zs (Nat.le_of_ble_eq_true rfl) z28)
  show Wp _ _ _ _ _ _ _ 207 [(0, .ref 331), (1, .int 5)] [] (HN 349 (331 :: os) (sI (sI (sI (sI (sI (sI (sI (sI (sI (sI (sI (sI I 331 5 (-1)) 331 6 (-1)) 331 23 1) 332 8 293) 332 10 8190) 332 2 (-1)) 332 42 1) 332 43 1) 332 44 1) 332 45 1) 332 46 1) 332 47 1) X)
  refine w_iinc (ls2 := [(0, .ref 331), (1, .int 6)]) (Ev.cm _) rfl rfl rfl ?_
  refine w_goto (Ev.cm _) rfl ?_
  refine w_iload_n (Ev.cm _) rfl rfl ?_
  refine w_bipush (Ev.cm _) rfl ?_
  refine w_icmp_ge (Ev.cm _) rfl (fun q => absurd q (by decide)) (fun _ => ?_)
  refine w_aload_n (Ev.cm _) rfl rfl ?_
  refine w_getR (q := 332) (Ev.cm _) rfl (Nat.le_of_ble_eq_true rfl) rfl (rd_get rfl (Nat.le_of_ble_eq_true rfl) (nin hos (Nat.le_of_ble_eq_true rfl))) ?_
  refine w_bipush (Ev.cm _) rfl ?_
  refine w_iload_n (Ev.cm _) rfl rfl ?_
  refine w_iadd (Ev.cm _) rfl ?_
  show Wp _ _ _ _ _ _ _ 205 [(0, .ref 331), (1, .int 6)] [.int 48, .ref 332] (HN 349 (331 :: os) (sI (sI (sI (sI (sI (sI (sI (sI (sI (sI (sI (sI I 331 5 (-1)) 331 6 (-1)) 331 23 1) 332 8 293) 332 10 8190) 332 2 (-1)) 332 42 1) 332 43 1) 332 44 1) 332 45 1) 332 46 1) 332 47 1) X)
  refine w_iconst (Ev.cm _) rfl ?_
  refine w_iast (Ev.cm _) rfl (Nat.le_of_ble_eq_true rfl) rfl (by decide) ?_
  have z30 := (Zs (Nat.le_of_ble_eq_true rfl) z29)
  show Wp _ _ _ _ _ _ _ 207 [(0, .ref 331), (1, .int 6)] [] (HN 349 (331 :: os) (sI (sI (sI (sI (sI (sI (sI (sI (sI (sI (sI (sI (sI I 331 5 (-1)) 331 6 (-1)) 331 23 1) 332 8 293) 332 10 8190) 332 2 (-1)) 332 42 1) 332 43 1) 332 44 1) 332 45 1) 332 46 1) 332 47 1) 332 48 1) X)
  refine w_iinc (ls2 := [(0, .ref 331), (1, .int 7)]) (Ev.cm _) rfl rfl rfl ?_
  refine w_goto (Ev.cm _) rfl ?_
  refine w_iload_n (Ev.cm _) rfl rfl ?_
  refine w_bipush (Ev.cm _) rfl ?_
  refine w_icmp_ge (Ev.cm _) rfl (fun q => absurd q (by decide)) (fun _ => ?_)
  refine w_aload_n (Ev.cm _) rfl rfl ?_
  refine w_getR (q := 332) (Ev.cm _) rfl (Nat.le_of_ble_eq_true rfl) rfl (rd_get rfl (Nat.le_of_ble_eq_true rfl) (nin hos (Nat.le_of_ble_eq_true rfl))) ?_
  refine w_bipush (Ev.cm _) rfl ?_
  refine w_iload_n (Ev.cm _) rfl rfl ?_
  refine w_iadd (Ev.cm _) rfl ?_
  show Wp _ _ _ _ _ _ _ 205 [(0, .ref 331), (1, .int 7)] [.int 49, .ref 332] (HN 349 (331 :: os) (sI (sI (sI (sI (sI (sI (sI (sI (sI (sI (sI (sI (sI I 331 5 (-1)) 331 6 (-1)) 331 23 1) 332 8 293) 332 10 8190) 332 2 (-1)) 332 42 1) 332 43 1) 332 44 1) 332 45 1) 332 46 1) 332 47 1) 332 48 1) X)
  refine w_iconst (Ev.cm _) rfl ?_
  refine w_iast (Ev.cm _) rfl (Nat.le_of_ble_eq_true rfl) rfl (by decide) ?_
  have z31 := (Zs (Nat.le_of_ble_eq_true rfl) z30)
  show Wp _ _ _ _ _ _ _ 207 [(0, .ref 331), (1, .int 7)] [] (HN 349 (331 :: os) (sI (sI (sI (sI (sI (sI (sI (sI (sI (sI (sI (sI (sI (sI I 331 5 (-1)) 331 6 (-1)) 331 23 1) 332 8 293) 332 10 8190) 332 2 (-1)) 332 42 1) 332 43 1) 332 44 1) 332 45 1) 332 46 1) 332 47 1) 332 48 1) 332 49 1) X)
  refine w_iinc (ls2 := [(0, .ref 331), (1, .int 8)]) (Ev.cm _) rfl rfl rfl ?_
  refine w_goto (Ev.cm _) rfl ?_
  refine w_iload_n (Ev.cm _) rfl rfl ?_
  refine w_bipush (Ev.cm _) rfl ?_
  refine w_icmp_ge (Ev.cm _) rfl (fun q => absurd q (by decide)) (fun _ => ?_)
  refine w_aload_n (Ev.cm _) rfl rfl ?_
  refine w_getR (q := 332) (Ev.cm _) rfl (Nat.le_of_ble_eq_true rfl) rfl (rd_get rfl (Nat.le_of_ble_eq_true rfl) (nin hos (Nat.le_of_ble_eq_true rfl))) ?_
  refine w_bipush (Ev.cm _) rfl ?_
  refine w_iload_n (Ev.cm _) rfl rfl ?_
  refine w_iadd (Ev.cm _) rfl ?_
  show Wp _ _ _ _ _ _ _ 205 [(0, .ref 331), (1, .int 8)] [.int 50, .ref 332] (HN 349 (331 :: os) (sI (sI (sI (sI (sI (sI (sI (sI (sI (sI (sI (sI (sI (sI I 331 5 (-1)) 331 6 (-1)) 331 23 1) 332 8 293) 332 10 8190) 332 2 (-1)) 332 42 1) 332 43 1) 332 44 1) 332 45 1) 332 46 1) 332 47 1) 332 48 1) 332 49 1) X)
  refine w_iconst (Ev.cm _) rfl ?_
  refine w_iast (Ev.cm _) rfl (Nat.le_of_ble_eq_true rfl) rfl (by decide) ?_
  have z32 := (Zs (Nat.le_of_ble_eq_true rfl) z31)
  show Wp _ _ _ _ _ _ _ 207 [(0, .ref 331), (1, .int 8)] [] (HN 349 (331 :: os) (sI (sI (sI (sI (sI (sI (sI (sI (sI (sI (sI (sI (sI (sI (sI I 331 5 (-1)) 331 6 (-1)) 331 23 1) 332 8 293) 332 10 8190) 332 2 (-1)) 332 42 1) 332 43 1) 332 44 1) 332 45 1) 332 46 1) 332 47 1) 332 48 1) 332 49 1) 332 50 1) X)
  refine w_iinc (ls2 := [(0, .ref 331), (1, .int 9)]) (Ev.cm _) rfl rfl rfl ?_
  refine w_goto (Ev.cm _) rfl ?_
  refine w_iload_n (Ev.cm _) rfl rfl ?_
  refine w_bipush (Ev.cm _) rfl ?_
  refine w_icmp_ge (Ev.cm _) rfl (fun q => absurd q (by decide)) (fun _ => ?_)
  refine w_aload_n (Ev.cm _) rfl rfl ?_
  refine w_getR (q := 332) (Ev.cm _) rfl (Nat.le_of_ble_eq_true rfl) rfl (rd_get rfl (Nat.le_of_ble_eq_true rfl) (nin hos (Nat.le_of_ble_eq_true rfl))) ?_
  refine w_bipush (Ev.cm _) rfl ?_
  refine w_iload_n (Ev.cm _) rfl rfl ?_
  refine w_iadd (Ev.cm _) rfl ?_
  show Wp _ _ _ _ _ _ _ 205 [(0, .ref 331), (1, .int 9)] [.int 51, .ref 332] (HN 349 (331 :: os) (sI (sI (sI (sI (sI (sI (sI (sI (sI (sI (sI (sI (sI (sI (sI I 331 5 (-1)) 331 6 (-1)) 331 23 1) 332 8 293) 332 10 8190) 332 2 (-1)) 332 42 1) 332 43 1) 332 44 1) 332 45 1) 332 46 1) 332 47 1) 332 48 1) 332 49 1) 332 50 1) X)
  refine w_iconst (Ev.cm _) rfl ?_
  refine w_iast (Ev.cm _) rfl (Nat.le_of_ble_eq_true rfl) rfl (by decide) ?_
  have z33 := (Zs (Nat.le_of_ble_eq_true rfl) z32)
  show Wp _ _ _ _ _ _ _ 207 [(0, .ref 331), (1, .int 9)] [] (HN 349 (331 :: os) (sI (sI (sI (sI (sI (sI (sI (sI (sI (sI (sI (sI (sI (sI (sI (sI I 331 5 (-1)) 331 6 (-1)) 331 23 1) 332 8 293) 332 10 8190) 332 2 (-1)) 332 42 1) 332 43 1) 332 44 1) 332 45 1) 332 46 1) 332 47 1) 332 48 1) 332 49 1) 332 50 1) 332 51 1) X)
  refine w_iinc (ls2 := [(0, .ref 331), (1, .int 10)]) (Ev.cm _) rfl rfl rfl ?_
  refine w_goto (Ev.cm _) rfl ?_
  refine w_iload_n (Ev.cm _) rfl rfl ?_
  refine w_bipush (Ev.cm _) rfl ?_
  refine w_icmp_ge (Ev.cm _) rfl (fun q => absurd q (by decide)) (fun _ => ?_)
  refine w_aload_n (Ev.cm _) rfl rfl ?_
  refine w_getR (q := 332) (Ev.cm _) rfl (Nat.le_of_ble_eq_true rfl) rfl (rd_get rfl (Nat.le_of_ble_eq_true rfl) (nin hos (Nat.le_of_ble_eq_true rfl))) ?_
  refine w_bipush (Ev.cm _) rfl ?_
  refine w_iload_n (Ev.cm _) rfl rfl ?_
  refine w_iadd (Ev.cm _) rfl ?_
  show Wp _ _ _ _ _ _ _ 205 [(0, .ref 331), (1, .int 10)] [.int 52, .ref 332] (HN 349 (331 :: os) (sI (sI (sI (sI (sI (sI (sI (sI (sI (sI (sI (sI (sI (sI (sI (sI I 331 5 (-1)) 331 6 (-1)) 331 23 1) 332 8 293) 332 10 8190) 332 2 (-1)) 332 42 1) 332 43 1) 332 44 1) 332 45 1) 332 46 1) 332 47 1) 332 48 1) 332 49 1) 332 50 1) 332 51 1) X)
  refine w_iconst (Ev.cm _) rfl ?_
  refine w_iast (Ev.cm _) rfl (Nat.le_of_ble_eq_true rfl) rfl (by decide) ?_
  have z34 := (Zs (Nat.le_of_ble_eq_true rfl) z33)
  show Wp _ _ _ _ _ _ _ 207 [(0, .ref 331), (1, .int 10)] [] (HN 349 (331 :: os) (sI (sI (sI (sI (sI (sI (sI (sI (sI (sI (sI (sI (sI (sI (sI (sI (sI I 331 5 (-1)) 331 6 (-1)) 331 23 1) 332 8 293) 332 10 8190) 332 2 (-1)) 332 42 1) 332 43 1) 332 44 1) 332 45 1) 332 46 1) 332 47 1) 332 48 1) 332 49 1) 332 50 1) 332 51 1) 332 52 1) X)
  refine w_iinc (ls2 := [(0, .ref 331), (1, .int 11)]) (Ev.cm _) rfl rfl rfl ?_
  refine w_goto (Ev.cm _) rfl ?_
  refine w_iload_n (Ev.cm _) rfl rfl ?_
  refine w_bipush (Ev.cm _) rfl ?_
  refine w_icmp_ge (Ev.cm _) rfl (fun q => absurd q (by decide)) (fun _ => ?_)
  refine w_aload_n (Ev.cm _) rfl rfl ?_
  refine w_getR (q := 332) (Ev.cm _) rfl (Nat.le_of_ble_eq_true rfl) rfl (rd_get rfl (Nat.le_of_ble_eq_true rfl) (nin hos (Nat.le_of_ble_eq_true rfl))) ?_
  refine w_bipush (Ev.cm _) rfl ?_
  refine w_iload_n (Ev.cm _) rfl rfl ?_
  refine w_iadd (Ev.cm _) rfl ?_
  show Wp _ _ _ _ _ _ _ 205 [(0, .ref 331), (1, .int 11)] [.int 53, .ref 332] (HN 349 (331 :: os) (sI (sI (sI (sI (sI (sI (sI (sI (sI (sI (sI (sI (sI (sI (sI (sI (sI I 331 5 (-1)) 331 6 (-1)) 331 23 1) 332 8 293) 332 10 8190) 332 2 (-1)) 332 42 1) 332 43 1) 332 44 1) 332 45 1) 332 46 1) 332 47 1) 332 48 1) 332 49 1) 332 50 1) 332 51 1) 332 52 1) X)
  refine w_iconst (Ev.cm _) rfl ?_
  refine w_iast (Ev.cm _) rfl (Nat.le_of_ble_eq_true rfl) rfl (by decide) ?_
  have z35 := (Zs (Nat.le_of_ble_eq_true rfl) z34)
  show Wp _ _ _ _ _ _ _ 207 [(0, .ref 331), (1, .int 11)] [] (HN 349 (331 :: os) (sI (sI (sI (sI (sI (sI (sI (sI (sI (sI (sI (sI (sI (sI (sI (sI (sI (sI I 331 5 (-1)) 331 6 (-1)) 331 23 1) 332 8 293) 332 10 8190) 332 2 (-1)) 332 42 1) 332 43 1) 332 44 1) 332 45 1) 332 46 1) 332 47 1) 332 48 1) 332 49 1) 332 50 1) 332 51 1) 332 52 1) 332 53 1) X)
  refine w_iinc (ls2 := [(0, .ref 331), (1, .int 12)]) (Ev.cm _) rfl rfl rfl ?_
  refine w_goto (Ev.cm _) rfl ?_
  refine w_iload_n (Ev.cm _) rfl rfl ?_
  refine w_bipush (Ev.cm _) rfl ?_
  refine w_icmp_ge (Ev.cm _) rfl (fun q => absurd q (by decide)) (fun _ => ?_)
  refine w_aload_n (Ev.cm _) rfl rfl ?_
  refine w_getR (q := 332) (Ev.cm _) rfl (Nat.le_of_ble_eq_true rfl) rfl (rd_get rfl (Nat.le_of_ble_eq_true rfl) (nin hos (Nat.le_of_ble_eq_true rfl))) ?_
  refine w_bipush (Ev.cm _) rfl ?_
  refine w_iload_n (Ev.cm _) rfl rfl ?_
  refine w_iadd (Ev.cm _) rfl ?_
  show Wp _ _ _ _ _ _ _ 205 [(0, .ref 331), (1, .int 12)] [.int 54, .ref 332] (HN 349 (331 :: os) (sI (sI (sI (sI (sI (sI (sI (sI (sI (sI (sI (sI (sI (sI (sI (sI (sI (sI I 331 5 (-1)) 331 6 (-1)) 331 23 1) 332 8 293) 332 10 8190) 332 2 (-1)) 332 42 1) 332 43 1) 332 44 1) 332 45 1) 332 46 1) 332 47 1) 332 48 1) 332 49 1) 332 50 1) 332 51 1) 332 52 1) 332 53 1) X)
  refine w_iconst (Ev.cm _) rfl ?_
  refine w_iast (Ev.cm _) rfl (Nat.le_of_ble_eq_true rfl) rfl (by decide) ?_
  have z36 := (Zs (Nat.le_of_ble_eq_true rfl) z35)
  show Wp _ _ _ _ _ _ _ 207 [(0, .ref 331), (1, .int 12)] [] (HN 349 (331 :: os) (sI (sI (sI (sI (sI (sI (sI (sI (sI (sI (sI (sI (sI (sI (sI (sI (sI (sI (sI I 331 5 (-1)) 331 6 (-1)) 331 23 1) 332 8 293) 332 10 8190) 332 2 (-1)) 332 42 1) 332 43 1) 332 44 1) 332 45 1) 332 46 1) 332 47 1) 332 48 1) 332 49 1) 332 50 1) 332 51 1) 332 52 1) 332 53 1) 332 54 1) X)
  refine w_iinc (ls2 := [(0, .ref 331), (1, .int 13)]) (Ev.cm _) rfl rfl rfl ?_
  refine w_goto (Ev.cm _) rfl ?_
  refine w_iload_n (Ev.cm _) rfl rfl ?_
  refine w_bipush (Ev.cm _) rfl ?_
  refine w_icmp_ge (Ev.cm _) rfl (fun q => absurd q (by decide)) (fun _ => ?_)
  refine w_aload_n (Ev.cm _) rfl rfl ?_
  refine w_getR (q := 332) (Ev.cm _) rfl (Nat.le_of_ble_eq_true rfl) rfl (rd_get rfl (Nat.le_of_ble_eq_true rfl) (nin hos (Nat.le_of_ble_eq_true rfl))) ?_
  refine w_bipush (Ev.cm _) rfl ?_
  refine w_iload_n (Ev.cm _) rfl rfl ?_
  refine w_iadd (Ev.cm _) rfl ?_
  show Wp _ _ _ _ _ _ _ 205 [(0, .ref 331), (1, .int 13)] [.int 55, .ref 332] (HN 349 (331 :: os) (sI (sI (sI (sI (sI (sI (sI (sI (sI (sI (sI (sI (sI (sI (sI (sI (sI (sI (sI I 331 5 (-1)) 331 6 (-1)) 331 23 1) 332 8 293) 332 10 8190) 332 2 (-1)) 332 42 1) 332 43 1) 332 44 1) 332 45 1) 332 46 1) 332 47 1) 332 48 1) 332 49 1) 332 50 1) 332 51 1) 332 52 1) 332 53 1) 332 54 1) X)
  refine w_iconst (Ev.cm _) rfl ?_
  refine w_iast (Ev.cm _) rfl (Nat.le_of_ble_eq_true rfl) rfl (by decide) ?_
  have z37 := (Zs (Nat.le_of_ble_eq_true rfl) z36)
  show Wp _ _ _ _ _ _ _ 207 [(0, .ref 331), (1, .int 13)] [] (HN 349 (331 :: os) (sI (sI (sI (sI (sI (sI (sI (sI (sI (sI (sI (sI (sI (sI (sI (sI (sI (sI (sI (sI I 331 5 (-1)) 331 6 (-1)) 331 23 1) 332 8 293) 332 10 8190) 332 2 (-1)) 332 42 1) 332 43 1) 332 44 1) 332 45 1) 332 46 1) 332 47 1) 332 48 1) 332 49 1) 332 50 1) 332 51 1) 332 52 1) 332 53 1) 332 54 1) 332 55 1) X)
  refine w_iinc (ls2 := [(0, .ref 331), (1, .int 14)]) (Ev.cm _) rfl rfl rfl ?_
  refine w_goto (Ev.cm _) rfl ?_
  refine w_iload_n (Ev.cm _) rfl rfl ?_
  refine w_bipush (Ev.cm _) rfl ?_
  refine w_icmp_ge (Ev.cm _) rfl (fun q => absurd q (by decide)) (fun _ => ?_)
  refine w_aload_n (Ev.cm _) rfl rfl ?_
  refine w_getR (q := 332) (Ev.cm _) rfl (Nat.le_of_ble_eq_true rfl) rfl (rd_get rfl (Nat.le_of_ble_eq_true rfl) (nin hos (Nat.le_of_ble_eq_true rfl))) ?_
  refine w_bipush (Ev.cm _) rfl ?_
  refine w_iload_n (Ev.cm _) rfl rfl ?_
  refine w_iadd (Ev.cm _) rfl ?_
  show Wp _ _ _ _ _ _ _ 205 [(0, .ref 331), (1, .int 14)] [.int 56, .ref 332] (HN 349 (331 :: os) (sI (sI (sI (sI (sI (sI (sI (sI (sI (sI (sI (sI (sI (sI (sI (sI (sI (sI (sI (sI I 331 5 (-1)) 331 6 (-1)) 331 23 1) 332 8 293) 332 10 8190) 332 2 (-1)) 332 42 1) 332 43 1) 332 44 1) 332 45 1) 332 46 1) 332 47 1) 332 48 1) 332 49 1) 332 50 1) 332 51 1) 332 52 1) 332 53 1) 332 54 1) 332 55 1) X)
  refine w_iconst (Ev.cm _) rfl ?_
  refine w_iast (Ev.cm _) rfl (Nat.le_of_ble_eq_true rfl) rfl (by decide) ?_
  have z38 := (Zs (Nat.le_of_ble_eq_true rfl) z37)
  show Wp _ _ _ _ _ _ _ 207 [(0, .ref 331), (1, .int 14)] [] (HN 349 (331 :: os) (sI (sI (sI (sI (sI (sI (sI (sI (sI (sI (sI (sI (sI (sI (sI (sI (sI (sI (sI (sI (sI I 331 5 (-1)) 331 6 (-1)) 331 23 1) 332 8 293) 332 10 8190) 332 2 (-1)) 332 42 1) 332 43 1) 332 44 1) 332 45 1) 332 46 1) 332 47 1) 332 48 1) 332 49 1) 332 50 1) 332 51 1) 332 52 1) 332 53 1) 332 54 1) 332 55 1) 332 56 1) X)
  refine w_iinc (ls2 := [(0, .ref 331), (1, .int 15)]) (Ev.cm _) rfl rfl rfl ?_
  refine w_goto (Ev.cm _) rfl ?_
  refine w_iload_n (Ev.cm _) rfl rfl ?_
  refine w_bipush (Ev.cm _) rfl ?_
  refine w_icmp_ge (Ev.cm _) rfl (fun q => absurd q (by decide)) (fun _ => ?_)
  refine w_aload_n (Ev.cm _) rfl rfl ?_
  refine w_getR (q := 332) (Ev.cm _) rfl (Nat.le_of_ble_eq_true rfl) rfl (rd_get rfl (Nat.le_of_ble_eq_true rfl) (nin hos (Nat.le_of_ble_eq_true rfl))) ?_
  refine w_bipush (Ev.cm _) rfl ?_
  refine w_iload_n (Ev.cm _) rfl rfl ?_
  refine w_iadd (Ev.cm _) rfl ?_
  show Wp _ _ _ _ _ _ _ 205 [(0, .ref 331), (1, .int 15)] [.int 57, .ref 332] (HN 349 (331 :: os) (sI (sI (sI (sI (sI (sI (sI (sI (sI (sI (sI (sI (sI (sI (sI (sI (sI (sI (sI (sI (sI I 331 5 (-1)) 331 6 (-1)) 331 23 1) 332 8 293) 332 10 8190) 332 2 (-1)) 332 42 1) 332 43 1) 332 44 1) 332 45 1) 332 46 1) 332 47 1) 332 48 1) 332 49 1) 332 50 1) 332 51 1) 332 52 1) 332 53 1) 332 54 1) 332 55 1) 332 56 1) X)
  refine w_iconst (Ev.cm _) rfl ?_
  refine w_iast (Ev.cm _) rfl (Nat.le_of_ble_eq_true rfl) rfl (by decide) ?_
  have z39 := (Zs (Nat.le_of_ble_eq_true rfl) z38)
  show Wp _ _ _ _ _ _ _ 207 [(0, .ref 331), (1, .int 15)] [] (HN 349 (331 :: os) (sI (sI (sI (sI (sI (sI (sI (sI (sI (sI (sI (sI (sI (sI (sI (sI (sI (sI (sI (sI (sI (sI I 331 5 (-1)) 331 6 (-1)) 331 23 1) 332 8 293) 332 10 8190) 332 2 (-1)) 332 42 1) 332 43 1) 332 44 1) 332 45 1) 332 46 1) 332 47 1) 332 48 1) 332 49 1) 332 50 1) 332 51 1) 332 52 1) 332 53 1) 332 54 1) 332 55 1) 332 56 1) 332 57 1) X)
  refine w_iinc (ls2 := [(0, .ref 331), (1, .int 16)]) (Ev.cm _) rfl rfl rfl ?_
  refine w_goto (Ev.cm _) rfl ?_
  refine w_iload_n (Ev.cm _) rfl rfl ?_
  refine w_bipush (Ev.cm _) rfl ?_
  refine w_icmp_ge (Ev.cm _) rfl (fun q => absurd q (by decide)) (fun _ => ?_)
  refine w_aload_n (Ev.cm _) rfl rfl ?_
  refine w_getR (q := 332) (Ev.cm _) rfl (Nat.le_of_ble_eq_true rfl) rfl (rd_get rfl (Nat.le_of_ble_eq_true rfl) (nin hos (Nat.le_of_ble_eq_true rfl))) ?_
  refine w_bipush (Ev.cm _) rfl ?_
  refine w_iload_n (Ev.cm _) rfl rfl ?_
  refine w_iadd (Ev.cm _) rfl ?_
  show Wp _ _ _ _ _ _ _ 205 [(0, .ref 331), (1, .int 16)] [.int 58, .ref 332] (HN 349 (331 :: os) (sI (sI (sI (sI (sI (sI (sI (sI (sI (sI (sI (sI (sI (sI (sI (sI (sI (sI (sI (sI (sI (sI I 331 5 (-1)) 331 6 (-1)) 331 23 1) 332 8 293) 332 10 8190) 332 2 (-1)) 332 42 1) 332 43 1) 332 44 1) 332 45 1) 332 46 1) 332 47 1) 332 48 1) 332 49 1) 332 50 1) 332 51 1) 332 52 1) 332 53 1) 332 54 1) 332 55 1) 332 56 1) 332 57 1) X)
  refine w_iconst (Ev.cm _) rfl ?_
  refine w_iast (Ev.cm _) rfl (Nat.le_of_ble_eq_true rfl) rfl (by decide) ?_
  have z40 := (Zs (Nat.le_of_ble_eq_true rfl) z39)
  show Wp _ _ _ _ _ _ _ 207 [(0, .ref 331), (1, .int 16)] [] (HN 349 (331 :: os) (sI (sI (sI (sI (sI (sI (sI (sI (sI (sI (sI (sI (sI (sI (sI (sI (sI (sI (sI (sI (sI (sI (sI I 331 5 (-1)) 331 6 (-1)) 331 23 1) 332 8 293) 332 10 8190) 332 2 (-1)) 332 42 1) 332 43 1) 332 44 1) 332 45 1) 332 46 1) 332 47 1) 332 48 1) 332 49 1) 332 50 1) 332 51 1) 332 52 1) 332 53 1) 332 54 1) 332 55 1) 332 56 1) 332 57 1) 332 58 1) X)
  refine w_iinc (ls2 := [(0, .ref 331), (1, .int 17)]) (Ev.cm _) rfl rfl rfl ?_
  refine w_goto (Ev.cm _) rfl ?_
  refine w_iload_n (Ev.cm _) rfl rfl ?_
  refine w_bipush (Ev.cm _) rfl ?_
  refine w_icmp_ge (Ev.cm _) rfl (fun q => absurd q (by decide)) (fun _ => ?_)
  refine w_aload_n (Ev.cm _) rfl rfl ?_
  refine w_getR (q := 332) (Ev.cm _) rfl (Nat.le_of_ble_eq_true rfl) rfl (rd_get rfl (Nat.le_of_ble_eq_true rfl) (nin hos (Nat.le_of_ble_eq_true rfl))) ?_
  refine w_bipush (Ev.cm _) rfl ?_
  refine w_iload_n (Ev.cm _) rfl rfl ?_
  refine w_iadd (Ev.cm _) rfl ?_
  show Wp _ _ _ _ _ _ _ 205 [(0, .ref 331), (1, .int 17)] [.int 59, .ref 332] (HN 349 (331 :: os) (sI (sI (sI (sI (sI (sI (sI (sI (sI (sI (sI (sI (sI (sI (sI (sI (sI (sI (sI (sI (sI (sI (sI I 331 5 (-1)) 331 6 (-1)) 331 23 1) 332 8 293) 332 10 8190) 332 2 (-1)) 332 42 1) 332 43 1) 332 44 1) 332 45 1) 332 46 1) 332 47 1) 332 48 1) 332 49 1) 332 50 1) 332 51 1) 332 52 1) 332 53 1) 332 54 1) 332 55 1) 332 56 1) 332 57 1) 332 58 1) X)
  refine w_iconst (Ev.cm _) rfl ?_
  refine w_iast (Ev.cm _) rfl (Nat.le_of_ble_eq_true rfl) rfl (by decide) ?_
  have z41 := (Zs (Nat.le_of_ble_eq_true rfl) z40)
  show Wp _ _ _ _ _ _ _ 207 [(0, .ref 331), (1, .int 17)] [] (HN 349 (331 :: os) (sI (sI (sI (sI (sI (sI (sI (sI (sI (sI (sI (sI (sI (sI (sI (sI (sI (sI (sI (sI (sI (sI (sI (sI I 331 5 (-1)) 331 6 (-1)) 331 23 1) 332 8 293) 332 10 8190) 332 2 (-1)) 332 42 1) 332 43 1) 332 44 1) 332 45 1) 332 46 1) 332 47 1) 332 48 1) 332 49 1) 332 50 1) 332 51 1) 332 52 1) 332 53 1) 332 54 1) 332 55 1) 332 56 1) 332 57 1) 332 58 1) 332 59 1) X)
  refine w_iinc (ls2 := [(0, .ref 331), (1, .int 18)]) (Ev.cm _) rfl rfl rfl ?_
  refine w_goto (Ev.cm _) rfl ?_
  refine w_iload_n (Ev.cm _) rfl rfl ?_
  refine w_bipush (Ev.cm _) rfl ?_
  refine w_icmp_ge (Ev.cm _) rfl (fun _ => ?_) (fun q => absurd (by decide) q)
  refine w_iconst (Ev.cm _) rfl ?_
  refine w_istore_n (ls2 := [(0, .ref 331), (1, .int 0)]) (Ev.cm _) rfl rfl ?_
  refine w_iload_n (Ev.cm _) rfl rfl ?_
  refine w_bipush (Ev.cm _) rfl ?_
  refine w_icmp_ge (Ev.cm _) rfl (fun q => absurd q (by decide)) (fun _ => ?_)
  refine w_aload_n (Ev.cm _) rfl rfl ?_
  refine w_getR (q := 332) (Ev.cm _) rfl (Nat.le_of_ble_eq_true rfl) rfl (rd_get rfl (Nat.le_of_ble_eq_true rfl) (nin hos (Nat.le_of_ble_eq_true rfl))) ?_
  refine w_bipush (Ev.cm _) rfl ?_
  refine w_iload_n (Ev.cm _) rfl rfl ?_
  refine w_iadd (Ev.cm _) rfl ?_
  show Wp _ _ _ _ _ _ _ 229 [(0, .ref 331), (1, .int 0)] [.int 71, .ref 332] (HN 349 (331 :: os) (sI (sI (sI (sI (sI (sI (sI (sI (sI (sI (sI (sI (sI (sI (sI (sI (sI (sI (sI (sI (sI (sI (sI (sI I 331 5 (-1)) 331 6 (-1)) 331 23 1) 332 8 293) 332 10 8190) 332 2 (-1)) 332 42 1) 332 43 1) 332 44 1) 332 45 1) 332 46 1) 332 47 1) 332 48 1) 332 49 1) 332 50 1) 332 51 1) 332 52 1) 332 53 1) 332 54 1) 332 55 1) 332 56 1) 332 57 1) 332 58 1) 332 59 1) X)
  refine w_iconst (Ev.cm _) rfl ?_
  refine w_iast (Ev.cm _) rfl (Nat.le_of_ble_eq_true rfl) rfl (by decide) ?_
  have z42 := (Zs (Nat.le_of_ble_eq_true rfl) z41)
  show Wp _ _ _ _ _ _ _ 231 [(0, .ref 331), (1, .int 0)] [] (HN 349 (331 :: os) (sI (sI (sI (sI (sI (sI (sI (sI (sI (sI (sI (sI (sI (sI (sI (sI (sI (sI (sI (sI (sI (sI (sI (sI (sI I 331 5 (-1)) 331 6 (-1)) 331 23 1) 332 8 293) 332 10 8190) 332 2 (-1)) 332 42 1) 332 43 1) 332 44 1) 332 45 1) 332 46 1) 332 47 1) 332 48 1) 332 49 1) 332 50 1) 332 51 1) 332 52 1) 332 53 1) 332 54 1) 332 55 1) 332 56 1) 332 57 1) 332 58 1) 332 59 1) 332 71 1) X)
  refine w_iinc (ls2 := [(0, .ref 331), (1, .int 1)]) (Ev.cm _) rfl rfl rfl ?_
  refine w_goto (Ev.cm _) rfl ?_
  refine w_iload_n (Ev.cm _) rfl rfl ?_
  refine w_bipush (Ev.cm _) rfl ?_
  refine w_icmp_ge (Ev.cm _) rfl (fun q => absurd q (by decide)) (fun _ => ?_)
  refine w_aload_n (Ev.cm _) rfl rfl ?_
  refine w_getR (q := 332) (Ev.cm _) rfl (Nat.le_of_ble_eq_true rfl) rfl (rd_get rfl (Nat.le_of_ble_eq_true rfl) (nin hos (Nat.le_of_ble_eq_true rfl))) ?_
  refine w_bipush (Ev.cm _) rfl ?_
  refine w_iload_n (Ev.cm _) rfl rfl ?_
  refine w_iadd (Ev.cm _) rfl ?_
  show Wp _ _ _ _ _ _ _ 229 [(0, .ref 331), (1, .int 1)] [.int 72, .ref 332] (HN 349 (331 :: os) (sI (sI (sI (sI (sI (sI (sI (sI (sI (sI (sI (sI (sI (sI (sI (sI (sI (sI (sI (sI (sI (sI (sI (sI (sI I 331 5 (-1)) 331 6 (-1)) 331 23 1) 332 8 293) 332 10 8190) 332 2 (-1)) 332 42 1) 332 43 1) 332 44 1) 332 45 1) 332 46 1) 332 47 1) 332 48 1) 332 49 1) 332 50 1) 332 51 1) 332 52 1) 332 53 1) 332 54 1) 332 55 1) 332 56 1) 332 57 1) 332 58 1) 332 59 1) 332 71 1) X)
  refine w_iconst (Ev.cm _) rfl ?_
  refine w_iast (Ev.cm _) rfl (Nat.le_of_ble_eq_true rfl) rfl (by decide) ?_
  have z43 := (Zs (Nat.le_of_ble_eq_true rfl) z42)
  show Wp _ _ _ _ _ _ _ 231 [(0, .ref 331), (1, .int 1)] [] (HN 349 (331 :: os) (sI (sI (sI (sI (sI (sI (sI (sI (sI (sI (sI (sI (sI (sI (sI (sI (sI (sI (sI (sI (sI (sI (sI (sI (sI (sI I 331 5 (-1)) 331 6 (-1)) 331 23 1) 332 8 293) 332 10 8190) 332 2 (-1)) 332 42 1) 332 43 1) 332 44 1) 332 45 1) 332 46 1) 332 47 1) 332 48 1) 332 49 1) 332 50 1) 332 51 1) 332 52 1) 332 53 1) 332 54 1) 332 55 1) 332 56 1) 332 57 1) 332 58 1) 332 59 1) 332 71 1) 332 72 1) X)
  refine w_iinc (ls2 := [(0, .ref 331), (1, .int 2)]) (Ev.cm _) rfl rfl rfl ?_
  refine w_goto (Ev.cm _) rfl ?_
  refine w_iload_n (Ev.cm _) rfl rfl ?_
  refine w_bipush (Ev.cm _) rfl ?_
  refine w_icmp_ge (Ev.cm _) rfl (fun q => absurd q (by decide)) (fun _ => ?_)
  refine w_aload_n (Ev.cm _) rfl rfl ?_
  refine w_getR (q := 332) (Ev.cm _) rfl (Nat.le_of_ble_eq_true rfl) rfl (rd_get rfl (Nat.le_of_ble_eq_true rfl) (nin hos (Nat.le_of_ble_eq_true rfl))) ?_
  refine w_bipush (Ev.cm _) rfl ?_
  refine w_iload_n (Ev.cm _) rfl rfl ?_
  refine w_iadd (Ev.cm _) rfl ?_
  show Wp _ _ _ _ _ _ _ 229 [(0, .ref 331), (1, .int 2)] [.int 73, .ref 332] (HN 349 (331 :: os) (sI (sI (sI (sI (sI (sI (sI (sI (sI (sI (sI (sI (sI (sI (sI (sI (sI (sI (sI (sI (sI (sI (sI (sI (sI (sI I 331 5 (-1)) 331 6 (-1)) 331 23 1) 332 8 293) 332 10 8190) 332 2 (-1)) 332 42 1) 332 43 1) 332 44 1) 332 45 1) 332 46 1) 332 47 1) 332 48 1) 332 49 1) 332 50 1) 332 51 1) 332 52 1) 332 53 1) 332 54 1) 332 55 1) 332 56 1) 332 57 1) 332 58 1) 332 59 1) 332 71 1) 332 72 1) X)
  refine w_iconst (Ev.cm _) rfl ?_
  refine w_iast (Ev.cm _) rfl (Nat.le_of_ble_eq_true rfl) rfl (by decide) ?_
  have z44 := (Zs (Nat.le_of_ble_eq_true rfl) z43)
  show Wp _ _ _ _ _ _ _ 231 [(0, .ref 331), (1, .int 2)] [] (HN 349 (331 :: os) (sI (sI (sI (sI (sI (sI (sI (sI (sI (sI (sI (sI (sI (sI (sI (sI (sI (sI (sI (sI (sI (sI (sI (sI (sI (sI (sI I 331 5 (-1)) 331 6 (-1)) 331 23 1) 332 8 293) 332 10 8190) 332 2 (-1)) 332 42 1) 332 43 1) 332 44 1) 332 45 1) 332 46 1) 332 47 1) 332 48 1) 332 49 1) 332 50 1) 332 51 1) 332 52 1) 332 53 1) 332 54 1) 332 55 1) 332 56 1) 332 57 1) 332 58 1) 332 59 1) 332 71 1) 332 72 1) 332 73 1) X)
  refine w_iinc (ls2 := [(0, .ref 331), (1, .int 3)]) (Ev.cm _) rfl rfl rfl ?_
  refine w_goto (Ev.cm _) rfl ?_
  refine w_iload_n (Ev.cm _) rfl rfl ?_
  refine w_bipush (Ev.cm _) rfl ?_
  refine w_icmp_ge (Ev.cm _) rfl (fun q => absurd q (by decide)) (fun _ => ?_)
  refine w_aload_n (Ev.cm _) rfl rfl ?_
  refine w_getR (q := 332) (Ev.cm _) rfl (Nat.le_of_ble_eq_true rfl) rfl (rd_get rfl (Nat.le_of_ble_eq_true rfl) (nin hos (Nat.le_of_ble_eq_true rfl))) ?_
  refine w_bipush (Ev.cm _) rfl ?_
  refine w_iload_n (Ev.cm _) rfl rfl ?_
  refine w_iadd (Ev.cm _) rfl ?_
  show Wp _ _ _ _ _ _ _ 229 [(0, .ref 331), (1, .int 3)] [.int 74, .ref 332] (HN 349 (331 :: os) (sI (sI (sI (sI (sI (sI (sI (sI (sI (sI (sI (sI (sI (sI (sI (sI (sI (sI (sI (sI (sI (sI (sI (sI (sI (sI (sI I 331 5 (-1)) 331 6 (-1)) 331 23 1) 332 8 293) 332 10 8190) 332 2 (-1)) 332 42 1) 332 43 1) 332 44 1) 332 45 1) 332 46 1) 332 47 1) 332 48 1) 332 49 1) 332 50 1) 332 51 1) 332 52 1) 332 53 1) 332 54 1) 332 55 1) 332 56 1) 332 57 1) 332 58 1) 332 59 1) 332 71 1) 332 72 1) 332 73 1) X)
  refine w_iconst (Ev.cm _) rfl ?_
  refine w_iast (Ev.cm _) rfl (Nat.le_of_ble_eq_true rfl) rfl (by decide) ?_
  have z45 := (Zs (Nat.le_of_ble_eq_true rfl) z44)
  show Wp _ _ _ _ _ _ _ 231 [(0, .ref 331), (1, .int 3)] [] (HN 349 (331 :: os) (sI (sI (sI (sI (sI (sI (sI (sI (sI (sI (sI (sI (sI (sI (sI (sI (sI (sI (sI (sI (sI (sI (sI (sI (sI (sI (sI (sI I 331 5 (-1)) 331 6 (-1)) 331 23 1) 332 8 293) 332 10 8190) 332 2 (-1)) 332 42 1) 332 43 1) 332 44 1) 332 45 1) 332 46 1) 332 47 1) 332 48 1) 332 49 1) 332 50 1) 332 51 1) 332 52 1) 332 53 1) 332 54 1) 332 55 1) 332 56 1) 332 57 1) 332 58 1) 332 59 1) 332 71 1) 332 72 1) 332 73 1) 332 74 1) X)
  refine w_iinc (ls2 := [(0, .ref 331), (1, .int 4)]) (Ev.cm _) rfl rfl rfl ?_
  refine w_goto (Ev.cm _) rfl ?_
  refine w_iload_n (Ev.cm _) rfl rfl ?_
  refine w_bipush (Ev.cm _) rfl ?_
  refine w_icmp_ge (Ev.cm _) rfl (fun q => absurd q (by decide)) (fun _ => ?_)
  refine w_aload_n (Ev.cm _) rfl rfl ?_
  refine w_getR (q := 332) (Ev.cm _) rfl (Nat.le_of_ble_eq_true rfl) rfl (rd_get rfl (Nat.le_of_ble_eq_true rfl) (nin hos (Nat.le_of_ble_eq_true rfl))) ?_
  refine w_bipush (Ev.cm _) rfl ?_
  refine w_iload_n (Ev.cm _) rfl rfl ?_
  refine w_iadd (Ev.cm _) rfl ?_
  show Wp _ _ _ _ _ _ _ 229 [(0, .ref 331), (1, .int 4)] [.int 75, .ref 332] (HN 349 (331 :: os) (sI (sI (sI (sI (sI (sI (sI (sI (sI (sI (sI (sI (sI (sI (sI (sI (sI (sI (sI (sI (sI (sI (sI (sI (sI (sI (sI (sI I 331 5 (-1)) 331 6 (-1)) 331 23 1) 332 8 293) 332 10 8190) 332 2 (-1)) 332 42 1) 332 43 1) 332 44 1) 332 45 1) 332 46 1) 332 47 1) 332 48 1) 332 49 1) 332 50 1) 332 51 1) 332 52 1) 332 53 1) 332 54 1) 332 55 1) 332 56 1) 332 57 1) 332 58 1) 332 59 1) 332 71 1) 332 72 1) 332 73 1) 332 74 1) X)
  refine w_iconst (Ev.cm _) rfl ?_
  refine w_iast (Ev.cm _) rfl (Nat.le_of_ble_eq_true rfl) rfl (by decide) ?_
  have z46 := (Zs (Nat.le_of_ble_eq_true rfl) z45)
  show Wp _ _ _ _ _ _ _ 231 [(0, .ref 331), (1, .int 4)] [] (HN 349 (331 :: os) (sI (sI (sI (sI (sI (sI (sI (sI (sI (sI (sI (sI (sI (sI (sI (sI (sI (sI (sI (sI (sI (sI (sI (sI (sI (sI (sI (sI (sI I 331 5 (-1)) 331 6 (-1)) 331 23 1) 332 8 293) 332 10 8190) 332 2 (-1)) 332 42 1) 332 43 1) 332 44 1) 332 45 1) 332 46 1) 332 47 1) 332 48 1) 332 49 1) 332 50 1) 332 51 1) 332 52 1) 332 53 1) 332 54 1) 332 55 1) 332 56 1) 332 57 1) 332 58 1) 332 59 1) 332 71 1) 332 72 1) 332 73 1) 332 74 1) 332 75 1) X)
  refine w_iinc (ls2 := [(0, .ref 331), (1, .int 5)]) (Ev.cm _) rfl rfl rfl ?_
  refine w_goto (Ev.cm _) rfl ?_
  refine w_iload_n (Ev.cm _) rfl rfl ?_
  refine w_bipush (Ev.cm _) rfl ?_
  refine w_icmp_ge (Ev.cm _) rfl (fun q => absurd q (by decide)) (fun _ => ?_)
  refine w_aload_n (Ev.cm _) rfl rfl ?_
  refine w_getR (q := 332) (Ev.cm _) rfl (Nat.le_of_ble_eq_true rfl) rfl (rd_get rfl (Nat.le_of_ble_eq_true rfl) (nin hos (Nat.le_of_ble_eq_true rfl))) ?_
  refine w_bipush (Ev.cm _) rfl ?_
  refine w_iload_n (Ev.cm _) rfl rfl ?_
  refine w_iadd (Ev.cm _) rfl ?_
  show Wp _ _ _ _ _ _ _ 229 [(0, .ref 331), (1, .int 5)] [.int 76, .ref 332] (HN 349 (331 :: os) (sI (sI (sI (sI (sI (sI (sI (sI (sI (sI (sI (sI (sI (sI (sI (sI (sI (sI (sI (sI (sI (sI (sI (sI (sI (sI (sI (sI (sI I 331 5 (-1)) 331 6 (-1)) 331 23 1) 332 8 293) 332 10 8190) 332 2 (-1)) 332 42 1) 332 43 1) 332 44 1) 332 45 1) 332 46 1) 332 47 1) 332 48 1) 332 49 1) 332 50 1) 332 51 1) 332 52 1) 332 53 1) 332 54 1) 332 55 1) 332 56 1) 332 57 1) 332 58 1) 332 59 1) 332 71 1) 332 72 1) 332 73 1) 332 74 1) 332 75 1) X)
  refine w_iconst (Ev.cm _) rfl ?_
  refine w_iast (Ev.cm _) rfl (Nat.le_of_ble_eq_true rfl) rfl (by decide) ?_
  have z47 := (Zs (Nat.le_of_ble_eq_true rfl) z46)
  show Wp _ _ _ _ _ _ _ 231 [(0, .ref 331), (1, .int 5)] [] (HN 349 (331 :: os) (sI (sI (sI (sI (sI (sI (sI (sI (sI (sI (sI (sI (sI (sI (sI (sI (sI (sI (sI (sI (sI (sI (sI (sI (sI (sI (sI (sI (sI (sI I 331 5 (-1)) 331 6 (-1)) 331 23 1) 332 8 293) 332 10 8190) 332 2 (-1)) 332 42 1) 332 43 1) 332 44 1) 332 45 1) 332 46 1) 332 47 1) 332 48 1) 332 49 1) 332 50 1) 332 51 1) 332 52 1) 332 53 1) 332 54 1) 332 55 1) 332 56 1) 332 57 1) 332 58 1) 332 59 1) 332 71 1) 332 72 1) 332 73 1) 332 74 1) 332 75 1) 332 76 1) X)
  refine w_iinc (ls2 := [(0, .ref 331), (1, .int 6)]) (Ev.cm _) rfl rfl rfl ?_
  refine w_goto (Ev.cm _) rfl ?_
  refine w_iload_n (Ev.cm _) rfl rfl ?_
  refine w_bipush (Ev.cm _) rfl ?_
  refine w_icmp_ge (Ev.cm _) rfl (fun _ => ?_) (fun q => absurd (by decide) q)
  refine w_aload_n (Ev.cm _) rfl rfl ?_
  refine w_getR (q := 332) (Ev.cm _) rfl (Nat.le_of_ble_eq_true rfl) rfl (rd_get rfl (Nat.le_of_ble_eq_true rfl) (nin hos (Nat.le_of_ble_eq_true rfl))) ?_
  refine w_aload_n (Ev.cm _) rfl rfl ?_
  refine w_getR (q := 333) (Ev.cm _) rfl (Nat.le_of_ble_eq_true rfl) rfl (rd_get rfl (Nat.le_of_ble_eq_true rfl) (nin hos (Nat.le_of_ble_eq_true rfl))) ?_
  subst hos0
  rw [hn_hs]
  refine w_cstat (as := [.ref 332, .ref 333]) (st := []) (Ev.cm _) rfl rfl rfl (Nat.le_of_ble_eq_true rfl) (Nat.le_of_ble_eq_true rfl) (eo_M_copy_332 (g := ?_) e)
  show Wp _ _ _ _ _ _ _ 248 [(0, .ref 331), (1, .int 6)] [] (HS res.2.1 res.2.2 X)
  refine w_return (Ev.cm _) rfl rfl (Or.inr ⟨(by decide +kernel), (by decide +kernel)⟩) ?_
  exact q
def I00 : Nat → Nat → Int32 := iM (iX (fun _ _ => 0))
set_option maxHeartbeats 4000000 in
theorem law_start {fu L : Nat} {xs : Nat → Int32} {res : Unit × (Nat → Nat → Int32) × (Nat → Nat → Int64)} {Q : PQ} (e : FO_M_copy_332 fu I00 (fun _ _ => 0) = some res) (w : Wp (Ev 200) cd_L_law (mcs m_L_law) (some .boolean) 0 0 Q 18 [(0, .float 0), (1, .ref 0), (2, .ref 331), (3, .int 0)] [] (HS res.2.1 res.2.2 (L, xs))) : Wp (Ev 200) cd_L_law (mcs m_L_law) (some .boolean) 0 0 Q 0 [(0, .float 0)] [] (h00 L xs) := by
  have h0 : h00 L xs = HN 0 [] (fun _ _ => 0) (L, xs) := by
    have e2 : (fun _ => (0, 0)) = cutK 0 := by funext o; rfl
    have e3 : (fun _ _ => none) = RD 0 [] := by
      funext o k
      unfold RD
      cases h : R0 o k with
      | none => rfl
      | some q => exact (if_neg (by omega)).symm
    unfold h00 HN
    rw [e2, e3]
    rfl
  rw [h0]
  have z0 : Zf 0 (fun _ _ => 0) := fun _ _ => rfl
  refine w_new (Ev.cm _) rfl (show _ ∧ _ from ⟨by decide +kernel, by decide +kernel⟩) ?_
  show Wp _ _ _ _ _ _ _ 3 [(0, .float 0)] [.ref 0] (puN (HN 0 [] (fun _ _ => 0) (L, xs)) 8 12)
  rw [hn_new rfl z0]
  have z1 := Zn z0
  refine w_dup (Ev.cm _) rfl rfl ?_
  refine w_cinit (as := []) (o := 0) (st := [.ref 0]) (Ev.cm _) rfl rfl rfl (Nat.le_of_ble_eq_true rfl) (show _ ∧ _ from ⟨by decide +kernel, by decide +kernel⟩) (Nat.le_of_ble_eq_true rfl) (e_iX (fun _ h => by cases h) z1 ?_)
  have z2 := iX_z z1
  show Wp _ _ _ _ _ _ _ 7 [(0, .float 0)] [.ref 0] (HN 331 [0] (iX (fun _ _ => 0)) (L, xs))
  refine w_astore_n (ls2 := [(0, .float 0), (1, .ref 0)]) (Ev.cm _) rfl trivial rfl ?_
  refine w_new (Ev.cm _) rfl (show _ ∧ _ from ⟨by decide +kernel, by decide +kernel⟩) ?_
  show Wp _ _ _ _ _ _ _ 11 [(0, .float 0), (1, .ref 0)] [.ref 331] (puN (HN 331 [0] (iX (fun _ _ => 0)) (L, xs)) 9 34)
  rw [hn_new rfl z2]
  have z3 := Zn z2
  refine w_dup (Ev.cm _) rfl rfl ?_
  refine w_cinit (as := []) (o := 331) (st := [.ref 331]) (Ev.cm _) rfl rfl rfl (Nat.le_of_ble_eq_true rfl) (show _ ∧ _ from ⟨by decide +kernel, by decide +kernel⟩) (Nat.le_of_ble_eq_true rfl) (e_iM rfl (fun x h => by rw [List.mem_singleton.mp h]; omega) z3 e ?_)
  show Wp _ _ _ _ _ _ _ 15 [(0, .float 0), (1, .ref 0)] [.ref 331] (HS res.2.1 res.2.2 (L, xs))
  refine w_astore_n (ls2 := [(0, .float 0), (1, .ref 0), (2, .ref 331)]) (Ev.cm _) rfl trivial rfl ?_
  refine w_iconst (Ev.cm _) rfl ?_
  refine w_istore_n (ls2 := [(0, .float 0), (1, .ref 0), (2, .ref 331), (3, .int 0)]) (Ev.cm _) rfl rfl ?_
  exact w
