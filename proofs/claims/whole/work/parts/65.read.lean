/-! a text's clauses, one after another -/
def LWd (t0 nn row : Nat) (I J : TI) (n q w : Nat) : Prop :=
  (I 314 row = -1 ∧ ∀ k, k < n → ¬ J 334 (t0 + (1 + 3 * k)) = nI row) ∨
  ∃ p q0 i j kk : Nat, q0 ≤ q ∧ j ≤ w ∧ (I 314 row = nI p ∧ I 315 row = nI q0) ∧ kk < n ∧ J 334 (t0 + (1 + 3 * kk)) = nI row ∧ (∀ k', k' < kk → ¬ J 334 (t0 + (1 + 3 * k')) = nI row) ∧ J 334 (t0 + (2 + 3 * kk)) = nI i ∧ J 334 (t0 + (3 + 3 * kk)) = nI j ∧ Seg nn (I 312) (I 313) (fun x => J 334 (t0 + 73 + x)) p q0 i j 79
theorem LWd.ext {t0 nn row : Nat} {I J I' J' : TI} {n q w q' w' : Nat} (h : LWd t0 nn row I J n q w) (e4 : I' 314 row = I 314 row) (e5 : I' 315 row = I 315 row) (ec : CdX I I' q) (eJ : ∀ y, t0 < y → y < t0 + 1 + 3 * n → J' 334 y = J 334 y) (eC : ∀ y, t0 + 73 ≤ y → y < t0 + 73 + 2 * w → J' 334 y = J 334 y) (hnew : ¬ J' 334 (t0 + (1 + 3 * n)) = nI row) (hq : q ≤ q') (hw : w ≤ w') : LWd t0 nn row I' J' (n + 1) q' w' := by
  rcases h with ⟨h1, h2⟩ | ⟨p, q0, i, j, kk, a1, a2, a3, a4, a5, a6, a7, a8, a9⟩
  · refine Or.inl ⟨e4.trans h1, fun k hk => ?_⟩
    by_cases c : k = n
    · subst c; exact hnew
    · rw [eJ _ (by omega) (by omega)]; exact h2 k (by omega)
  · have ij := a9.2.1
    refine Or.inr ⟨p, q0, i, j, kk, by omega, by omega, ⟨e4.trans a3.1, e5.trans a3.2⟩, by omega, by rw [eJ _ (by omega) (by omega)]; exact a5, fun k' hk' => by rw [eJ _ (by omega) (by omega)]; exact a6 k' hk', by rw [eJ _ (by omega) (by omega)]; exact a7, by rw [eJ _ (by omega) (by omega)]; exact a8, a9.cg (fun t h1 h2 => ec t (by omega)) (fun x h1 h2 => eC _ (by omega) (by omega)) (Nat.le_refl _)⟩
theorem LWd.new {t0 nn row : Nat} {I J I' J' : TI} {n q w q' w' : Nat} (h : LWd t0 nn row I J n q w) (hq3 : q ≤ 300) (h0 : I 314 row = -1) (e4 : I' 314 row = nI q) (e5 : I' 315 row = nI q') (eJ : ∀ y, t0 < y → y < t0 + 1 + 3 * n → J' 334 y = J 334 y) (r1 : J' 334 (t0 + (1 + 3 * n)) = nI row) (r2 : J' 334 (t0 + (2 + 3 * n)) = nI w) (r3 : J' 334 (t0 + (3 + 3 * n)) = nI w') (sg : Seg nn (I' 312) (I' 313) (fun x => J' 334 (t0 + 73 + x)) q q' w w' 79) : LWd t0 nn row I' J' (n + 1) q' w' := by
  rcases h with ⟨h1, h2⟩ | ⟨p, q0, i, j, kk, a1, a2, a3, a4, a5, a6, a7, a8, a9⟩
  · refine Or.inr ⟨q, q', w, w', n, Nat.le_refl _, Nat.le_refl _, ⟨e4, e5⟩, by omega, r1, fun k' hk' => ?_, r2, r3, sg⟩
    rw [eJ _ (by omega) (by omega)]; exact h2 k' hk'
  · exact absurd (a3.1.symm.trans h0) (nI_nm (by have := a9.1; omega))
def ON (I J : TI) : Prop := ∃ a b : Nat, a ≤ 1 ∧ b ≤ 1 ∧ J 331 19 = nI (a + 2 * b) ∧ (a = 0 ↔ I 314 0 = -1) ∧ (b = 0 ↔ I 314 1 = -1)
section
variable (kd vl sp tp : Nat → Int32) (en : Nat → Nat) (len N t0 : Nat)
def CS (I J : TI) (K : TL) (k q w n : Nat) : Prop :=
  XS kd vl sp N I k q ∧ MK kd vl sp tp en len J K k ∧ J 331 12 = nI t0 ∧ J 331 13 = nI w ∧ (q ≤ k ∧ w ≤ k ∧ n ≤ 24) ∧ I 308 0 = nI n ∧ J 334 t0 = nI n ∧ (∀ i, i < n → CLR (I 309 i) (I 310 i) (I 311 i) (J 334 (t0 + (1 + 3 * i))) (J 334 (t0 + (2 + 3 * i))) (J 334 (t0 + (3 + 3 * i)))) ∧ LWd t0 8 0 I J n q w ∧ LWd t0 3 1 I J n q w ∧ ON I J
end
section
variable {kd vl sp tp : Nat → Int32} {en : Nat → Nat} {len N fu t0 : Nat}
/-- the class's end of a clause -/
def FINX (fu : Nat) (cl : Option (Int32 × TI × TL)) : Option (Int32 × TI × TL) := cl.bind (fun u => if u.1 = 0 then some (0, u.2.1, u.2.2) else (FO_R_pass fu 20 u.2.1 u.2.2).bind (fun v => if v.1 = 0 then some (0, v.2.1, v.2.2) else some (1, v.2.1, v.2.2)))
theorem fin_ok (hN : kd N = 0) (nx : NX kd vl sp tp en len N fu) (ht : t0 ≤ 2043) {I1 J1 : TI} {L K1 : TL} {k1 q1 n : Nat} (hX : XS kd vl sp N I1 k1 q1) (hm : MK kd vl sp tp en len J1 K1 k1) (h12 : J1 331 12 = nI t0) (hn : J1 334 t0 = nI n) : (∃ I2 J2, FINX fu (some (1, I1, L)) = some (0, I2, L) ∧ FrD I1 I2 ∧ (I2 307 1 = nI 1 ∧ I2 307 2 = sp k1) ∧ TAIL fu (some (0, J1, K1)) = some (nI 1, J2, K1) ∧ J2 331 8 = sp k1 ∧ FrC t0 J1 J2) ∨ (∃ I2 J2 K2, FINX fu (some (1, I1, L)) = some (1, I2, L) ∧ XS kd vl sp N I2 (k1 + 1) q1 ∧ FrX I1 I2 ∧ I2 312 = I1 312 ∧ I2 313 = I1 313 ∧ I2 308 = I1 308 ∧ TAIL fu (some (0, J1, K1)) = some (0, J2, K2) ∧ MK kd vl sp tp en len J2 K2 (k1 + 1) ∧ NXf (sI J1 334 t0 (nI (n + 1))) J2) := by
  have tl := tail_0 nx hm h12 ht hn
  unfold FINX
  simp only [Option.bind_some]
  rw [if_neg i10]
  by_cases c : kd k1 = 20
  · right
    have kN : k1 < N := kd_lt hN hX c (by decide)
    obtain ⟨I2, a1, a2, a3, a4, a5, a6⟩ := x_pass2 (fu := fu) (w := 20) (L := L) hX c kN
    obtain ⟨J2, K2, b1, b2, b3⟩ := tl.1 c kN
    rw [a1]
    exact ⟨I2, J2, K2, rfl, a2, a3, a4, a5, a6, b1, b2, b3⟩
  · left
    obtain ⟨I2, a1, a2⟩ := (x_pass (fu := fu) (w := 20) (L := L) hX).2 c
    rw [a1]
    exact ⟨I2, sI J1 334 t0 (nI (n + 1)), rfl, a2.d.1, a2.d.2, tl.2 c, by rw [sJ_ne (by omega)]; exact hm.2.2.2.1, fun o _ h2 _ => sJ_ne h2, fun i _ => by simp [sI_ap], fun y hy => by simp [sI_ap, show ¬ y = t0 by omega]⟩
theorem rc_deed {I : TI} {L : TL} {k q s : Nat} (hX : XS kd vl sp N I k q) (hs : s = 40 ∨ s = 41 ∨ s = 42 ∨ s = 43 ∨ s = 44 ∨ s = 30) (ek : kd k = nI s) : FO_R_readClause fu I L = if I 308 0 < 24 then ((FO_R_comeTo fu (I 307 8 + 1) I L).bind (fun u => FINX fu (FO_R_readDeed fu (nI s) u.2.1 u.2.2))) else ((FO_R_fail fu 6 I L).bind (fun u => if u.1 = 0 ∨ u.1 = 1 then some (u.1, u.2.1, u.2.2) else none)) := by
  have h9 : I 307 9 = nI s := hX.2.2.1.trans ek
  unfold FO_R_readClause
  rw [h9]
  rcases hs with rfl | rfl | rfl | rfl | rfl | rfl
  · rw [if_neg (show ¬ nI 40 = 38 by decide), if_neg (show ¬ nI 40 = 39 by decide), if_neg (show ¬ nI 40 = 30 by decide), if_pos (show (38 : Int32) ≤ nI 40 ∧ nI 40 ≤ 44 by decide)]; rfl
  · rw [if_neg (show ¬ nI 41 = 38 by decide), if_neg (show ¬ nI 41 = 39 by decide), if_neg (show ¬ nI 41 = 30 by decide), if_pos (show (38 : Int32) ≤ nI 41 ∧ nI 41 ≤ 44 by decide)]; rfl
  · rw [if_neg (show ¬ nI 42 = 38 by decide), if_neg (show ¬ nI 42 = 39 by decide), if_neg (show ¬ nI 42 = 30 by decide), if_pos (show (38 : Int32) ≤ nI 42 ∧ nI 42 ≤ 44 by decide)]; rfl
  · rw [if_neg (show ¬ nI 43 = 38 by decide), if_neg (show ¬ nI 43 = 39 by decide), if_neg (show ¬ nI 43 = 30 by decide), if_pos (show (38 : Int32) ≤ nI 43 ∧ nI 43 ≤ 44 by decide)]; rfl
  · rw [if_neg (show ¬ nI 44 = 38 by decide), if_neg (show ¬ nI 44 = 39 by decide), if_neg (show ¬ nI 44 = 30 by decide), if_pos (show (38 : Int32) ≤ nI 44 ∧ nI 44 ≤ 44 by decide)]; rfl
  · rw [if_neg (show ¬ nI 30 = 38 by decide), if_neg (show ¬ nI 30 = 39 by decide), if_pos (show nI 30 = 30 from rfl)]; rfl
theorem rc_law {I : TI} {L : TL} {k q so : Nat} (hX : XS kd vl sp N I k q) (hs : so ≤ 1) (ek : kd k = nI (38 + so)) : FO_R_readClause fu I L = if I 314 so = -1 then (if I 308 0 < 24 then ((FO_R_comeTo fu (I 307 8 + 1) I L).bind (fun u => FINX fu (FO_R_readLaw fu (nI (38 + so)) u.2.1 u.2.2))) else ((FO_R_fail fu 6 I L).bind (fun u => if u.1 = 0 ∨ u.1 = 1 then some (u.1, u.2.1, u.2.2) else none))) else ((FO_R_fail fu 4 I L).bind (fun u => if u.1 = 0 ∨ u.1 = 1 then some (u.1, u.2.1, u.2.2) else none)) := by
  have h9 : I 307 9 = nI (38 + so) := hX.2.2.1.trans ek
  unfold FO_R_readClause
  rw [h9]
  have : so = 0 ∨ so = 1 := by omega
  rcases this with rfl | rfl
  · rw [if_pos (show nI (38 + 0) = 38 from rfl), if_neg (show ¬ nI (38 + 0) = 30 by decide), if_pos (show (38 : Int32) ≤ nI (38 + 0) ∧ nI (38 + 0) ≤ 44 by decide)]
    unfold FO_T_rules
    rw [if_pos (show nI (38 + 0) = 38 from rfl)]
    by_cases c : I 314 0 = -1
    · rw [if_pos c, if_pos c]; rfl
    · rw [if_neg c, if_neg c]; rfl
  · rw [if_neg (show ¬ nI (38 + 1) = 38 by decide), if_pos (show nI (38 + 1) = 39 from rfl), if_neg (show ¬ nI (38 + 1) = 30 by decide), if_pos (show (38 : Int32) ≤ nI (38 + 1) ∧ nI (38 + 1) ≤ 44 by decide)]
    unfold FO_T_rules
    rw [if_neg (show ¬ nI (38 + 1) = 38 by decide)]
    by_cases c : I 314 1 = -1
    · rw [if_pos c, if_pos c]; rfl
    · rw [if_neg c, if_neg c]; rfl
theorem rc_none {I : TI} {L : TL} {k q : Nat} (hX : XS kd vl sp N I k q) (hn : ∀ s, (s = 30 ∨ (38 ≤ s ∧ s ≤ 44)) → ¬ kd k = nI s) : FO_R_readClause fu I L = (FO_R_fail fu 1 I L).bind (fun u => if u.1 = 0 ∨ u.1 = 1 then some (u.1, u.2.1, u.2.2) else none) := by
  have h9 : I 307 9 = kd k := hX.2.2.1
  unfold FO_R_readClause
  rw [h9, if_neg (show ¬ kd k = 38 from hn 38 (by omega)), if_neg (show ¬ kd k = 39 from hn 39 (by omega)), if_neg (show ¬ kd k = 30 from hn 30 (by omega)), if_neg]
  · intro z
    obtain ⟨j, hj, ej⟩ := rng (hi := 44) (by omega) (Int32.le_trans (by decide) z.1) z.2
    have hj3 : 38 ≤ j := (nI_leI (a := 38) (by omega) (by omega)).mp (by rw [← ej]; exact z.1)
    exact hn j (Or.inr ⟨hj3, hj⟩) ej
end
