/-! the two readings beside each other -/
theorem x_passN {kd vl sp : Nat → Int32} {N fu k q lo hi : Nat} {I : TI} {L : TL} (h : XS kd vl sp N I k q) : (kd k = 2 → k < N → nI lo ≤ vl k → vl k ≤ nI hi → ∃ I', FO_R_passNumber fu (nI lo) (nI hi) I L = some (1, I', L) ∧ XS kd vl sp N I' (k + 1) q ∧ FrX I I' ∧ CdX I I' 300) ∧ (kd k = 2 → ¬ (nI lo ≤ vl k ∧ vl k ≤ nI hi) → ∃ I', FO_R_passNumber fu (nI lo) (nI hi) I L = some (0, I', L) ∧ FlX I I' 2 (sp k)) ∧ (¬ kd k = 2 → ∃ I', FO_R_passNumber fu (nI lo) (nI hi) I L = some (0, I', L) ∧ FlX I I' 1 (sp k)) := by
  have h9 := h.2.2.1
  have h10 := h.2.2.2.1
  unfold FO_R_passNumber
  refine ⟨fun e hk h1 h2 => ?_, fun e h1 => ?_, fun e => ?_⟩
  · obtain ⟨I', a, b, c, d⟩ := x_come (fu := fu) (L := L) h hk
    rw [if_pos (h9.trans e), if_pos (by rw [h10]; exact ⟨h1, h2⟩), a]
    exact ⟨I', rfl, b, c, d⟩
  · obtain ⟨I', a, b⟩ := x_fail (fu := fu) (e := 2) (L := L) h
    rw [if_pos (h9.trans e), if_neg (by rw [h10]; exact h1), show (2 : Int32) = nI 2 from rfl, a]
    exact ⟨I', rfl, b⟩
  · obtain ⟨I', a, b⟩ := x_fail (fu := fu) (e := 1) (L := L) h
    rw [if_neg (by rw [h9]; exact e), show (1 : Int32) = nI 1 from rfl, a]
    exact ⟨I', rfl, b⟩
section
variable (kd vl sp tp : Nat → Int32) (en : Nat → Nat) (len N fu t0 so nn : Nat)
/-- both end with the same fault -/
def BadO (cl : Option (Int32 × TI × TL)) (I : TI) (L : TL) (J : TI) (K : TL) (k : Nat) : Prop :=
  ∃ (e kx c : Nat) (I' J' : TI) (K' : TL), cl = some (0, I', L) ∧ (1 ≤ e ∧ e ≤ 6) ∧ FlX I I' e (sp kx) ∧ c + k ≤ N + 1 ∧ (∀ f, LO_M_summed_15 fu (f + c) J K = some (nI e, J', K')) ∧ J' 331 8 = sp kx ∧ FrM J J' ∧ CdM t0 J J' 0
/-- both have read one -/
def OneO (cl : Option (Int32 × TI × TL)) (I : TI) (L : TL) (J : TI) (K : TL) (k kc q w m op d : Nat) : Prop :=
  ∃ (I' J' : TI) (K' : TL) (c k' q' w' wh : Nat), cl = some (1, I', L) ∧ XS kd vl sp N I' k' q' ∧ FrX I I' ∧ CdX I I' q ∧ (k < k' ∧ q' + k ≤ q + k' ∧ w' + k ≤ w + k' ∧ c + kc ≤ k' ∧ q ≤ q' ∧ w ≤ w') ∧ (∀ f, LO_M_summed_15 fu (f + c) J K = EO fu f J' K') ∧ MS kd vl sp tp en len t0 so J' K' k' w' m op wh ∧ FrM J J' ∧ CdM t0 J J' w ∧ PlM J J' m ∧ Seg nn (I' 312) (I' 313) (fun x => J' 334 (t0 + 73 + x)) q q' w w' d
/-- both have read a product (r = 6), a sum (r = 5); n wait in the model's pile -/
def VS (r : Nat) (I J : TI) (K : TL) (k q w m op d : Nat) (I' J' : TI) (K' : TL) (c k' q' w' n : Nat) : Prop :=
  XS kd vl sp N I' k' q' ∧ FrX I I' ∧ CdX I I' q ∧ (k < k' ∧ q' + k ≤ q + k' ∧ w' + n + k ≤ w + k' ∧ c + k ≤ k' ∧ n + r ≤ 7 ∧ w ≤ w' ∧ q ≤ q') ∧ (∀ f, LO_M_summed_15 fu (f + c) J K = LO_M_summed_15 fu f J' K') ∧ MS kd vl sp tp en len t0 so J' K' k' w' (m + n) op 1 ∧ FrM J J' ∧ CdM t0 J J' w ∧ PlM J J' m ∧ (∀ i, i < n → r ≤ rk (J' 336 (m + i)) ∧ rk (J' 336 (m + i)) ≤ 6) ∧ Seg nn (I' 312) (I' 313) (fun x => stl n J' 334 (t0 + 73 + x)) q q' w (w' + n) d
def ValO (P : Int32 → Prop) (r : Nat) (cl : Option (Int32 × TI × TL)) (I : TI) (L : TL) (J : TI) (K : TL) (k q w m op d : Nat) : Prop :=
  ∃ (I' J' : TI) (K' : TL) (c k' q' w' n : Nat), cl = some (1, I', L) ∧ VS kd vl sp tp en len N fu t0 so nn r I J K k q w m op d I' J' K' c k' q' w' n ∧ P (kd k')
/-- where a reading may begin -/
def Ent (I J : TI) (K : TL) (k q w m op b : Nat) : Prop := XS kd vl sp N I k q ∧ I 307 11 = nI (38 + so) ∧ MS kd vl sp tp en len t0 so J K k w m op 0 ∧ (q ≤ k ∧ w + m ≤ k ∧ m ≤ 16 * op + b ∧ op ≤ 8)
def NAsk (J : TI) : Prop := ∀ K : TL, FO_M_isAskAhead fu J K = some (0, J, K)
def OneOK (F : Int32 → TI → TL → Option (Int32 × TI × TL)) (op : Nat) : Prop :=
  ∀ I L J K k q w m, Ent kd vl sp tp en len N t0 so I J K k q w m op 12 → (kd k = 53 → NAsk fu J) → BadO sp N fu t0 (F (nI op) I L) I L J K k ∨ OneO kd vl sp tp en len N fu t0 so nn (F (nI op) I L) I L J K k k q w m op (7 * (8 - op) + 1)
def OpenOK (F : Int32 → Int32 → TI → TL → Option (Int32 × TI × TL)) (op : Nat) : Prop :=
  ∀ I L J K k q w m wc c, ((wc = 18 ∧ c = 40) ∨ (wc = 15 ∧ c = 5) ∨ (wc = 45 ∧ c = 41) ∨ (wc = 46 ∧ c = 2) ∨ (wc = 47 ∧ c = 42)) → XS kd vl sp N I (k + 1) q → I 307 11 = nI (38 + so) → MS kd vl sp tp en len t0 so J K (k + 1) w (m + 1) op 0 → (q ≤ k ∧ w + m ≤ k ∧ m + 4 ≤ 16 * op ∧ 1 ≤ op ∧ op ≤ 8) → J 336 m = nI c → BadO sp N fu t0 (F (nI wc) (nI op) I L) I L J K (k + 1) ∨ OneO kd vl sp tp en len N fu t0 so nn (F (nI wc) (nI op) I L) I L J K k (k + 1) q w m (op - 1) (7 * (8 - op) + 8)
def ValOK (P : Int32 → Prop) (r b : Nat) (F : Int32 → TI → TL → Option (Int32 × TI × TL)) (op : Nat) : Prop :=
  ∀ I L J K k q w m, Ent kd vl sp tp en len N t0 so I J K k q w m op b → (kd k = 53 → NAsk fu J) → (m = 0 ∨ (rk (J 336 (m - 1)) < r ∧ ¬ J 336 (m - 1) = 41)) → BadO sp N fu t0 (F (nI op) I L) I L J K k ∨ ValO kd vl sp tp en len N fu t0 so nn P r (F (nI op) I L) I L J K k q w m op (7 * (8 - op) + 8 - r)
end
theorem BadO.pre {sp : Nat → Int32} {N fu t0 : Nat} {cl cl1 : Option (Int32 × TI × TL)} {I I1 J J1 : TI} {L : TL} {K K1 : TL} {k k1 c0 : Nat} (b : BadO sp N fu t0 cl1 I1 L J1 K1 k1) (hf : FrX I I1) (hr : ∀ f, LO_M_summed_15 fu (f + c0) J K = LO_M_summed_15 fu f J1 K1) (hc : c0 + k ≤ k1) (fm : FrM J J1) (cm : CdM t0 J J1 0) (hcl : ∀ (I' : TI) (e : Nat) (s : Int32), cl1 = some (0, I', L) → FlX I1 I' e s → ∃ I'', cl = some (0, I'', L) ∧ FlX I1 I'' e s) : BadO sp N fu t0 cl I L J K k := by
  obtain ⟨e, kx, c, I', J', K', h1, h2, h3, h4, h5, h6, h7, h8⟩ := b
  obtain ⟨I'', g1, g2⟩ := hcl I' e (sp kx) h1 h3
  exact ⟨e, kx, c + c0, I'', J', K', g1, h2, g2.pre hf, by omega, fun f => by rw [← Nat.add_assoc, hr, h5], h6, fm.tr h7, cm.tr h8 (Nat.le_refl _)⟩
theorem BadO.leaf {sp : Nat → Int32} {N fu t0 e k1 c : Nat} {cl : Option (Int32 × TI × TL)} {I I1 I' J J' : TI} {L K K' : TL} {k : Nat} (hcl : cl = some (0, I', L)) (he : 1 ≤ e ∧ e ≤ 6) (hf : FrX I I1) (hx : FlX I1 I' e (sp k1)) (hc : c + k ≤ N + 1) (hm : ∀ f, LO_M_summed_15 fu (f + c) J K = some (nI e, J', K')) (hp : J' 331 8 = sp k1) (fm : FrM J J') (cm : CdM t0 J J' 0) : BadO sp N fu t0 cl I L J K k :=
  ⟨e, k1, c, I', J', K', hcl, he, hx.pre hf, hc, hm, hp, fm, cm⟩
section
variable {kd vl sp tp : Nat → Int32} {en : Nat → Nat} {len N fu t0 so nn : Nat}
theorem kd_lt {k q : Nat} {I : TI} {x : Int32} (hN : kd N = 0) (h : XS kd vl sp N I k q) (e : kd k = x) (hx : ¬ x = 0) : k < N := by
  have h5 : k ≤ N := h.2.2.2.2.2.2.2.2.1
  by_cases c : k = N
  · subst c; exact absurd (e.symm.trans hN) hx
  · omega
theorem open_case (hN : kd N = 0) (nx : NX kd vl sp tp en len N fu) {kO : Int32 → Int32 → TI → TL → Option (Int32 × TI × TL)} {I J : TI} {L K : TL} {k q w m op wc c : Nat} (hO : op < 8 → OpenOK kd vl sp tp en len N fu t0 so nn kO (op + 1)) (he : Ent kd vl sp tp en len N t0 so I J K k q w m op 12) (hwc : (wc = 18 ∧ c = 40) ∨ (wc = 15 ∧ c = 5) ∨ (wc = 45 ∧ c = 41) ∨ (wc = 46 ∧ c = 2) ∨ (wc = 47 ∧ c = 42)) (ek : kd k = nI wc) (eb : FO_M_beginOne fu J K = FO_M_opened fu (nI c) J K) {X : Option (Int32 × TI × TL)} (hX : X = if nI op < 8 then ((FO_R_comeTo fu (I 307 8 + 1) I L).bind (fun u => (kO (nI wc) (nI op + 1) u.2.1 u.2.2).bind (fun v => if v.1 = 0 ∨ v.1 = 1 then some (v.1, v.2.1, v.2.2) else none))) else ((FO_R_fail fu 3 I L).bind (fun u => if u.1 = 0 ∨ u.1 = 1 then some (u.1, u.2.1, u.2.2) else none))) : BadO sp N fu t0 X I L J K k ∨ OneO kd vl sp tp en len N fu t0 so nn X I L J K k k q w m op (7 * (8 - op) + 1) := by
  obtain ⟨hx, hl, hm, hq, hwm, hmb, hop⟩ := he
  have kN : k < N := kd_lt hN hx ek (by rcases hwc with ⟨rfl, _⟩ | ⟨rfl, _⟩ | ⟨rfl, _⟩ | ⟨rfl, _⟩ | ⟨rfl, _⟩ <;> decide)
  have hN3 : N ≤ 300 := hx.2.2.2.2.2.2.2.2.2
  subst hX
  by_cases c8 : op < 8
  · obtain ⟨I1, a1, a2, a3, a4⟩ := x_come (fu := fu) (L := L) hx kN
    obtain ⟨J1, K1, b1, b2, b3, b4, b5, b6⟩ := m_opened nx (c := nI c) hm kN c8 (by omega)
    have lo : ∀ f, LO_M_summed_15 fu (f + 1) J K = LO_M_summed_15 fu f J1 K1 := fun f => by rw [LO_b hm.2.2.2.2.2.1, eb, b1]; rfl
    have r := hO c8 I1 L J1 K1 k q w m wc c hwc a2 ((a3.2.1 11 (by omega) (by omega) (by omega) (by omega) (by omega)).trans hl) b2 ⟨hq, hwm, by omega, by omega, by omega⟩ b6
    rw [if_pos (show nI op < 8 from nI_lt (b := 8) c8 (by omega)), a1]
    simp only [Option.bind_some]
    rw [nI_1]
    rcases r with r | r
    · exact Or.inl (BadO.pre r a3 lo (by omega) b3 (fun x hx => b4 x (by omega)) (fun I' e s h1 h2 => ⟨I', by rw [h1]; rfl, h2⟩))
    · right
      obtain ⟨I', J', K', c', k', q', w', wh, h1, h2, h3, h4, h5, h6, h7, h8, h9, h10, h11⟩ := r
      refine ⟨I', J', K', c' + 1, k', q', w', wh, by rw [h1]; rfl, h2, a3.tr h3, fun j hj => ⟨((h4 j hj).1).trans (a4 j (by omega)).1, ((h4 j hj).2).trans (a4 j (by omega)).2⟩, by omega, fun f => by rw [show f + (c' + 1) = (f + c') + 1 by omega, lo, h6], h7, b3.tr h8, fun x hx => (h9 x hx).trans (b4 x (by omega)), fun i hi => (h10 i hi).trans (b5 i hi), ?_⟩
      exact h11.cg (fun _ _ _ => ⟨rfl, rfl⟩) (fun _ _ _ => rfl) (by omega)
  · have h8 : op = 8 := by omega
    subst h8
    obtain ⟨I1, a1, a2⟩ := x_fail (fu := fu) (e := 3) (L := L) hx
    left
    rw [if_neg (show ¬ nI 8 < 8 by decide), show (3 : Int32) = nI 3 from rfl, a1]
    refine BadO.leaf (e := 3) (c := 1) (k1 := k) (J' := J) (K' := K) rfl (by omega) FrX.rf a2 (by omega) (fun f => ?_) hm.1.2.2.2.1 FrM.rf CdM.rf
    rw [LO_b hm.2.2.2.2.2.1, eb, m_full hm]
    exact CT_e (fu := fu) (f := f) (e := 3) (by omega) (by omega)
theorem t_one (hN : kd N = 0) (nx : NX kd vl sp tp en len N fu) (ht : t0 ≤ 2043) (hso : so ≤ 1) (hnn : nn = if so = 0 then 8 else 3) {kO : Int32 → Int32 → TI → TL → Option (Int32 × TI × TL)} {kA : Int32 → TI → TL → Option (Int32 × TI × TL)} {op : Nat} (hO : op < 8 → OpenOK kd vl sp tp en len N fu t0 so nn kO (op + 1)) : OneOK kd vl sp tp en len N fu t0 so nn (fun p I L => FO_R_one fu kO kA p I L) op := by
  intro I L J K k q w m he hna
  have he' := he
  obtain ⟨hx, hl, hm, hq, hwm, hmb, hop⟩ := he
  have h9 : I 307 9 = kd k := hx.2.2.1
  have h10 : I 307 10 = vl k := hx.2.2.2.1
  have hN3 : N ≤ 300 := hx.2.2.2.2.2.2.2.2.2
  have hkN : k ≤ N := hx.2.2.2.2.2.2.2.2.1
  have h18 := hm.2.2.2.2.2.1
  dsimp only
  unfold FO_R_one
  rw [h9, h10]
  by_cases c2 : kd k = 2
  · have kN : k < N := kd_lt hN hx c2 (by decide)
    obtain ⟨I1, a1, a2, a3, a4, a5, a6⟩ := x_add (fu := fu) (c := 2) (a := vl k) (L := L) hx (by omega)
    rw [if_pos c2, a1]
    simp only [Option.bind_some]
    rcases b_num nx hm kN (by omega) c2 with ⟨v, J', K', hv, ev, eb, ms, fr, cm, pl, g1, g2⟩ | ⟨ev, eb⟩
    · right
      obtain ⟨I2, d1, d2, d3, d4⟩ := (x_passN (fu := fu) (lo := 0) (hi := 9999) (L := L) a2).1 c2 kN (by rw [ev]; exact nI_le (by omega) (by omega)) (by rw [ev]; exact nI_le hv (by omega))
      rw [show (0 : Int32) = nI 0 from rfl, show (9999 : Int32) = nI 9999 from rfl, d1]
      refine ⟨I2, J', K', 1, k + 1, q + 1, w + 1, 0, rfl, d2, a3.tr d3, a4.tr d4 (by omega), by omega, fun f => by rw [LO_b h18, eb]; rfl, ms, fr, cm, fun i hi => pl i (by omega), ?_⟩
      refine (Seg.num (x := v) hv (by rw [(d4 q (by omega)).1, a5]) (by rw [(d4 q (by omega)).2, a6, ev]) ?_ ?_).cg (fun _ _ _ => ⟨rfl, rfl⟩) (fun _ _ _ => rfl) (by omega)
      · exact g1
      · exact g2
    · left
      obtain ⟨I2, d1, d2⟩ := (x_passN (fu := fu) (lo := 0) (hi := 9999) (L := L) a2).2.1 c2 (by rw [ev]; exact fun z => absurd z.2 (by decide))
      rw [show (0 : Int32) = nI 0 from rfl, show (9999 : Int32) = nI 9999 from rfl, d1]
      refine BadO.leaf (e := 2) (c := 1) (k1 := k) (J' := J) (K' := K) rfl (by omega) a3 d2 (by omega) (fun f => ?_) hm.1.2.2.2.1 FrM.rf CdM.rf
      rw [LO_b h18, eb]
      exact CT_e (fu := fu) (f := f) (e := 2) (by omega) (by omega)
  · rw [if_neg c2]
    by_cases cn : (30 : Int32) ≤ kd k ∧ kd k ≤ 37
    · rw [if_pos cn]
      obtain ⟨j, hj, ej⟩ := rng (hi := 37) (by omega) (Int32.le_trans (by decide) cn.1) cn.2
      have hj3 : 30 ≤ j := (nI_leI (a := 30) (by omega) (by omega)).mp (by rw [← ej]; exact cn.1)
      obtain ⟨i, rfl⟩ : ∃ i, j = 30 + i := ⟨j - 30, by omega⟩
      have kN : k < N := kd_lt hN hx ej (nI_ne0 (by omega) (by omega))
      have bn := b_name nx hm kN (by omega) hso (show i < 8 by omega) ej
      have e30 : nI (30 + i) - 30 = nI i := by rw [show (30 : Int32) = nI 30 from rfl, pk_sub (by omega), show 30 + i - 30 = i by omega]
      have good : (so = 0 ∨ i < 3) → OneO kd vl sp tp en len N fu t0 so nn ((FO_T_addCode fu 60 (kd k - 30) I L).bind (fun u28 => (FO_R_comeTo fu (u28.2.1 307 8 + 1) u28.2.1 u28.2.2).bind (fun u29 => some ((1 : Int32), u29.2.1, u29.2.2)))) I L J K k k q w m op (7 * (8 - op) + 1) := by
        intro hg
        obtain ⟨J', K', eb, ms, fr, cm, pl, g1, g2⟩ := bn.1 hg
        obtain ⟨I1, a1, a2, a3, a4, a5, a6⟩ := x_add (fu := fu) (c := 60) (a := kd k - 30) (L := L) hx (by omega)
        obtain ⟨I2, d1, d2, d3, d4⟩ := x_come (fu := fu) (L := L) a2 kN
        rw [a1]
        simp only [Option.bind_some]
        rw [d1]
        refine ⟨I2, J', K', 1, k + 1, q + 1, w + 1, 0, rfl, d2, a3.tr d3, a4.tr d4 (by omega), by omega, fun f => by rw [LO_b h18, eb]; rfl, ms, fr, cm, fun i hi => pl i (by omega), ?_⟩
        refine (Seg.name (x := i) (by rw [hnn]; split <;> omega) (by rw [hnn]; split <;> omega) (by rw [(d4 q (by omega)).1, a5]) (by rw [(d4 q (by omega)).2, a6, ej, e30]) ?_ ?_).cg (fun _ _ _ => ⟨rfl, rfl⟩) (fun _ _ _ => rfl) (by omega)
        · exact g1
        · exact g2
      rw [hl]
      by_cases s0 : so = 0
      · rw [if_neg (show ¬ nI (38 + so) = 39 by rw [s0]; decide)]
        exact Or.inr (good (Or.inl s0))
      · have s1 : so = 1 := by omega
        rw [if_pos (show nI (38 + so) = 39 by rw [s1]; rfl)]
        by_cases i3 : i < 3
        · rw [if_pos (show kd k < 33 by rw [ej]; exact nI_lt (b := 33) (by omega) (by omega))]
          exact Or.inr (good (Or.inr i3))
        · left
          obtain ⟨I1, a1, a2⟩ := x_fail (fu := fu) (e := 5) (L := L) hx
          rw [if_neg (show ¬ kd k < 33 by rw [ej]; exact nI_nlt (b := 33) (by omega) (by omega)), show (5 : Int32) = nI 5 from rfl, a1]
          refine BadO.leaf (e := 5) (c := 1) (k1 := k) (J' := J) (K' := K) rfl (by omega) FrX.rf a2 (by omega) (fun f => ?_) hm.1.2.2.2.1 FrM.rf CdM.rf
          rw [LO_b h18, bn.2 ⟨s1, by omega⟩]
          exact CT_e (fu := fu) (f := f) (e := 5) (by omega) (by omega)
    · rw [if_neg cn]
      have bo := b_open (fu := fu) hm
      by_cases c18 : kd k = 18
      · rw [if_pos c18]
        exact open_case (wc := 18) (c := 40) hN nx hO he' (by omega) c18 (bo.1 c18) (by rw [c18]; rfl)
      · rw [if_neg c18]
        by_cases c15 : kd k = 15
        · rw [if_pos c15]
          exact open_case (wc := 15) (c := 5) hN nx hO he' (by omega) c15 (bo.2.1 c15) (by rw [c15]; rfl)
        · rw [if_neg c15]
          by_cases c45 : kd k = 45
          · rw [if_pos c45]
            exact open_case (wc := 45) (c := 41) hN nx hO he' (by omega) c45 (bo.2.2.1 c45) (by rw [c45]; rfl)
          · rw [if_neg c45]
            by_cases c46 : kd k = 46
            · rw [if_pos c46]
              exact open_case (wc := 46) (c := 2) hN nx hO he' (by omega) c46 (bo.2.2.2.1 c46) (by rw [c46]; rfl)
            · rw [if_neg c46]
              by_cases c47 : kd k = 47
              · rw [if_pos c47]
                exact open_case (wc := 47) (c := 42) hN nx hO he' (by omega) c47 (bo.2.2.2.2.1 c47) (by rw [c47]; rfl)
              · rw [if_neg c47]
                left
                obtain ⟨I1, a1, a2⟩ := x_fail (fu := fu) (e := 1) (L := L) hx
                have eb : FO_M_beginOne fu J K = some (1, J, K) := by
                  by_cases c53 : kd k = 53
                  · rw [bo.2.2.2.2.2.1 c53, hna c53 K]
                    rfl
                  · exact bo.2.2.2.2.2.2 c2 (fun i hi z => cn (by rw [z]; exact ⟨nI_le (a := 30) (by omega) (by omega), nI_le (b := 37) (by omega) (by omega)⟩)) c18 c15 c45 c46 c47 c53
                rw [show (1 : Int32) = nI 1 from rfl, a1]
                refine BadO.leaf (e := 1) (c := 1) (k1 := k) (J' := J) (K' := K) rfl (by omega) FrX.rf a2 (by omega) (fun f => ?_) hm.1.2.2.2.1 FrM.rf CdM.rf
                rw [LO_b h18, eb]
                exact CT_e (fu := fu) (f := f) (e := 1) (by omega) (by omega)
end
