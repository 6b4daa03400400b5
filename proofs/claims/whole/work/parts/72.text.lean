/-! text -/
theorem SR.set_tx {A : TI} {c : Nat → Int32} (h : SR A c) {t : Nat} (ht : t < 4) (h6 : A 0 6 = nI t) : SR (uA A 0 6 (nI (t + 1))) (upd c 1 (nI (t + 1))) := by
  refine ⟨SR.n0_cg (A := A) (c := c) rfl (fun i h1 h2 => by rw [pk_un (by omega)]) h.n0, ?_, ?_, SR.st_cg (A := A) (c := c) rfl rfl (fun i h1 h2 => by rw [pk_un (by omega)]) h.st, SR.so_cg (A := A) (c := c) rfl (fun i h1 h2 => by rw [pk_un (by omega)]) h.so, SR.wo_cg (A := A) (c := c) rfl (fun i h1 h2 => by rw [pk_un (by omega)]) h.wo, SR.sa_cg (A := A) (c := c) rfl (fun i h1 h2 => by rw [pk_un (by omega)]) h.sa, SR.ho_cg (A := A) (c := c) (fun _ _ => rfl) (fun _ _ => rfl) (fun _ _ => rfl) (fun _ _ => rfl) (fun i h1 h2 => by rw [pk_un (by omega)]) (fun i h1 h2 => by rw [pk_un (by omega)]) h.ho, SR.we_cg (A := A) (c := c) (fun _ _ => rfl) (fun i h1 h2 => by rw [pk_un (by omega)]) h.we, SR.fl_cg (A := A) (c := c) (fun _ _ => rfl) (fun i h1 h2 => by rw [pk_un (by omega)]) h.fl, SR.pr_cg (A := A) (c := c) (fun _ _ => rfl) (fun i h1 h2 => by rw [pk_un (by omega)]) h.pr, SR.ch_cg (A := A) (c := c) (fun _ _ => rfl) (fun i h1 h2 => by rw [pk_un (by omega)]) h.ch, SR.sn_cg (A := A) (c := c) (fun _ _ => rfl) (fun i h1 h2 => by rw [pk_un (by omega)]) h.sn, SR.li_cg (A := A) (c := c) (fun _ _ => rfl) (fun i h1 h2 => by rw [pk_un (by omega)]) h.li, SR.wd_cg (A := A) (c := c) rfl (fun _ _ => rfl) (fun i h1 h2 => by rw [pk_un (by omega)]) h.wd, SR.he_cg (A := A) (c := c) (fun _ _ => rfl) (fun i h1 h2 => by rw [pk_un (by omega)]) h.he, SR.sd_cg (A := A) (c := c) rfl rfl (fun _ _ => rfl) (fun i h1 h2 => by rw [pk_un (by omega)]) h.sd, SR.ke_cg (A := A) (c := c) rfl rfl (fun i hi => ⟨(fun _ _ => by rw [uA_ne (by omega)]), (fun _ _ => by rw [uA_ne (by omega)]), (fun _ _ => by rw [uA_ne (by omega)]), (fun _ _ => by rw [uA_ne (by omega)])⟩) (fun i h1 h2 => by rw [pk_un (by omega)]) h.ke⟩
  · exact ⟨rfl, t + 1, by omega, rfl⟩
  · obtain ⟨r1, r2, r3⟩ := h.ru
    refine ⟨by rw [pk_un (by omega)]; exact r1, r2, ?_⟩
    rw [h6] at r3
    exact Int32.lt_of_lt_of_le r3 (nI_le (by omega) (by omega))
theorem nx_ok {fu len N : Nat} {τ : Nat → Nat} {tp kd vl sp : Nat → Int32} (hfu : 2000 ≤ fu) (hlen : len ≤ 300) (htp : ∀ k, k < len → tp k = nI (τ k) ∧ τ k ≤ 255) (hk : ∀ j, j ≤ N → kd j = nI (tkK τ len (sT τ len j)) ∧ vl j = nI (tkV τ len (sT τ len j)) ∧ sp j = nI (sT τ len j)) (hlt : ∀ j, j < N → sT τ len j < len) : NX kd vl sp tp (fun k => tkE τ len (sT τ len k)) len N fu := by
  intro J K k hkN h
  obtain ⟨m1, m2, m3, m4, m5⟩ := h
  have hm : MTap J τ len := ⟨hlen, m1, fun k hk => by rw [m2]; exact htp k hk⟩
  obtain ⟨J', K', r1, r2, r3, r4, r5⟩ := nt_ok (K := K) hfu hm (tkE_b (hlt k hkN)).2 m3
  obtain ⟨k1, k2, k3⟩ := hk (k + 1) (by omega)
  refine ⟨J', K', r1, ⟨(r5.2 4 (by omega) (by omega) (by omega) (by omega)).trans m1, (r5.1 335 (by omega)).trans m2, r2, ?_, ?_⟩, r5⟩
  · rw [k3]; exact r3
  · rw [k1, k2]; exact r4
/-- a text is read by both -/
theorem txt_both {fu t len : Nat} {I J : TI} {L K : TL} (hfu : 2000 ≤ fu) (ht4 : t < 4) (hlen : len ≤ 300) (e4 : J 331 4 = nI len) (hj : J 332 1 = nI t) (htape : ∀ k, k < len → J 335 k = I 306 k ∧ bd (I 306 k) 255) :
    (∃ (e : Nat) (I' J' : TI) (K' : TL), FO_R_read fu (nI len) I L = some (0, I', L) ∧ FO_M_readText fu J K = some (nI e, J', K') ∧ (1 ≤ e ∧ e ≤ 6) ∧ (I' 307 0 = 1 ∧ I' 307 1 = nI e ∧ I' 307 2 = J' 331 8) ∧ (∀ o, ¬ (307 ≤ o ∧ o ≤ 318) → I' o = I o) ∧ (∀ o, o ≠ 331 → o ≠ 334 → o ≠ 336 → J' o = J o) ∧ J' 331 23 = J 331 23 ∧ (∀ x, x < 681 * t → J' 334 x = J 334 x)) ∨
    (∃ (I' J' : TI) (K' : TL) (n q w : Nat), FO_R_read fu (nI len) I L = some (1, I', L) ∧ FO_M_readText fu J K = some (0, J', K') ∧ (I' 307 0 = 1 ∧ I' 307 1 = 0 ∧ I' 307 2 = -1) ∧ (∀ o, ¬ (307 ≤ o ∧ o ≤ 318) → I' o = I o) ∧ (∀ o, o ≠ 331 → o ≠ 334 → o ≠ 336 → J' o = J o) ∧ J' 331 23 = J 331 23 ∧ (∀ x, x < 681 * t → J' 334 x = J 334 x) ∧ (n ≤ 24 ∧ q ≤ 300 ∧ w ≤ 300) ∧ I' 308 0 = nI n ∧ J' 334 (681 * t) = nI n ∧ (∀ i, i < n → CLR (I' 309 i) (I' 310 i) (I' 311 i) (J' 334 (681 * t + (1 + 3 * i))) (J' 334 (681 * t + (2 + 3 * i))) (J' 334 (681 * t + (3 + 3 * i)))) ∧ LWd (681 * t) 8 0 I' J' n q w ∧ LWd (681 * t) 3 1 I' J' n q w) := by
  obtain ⟨τ, hτ⟩ : ∃ τ : Nat → Nat, ∀ k, k < len → I 306 k = nI (τ k) ∧ τ k ≤ 255 := ⟨fun k => (I 306 k).toNatClampNeg, fun k hk => by
    obtain ⟨m, h1, h2⟩ := (htape k hk).2
    dsimp only
    rw [h2, nI_clamp (by omega)]
    exact ⟨rfl, h1⟩⟩
  obtain ⟨Ib, hIb⟩ : ∃ Ib : TI, Ib = va_up (sI (sI (sI (sI (sI I 307 0 1) 307 1 0) 307 2 (-1)) 308 0 0) 308 4 0) 314 (fillF ((sI (sI (sI (sI (sI I 307 0 1) 307 1 0) 307 2 (-1)) 308 0 0) 308 4 0) 314) (-1) 2) := ⟨_, rfl⟩
  have b_ne : ∀ o, o ≠ 307 → o ≠ 308 → o ≠ 314 → Ib o = I o := fun o h1 h2 h3 => by
    rw [hIb, vu_ne h3, sJ_ne h2, sJ_ne h2, sJ_ne h1, sJ_ne h1, sJ_ne h1]
  have b307 : Ib 307 0 = 1 ∧ Ib 307 1 = 0 ∧ Ib 307 2 = -1 := by
    rw [hIb, vu_ne (by omega)]
    simp [sI_ap]
  have b308 : Ib 308 0 = 0 ∧ Ib 308 4 = 0 := by
    rw [hIb, vu_ne (by omega)]
    simp [sI_ap]
  have b314 : Ib 314 0 = -1 ∧ Ib 314 1 = -1 := by
    rw [hIb, vu_at]
    exact ⟨rfl, rfl⟩
  have tap : Tap (sI Ib 307 7 0) τ len := ⟨hlen, fun k hk => by rw [sJ_ne (by omega), b_ne 306 (by omega) (by omega) (by omega)]; exact hτ k hk⟩
  obtain ⟨N, Id, c1, c2, c3, c4, c5⟩ := x_cut (fu := fu) (L := L) hfu tap 300 0 0 fu 0 (sI Ib 307 7 0) (by omega) (by omega) (by omega) (by omega) (by omega) rfl (fun j hj => by omega) ⟨by simp [sI_ap]; rfl, fun j hj => by omega, fun _ _ _ _ _ => rfl, fun _ _ => rfl⟩
  obtain ⟨d7, drow, dne, d307⟩ := c5
  have hk : ∀ j, j ≤ N → Id 316 j = nI (tkK τ len (sT τ len j)) ∧ Id 317 j = nI (tkV τ len (sT τ len j)) ∧ Id 318 j = nI (sT τ len j) := fun j hj => drow j (by omega)
  have hN0 : Id 316 N = 0 := by rw [(hk N (Nat.le_refl _)).1, c3, show tkK τ len len = 0 from by unfold tkK; rw [if_pos (Nat.le_refl _)]]; rfl
  have htp : ∀ k, k < len → J 335 k = nI (τ k) ∧ τ k ≤ 255 := fun k hk => by rw [(htape k hk).1]; exact hτ k hk
  have nx := nx_ok (fu := fu) (tp := J 335) hfu hlen htp hk c4
  have id3 : ∀ i, i ≠ 7 → Id 307 i = Ib 307 i := fun i hi => by rw [d307 i hi]; simp [sI_ap, hi]
  have idn : ∀ o, o ≠ 307 → o ≠ 316 → o ≠ 317 → o ≠ 318 → Id o = Ib o := fun o h1 h2 h3 h4 => by rw [dne o h1 h2 h3 h4, sJ_ne h1]
  have come : FO_R_comeTo fu 0 Id L = some ((), sI (sI (sI Id 307 8 0) 307 9 (Id 316 0)) 307 10 (Id 317 0), L) := by
    unfold FO_R_comeTo
    have em : F_J_max Id 0 (F_J_min Id 0 300) = 0 := by unfold F_J_max F_J_min; rfl
    rw [em, d7, if_neg (show ¬ nI (N + 1) ≤ 0 from nI_ge (a := 0) (by omega) (by omega)), if_pos (show (0 : Int32) ≤ 0 ∧ (0 : Int32) < 301 by decide), if_neg (show ¬ nI (N + 1) ≤ 0 from nI_ge (a := 0) (by omega) (by omega)), if_pos (show (0 : Int32) ≤ 0 ∧ (0 : Int32) < 301 by decide)]
    rfl
  obtain ⟨Ie, hIe⟩ : ∃ Ie : TI, Ie = sI (sI (sI Id 307 8 0) 307 9 (Id 316 0)) 307 10 (Id 317 0) := ⟨_, rfl⟩
  rw [← hIe] at come
  have ene : ∀ o, o ≠ 307 → Ie o = Id o := fun o h => by rw [hIe, sJ_ne h, sJ_ne h, sJ_ne h]
  have e307 : ∀ i, i ≠ 8 → i ≠ 9 → i ≠ 10 → Ie 307 i = Id 307 i := fun i a b c => by rw [hIe]; simp [sI_ap, a, b, c]
  have hXS : XS (Id 316) (Id 317) (Id 318) N Ie 0 0 := by
    refine ⟨⟨?_, ?_, ?_⟩, ?_, ?_, ?_, ?_, ene 316 (by omega), ene 317 (by omega), ene 318 (by omega), by omega, by omega⟩
    · rw [e307 7 (by omega) (by omega) (by omega)]; exact d7
    · rw [e307 1 (by omega) (by omega) (by omega), id3 1 (by omega)]; exact b307.2.1
    · rw [e307 2 (by omega) (by omega) (by omega), id3 2 (by omega)]; exact b307.2.2
    · rw [hIe]; simp [sI_ap]; rfl
    · rw [hIe]; simp [sI_ap]
    · rw [hIe]; simp [sI_ap]
    · rw [ene 308 (by omega), idn 308 (by omega) (by omega) (by omega) (by omega)]; exact b308.2
  obtain ⟨J1, hJ1⟩ : ∃ J1 : TI, J1 = sI (sI (sI (sI (sI J 331 12 (nI (681 * t))) 334 (681 * t) 0) 331 13 0) 331 19 0) 331 7 0 := ⟨_, rfl⟩
  have j_ne : ∀ o, o ≠ 331 → o ≠ 334 → J1 o = J o := fun o h1 h2 => by rw [hJ1, sJ_ne h1, sJ_ne h1, sJ_ne h1, sJ_ne h2, sJ_ne h1]
  have mt1 : MTap J1 τ len := ⟨hlen, by rw [hJ1]; simp [sI_ap]; exact e4, fun k hk => by rw [j_ne 335 (by omega) (by omega)]; exact htp k hk⟩
  obtain ⟨J2, K2, r1, r2, r3, r4, r5⟩ := nt_ok (i := 0) (K := K) hfu mt1 (by omega) (by rw [hJ1]; simp [sI_ap]; rfl)
  have s0 : rn isBb τ len 0 = sT τ len 0 := rfl
  have hMK : MK (Id 316) (Id 317) (Id 318) (J 335) (fun k => tkE τ len (sT τ len k)) len J2 K2 0 := by
    obtain ⟨k1, k2, k3⟩ := hk 0 (by omega)
    refine ⟨by rw [r5.2 4 (by omega) (by omega) (by omega) (by omega)]; exact mt1.2.1, by rw [r5.1 335 (by omega), j_ne 335 (by omega) (by omega)], r2, ?_, ?_⟩
    · rw [k3]; exact r3
    · rw [k1, k2]; exact r4
  have q331 : ∀ i, i ≠ 7 → i ≠ 8 → i ≠ 9 → i ≠ 10 → i ≠ 12 → i ≠ 13 → i ≠ 19 → J2 331 i = J 331 i := fun i a b c d e f g => by rw [r5.2 i a b c d, hJ1]; simp [sI_ap, a, e, f, g]
  have q334 : ∀ x, x ≠ 681 * t → J2 334 x = J 334 x := fun x hx => by rw [r5.1 334 (by omega), hJ1]; simp [sI_ap, hx]
  have i314 : Ie 314 = Ib 314 := by rw [ene 314 (by omega), idn 314 (by omega) (by omega) (by omega) (by omega)]
  have hCS : CS (Id 316) (Id 317) (Id 318) (J 335) (fun k => tkE τ len (sT τ len k)) len N (681 * t) Ie J2 K2 0 0 0 0 := by
    refine ⟨hXS, hMK, ?_, ?_, by omega, ?_, ?_, fun i hi => by omega, Or.inl ⟨by rw [i314]; exact b314.1, fun k hk => by omega⟩, Or.inl ⟨by rw [i314]; exact b314.2, fun k hk => by omega⟩, 0, 0, by omega, by omega, ?_, ⟨fun _ => by rw [i314]; exact b314.1, fun _ => rfl⟩, ⟨fun _ => by rw [i314]; exact b314.2, fun _ => rfl⟩⟩
    · rw [r5.2 12 (by omega) (by omega) (by omega) (by omega), hJ1]; simp [sI_ap]
    · rw [r5.2 13 (by omega) (by omega) (by omega) (by omega), hJ1]; simp [sI_ap]; rfl
    · rw [ene 308 (by omega), idn 308 (by omega) (by omega) (by omega) (by omega)]; exact b308.1
    · rw [r5.1 334 (by omega), hJ1]; simp [sI_ap]; rfl
    · rw [r5.2 19 (by omega) (by omega) (by omega) (by omega), hJ1]; simp [sI_ap]; rfl
  have eRead : FO_R_read fu (nI len) I L = LO_R_read_43 fu fu (nI len) 1 (nI 0) Ie L := by
    have em : F_J_min Ib (nI len) 300 = nI len := by
      unfold F_J_min
      rw [if_neg (show ¬ (300 : Int32) < nI len from nI_nlt (a := 300) hlen (by omega))]
    have ee : FO_T_empty fu (sI (sI (sI I 307 0 1) 307 1 0) 307 2 (-1)) L = some ((), Ib, L) := by rw [hIb]; rfl
    unfold FO_R_read
    rw [ee]
    simp only [Option.bind_some]
    rw [em, show FO_R_cutTokens fu (nI len) Ib L = some ((), Id, L) from c1]
    simp only [Option.bind_some]
    rw [come]
    rfl
  have eText : FO_M_readText fu J K = LO_M_readText_43 fu fu J2 K2 := by
    unfold FO_M_readText
    rw [hj, l681', if_pos (show (0 : Int32) ≤ nI (681 * t) ∧ nI (681 * t) < 2724 from ib (n := 2724) rfl (by omega) (by omega)), nI_clamp (show 681 * t < 2 ^ 31 by omega), ← hJ1, r1]
    rfl
  have fI : ∀ (I' : TI), FrD Ie I' → (∀ o, ¬ (307 ≤ o ∧ o ≤ 318) → I' o = I o) ∧ I' 307 0 = 1 := fun I' h => by
    refine ⟨fun o ho => ?_, ?_⟩
    · rw [h.1 o (by omega), ene o (by omega), idn o (by omega) (by omega) (by omega) (by omega), b_ne o (by omega) (by omega) (by omega)]
    · rw [h.2, e307 0 (by omega) (by omega) (by omega), id3 0 (by omega)]; exact b307.1
  have fJ : ∀ (J' : TI), FrC (681 * t) J2 J' → (∀ o, o ≠ 331 → o ≠ 334 → o ≠ 336 → J' o = J o) ∧ J' 331 23 = J 331 23 ∧ (∀ x, x < 681 * t → J' 334 x = J 334 x) := fun J' h => by
    refine ⟨fun o h1 h2 h3 => by rw [h.1 o h1 h2 h3, r5.1 o h1, j_ne o h1 h2], ?_, fun x hx => by rw [h.2.2 x hx, q334 x (by omega)]⟩
    rw [h.2.1 23 (by omega), q331 23 (by omega) (by omega) (by omega) (by omega) (by omega) (by omega) (by omega)]
  rw [eRead, eText]
  rcases t_read (L := L) (p1 := nI len) hN0 nx hfu (show 681 * t ≤ 2043 by omega) 300 fu fu 0 Ie J2 K2 0 0 0 0 hCS (by omega) (by omega) (by omega) (by omega) with ⟨e, kx, I', J', K', g1, g2, g3, g4, g5, g6, g7⟩ | ⟨I', J', K', k', q', w', n', g1, g2, g3, g4, g5⟩
  · left
    exact ⟨e, I', J', K', g1, g5, g2, ⟨(fI I' g3).2, g4.1, by rw [g4.2, g6]⟩, (fI I' g3).1, (fJ J' g7).1, (fJ J' g7).2.1, (fJ J' g7).2.2⟩
  · right
    obtain ⟨x1, x2, x3, x4, x5, x6, x7, x8, x9, x10, x11⟩ := g5
    have hk' : k' ≤ N := x1.2.2.2.2.2.2.2.2.1
    exact ⟨I', J', K', n', q', w', g1, g3, ⟨(fI I' g2).2, x1.1.2.1, x1.1.2.2⟩, (fI I' g2).1, (fJ J' g4).1, (fJ J' g4).2.1, (fJ J' g4).2.2, by omega, x6, x7, x8, x9, x10⟩
