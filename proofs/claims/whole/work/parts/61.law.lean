section
variable {kd vl sp tp : Nat → Int32} {en : Nat → Nat} {len N fu t0 so nn : Nat}
/-- the sum of a law, read by both -/
theorem t_law (hN : kd N = 0) (nx : NX kd vl sp tp en len N fu) (hfu : 2000 ≤ fu) (ht : t0 ≤ 2043) (hso : so ≤ 1) (hnn : nn = if so = 0 then 8 else 3) {I J : TI} {L K : TL} {k q w : Nat} (hx : XS kd vl sp N I k q) (hl : I 307 11 = nI (38 + so)) (hm : MK kd vl sp tp en len J K k) (h12 : J 331 12 = nI t0) (h13 : J 331 13 = nI w) (h14 : J 331 14 = nI so) (hb : q ≤ k ∧ w ≤ k) :
    (∃ (e kx : Nat) (I' J' : TI) (K' : TL), FO_R_sum fu (RP fu 9).1 (RP fu 9).2 0 I L = some (0, I', L) ∧ (1 ≤ e ∧ e ≤ 6) ∧ FlX I I' e (sp kx) ∧ FO_M_summed fu J K = some (nI e, J', K') ∧ J' 331 8 = sp kx ∧ FrM J J' ∧ CdM t0 J J' 0) ∨
    (∃ (I' J' : TI) (K' : TL) (k' q' w' : Nat), FO_R_sum fu (RP fu 9).1 (RP fu 9).2 0 I L = some (1, I', L) ∧ XS kd vl sp N I' k' q' ∧ FrX I I' ∧ CdX I I' q ∧ (k < k' ∧ q' + k ≤ q + k' ∧ w' + k ≤ w + k' ∧ q ≤ q' ∧ w ≤ w') ∧ FO_M_summed fu J K = some (0, J', K') ∧ MK kd vl sp tp en len J' K' k' ∧ J' 331 13 = nI w' ∧ FrM J J' ∧ CdM t0 J J' w ∧ Seg nn (I' 312) (I' 313) (fun x => J' 334 (t0 + 73 + x)) q q' w w' 79) := by
  have hN3 : N ≤ 300 := hx.2.2.2.2.2.2.2.2.2
  have hkN : k ≤ N := hx.2.2.2.2.2.2.2.2.1
  have hs := (t_all (kd := kd) (vl := vl) (sp := sp) (tp := tp) (en := en) (len := len) (nn := nn) (so := so) hN nx hfu ht hso hnn 8 0 rfl).2.1
  have f0 : FrM J (sI (sI (sI J 331 16 0) 331 17 0) 331 18 0) := ⟨fun o a _ _ => by rw [sJ_ne a, sJ_ne a, sJ_ne a], fun i _ _ _ _ _ a b c => by simp [sI_ap, a, b, c]⟩
  have c0 : ∀ w, CdM t0 J (sI (sI (sI J 331 16 0) 331 17 0) 331 18 0) w := fun w x _ => by rw [sJ_ne (by omega), sJ_ne (by omega), sJ_ne (by omega)]
  have ms : MS kd vl sp tp en len t0 so (sI (sI (sI J 331 16 0) 331 17 0) 331 18 0) K k w 0 0 0 := ⟨hm.cg (fun i _ _ _ a b c => by simp [sI_ap, a, b, c]) (by rw [sJ_ne (by omega), sJ_ne (by omega), sJ_ne (by omega)]), by simp [sI_ap, h12], by simp [sI_ap, h13], by simp [sI_ap]; rfl, by simp [sI_ap]; rfl, by simp [sI_ap]; rfl, by simp [sI_ap, h14]⟩
  have ho : OpN (sI (sI (sI J 331 16 0) 331 17 0) 331 18 0) 0 (-1) := Or.inl ⟨rfl, fun i hi => by omega⟩
  unfold FO_M_summed
  rcases hs I L _ K k q w 0 ⟨hx, hl, ms, by omega, by omega, by omega, by omega⟩ (fun _ => na_open hfu ms.2.2.2.1 (by omega) ho (by decide)) (Or.inl rfl) with bad | good
  · left
    obtain ⟨e, kx, c, I', J', K', h1, h2, h3, h4, h5, h6, h7, h8⟩ := bad
    obtain ⟨f, hf⟩ : ∃ f, fu = f + c := ⟨fu - c, by omega⟩
    have h5' := h5 f
    rw [← hf] at h5'
    exact ⟨e, kx, I', J', K', h1, h2, h3, h5', h6, f0.tr h7, (c0 0).tr h8 (Nat.le_refl _)⟩
  · right
    obtain ⟨I1, J1, K1, c1, k1, q1, w1, n1, g1, gv, gP⟩ := good
    obtain ⟨v1, v2, v3, v4, v5, v6, v7, v8, v9, v10, v11⟩ := gv
    have hk1 : k1 ≤ N := v1.2.2.2.2.2.2.2.2.1
    have n0 : nc J1 0 n1 = 0 := nc0 n1 (fun i hi => ⟨by have := (v10 i hi).1; omega, (v10 i hi).2⟩)
    have v6' : MS kd vl sp tp en len t0 so J1 K1 k1 w1 n1 0 1 := by rw [Nat.zero_add] at v6; exact v6
    have ho1 : OpN J1 n1 (-1) := Or.inl ⟨rfl, fun i hi => by
      have := (v10 i hi).1
      rw [Nat.zero_add] at this
      exact rk_pos (by omega)⟩
    have bt := bt_other (fu := fu) hfu v6'.1 gP.no v6'.2.2.2.1 (by omega) ho1 (by decide)
    obtain ⟨f, hf⟩ : ∃ f, fu = f + 1 + c1 := ⟨fu - 1 - c1, by omega⟩
    have h5 := v5 (f + 1)
    rw [← hf, h_fin (f := f) hfu v6'.2.2.2.2.2.1 v6'.2.1 v6'.2.2.1 v6'.2.2.2.1 ht (by omega) (by omega) bt (fun i hi => by have := (v10 i hi).1; rw [Nat.zero_add] at this; omega)] at h5
    obtain ⟨st, ms1, fr1⟩ := ms_stl (J := J1) (K := K1) (m := 0) (n := n1) (op' := 0) (w := w1) (by rw [n0]; exact v6) ht (by omega) (by omega)
    refine ⟨I1, stl n1 J1, K1, k1, q1, w1 + n1, g1, v1, v2, v3, by omega, h5, ms1.1, ms1.2.2.1, (f0.tr v7).tr fr1, fun x hx => ?_, v11.cg (fun _ _ _ => ⟨rfl, rfl⟩) (fun _ _ _ => rfl) (by omega)⟩
    rw [st.2.2.2.2.2.1 x (by omega), v8 x hx]
    exact c0 w x hx
end
