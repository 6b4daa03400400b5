/-! every method, with three frames in hand for the texts -/
section EV3
variable {l : Launch} {base : Nat} {sp : UInt32 → Nat} {D : va_G} {cA : Nat → ClassId} {adV : Nat → Nat} {X0 : Nat × (Nat → Int32)}
theorem met_ev3 (hall : ∀ k M, mG k = some M → k ≠ m_L_law → mB k M = true) (hcw : ∀ k M, mG k = some M → k ≠ m_L_law → Cond.code M.1 M.2.1 M.2.2.1 M.2.2.2.1 ∈ gd_tbl) (hlaw : ∀ d a h Q, ¬ Ev d m_L_law a h Q)
    (hprm : ∀ (d k : Nat) (M : PMr) (a : List Value) (h : PH) (Q : PQ), mG k = some M → (k = 9 ∨ k = 10) → prm k a h Q → hX h = X0 → MetOf l base sp D cA adV X0 (d + 4) k M a h Q) :
    ∀ (d k : Nat) (M : PMr) (a : List Value) (h : PH) (Q : PQ), mG k = some M → Ev d k a h Q → hX h = X0 → MetOf l base sp D cA adV X0 (d + 3) k M a h Q
  | 0, _, _, _, _, _, _, w, _ => False.elim w
  | d + 1, k, M, a, h, Q, hM, w, hX0 => by
    have hkl : k ≠ m_L_law := fun e => hlaw (d + 1) a h Q (e ▸ w)
    have ih := met_ev3 hall hcw hlaw hprm d
    have w0 := w
    unfold Ev at w
    rw [hM] at w
    dsimp only at w
    rcases w with ⟨hk, w⟩ | ⟨hk, hcs, w⟩
    · exact hprm d k M a h Q hM hk w hX0
    have hb := hall k M hM hkl
    unfold mB at hb
    simp only [Bool.and_eq_true] at hb
    obtain ⟨⟨⟨⟨⟨b0, b1⟩, b2⟩, b3⟩, b3'⟩, b4⟩ := hb
    unfold MetOf
    refine Met.ofWF (cc := M.2.1) (maxL := M.2.2.1) (ret := M.2.2.2.1) b2 rfl ?_
    intro p e s m args below meth c s₁ B hml hv
    obtain ⟨rfl, hsz, hP, hKK, hSP⟩ := hv
    have hts0 := atoms_spec (ws := .code M.1 M.2.1 M.2.2.1 M.2.2.2.1 :: gd_tbl) B.pre
    have hlocks := B.notSynchronized
    have hr := B.returns
    have hx := B.exec
    have hbs := B.bytes
    have cx : Cx p s m ((a.map (cv base sp)).toArray) meth c ({ frames := d + 4, cells := (mcs k).1, slots := (mcs k).2, locals := (d + 4) * 80 }) base sp D cA adV X0 M.1 M.2.1 M.2.2.1 (hN h) (d + 3) (mcs k) :=
      ⟨B.exec, B.bytes, hml, findClass_of_methodNamed B.named, fun w hw => hts0 w (List.mem_cons_of_mem _ hw), hKK, hSP, hsz, fun e => (name_of_methodNamed B.named B.method).1.trans e, Nat.le_refl _, Nat.le_refl _, Nat.le_refl _, by show (d + 3) * 80 + 80 ≤ (d + 4) * 80; omega, fun k M q1 q2 => by have := hall k M q1 q2; unfold mB at this; simp only [Bool.and_eq_true] at this; exact ⟨this.2, hcw k M q1 q2⟩⟩
    have hl := lv_entry (a.map (cv base sp)) (n := M.2.2.1) (by rw [lg_sl_len, csum_map]; exact hcs)
    rw [lv_args_cv] at hl
    rw [lg_entry_eq]
    refine walk (Qz := MQ below (QU base sp D cA X0 (mcs k).1 (mcs k).2 h Q) ((a.map (cv base sp)).toArray) s (mcs k).1 (mcs k).2 (fun q => base ≤ q)) cx (fun k' M' a' h' Q' q1 q2 q3 => ih k' M' a' h' Q' q1 q2 q3) ?_ ?_ (okL.ok b0 b1) w s.heap [] 0 0 _ rfl rfl (Nat.zero_le _) (Nat.zero_le _) hX0 hP va_S.rf hl
    · intro k' M' a' h' Q' q1 q2 q3 o r e
      exact spk hall hlaw q1 q2 q3 e
    · intro pc i v h1 H locs cells slots lsA hi hd hf hq j1 j2 j3 j4 j5 hP1 hS1
      have hc : cells = (mcs k).1 ∧ slots = (mcs k).2 := by
        rcases hf with hf | hf
        · omega
        · omega
      obtain ⟨rfl, rfl⟩ := hc
      have hend : ∀ (t : State), t.heap = H → s.WarmedH t.vm → QU base sp D cA X0 (mcs k).1 (mcs k).2 h Q ((a.map (cv base sp)).toArray) s (.returned (v.map (cv base sp))) t := fun t ht _ =>
        ⟨⟨v, h1, rfl, hq, j1, j2, j5, by rw [ht]; exact hP1⟩, hS1.F ht⟩
      rcases hi with ⟨rfl, x, rfl, hrk⟩ | ⟨rfl, x, rfl, hrt⟩ | ⟨rfl, x, rfl, hrv, t, hrt, hrt2⟩ | ⟨rfl, rfl, hrt⟩
      · unfold rok at hrk
        split at hrk
        · rename_i e
          exact W.iret hx hbs (by rw [hr, e]) hend hS1.2.2 hd hlocks
        · rename_i e
          exact W.zret (ty := .boolean) hx hbs (by rw [hr, e]) (nar_b hrk) hend hS1.2.2 hd hlocks
        · cases hrk
      · exact W.lret hx hbs (by rw [hr, hrt]) hend hS1.2.2 hd hlocks
      · refine W.aret (rt := t) hx hbs (by rw [hr, hrt]) ?_ ?_ hend hS1.2.2 hd hlocks
        · cases t with
          | object n => exact Or.inl ⟨n, rfl⟩
          | array t => exact Or.inr ⟨t, rfl⟩
          | int => cases hrt2
          | long => cases hrt2
          | boolean => cases hrt2
          | byte => cases hrt2
          | char => cases hrt2
          | short => cases hrt2
          | float => cases hrt2
          | double => cases hrt2
        · cases x with
          | ref o => exact Or.inr ⟨_, rfl⟩
          | float o => exact Or.inr ⟨_, rfl⟩
          | null => exact Or.inl rfl
          | int z => cases hrv
          | long z => cases hrv
          | double z => cases hrv
          | retAddr z => cases hrv
      · exact W.vret hx hbs (by rw [hr, hrt]) hend hS1.2.2 hd hlocks
end EV3
/-- FROM A RUN OF THE PURE MACHINE: the law, from its entry -/
theorem whole_from3 {p : Program} {e : Env} {s : State} {m : MethodId} {below : List Frame} {meth : Method} {c : Code} (l : Launch) {b L : Nat} {xs : Nat → Int32} (C0 : lw_At p s m meth c b L xs)
    (hprm : ∀ {base : Nat} {sp : UInt32 → Nat} {D : va_G} {cA : Nat → ClassId} {adV : Nat → Nat} {X0 : Nat × (Nat → Int32)} (d k : Nat) (M : PMr) (a : List Value) (h : PH) (Q : PQ), mG k = some M → (k = 9 ∨ k = 10) → prm k a h Q → hX h = X0 → MetOf l base sp D cA adV X0 (d + 4) k M a h Q)
    (hpure : Wp (Ev 200) cd_L_law (mcs m_L_law) (some .boolean) 0 0 (fun r _ => r = some (.int 1)) 0 [(0, .float 0)] [] (h00 L xs)) : W p l e room_1 s m #[Value.ref b] below meth c s.heap [] 0 0 (lw_Z below #[Value.ref b] s) (entryFrame m ([Value.ref b] : List Value).toArray 4) := by
  obtain ⟨hx, hb, hr, hml, hown, hts, hX0, hbl, hlocks, hgv⟩ := id C0
  have hA : ∀ a : Nat, a < s.heap.size → ¬ (fun q : Nat => s.heap.size ≤ q) a := fun a h => Nat.not_le.mpr h
  have hfl := flat_of_before _ hgv
  have hin : ∀ {i : Nat} {w : Cond}, (flatC (Jvm.Cond.and given_1 narrow_1))[i]? = some w → w.before #[Value.ref b] s = true := fun h => hfl _ (List.mem_of_getElem? h)
  obtain ⟨adK, adV, hVS, had⟩ := vk_Sof (args := #[Value.ref b]) (s := s) (N := 2) (tm := tmS) (len := [(txt 1).length, (txt 2).length]) (byt := [txt 1, txt 2]) (A := fun q : Nat => s.heap.size ≤ q)
    (by decide +kernel) (fun i hi => hin (fl_ex i hi)) (fun i hi => hin (fl_co i hi)) (fun i hi => hin (fl_ar i hi)) (fun i hi => hin (fl_le i hi)) (fun i hi j hj => hin (fl_el i hi j hj))
    (fun i j hi hj hij => by
      rcases (show (i = 0 ∧ j = 1) ∨ (i = 1 ∧ j = 0) by omega) with ⟨rfl, rfl⟩ | ⟨rfl, rfl⟩
      · exact Or.inl (hin fl_ne)
      · exact Or.inr (hin fl_ne)) hA
  have hcl : ∀ ci : Nat, ∃ q : ClassId × (Nat → Nat), ∀ r : vw_C, vwCl[ci]? = some r → u_Kn s r.1 r.2.1 r.2.2 q.1 q.2 := by
    intro ci
    by_cases hc : ci < 10
    · obtain ⟨C', T, g1, g2, g3, g4, g5, g6⟩ := clOK_all hc
      obtain ⟨cC, iS, hKn⟩ := u_known (C := C') (T := T) (N := fN ci) (n := fN ci) hts g2 (hts _ g5)
      refine ⟨(cC, iS), fun r hr => ?_⟩
      rw [g1] at hr
      cases hr
      exact hKn
    · exact ⟨(0, fun _ => 0), fun r hr => absurd (List.getElem?_eq_some_iff.mp hr).1 (by show ¬ ci < 10; exact hc)⟩
  obtain ⟨dd, hdd⟩ := Classical.axiomOfChoice hcl
  obtain ⟨c0, q0a, q0b⟩ := arr_of (hts (.arrayClass .int) (tw_in (i := 1075) rfl))
  obtain ⟨c1, q1a, q1b⟩ := arr_of (hts (.arrayClass .long) (tw_in (i := 2057) rfl))
  obtain ⟨c2, q2a, q2b⟩ := arr_of (hts (.arrayClass .boolean) (tw_in (i := 5220) rfl))
  obtain ⟨c3, q3⟩ := arr_over (hts (.arrayOver (.object "StairRods$Text")) (tw_in (i := 1175) rfl))
  obtain ⟨c4, q4⟩ := arr_over (hts (.arrayOver (.object "StairRods$House")) (tw_in (i := 1083) rfl))
  have hKK : va_K (fun k => (dd k).1, fun k => (dd k).2) vwCl (tyA (fun k => if k = 0 then c0 else if k = 1 then c1 else if k = 2 then c2 else if k = 3 then c3 else c4)) s := by
    refine ⟨fun ci q hq => hdd ci q hq, fun k q hq => ?_⟩
    match k, hq with
    | 0, hq => cases hq; exact ⟨q0a, q0b⟩
    | 1, hq => cases hq; exact ⟨q1a, q1b⟩
    | 2, hq => cases hq; exact ⟨q2a, q2b⟩
    | 3, hq => cases hq; exact q3
    | 4, hq => cases hq; exact q4
    | k + 5, hq => simp [tyA] at hq
  have hSP : SPX s.heap.size (fun k => if k = 0 then b else if k = 1 then adK 0 else adK 1) (L, xs) adV s s.heap := by
    refine ⟨hX0, hbl, vk_R.of (hts _ (tw_in (i := 2166) rfl)) (had 0 (by decide)), vk_R.of (hts _ (tw_in (i := 2225) rfl)) (had 1 (by decide)), ?_, va_Zof (hts _ (tw_in (i := 2176) rfl)) (hts _ (tw_in (i := 1013) rfl)) (va_eqt (hin fl_cs)) hA, va_Zqof (hts _ (tw_in (i := 2192) rfl)) (hts _ (tw_in (i := 1015) rfl)) (hin fl_sf) hA, fun q hq => hq, fun w hw hn => ?_⟩
    · have e : ∀ i : Nat, i < 2 → (fun i : Nat => (if UInt32.ofNat (i + 1) = 0 then b else if UInt32.ofNat (i + 1) = 1 then adK 0 else adK 1)) i = adK i := by
        intro i hi
        rcases (show i = 0 ∨ i = 1 by omega) with rfl | rfl <;> rfl
      refine ⟨fun i hi => ?_, fun i j hi hj h => ?_⟩
      · have := hVS.1 i hi
        rw [← e i hi] at this
        exact this
      · have h1 : adK i = adK j := by rw [← e i hi, ← e j hj]; exact h
        exact hVS.2 i j hi hj h1
    · have h := hts w hw
      unfold isN at hn
      split at hn
      · exact va_Nw.of rfl h
      · exact va_AO.of h
      · cases hn
  have cx : Cx p s m #[Value.ref b] meth c room_1 s.heap.size (fun k => if k = 0 then b else if k = 1 then adK 0 else adK 1) (fun k => (dd k).1, fun k => (dd k).2) (fun k => if k = 0 then c0 else if k = 1 then c1 else if k = 2 then c2 else if k = 3 then c3 else c4) adV (L, xs) ⟨"StairRodsLaw", "law", "([I)Z"⟩ code 4 0 203 (mcs m_L_law) :=
    ⟨hx, hb, hml, hown, fun w hw => hts w (List.mem_filter.mp hw).1, hKK, hSP, rfl, fun e => absurd e (by decide), by show 349 ≤ 600000; decide, by show 19117 ≤ 7302250; decide, by show 204 ≤ 2048; decide, by show 203 * 80 + 80 ≤ 84000; decide, fun k M q1 q2 => ⟨by have := mb_all k M q1 q2; unfold mB at this; simp only [Bool.and_eq_true] at this; exact this.2, cw_all k M q1 q2⟩⟩
  have hl := lv_entry ([.ref b]) (n := 4) (Nat.le_of_ble_eq_true rfl)
  rw [lg_entry_eq]
  refine walk (Qz := lw_Z below #[Value.ref b] s) cx (fun k' M' a' h' Q' q1 q2 q3 => met_ev3 mb_all cw_all law_not hprm 200 k' M' a' h' Q' q1 q2 q3) ?_ ?_ (okL.ok law_tab1 law_tab2) hpure s.heap [] 0 0 _ rfl rfl (Nat.zero_le _) (Nat.zero_le _) rfl (fun k q h => by simp [wsO, h00, hN] at h) va_S.rf hl
  · intro k' M' a' h' Q' q1 q2 q3 o r e
    exact spk mb_all law_not q1 q2 q3 e
  · intro pc i v h1 H locs cells slots lsA hi hd hf hq j1 j2 j3 j4 j5 hP1 hS1
    subst hq
    rcases hi with ⟨rfl, x, hx1, hrk⟩ | ⟨rfl, x, hx1, hrt⟩ | ⟨rfl, x, hx1, hrv, t, hrt, hrt2⟩ | ⟨rfl, hx1, hrt⟩
    · refine va_forget (fun q hq => hS1.2.2 q hq) ?_
      have e1 : (mcs m_L_law).1 = 349 := rfl
      have e2 : (mcs m_L_law).2 = 19117 := rfl
      refine W.widen (k := 600000) (n := 7302250) (by omega) (by omega) ?_
      exact lw_ret hx hb hr hlocks hd
    · cases hx1
    · cases hrt; cases hrt2
    · cases hx1
