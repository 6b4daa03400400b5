/-! ROWS of the pure machine: one an instruction -/
def tswI (kk : Nat → Prop) (pc : Nat) (x : Int32) (d : Int) : List Int → Int → Prop
  | [], _ => kk (tgo pc d)
  | o :: r, v => (x.toInt = v → kk (tgo pc o)) ∧ (¬ x.toInt = v → tswI kk pc x d r (v + 1))
theorem tsw_gt {kk : Nat → Prop} {pc : Nat} {x : Int32} : ∀ (os : List Int) (v : Int), x.toInt < v → tsw kk pc x os v
  | [], _, _ => trivial
  | _ :: r, v, h => ⟨fun e => absurd e (by omega), tsw_gt r (v + 1) (by omega)⟩
section ROWS
variable {C : PCall} {cd : PC} {al : Nat × Nat} {rt : Option FieldType} {n0 s0 : Nat} {Q : PQ} {pc nx a b wi : Nat} {v : Value} {ls : PL} {st : PS} {h : PH}
theorem w_iconst (hC : CMono C C) {i : Int} (hE : lkp cd pc = some (.iconst i, nx, a, b, v, wi)) (w : Wp C cd al rt n0 s0 Q nx ls (v :: st) h) : Wp C cd al rt n0 s0 Q pc ls st h := Wp.fold hC hE w
theorem w_bipush (hC : CMono C C) {i : Int} (hE : lkp cd pc = some (.bipush i, nx, a, b, v, wi)) (w : Wp C cd al rt n0 s0 Q nx ls (v :: st) h) : Wp C cd al rt n0 s0 Q pc ls st h := Wp.fold hC hE w
theorem w_sipush (hC : CMono C C) {i : Int} (hE : lkp cd pc = some (.sipush i, nx, a, b, v, wi)) (w : Wp C cd al rt n0 s0 Q nx ls (v :: st) h) : Wp C cd al rt n0 s0 Q pc ls st h := Wp.fold hC hE w
theorem w_lconst (hC : CMono C C) {i : Fin 2} (hE : lkp cd pc = some (.lconst i, nx, a, b, v, wi)) (w : Wp C cd al rt n0 s0 Q nx ls (v :: st) h) : Wp C cd al rt n0 s0 Q pc ls st h := Wp.fold hC hE w
theorem w_ldc (hC : CMono C C) {i : Nat} (hE : lkp cd pc = some (.ldc i, nx, a, b, v, wi)) (w : Wp C cd al rt n0 s0 Q nx ls (v :: st) h) : Wp C cd al rt n0 s0 Q pc ls st h := Wp.fold hC hE w
theorem w_ldc_w (hC : CMono C C) {i : Nat} (hE : lkp cd pc = some (.ldc_w i, nx, a, b, v, wi)) (w : Wp C cd al rt n0 s0 Q nx ls (v :: st) h) : Wp C cd al rt n0 s0 Q pc ls st h := Wp.fold hC hE w
theorem w_ldc2_w (hC : CMono C C) {i : Nat} (hE : lkp cd pc = some (.ldc2_w i, nx, a, b, v, wi)) (w : Wp C cd al rt n0 s0 Q nx ls (v :: st) h) : Wp C cd al rt n0 s0 Q pc ls st h := Wp.fold hC hE w
theorem w_aconst_null (hC : CMono C C) (hE : lkp cd pc = some (.aconst_null, nx, a, b, v, wi)) (w : Wp C cd al rt n0 s0 Q nx ls (.null :: st) h) : Wp C cd al rt n0 s0 Q pc ls st h := Wp.fold hC hE w
theorem w_iload (hC : CMono C C) {i : Nat} {x : Int32} (hE : lkp cd pc = some (.iload i, nx, a, b, v, wi)) (hl : lget ls i = some (.int x)) (w : Wp C cd al rt n0 s0 Q nx ls (.int x :: st) h) : Wp C cd al rt n0 s0 Q pc ls st h := Wp.fold hC hE (by show gLoc ls i isIV _; unfold gLoc; rw [hl]; exact ⟨trivial, w⟩)
theorem w_iload_n (hC : CMono C C) {i : Fin 4} {x : Int32} (hE : lkp cd pc = some (.iload_n i, nx, a, b, v, wi)) (hl : lget ls i = some (.int x)) (w : Wp C cd al rt n0 s0 Q nx ls (.int x :: st) h) : Wp C cd al rt n0 s0 Q pc ls st h := Wp.fold hC hE (by show gLoc ls i isIV _; unfold gLoc; rw [hl]; exact ⟨trivial, w⟩)
theorem w_lload (hC : CMono C C) {i : Nat} {x : Int64} (hE : lkp cd pc = some (.lload i, nx, a, b, v, wi)) (hl : lget ls i = some (.long x)) (w : Wp C cd al rt n0 s0 Q nx ls (.long x :: st) h) : Wp C cd al rt n0 s0 Q pc ls st h := Wp.fold hC hE (by show gLoc ls i isLV _; unfold gLoc; rw [hl]; exact ⟨trivial, w⟩)
theorem w_lload_n (hC : CMono C C) {i : Fin 4} {x : Int64} (hE : lkp cd pc = some (.lload_n i, nx, a, b, v, wi)) (hl : lget ls i = some (.long x)) (w : Wp C cd al rt n0 s0 Q nx ls (.long x :: st) h) : Wp C cd al rt n0 s0 Q pc ls st h := Wp.fold hC hE (by show gLoc ls i isLV _; unfold gLoc; rw [hl]; exact ⟨trivial, w⟩)
theorem w_aload (hC : CMono C C) {i : Nat} {o : Nat} (hE : lkp cd pc = some (.aload i, nx, a, b, v, wi)) (hl : lget ls i = some (.ref o)) (w : Wp C cd al rt n0 s0 Q nx ls (.ref o :: st) h) : Wp C cd al rt n0 s0 Q pc ls st h := Wp.fold hC hE (by show gLoc ls i isRV _; unfold gLoc; rw [hl]; exact ⟨trivial, w⟩)
theorem w_aloadS (hC : CMono C C) {i : Nat} {o : UInt32} (hE : lkp cd pc = some (.aload i, nx, a, b, v, wi)) (hl : lget ls i = some (.float o)) (w : Wp C cd al rt n0 s0 Q nx ls (.float o :: st) h) : Wp C cd al rt n0 s0 Q pc ls st h := Wp.fold hC hE (by show gLoc ls i isRV _; unfold gLoc; rw [hl]; exact ⟨trivial, w⟩)
theorem w_aloadN (hC : CMono C C) {i : Nat} (hE : lkp cd pc = some (.aload i, nx, a, b, v, wi)) (hl : lget ls i = some .null) (w : Wp C cd al rt n0 s0 Q nx ls (.null :: st) h) : Wp C cd al rt n0 s0 Q pc ls st h := Wp.fold hC hE (by show gLoc ls i isRV _; unfold gLoc; rw [hl]; exact ⟨trivial, w⟩)
theorem w_aload_n (hC : CMono C C) {i : Fin 4} {o : Nat} (hE : lkp cd pc = some (.aload_n i, nx, a, b, v, wi)) (hl : lget ls i = some (.ref o)) (w : Wp C cd al rt n0 s0 Q nx ls (.ref o :: st) h) : Wp C cd al rt n0 s0 Q pc ls st h := Wp.fold hC hE (by show gLoc ls i isRV _; unfold gLoc; rw [hl]; exact ⟨trivial, w⟩)
theorem w_aload_nS (hC : CMono C C) {i : Fin 4} {o : UInt32} (hE : lkp cd pc = some (.aload_n i, nx, a, b, v, wi)) (hl : lget ls i = some (.float o)) (w : Wp C cd al rt n0 s0 Q nx ls (.float o :: st) h) : Wp C cd al rt n0 s0 Q pc ls st h := Wp.fold hC hE (by show gLoc ls i isRV _; unfold gLoc; rw [hl]; exact ⟨trivial, w⟩)
theorem w_aload_nN (hC : CMono C C) {i : Fin 4} (hE : lkp cd pc = some (.aload_n i, nx, a, b, v, wi)) (hl : lget ls i = some .null) (w : Wp C cd al rt n0 s0 Q nx ls (.null :: st) h) : Wp C cd al rt n0 s0 Q pc ls st h := Wp.fold hC hE (by show gLoc ls i isRV _; unfold gLoc; rw [hl]; exact ⟨trivial, w⟩)
theorem w_istore (hC : CMono C C) {i : Nat} {x : Int32} {ls2 : PL} (hE : lkp cd pc = some (.istore i, nx, a, b, v, wi)) (hl : lset1 ls i (.int x) = ls2) (w : Wp C cd al rt n0 s0 Q nx ls2 st h) : Wp C cd al rt n0 s0 Q pc ls (.int x :: st) h := Wp.fold hC hE (by subst hl; exact w)
theorem w_istore_n (hC : CMono C C) {i : Fin 4} {x : Int32} {ls2 : PL} (hE : lkp cd pc = some (.istore_n i, nx, a, b, v, wi)) (hl : lset1 ls i (.int x) = ls2) (w : Wp C cd al rt n0 s0 Q nx ls2 st h) : Wp C cd al rt n0 s0 Q pc ls (.int x :: st) h := Wp.fold hC hE (by subst hl; exact w)
theorem w_lstore (hC : CMono C C) {i : Nat} {x : Int64} {ls2 : PL} (hE : lkp cd pc = some (.lstore i, nx, a, b, v, wi)) (hl : lset2 ls i (.long x) = ls2) (w : Wp C cd al rt n0 s0 Q nx ls2 st h) : Wp C cd al rt n0 s0 Q pc ls (.long x :: st) h := Wp.fold hC hE (by subst hl; exact w)
theorem w_lstore_n (hC : CMono C C) {i : Fin 4} {x : Int64} {ls2 : PL} (hE : lkp cd pc = some (.lstore_n i, nx, a, b, v, wi)) (hl : lset2 ls i (.long x) = ls2) (w : Wp C cd al rt n0 s0 Q nx ls2 st h) : Wp C cd al rt n0 s0 Q pc ls (.long x :: st) h := Wp.fold hC hE (by subst hl; exact w)
theorem w_astore (hC : CMono C C) {i : Nat} {u : Value} {ls2 : PL} (hE : lkp cd pc = some (.astore i, nx, a, b, v, wi)) (hr : isRV u) (hl : lset1 ls i u = ls2) (w : Wp C cd al rt n0 s0 Q nx ls2 st h) : Wp C cd al rt n0 s0 Q pc ls (u :: st) h := Wp.fold hC hE (by subst hl; exact ⟨hr, w⟩)
theorem w_astore_n (hC : CMono C C) {i : Fin 4} {u : Value} {ls2 : PL} (hE : lkp cd pc = some (.astore_n i, nx, a, b, v, wi)) (hr : isRV u) (hl : lset1 ls i u = ls2) (w : Wp C cd al rt n0 s0 Q nx ls2 st h) : Wp C cd al rt n0 s0 Q pc ls (u :: st) h := Wp.fold hC hE (by subst hl; exact ⟨hr, w⟩)
theorem w_iinc (hC : CMono C C) {i : Nat} {n : Int} {x z : Int32} {ls2 : PL} (hE : lkp cd pc = some (.iinc i n, nx, a, b, .int z, wi)) (hg : lget ls i = some (.int x)) (hl : lset1 ls i (.int (x + z)) = ls2) (w : Wp C cd al rt n0 s0 Q nx ls2 st h) : Wp C cd al rt n0 s0 Q pc ls st h := Wp.fold hC hE (by subst hl; show gLoc ls i isIV _; unfold gLoc; rw [hg]; exact ⟨trivial, w⟩)
theorem w_iadd (hC : CMono C C) {x y : Int32} (hE : lkp cd pc = some (.iadd, nx, a, b, v, wi)) (w : Wp C cd al rt n0 s0 Q nx ls (.int (x + y) :: st) h) : Wp C cd al rt n0 s0 Q pc ls (.int y :: .int x :: st) h := Wp.fold hC hE w
theorem w_isub (hC : CMono C C) {x y : Int32} (hE : lkp cd pc = some (.isub, nx, a, b, v, wi)) (w : Wp C cd al rt n0 s0 Q nx ls (.int (x - y) :: st) h) : Wp C cd al rt n0 s0 Q pc ls (.int y :: .int x :: st) h := Wp.fold hC hE w
theorem w_imul (hC : CMono C C) {x y : Int32} (hE : lkp cd pc = some (.imul, nx, a, b, v, wi)) (w : Wp C cd al rt n0 s0 Q nx ls (.int (x * y) :: st) h) : Wp C cd al rt n0 s0 Q pc ls (.int y :: .int x :: st) h := Wp.fold hC hE w
theorem w_iand (hC : CMono C C) {x y : Int32} (hE : lkp cd pc = some (.iand, nx, a, b, v, wi)) (w : Wp C cd al rt n0 s0 Q nx ls (.int (x &&& y) :: st) h) : Wp C cd al rt n0 s0 Q pc ls (.int y :: .int x :: st) h := Wp.fold hC hE w
theorem w_ior (hC : CMono C C) {x y : Int32} (hE : lkp cd pc = some (.ior, nx, a, b, v, wi)) (w : Wp C cd al rt n0 s0 Q nx ls (.int (x ||| y) :: st) h) : Wp C cd al rt n0 s0 Q pc ls (.int y :: .int x :: st) h := Wp.fold hC hE w
theorem w_ixor (hC : CMono C C) {x y : Int32} (hE : lkp cd pc = some (.ixor, nx, a, b, v, wi)) (w : Wp C cd al rt n0 s0 Q nx ls (.int (x ^^^ y) :: st) h) : Wp C cd al rt n0 s0 Q pc ls (.int y :: .int x :: st) h := Wp.fold hC hE w
theorem w_ishl (hC : CMono C C) {x y : Int32} (hE : lkp cd pc = some (.ishl, nx, a, b, v, wi)) (w : Wp C cd al rt n0 s0 Q nx ls (.int (x <<< (y &&& 31)) :: st) h) : Wp C cd al rt n0 s0 Q pc ls (.int y :: .int x :: st) h := Wp.fold hC hE w
theorem w_ishr (hC : CMono C C) {x y : Int32} (hE : lkp cd pc = some (.ishr, nx, a, b, v, wi)) (w : Wp C cd al rt n0 s0 Q nx ls (.int (x >>> (y &&& 31)) :: st) h) : Wp C cd al rt n0 s0 Q pc ls (.int y :: .int x :: st) h := Wp.fold hC hE w
theorem w_iushr (hC : CMono C C) {x y : Int32} (hE : lkp cd pc = some (.iushr, nx, a, b, v, wi)) (w : Wp C cd al rt n0 s0 Q nx ls (.int ((x.toUInt32 >>> (y.toUInt32 &&& Int32.toUInt32 31)).toInt32) :: st) h) : Wp C cd al rt n0 s0 Q pc ls (.int y :: .int x :: st) h := Wp.fold hC hE w
theorem w_idiv (hC : CMono C C) {x y : Int32} (hE : lkp cd pc = some (.idiv, nx, a, b, v, wi)) (hz : ¬ y = 0) (w : Wp C cd al rt n0 s0 Q nx ls (.int (x / y) :: st) h) : Wp C cd al rt n0 s0 Q pc ls (.int y :: .int x :: st) h := Wp.fold hC hE ⟨hz, w⟩
theorem w_irem (hC : CMono C C) {x y : Int32} (hE : lkp cd pc = some (.irem, nx, a, b, v, wi)) (hz : ¬ y = 0) (w : Wp C cd al rt n0 s0 Q nx ls (.int (x - x / y * y) :: st) h) : Wp C cd al rt n0 s0 Q pc ls (.int y :: .int x :: st) h := Wp.fold hC hE ⟨hz, w⟩
theorem w_ineg (hC : CMono C C) {x : Int32} (hE : lkp cd pc = some (.ineg, nx, a, b, v, wi)) (w : Wp C cd al rt n0 s0 Q nx ls (.int (-x) :: st) h) : Wp C cd al rt n0 s0 Q pc ls (.int x :: st) h := Wp.fold hC hE w
theorem w_ladd (hC : CMono C C) {x y : Int64} (hE : lkp cd pc = some (.ladd, nx, a, b, v, wi)) (w : Wp C cd al rt n0 s0 Q nx ls (.long (x + y) :: st) h) : Wp C cd al rt n0 s0 Q pc ls (.long y :: .long x :: st) h := Wp.fold hC hE w
theorem w_lsub (hC : CMono C C) {x y : Int64} (hE : lkp cd pc = some (.lsub, nx, a, b, v, wi)) (w : Wp C cd al rt n0 s0 Q nx ls (.long (x - y) :: st) h) : Wp C cd al rt n0 s0 Q pc ls (.long y :: .long x :: st) h := Wp.fold hC hE w
theorem w_lmul (hC : CMono C C) {x y : Int64} (hE : lkp cd pc = some (.lmul, nx, a, b, v, wi)) (w : Wp C cd al rt n0 s0 Q nx ls (.long (x * y) :: st) h) : Wp C cd al rt n0 s0 Q pc ls (.long y :: .long x :: st) h := Wp.fold hC hE w
theorem w_lor (hC : CMono C C) {x y : Int64} (hE : lkp cd pc = some (.lor, nx, a, b, v, wi)) (w : Wp C cd al rt n0 s0 Q nx ls (.long (x ||| y) :: st) h) : Wp C cd al rt n0 s0 Q pc ls (.long y :: .long x :: st) h := Wp.fold hC hE w
theorem w_ldiv (hC : CMono C C) {x y : Int64} (hE : lkp cd pc = some (.ldiv, nx, a, b, v, wi)) (hz : ¬ y = 0) (w : Wp C cd al rt n0 s0 Q nx ls (.long (x / y) :: st) h) : Wp C cd al rt n0 s0 Q pc ls (.long y :: .long x :: st) h := Wp.fold hC hE ⟨hz, w⟩
theorem w_lrem (hC : CMono C C) {x y : Int64} (hE : lkp cd pc = some (.lrem, nx, a, b, v, wi)) (hz : ¬ y = 0) (w : Wp C cd al rt n0 s0 Q nx ls (.long (x - x / y * y) :: st) h) : Wp C cd al rt n0 s0 Q pc ls (.long y :: .long x :: st) h := Wp.fold hC hE ⟨hz, w⟩
theorem w_lneg (hC : CMono C C) {x : Int64} (hE : lkp cd pc = some (.lneg, nx, a, b, v, wi)) (w : Wp C cd al rt n0 s0 Q nx ls (.long (-x) :: st) h) : Wp C cd al rt n0 s0 Q pc ls (.long x :: st) h := Wp.fold hC hE w
theorem w_lshl (hC : CMono C C) {x : Int64} {y : Int32} (hE : lkp cd pc = some (.lshl, nx, a, b, v, wi)) (w : Wp C cd al rt n0 s0 Q nx ls (.long (x <<< (y.toInt64 &&& 63)) :: st) h) : Wp C cd al rt n0 s0 Q pc ls (.int y :: .long x :: st) h := Wp.fold hC hE w
theorem w_lshr (hC : CMono C C) {x : Int64} {y : Int32} (hE : lkp cd pc = some (.lshr, nx, a, b, v, wi)) (w : Wp C cd al rt n0 s0 Q nx ls (.long (x >>> (y.toInt64 &&& 63)) :: st) h) : Wp C cd al rt n0 s0 Q pc ls (.int y :: .long x :: st) h := Wp.fold hC hE w
theorem w_lcmp (hC : CMono C C) {x y : Int64} (hE : lkp cd pc = some (.lcmp, nx, a, b, v, wi)) (w : Wp C cd al rt n0 s0 Q nx ls (.int (lg_cmp x y) :: st) h) : Wp C cd al rt n0 s0 Q pc ls (.long y :: .long x :: st) h := Wp.fold hC hE w
theorem w_i2l (hC : CMono C C) {x : Int32} (hE : lkp cd pc = some (.i2l, nx, a, b, v, wi)) (w : Wp C cd al rt n0 s0 Q nx ls (.long x.toInt64 :: st) h) : Wp C cd al rt n0 s0 Q pc ls (.int x :: st) h := Wp.fold hC hE w
theorem w_l2i (hC : CMono C C) {x : Int64} (hE : lkp cd pc = some (.l2i, nx, a, b, v, wi)) (w : Wp C cd al rt n0 s0 Q nx ls (.int x.toInt32 :: st) h) : Wp C cd al rt n0 s0 Q pc ls (.long x :: st) h := Wp.fold hC hE w
theorem w_dup (hC : CMono C C) {u : Value} (hE : lkp cd pc = some (.dup, nx, a, b, v, wi)) (hc : u.category = 1) (w : Wp C cd al rt n0 s0 Q nx ls (u :: u :: st) h) : Wp C cd al rt n0 s0 Q pc ls (u :: st) h := Wp.fold hC hE ⟨hc, w⟩
theorem w_dup2 (hC : CMono C C) {u u2 : Value} (hE : lkp cd pc = some (.dup2, nx, a, b, v, wi)) (hc : u.category = 1) (hc2 : u2.category = 1) (w : Wp C cd al rt n0 s0 Q nx ls (u :: u2 :: u :: u2 :: st) h) : Wp C cd al rt n0 s0 Q pc ls (u :: u2 :: st) h := Wp.fold hC hE ⟨hc, hc2, w⟩
theorem w_pop (hC : CMono C C) {u : Value} (hE : lkp cd pc = some (.pop, nx, a, b, v, wi)) (hc : u.category = 1) (w : Wp C cd al rt n0 s0 Q nx ls st h) : Wp C cd al rt n0 s0 Q pc ls (u :: st) h := Wp.fold hC hE ⟨hc, w⟩
theorem w_goto (hC : CMono C C) {o : Int} (hE : lkp cd pc = some (.goto o, nx, a, b, v, wi)) (w : Wp C cd al rt n0 s0 Q a ls st h) : Wp C cd al rt n0 s0 Q pc ls st h := Wp.fold hC hE w
theorem w_icmp_eq (hC : CMono C C) {o : Int} {x y : Int32} (hE : lkp cd pc = some (.if_icmp .eq o, nx, a, b, v, wi)) (w1 : x = y → Wp C cd al rt n0 s0 Q a ls st h) (w2 : ¬ x = y → Wp C cd al rt n0 s0 Q nx ls st h) : Wp C cd al rt n0 s0 Q pc ls (.int y :: .int x :: st) h := Wp.fold hC hE ⟨w1, w2⟩
theorem w_if_eq (hC : CMono C C) {o : Int} {x : Int32} (hE : lkp cd pc = some (.ifCond .eq o, nx, a, b, v, wi)) (w1 : x = 0 → Wp C cd al rt n0 s0 Q a ls st h) (w2 : ¬ x = 0 → Wp C cd al rt n0 s0 Q nx ls st h) : Wp C cd al rt n0 s0 Q pc ls (.int x :: st) h := Wp.fold hC hE ⟨w1, w2⟩
theorem w_icmp_ne (hC : CMono C C) {o : Int} {x y : Int32} (hE : lkp cd pc = some (.if_icmp .ne o, nx, a, b, v, wi)) (w1 : ¬ x = y → Wp C cd al rt n0 s0 Q a ls st h) (w2 : x = y → Wp C cd al rt n0 s0 Q nx ls st h) : Wp C cd al rt n0 s0 Q pc ls (.int y :: .int x :: st) h := Wp.fold hC hE ⟨w1, fun q => w2 (Classical.byContradiction q)⟩
theorem w_if_ne (hC : CMono C C) {o : Int} {x : Int32} (hE : lkp cd pc = some (.ifCond .ne o, nx, a, b, v, wi)) (w1 : ¬ x = 0 → Wp C cd al rt n0 s0 Q a ls st h) (w2 : x = 0 → Wp C cd al rt n0 s0 Q nx ls st h) : Wp C cd al rt n0 s0 Q pc ls (.int x :: st) h := Wp.fold hC hE ⟨w1, fun q => w2 (Classical.byContradiction q)⟩
theorem w_icmp_lt (hC : CMono C C) {o : Int} {x y : Int32} (hE : lkp cd pc = some (.if_icmp .lt o, nx, a, b, v, wi)) (w1 : x < y → Wp C cd al rt n0 s0 Q a ls st h) (w2 : ¬ x < y → Wp C cd al rt n0 s0 Q nx ls st h) : Wp C cd al rt n0 s0 Q pc ls (.int y :: .int x :: st) h := Wp.fold hC hE ⟨w1, w2⟩
theorem w_if_lt (hC : CMono C C) {o : Int} {x : Int32} (hE : lkp cd pc = some (.ifCond .lt o, nx, a, b, v, wi)) (w1 : x < 0 → Wp C cd al rt n0 s0 Q a ls st h) (w2 : ¬ x < 0 → Wp C cd al rt n0 s0 Q nx ls st h) : Wp C cd al rt n0 s0 Q pc ls (.int x :: st) h := Wp.fold hC hE ⟨w1, w2⟩
theorem w_icmp_ge (hC : CMono C C) {o : Int} {x y : Int32} (hE : lkp cd pc = some (.if_icmp .ge o, nx, a, b, v, wi)) (w1 : y ≤ x → Wp C cd al rt n0 s0 Q a ls st h) (w2 : ¬ y ≤ x → Wp C cd al rt n0 s0 Q nx ls st h) : Wp C cd al rt n0 s0 Q pc ls (.int y :: .int x :: st) h := Wp.fold hC hE ⟨w1, w2⟩
theorem w_if_ge (hC : CMono C C) {o : Int} {x : Int32} (hE : lkp cd pc = some (.ifCond .ge o, nx, a, b, v, wi)) (w1 : 0 ≤ x → Wp C cd al rt n0 s0 Q a ls st h) (w2 : ¬ 0 ≤ x → Wp C cd al rt n0 s0 Q nx ls st h) : Wp C cd al rt n0 s0 Q pc ls (.int x :: st) h := Wp.fold hC hE ⟨w1, w2⟩
theorem w_icmp_gt (hC : CMono C C) {o : Int} {x y : Int32} (hE : lkp cd pc = some (.if_icmp .gt o, nx, a, b, v, wi)) (w1 : y < x → Wp C cd al rt n0 s0 Q a ls st h) (w2 : ¬ y < x → Wp C cd al rt n0 s0 Q nx ls st h) : Wp C cd al rt n0 s0 Q pc ls (.int y :: .int x :: st) h := Wp.fold hC hE ⟨w1, w2⟩
theorem w_if_gt (hC : CMono C C) {o : Int} {x : Int32} (hE : lkp cd pc = some (.ifCond .gt o, nx, a, b, v, wi)) (w1 : 0 < x → Wp C cd al rt n0 s0 Q a ls st h) (w2 : ¬ 0 < x → Wp C cd al rt n0 s0 Q nx ls st h) : Wp C cd al rt n0 s0 Q pc ls (.int x :: st) h := Wp.fold hC hE ⟨w1, w2⟩
theorem w_icmp_le (hC : CMono C C) {o : Int} {x y : Int32} (hE : lkp cd pc = some (.if_icmp .le o, nx, a, b, v, wi)) (w1 : x ≤ y → Wp C cd al rt n0 s0 Q a ls st h) (w2 : ¬ x ≤ y → Wp C cd al rt n0 s0 Q nx ls st h) : Wp C cd al rt n0 s0 Q pc ls (.int y :: .int x :: st) h := Wp.fold hC hE ⟨w1, w2⟩
theorem w_if_le (hC : CMono C C) {o : Int} {x : Int32} (hE : lkp cd pc = some (.ifCond .le o, nx, a, b, v, wi)) (w1 : x ≤ 0 → Wp C cd al rt n0 s0 Q a ls st h) (w2 : ¬ x ≤ 0 → Wp C cd al rt n0 s0 Q nx ls st h) : Wp C cd al rt n0 s0 Q pc ls (.int x :: st) h := Wp.fold hC hE ⟨w1, w2⟩
theorem w_ifnull (hC : CMono C C) {o : Int} {q : Nat} (hE : lkp cd pc = some (.ifnull o, nx, a, b, v, wi)) (w : Wp C cd al rt n0 s0 Q nx ls st h) : Wp C cd al rt n0 s0 Q pc ls (.ref q :: st) h := Wp.fold hC hE w
theorem w_ifnullN (hC : CMono C C) {o : Int} (hE : lkp cd pc = some (.ifnull o, nx, a, b, v, wi)) (w : Wp C cd al rt n0 s0 Q a ls st h) : Wp C cd al rt n0 s0 Q pc ls (.null :: st) h := Wp.fold hC hE w
theorem w_ifnonnull (hC : CMono C C) {o : Int} {q : Nat} (hE : lkp cd pc = some (.ifnonnull o, nx, a, b, v, wi)) (w : Wp C cd al rt n0 s0 Q a ls st h) : Wp C cd al rt n0 s0 Q pc ls (.ref q :: st) h := Wp.fold hC hE w
theorem w_ifnonnullN (hC : CMono C C) {o : Int} (hE : lkp cd pc = some (.ifnonnull o, nx, a, b, v, wi)) (w : Wp C cd al rt n0 s0 Q nx ls st h) : Wp C cd al rt n0 s0 Q pc ls (.null :: st) h := Wp.fold hC hE w
theorem w_tsw (hC : CMono C C) {d lo hi : Int} {os : Array Int} {x : Int32} (hE : lkp cd pc = some (.tableswitch d lo hi os, nx, a, b, v, wi)) (w1 : x.toInt < lo ∨ hi < x.toInt → Wp C cd al rt n0 s0 Q (tgo a d) ls st h) (w2 : tsw (fun q => Wp C cd al rt n0 s0 Q q ls st h) a x os.toList lo) : Wp C cd al rt n0 s0 Q pc ls (.int x :: st) h := Wp.fold hC hE ⟨w1, w2⟩
theorem w_lsw (hC : CMono C C) {d : Int} {ps : Array (Int × Int)} {x : Int32} (hE : lkp cd pc = some (.lookupswitch d ps, nx, a, b, v, wi)) (w : lsw (fun q => Wp C cd al rt n0 s0 Q q ls st h) a x d ps.toList) : Wp C cd al rt n0 s0 Q pc ls (.int x :: st) h := Wp.fold hC hE w
theorem w_getI (hC : CMono C C) {i o : Nat} {z : Int32} (hE : lkp cd pc = some (.getfield i, nx, a, b, .int z, wi)) (ho : o < hN h) (hk : (hK h o).1 = a) (w : Wp C cd al rt n0 s0 Q nx ls (.int (hI h o b) :: st) h) : Wp C cd al rt n0 s0 Q pc ls (.ref o :: st) h := Wp.fold hC hE ⟨ho, hk, w⟩
theorem w_getL (hC : CMono C C) {i o : Nat} {z : Int64} (hE : lkp cd pc = some (.getfield i, nx, a, b, .long z, wi)) (ho : o < hN h) (hk : (hK h o).1 = a) (w : Wp C cd al rt n0 s0 Q nx ls (.long (hL h o b) :: st) h) : Wp C cd al rt n0 s0 Q pc ls (.ref o :: st) h := Wp.fold hC hE ⟨ho, hk, w⟩
theorem w_getR (hC : CMono C C) {i o q : Nat} (hE : lkp cd pc = some (.getfield i, nx, a, b, .null, wi)) (ho : o < hN h) (hk : (hK h o).1 = a) (hr : hR h o b = some q) (w : Wp C cd al rt n0 s0 Q nx ls (.ref q :: st) h) : Wp C cd al rt n0 s0 Q pc ls (.ref o :: st) h := Wp.fold hC hE ⟨ho, hk, by show Wp _ _ _ _ _ _ _ _ _ (rfp (hR h o b) :: st) _; rw [hr]; exact w⟩
theorem w_putI (hC : CMono C C) {i o : Nat} {x : Int32} (hE : lkp cd pc = some (.putfield i, nx, a, b, .int 0, wi)) (ho : o < hN h) (hk : (hK h o).1 = a) (w : Wp C cd al rt n0 s0 Q nx ls st (puI h o b x)) : Wp C cd al rt n0 s0 Q pc ls (.int x :: .ref o :: st) h := Wp.fold hC hE ⟨ho, hk, Or.inl rfl, w⟩
theorem w_putZ (hC : CMono C C) {i o : Nat} {x : Int32} (hE : lkp cd pc = some (.putfield i, nx, a, b, .int 1, wi)) (ho : o < hN h) (hk : (hK h o).1 = a) (hz : x = 0 ∨ x = 1) (w : Wp C cd al rt n0 s0 Q nx ls st (puI h o b x)) : Wp C cd al rt n0 s0 Q pc ls (.int x :: .ref o :: st) h := Wp.fold hC hE ⟨ho, hk, Or.inr hz, w⟩
theorem w_putL (hC : CMono C C) {i o : Nat} {z x : Int64} (hE : lkp cd pc = some (.putfield i, nx, a, b, .long z, wi)) (ho : o < hN h) (hk : (hK h o).1 = a) (w : Wp C cd al rt n0 s0 Q nx ls st (puL h o b x)) : Wp C cd al rt n0 s0 Q pc ls (.long x :: .ref o :: st) h := Wp.fold hC hE ⟨ho, hk, w⟩
theorem w_putR (hC : CMono C C) {i o q : Nat} (hE : lkp cd pc = some (.putfield i, nx, a, b, .null, wi)) (ho : o < hN h) (hk : (hK h o).1 = a) (w : Wp C cd al rt n0 s0 Q nx ls st (puR h o b (some q))) : Wp C cd al rt n0 s0 Q pc ls (.ref q :: .ref o :: st) h := Wp.fold hC hE ⟨ho, hk, w⟩
theorem w_iald (hC : CMono C C) {o : Nat} {i : Int32} (hE : lkp cd pc = some (.iaload, nx, a, b, v, wi)) (ho : o < hN h) (hk : (hK h o).1 = 10) (hi : vp_in i (hK h o).2) (w : Wp C cd al rt n0 s0 Q nx ls (.int (hI h o i.toNatClampNeg) :: st) h) : Wp C cd al rt n0 s0 Q pc ls (.int i :: .ref o :: st) h := Wp.fold hC hE ⟨ho, hk, hi, w⟩
theorem w_sald (hC : CMono C C) {i : Int32} (hE : lkp cd pc = some (.iaload, nx, a, b, v, wi)) (hi : vp_in i (hX h).1) (w : Wp C cd al rt n0 s0 Q nx ls (.int ((hX h).2 i.toNatClampNeg) :: st) h) : Wp C cd al rt n0 s0 Q pc ls (.int i :: .float 0 :: st) h := Wp.fold hC hE ⟨rfl, hi, w⟩
theorem w_lald (hC : CMono C C) {o : Nat} {i : Int32} (hE : lkp cd pc = some (.laload, nx, a, b, v, wi)) (ho : o < hN h) (hk : (hK h o).1 = 11) (hi : vp_in i (hK h o).2) (w : Wp C cd al rt n0 s0 Q nx ls (.long (hL h o i.toNatClampNeg) :: st) h) : Wp C cd al rt n0 s0 Q pc ls (.int i :: .ref o :: st) h := Wp.fold hC hE ⟨ho, hk, hi, w⟩
theorem w_bald (hC : CMono C C) {o : Nat} {i : Int32} (hE : lkp cd pc = some (.baload, nx, a, b, v, wi)) (ho : o < hN h) (hk : (hK h o).1 = 12) (hi : vp_in i (hK h o).2) (w : Wp C cd al rt n0 s0 Q nx ls (.int (hI h o i.toNatClampNeg) :: st) h) : Wp C cd al rt n0 s0 Q pc ls (.int i :: .ref o :: st) h := Wp.fold hC hE ⟨ho, hk, hi, w⟩
theorem w_aald (hC : CMono C C) {o q : Nat} {i : Int32} (hE : lkp cd pc = some (.aaload, nx, a, b, v, wi)) (ho : o < hN h) (hk : (hK h o).1 = a) (hi : vp_in i (hK h o).2) (hr : hR h o i.toNatClampNeg = some q) (w : Wp C cd al rt n0 s0 Q nx ls (.ref q :: st) h) : Wp C cd al rt n0 s0 Q pc ls (.int i :: .ref o :: st) h := Wp.fold hC hE ⟨ho, hk, hi, by show Wp _ _ _ _ _ _ _ _ _ (rfp (hR h o i.toNatClampNeg) :: st) _; rw [hr]; exact w⟩
theorem w_iast (hC : CMono C C) {o : Nat} {i x : Int32} (hE : lkp cd pc = some (.iastore, nx, a, b, v, wi)) (ho : o < hN h) (hk : (hK h o).1 = 10) (hi : vp_in i (hK h o).2) (w : Wp C cd al rt n0 s0 Q nx ls st (puI h o i.toNatClampNeg x)) : Wp C cd al rt n0 s0 Q pc ls (.int x :: .int i :: .ref o :: st) h := Wp.fold hC hE ⟨ho, hk, hi, w⟩
theorem w_last (hC : CMono C C) {o : Nat} {i : Int32} {x : Int64} (hE : lkp cd pc = some (.lastore, nx, a, b, v, wi)) (ho : o < hN h) (hk : (hK h o).1 = 11) (hi : vp_in i (hK h o).2) (w : Wp C cd al rt n0 s0 Q nx ls st (puL h o i.toNatClampNeg x)) : Wp C cd al rt n0 s0 Q pc ls (.long x :: .int i :: .ref o :: st) h := Wp.fold hC hE ⟨ho, hk, hi, w⟩
theorem w_bast (hC : CMono C C) {o : Nat} {i x : Int32} (hE : lkp cd pc = some (.bastore, nx, a, b, v, wi)) (ho : o < hN h) (hk : (hK h o).1 = 12) (hi : vp_in i (hK h o).2) (hz : x = 0 ∨ x = 1) (w : Wp C cd al rt n0 s0 Q nx ls st (puI h o i.toNatClampNeg x)) : Wp C cd al rt n0 s0 Q pc ls (.int x :: .int i :: .ref o :: st) h := Wp.fold hC hE ⟨ho, hk, hi, hz, w⟩
theorem w_aast (hC : CMono C C) {o q : Nat} {i : Int32} (hE : lkp cd pc = some (.aastore, nx, a, b, v, wi)) (ho : o < hN h) (hk : (hK h o).1 = a) (hi : vp_in i (hK h o).2) (hq : q < hN h) (hkq : (hK h q).1 = b) (w : Wp C cd al rt n0 s0 Q nx ls st (puR h o i.toNatClampNeg (some q))) : Wp C cd al rt n0 s0 Q pc ls (.ref q :: .int i :: .ref o :: st) h := Wp.fold hC hE ⟨ho, hk, hi, hq, hkq, w⟩
theorem w_alen (hC : CMono C C) {o : Nat} (hE : lkp cd pc = some (.arraylength, nx, a, b, v, wi)) (ho : o < hN h) (hk : 10 ≤ (hK h o).1) (hk2 : (hK h o).1 ≤ 14) (w : Wp C cd al rt n0 s0 Q nx ls (.int (Int32.ofNat (hK h o).2) :: st) h) : Wp C cd al rt n0 s0 Q pc ls (.ref o :: st) h := Wp.fold hC hE ⟨ho, hk, hk2, w⟩
theorem w_slen (hC : CMono C C) (hE : lkp cd pc = some (.arraylength, nx, a, b, v, wi)) (w : Wp C cd al rt n0 s0 Q nx ls (.int (Int32.ofNat (hX h).1) :: st) h) : Wp C cd al rt n0 s0 Q pc ls (.float 0 :: st) h := Wp.fold hC hE ⟨rfl, w⟩
theorem w_new (hC : CMono C C) {i : Nat} (hE : lkp cd pc = some (.new i, nx, a, b, v, wi)) (ha : alk 1 b al n0 s0 h) (w : Wp C cd al rt n0 s0 Q nx ls (.ref (hN h) :: st) (puN h a b)) : Wp C cd al rt n0 s0 Q pc ls st h := Wp.fold hC hE ⟨ha, w⟩
theorem w_newa (hC : CMono C C) {y : ArrayType} {n : Int32} (hE : lkp cd pc = some (.newarray y, nx, a, b, v, wi)) (hn : ¬ n < 0) (hn2 : n.toNatClampNeg ≤ 10000) (ha : alk 1 n.toNatClampNeg al n0 s0 h) (w : Wp C cd al rt n0 s0 Q nx ls (.ref (hN h) :: st) (puN h a n.toNatClampNeg)) : Wp C cd al rt n0 s0 Q pc ls (.int n :: st) h := Wp.fold hC hE ⟨hn, hn2, ha, w⟩
theorem w_newr (hC : CMono C C) {i : Nat} {n : Int32} (hE : lkp cd pc = some (.anewarray i, nx, a, b, v, wi)) (hn : ¬ n < 0) (hn2 : n.toNatClampNeg ≤ 10000) (ha : alk 1 n.toNatClampNeg al n0 s0 h) (w : Wp C cd al rt n0 s0 Q nx ls (.ref (hN h) :: st) (puN h a n.toNatClampNeg)) : Wp C cd al rt n0 s0 Q pc ls (.int n :: st) h := Wp.fold hC hE ⟨hn, hn2, ha, w⟩
theorem w_copy (hC : CMono C C) {i : Nat} {z : UInt32} {n dp sp : Int32} {q0 q1 : Nat} (hE : lkp cd pc = some (.invokestatic i, nx, a, b, .float z, wi)) (h1 : q0 < hN h) (h2 : q1 < hN h) (h3 : (hK h q0).1 = 10) (h4 : (hK h q1).1 = 10) (h5 : ¬ sp < 0) (h6 : ¬ dp < 0) (h7 : ¬ n < 0) (h8 : sp.toNatClampNeg + n.toNatClampNeg ≤ (hK h q0).2) (h9 : dp.toNatClampNeg + n.toNatClampNeg ≤ (hK h q1).2) (h10 : csum st ≤ 8) (w : Wp C cd al rt n0 s0 Q nx ls st (puA h q1 (va_cpy (hI h q0) (hI h q1) sp.toNatClampNeg dp.toNatClampNeg n.toNatClampNeg))) : Wp C cd al rt n0 s0 Q pc ls (.int n :: .int dp :: .ref q1 :: .int sp :: .ref q0 :: st) h := Wp.fold hC hE ⟨h1, h2, h3, h4, h5, h6, h7, h8, h9, h10, w⟩
theorem w_objI (hC : CMono C C) {i : Nat} {z : UInt32} {o : Nat} (hE : lkp cd pc = some (.invokespecial i, nx, a, b, .float z, wi)) (h10 : csum st ≤ 8) (w : Wp C cd al rt n0 s0 Q nx ls st h) : Wp C cd al rt n0 s0 Q pc ls (.ref o :: st) h := Wp.fold hC hE ⟨h10, w⟩
theorem w_cstat (hC : CMono C C) {i : Nat} {as : List Value} {stk : PS} (hE : lkp cd pc = some (.invokestatic i, nx, a, b, .null, wi)) (hb : stk.take b = as.reverse) (hd : stk.drop b = st) (hn : b ≤ stk.length) (hs : csum st ≤ 8) (w : C a as h (fun r h1 => Wp C cd al rt n0 s0 Q nx ls (r.toList ++ st) h1)) : Wp C cd al rt n0 s0 Q pc ls stk h := Wp.fold hC hE ⟨hn, by rw [hd]; exact hs, by rw [hb, List.reverse_reverse, hd]; exact w⟩
theorem w_cnest (hC : CMono C C) {z : UInt64} {i : Nat} {as : List Value} {stk : PS} (hE : lkp cd pc = some (.invokestatic i, nx, a, b, .double z, wi)) (hb : stk.take b = as.reverse) (hd : stk.drop b = st) (hn : b ≤ stk.length) (hs : csum st ≤ 8) (w : C a as h (fun r h1 => Wp C cd al rt n0 s0 Q nx ls (r.toList ++ st) h1)) : Wp C cd al rt n0 s0 Q pc ls stk h := Wp.fold hC hE ⟨hn, by rw [hd]; exact hs, by rw [hb, List.reverse_reverse, hd]; exact w⟩
theorem w_cvirt (hC : CMono C C) {i ci o : Nat} {as : List Value} {stk : PS} (hE : lkp cd pc = some (.invokevirtual i, nx, a, b, .ref ci, wi)) (hb : stk.take b = (.ref o :: as).reverse) (hd : stk.drop b = st) (hn : b ≤ stk.length) (ho : o < hN h) (hk : (hK h o).1 = ci) (hs : csum st ≤ 8) (w : C a (.ref o :: as) h (fun r h1 => Wp C cd al rt n0 s0 Q nx ls (r.toList ++ st) h1)) : Wp C cd al rt n0 s0 Q pc ls stk h := Wp.fold hC hE ⟨by show rcv stk b ci h; unfold rcv; rw [hb, List.reverse_reverse]; exact ⟨ho, hk⟩, hn, by rw [hd]; exact hs, by rw [hb, List.reverse_reverse, hd]; exact w⟩
theorem w_ctext (hC : CMono C C) {i : Nat} {z o : UInt32} {as : List Value} {stk : PS} (hE : lkp cd pc = some (.invokevirtual i, nx, a, b, .float z, wi)) (hb : stk.take b = (.float o :: as).reverse) (hd : stk.drop b = st) (hn : b ≤ stk.length) (hs : csum st ≤ 8) (w : C a (.float o :: as) h (fun r h1 => Wp C cd al rt n0 s0 Q nx ls (r.toList ++ st) h1)) : Wp C cd al rt n0 s0 Q pc ls stk h := Wp.fold hC hE ⟨by show rsp stk b; unfold rsp; rw [hb, List.reverse_reverse]; trivial, hn, by rw [hd]; exact hs, by rw [hb, List.reverse_reverse, hd]; exact w⟩
theorem w_cinit (hC : CMono C C) {i ci o : Nat} {as : List Value} {stk : PS} (hE : lkp cd pc = some (.invokespecial i, nx, a, b, .ref ci, wi)) (hb : stk.take b = (.ref o :: as).reverse) (hd : stk.drop b = st) (hn : b ≤ stk.length) (ha : alk (mcs a).1 (mcs a).2 al n0 s0 h) (hs : csum st ≤ 8) (w : C a (.ref o :: as) h (fun r h1 => Wp C cd al rt n0 s0 Q nx ls (r.toList ++ st) h1)) : Wp C cd al rt n0 s0 Q pc ls stk h := Wp.fold hC hE ⟨by show rrf stk b; unfold rrf; rw [hb, List.reverse_reverse]; trivial, ha, hn, by rw [hd]; exact hs, by rw [hb, List.reverse_reverse, hd]; exact w⟩
theorem w_ireturn (hC : CMono C C) {x : Int32} (hE : lkp cd pc = some (.ireturn, nx, a, b, v, wi)) (hr : rok rt x) (hf : rfit al n0 s0 h) (w : Q (some (.int x)) h) : Wp C cd al rt n0 s0 Q pc ls [.int x] h := Wp.fold hC hE ⟨hr, hf, w⟩
theorem w_lreturn (hC : CMono C C) {x : Int64} (hE : lkp cd pc = some (.lreturn, nx, a, b, v, wi)) (hr : rt = some .long) (hf : rfit al n0 s0 h) (w : Q (some (.long x)) h) : Wp C cd al rt n0 s0 Q pc ls [.long x] h := Wp.fold hC hE ⟨hr, hf, w⟩
theorem w_areturn (hC : CMono C C) {u : Value} (hE : lkp cd pc = some (.areturn, nx, a, b, v, wi)) (hr : isRV u) (hf : rfit al n0 s0 h) (w : Q (some u) h) : Wp C cd al rt n0 s0 Q pc ls [u] h := Wp.fold hC hE ⟨hr, hf, w⟩
theorem w_return (hC : CMono C C) (hE : lkp cd pc = some (.return_, nx, a, b, v, wi)) (hr : rt = none) (hf : rfit al n0 s0 h) (w : Q none h) : Wp C cd al rt n0 s0 Q pc ls [] h := Wp.fold hC hE ⟨hr, hf, w⟩
theorem tswI_ok {kk : Nat → Prop} {pc : Nat} {x : Int32} {d : Int} : ∀ {os : List Int} {v : Int}, tswI kk pc x d os v → tsw kk pc x os v ∧ (x.toInt < v ∨ v + os.length - 1 < x.toInt → kk (tgo pc d))
  | [], v, w => ⟨trivial, fun _ => w⟩
  | o :: r, v, w => by
    refine ⟨⟨w.1, ?_⟩, fun q => ?_⟩
    · by_cases e : x.toInt = v
      · exact tsw_gt r (v + 1) (by omega)
      · exact (tswI_ok (w.2 e)).1
    · have e : ¬ x.toInt = v := by
        intro z
        simp only [List.length_cons] at q
        omega
      refine (tswI_ok (w.2 e)).2 ?_
      simp only [List.length_cons] at q
      omega
theorem w_tswI (hC : CMono C C) {d lo hi : Int} {os : Array Int} {x : Int32} (hE : lkp cd pc = some (.tableswitch d lo hi os, nx, a, b, v, wi)) (hn : lo + os.toList.length - 1 = hi) (w : tswI (fun q => Wp C cd al rt n0 s0 Q q ls st h) a x d os.toList lo) : Wp C cd al rt n0 s0 Q pc ls (.int x :: st) h := by
  have k := tswI_ok w
  rw [hn] at k
  exact w_tsw hC hE k.2 k.1
theorem lswAt {K : Nat → Prop} {pc : Nat} {x : Int32} {d : Int} : ∀ {os : List (Int × Int)}, lsw K pc x d os → K (tgo pc (Op.lookupswitch.offset os d x.toInt))
  | [], w => w
  | (v, o) :: r, w => by
    rw [Op.lookupswitch.offset_cons]
    by_cases e : x.toInt = v
    · rw [if_pos e.symm]; exact w.1 e
    · rw [if_neg (fun z => e z.symm)]; exact lswAt (w.2 e)
theorem tsw_of {K : Nat → Prop} {pc : Nat} {x : Int32} : ∀ (os : List Int) (v : Int), (∀ (j : Nat) (o : Int), os[j]? = some o → x.toInt = v + j → K (tgo pc o)) → tsw K pc x os v
  | [], _, _ => trivial
  | o :: r, v, h => ⟨fun e => h 0 o rfl (by simpa using e), tsw_of r (v + 1) (fun j o' e1 e2 => h (j + 1) o' (by simpa using e1) (by omega))⟩
theorem lof_out {d x lo hi : Int} (hx : x < lo ∨ hi < x) : ∀ (ps : List (Int × Int)), ps.all (fun q => decide (lo ≤ q.1) && decide (q.1 ≤ hi)) = true → Op.lookupswitch.offset ps d x = d
  | [], _ => rfl
  | (v, o) :: r, h => by
    simp only [List.all_cons, Bool.and_eq_true, decide_eq_true_eq] at h
    rw [Op.lookupswitch.offset_cons, if_neg (by omega)]
    exact lof_out hx r h.2
theorem w_tswL (hC : CMono C C) (ps : List (Int × Int)) {d lo hi : Int} {os : Array Int} {x : Int32} (hE : lkp cd pc = some (.tableswitch d lo hi os, nx, a, b, v, wi)) (hm : os.toList = (List.range os.toList.length).map (fun j : Nat => Op.lookupswitch.offset ps d (lo + (j : Int)))) (hk : ps.all (fun q => decide (lo ≤ q.1) && decide (q.1 ≤ hi)) = true) (w : lsw (fun q => Wp C cd al rt n0 s0 Q q ls st h) a x d ps) : Wp C cd al rt n0 s0 Q pc ls (.int x :: st) h := by
  have k := lswAt w
  refine w_tsw hC hE (fun q => ?_) (tsw_of _ _ fun j o e1 e2 => ?_)
  · rw [lof_out q ps hk] at k
    exact k
  · rw [hm, List.getElem?_map] at e1
    have hj : j < os.toList.length := by
      by_cases hz : j < os.toList.length
      · exact hz
      · rw [List.getElem?_eq_none (by simpa using Nat.not_lt.mp hz)] at e1
        cases e1
    rw [List.getElem?_range hj] at e1
    simp only [Option.map_some, Option.some.injEq] at e1
    rw [← e1, ← e2]
    exact k
theorem rf0 : rfit (0, 0) n0 s0 h := Or.inl ⟨rfl, rfl⟩
/-- a method's start -/
theorem ev_start {d k : Nat} {M : PMr} {as : List Value} (hM : mG k = some M) (h9 : Nat.beq k 9 = false) (h10 : Nat.beq k 10 = false) (hc : csum as ≤ M.2.2.1) (w : Wp (Ev d) M.2.2.2.2.2.2.2 (mcs k) M.2.2.2.1 (hN h) (hSl h) Q 0 (lv_args 0 as) [] h) : Ev (d + 1) k as h Q := by
  show (match mG k with | some M => _ | none => False)
  rw [hM]
  refine Or.inr ⟨?_, hc, w⟩
  rintro (e | e)
  · subst e; cases h9
  · subst e; cases h10
end ROWS
