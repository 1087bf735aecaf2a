/-! THE RULES: one an instruction -/
section XRULES
variable {g : xGT} {d : Nat} {mi : xMI} {pc : Nat} {ls : List (Option Value)} {st : List Value} {nx nx' : Nat} {u : xU} {w : xW} {r : xQ} {P : xPost}
theorem xe_iconst {n : Int} {v : Int32} (hd : decode mi.2.1 pc = .ok (.iconst n, 1)) (hv : Int32.ofInt n = v) (kk : xEv g d mi (pc + 1) ls (.int v :: st) nx u w r nx' P) : xEv g d mi pc ls st nx u w r nx' P :=
  xEv.lift (fun p e R s m args below meth c H locs k n rl Q F G hR ho kk => lv_iconst F.1 F.2.1 hd hv kk) kk
theorem xe_bipush {n : Int} {v : Int32} (hd : decode mi.2.1 pc = .ok (.bipush n, 2)) (hv : (Int8.ofInt n).toInt32 = v) (kk : xEv g d mi (pc + 2) ls (.int v :: st) nx u w r nx' P) : xEv g d mi pc ls st nx u w r nx' P :=
  xEv.lift (fun p e R s m args below meth c H locs k n rl Q F G hR ho kk => lv_bipush F.1 F.2.1 hd hv kk) kk
theorem xe_sipush {n : Int} {v : Int32} (hd : decode mi.2.1 pc = .ok (.sipush n, 3)) (hv : (Int16.ofInt n).toInt32 = v) (kk : xEv g d mi (pc + 3) ls (.int v :: st) nx u w r nx' P) : xEv g d mi pc ls st nx u w r nx' P :=
  xEv.lift (fun p e R s m args below meth c H locs k n rl Q F G hR ho kk => lv_sipush F.1 F.2.1 hd hv kk) kk
theorem xe_lconst {n : Fin 2} {v : Int64} (hd : decode mi.2.1 pc = .ok (.lconst n, 1)) (hv : Int64.ofNat (n : Nat) = v) (kk : xEv g d mi (pc + 1) ls (.long v :: st) nx u w r nx' P) : xEv g d mi pc ls st nx u w r nx' P :=
  xEv.lift (fun p e R s m args below meth c H locs k n rl Q F G hR ho kk => lv_lconst F.1 F.2.1 hd hv kk) kk
theorem xe_ldc {i : Nat} {v : Int32} (hd : decode mi.2.1 pc = .ok (.ldc i, 2)) (hw : Cond.constant mi.1.cls i v ∈ xT) (kk : xEv g d mi (pc + 2) ls (.int v :: st) nx u w r nx' P) : xEv g d mi pc ls st nx u w r nx' P :=
  xEv.lift (fun p e R s m args below meth c H locs k n rl Q F G hR ho kk => lv_ldc F.1 F.2.1 F.2.2.2.1 (F.2.2.2.2.1 _ hw) hd kk) kk
theorem xe_ldcw {i : Nat} {v : Int32} (hd : decode mi.2.1 pc = .ok (.ldc_w i, 3)) (hw : Cond.constant mi.1.cls i v ∈ xT) (kk : xEv g d mi (pc + 3) ls (.int v :: st) nx u w r nx' P) : xEv g d mi pc ls st nx u w r nx' P :=
  xEv.lift (fun p e R s m args below meth c H locs k n rl Q F G hR ho kk => lv_ldcw F.1 F.2.1 F.2.2.2.1 (F.2.2.2.2.1 _ hw) hd kk) kk
theorem xe_ldc2 {i : Nat} {v : Int64} (hd : decode mi.2.1 pc = .ok (.ldc2_w i, 3)) (hw : Cond.constantLong mi.1.cls i v ∈ xT) (kk : xEv g d mi (pc + 3) ls (.long v :: st) nx u w r nx' P) : xEv g d mi pc ls st nx u w r nx' P :=
  xEv.lift (fun p e R s m args below meth c H locs k n rl Q F G hR ho kk => lv_ldc2 F.1 F.2.1 F.2.2.2.1 (F.2.2.2.2.1 _ hw) hd kk) kk
theorem xe_iload_n {k : Fin 4} {x : Int32} (hd : decode mi.2.1 pc = .ok (.iload_n k, 1)) (hl : ls[(k : Nat)]? = some (some (.int x))) (kk : xEv g d mi (pc + 1) ls (.int x :: st) nx u w r nx' P) : xEv g d mi pc ls st nx u w r nx' P :=
  xEv.lift (fun p e R s m args below meth c H locs k n rl Q F G hR ho kk => lv_iload_n F.1 F.2.1 hd rfl (ho.2.2 _ _ hl) kk) kk
theorem xe_iload {i : Nat} {x : Int32} (hd : decode mi.2.1 pc = .ok (.iload i, 2)) (hl : ls[i]? = some (some (.int x))) (kk : xEv g d mi (pc + 2) ls (.int x :: st) nx u w r nx' P) : xEv g d mi pc ls st nx u w r nx' P :=
  xEv.lift (fun p e R s m args below meth c H locs k n rl Q F G hR ho kk => lv_iload F.1 F.2.1 hd (ho.2.2 _ _ hl) kk) kk
theorem xe_lload_n {k : Fin 4} {x : Int64} (hd : decode mi.2.1 pc = .ok (.lload_n k, 1)) (hl : ls[(k : Nat)]? = some (some (.long x))) (kk : xEv g d mi (pc + 1) ls (.long x :: st) nx u w r nx' P) : xEv g d mi pc ls st nx u w r nx' P :=
  xEv.lift (fun p e R s m args below meth c H locs k n rl Q F G hR ho kk => lv_lload_n F.1 F.2.1 hd rfl (ho.2.2 _ _ hl) kk) kk
theorem xe_lload {i : Nat} {x : Int64} (hd : decode mi.2.1 pc = .ok (.lload i, 2)) (hl : ls[i]? = some (some (.long x))) (kk : xEv g d mi (pc + 2) ls (.long x :: st) nx u w r nx' P) : xEv g d mi pc ls st nx u w r nx' P :=
  xEv.lift (fun p e R s m args below meth c H locs k n rl Q F G hR ho kk => lv_lload F.1 F.2.1 hd (ho.2.2 _ _ hl) kk) kk
theorem xe_aload_n {k : Fin 4} {x : Nat} (hd : decode mi.2.1 pc = .ok (.aload_n k, 1)) (hl : ls[(k : Nat)]? = some (some (.ref x))) (kk : xEv g d mi (pc + 1) ls (.ref x :: st) nx u w r nx' P) : xEv g d mi pc ls st nx u w r nx' P :=
  xEv.lift (fun p e R s m args below meth c H locs k n rl Q F G hR ho kk => lv_aload_n F.1 F.2.1 hd rfl (ho.2.2 _ _ hl) kk) kk
theorem xe_aload {i : Nat} {x : Nat} (hd : decode mi.2.1 pc = .ok (.aload i, 2)) (hl : ls[i]? = some (some (.ref x))) (kk : xEv g d mi (pc + 2) ls (.ref x :: st) nx u w r nx' P) : xEv g d mi pc ls st nx u w r nx' P :=
  xEv.lift (fun p e R s m args below meth c H locs k n rl Q F G hR ho kk => lv_aload F.1 F.2.1 hd (ho.2.2 _ _ hl) kk) kk
theorem xe_iadd {x y : Int32} (hd : decode mi.2.1 pc = .ok (.iadd, 1))  (kk : xEv g d mi (pc + 1) ls (.int (x + y) :: st) nx u w r nx' P) : xEv g d mi pc ls (.int y :: .int x :: st) nx u w r nx' P :=
  xEv.lift (fun p e R s m args below meth c H locs k n rl Q F G hR ho kk => lv_iadd F.1 F.2.1 hd kk) kk
theorem xe_isub {x y : Int32} (hd : decode mi.2.1 pc = .ok (.isub, 1))  (kk : xEv g d mi (pc + 1) ls (.int (x - y) :: st) nx u w r nx' P) : xEv g d mi pc ls (.int y :: .int x :: st) nx u w r nx' P :=
  xEv.lift (fun p e R s m args below meth c H locs k n rl Q F G hR ho kk => lv_isub F.1 F.2.1 hd kk) kk
theorem xe_imul {x y : Int32} (hd : decode mi.2.1 pc = .ok (.imul, 1))  (kk : xEv g d mi (pc + 1) ls (.int (x * y) :: st) nx u w r nx' P) : xEv g d mi pc ls (.int y :: .int x :: st) nx u w r nx' P :=
  xEv.lift (fun p e R s m args below meth c H locs k n rl Q F G hR ho kk => lv_imul F.1 F.2.1 hd kk) kk
theorem xe_iand {x y : Int32} (hd : decode mi.2.1 pc = .ok (.iand, 1))  (kk : xEv g d mi (pc + 1) ls (.int (x &&& y) :: st) nx u w r nx' P) : xEv g d mi pc ls (.int y :: .int x :: st) nx u w r nx' P :=
  xEv.lift (fun p e R s m args below meth c H locs k n rl Q F G hR ho kk => lv_iand F.1 F.2.1 hd kk) kk
theorem xe_ior {x y : Int32} (hd : decode mi.2.1 pc = .ok (.ior, 1))  (kk : xEv g d mi (pc + 1) ls (.int (x ||| y) :: st) nx u w r nx' P) : xEv g d mi pc ls (.int y :: .int x :: st) nx u w r nx' P :=
  xEv.lift (fun p e R s m args below meth c H locs k n rl Q F G hR ho kk => lv_ior F.1 F.2.1 hd kk) kk
theorem xe_ixor {x y : Int32} (hd : decode mi.2.1 pc = .ok (.ixor, 1))  (kk : xEv g d mi (pc + 1) ls (.int (x ^^^ y) :: st) nx u w r nx' P) : xEv g d mi pc ls (.int y :: .int x :: st) nx u w r nx' P :=
  xEv.lift (fun p e R s m args below meth c H locs k n rl Q F G hR ho kk => lv_ixor F.1 F.2.1 hd kk) kk
theorem xe_idiv {x y : Int32} (hd : decode mi.2.1 pc = .ok (.idiv, 1)) (hne : ¬ y = 0) (kk : xEv g d mi (pc + 1) ls (.int (x / y) :: st) nx u w r nx' P) : xEv g d mi pc ls (.int y :: .int x :: st) nx u w r nx' P :=
  xEv.lift (fun p e R s m args below meth c H locs k n rl Q F G hR ho kk => lv_idiv F.1 F.2.1 hd hne kk) kk
theorem xe_irem {x y : Int32} (hd : decode mi.2.1 pc = .ok (.irem, 1)) (hne : ¬ y = 0) (kk : xEv g d mi (pc + 1) ls (.int (x - x / y * y) :: st) nx u w r nx' P) : xEv g d mi pc ls (.int y :: .int x :: st) nx u w r nx' P :=
  xEv.lift (fun p e R s m args below meth c H locs k n rl Q F G hR ho kk => lv_irem F.1 F.2.1 hd hne kk) kk
theorem xe_ineg {x : Int32} (hd : decode mi.2.1 pc = .ok (.ineg, 1))  (kk : xEv g d mi (pc + 1) ls (.int (-x) :: st) nx u w r nx' P) : xEv g d mi pc ls (.int x :: st) nx u w r nx' P :=
  xEv.lift (fun p e R s m args below meth c H locs k n rl Q F G hR ho kk => lv_ineg F.1 F.2.1 hd kk) kk
theorem xe_ishl {x y : Int32} (hd : decode mi.2.1 pc = .ok (.ishl, 1))  (kk : xEv g d mi (pc + 1) ls (.int (x <<< (y &&& 31)) :: st) nx u w r nx' P) : xEv g d mi pc ls (.int y :: .int x :: st) nx u w r nx' P :=
  xEv.lift (fun p e R s m args below meth c H locs k n rl Q F G hR ho kk => lv_ishl F.1 F.2.1 hd kk) kk
theorem xe_ishr {x y : Int32} (hd : decode mi.2.1 pc = .ok (.ishr, 1))  (kk : xEv g d mi (pc + 1) ls (.int (x >>> (y &&& 31)) :: st) nx u w r nx' P) : xEv g d mi pc ls (.int y :: .int x :: st) nx u w r nx' P :=
  xEv.lift (fun p e R s m args below meth c H locs k n rl Q F G hR ho kk => lv_ishr F.1 F.2.1 hd kk) kk
theorem xe_iushr {x y v : Int32} (hd : decode mi.2.1 pc = .ok (.iushr, 1)) (hv : (x.toUInt32 >>> (y.toUInt32 &&& Int32.toUInt32 31)).toInt32 = v) (kk : xEv g d mi (pc + 1) ls (.int v :: st) nx u w r nx' P) : xEv g d mi pc ls (.int y :: .int x :: st) nx u w r nx' P :=
  xEv.lift (fun p e R s m args below meth c H locs k n rl Q F G hR ho kk => lv_iushr F.1 F.2.1 hd hv kk) kk
theorem xe_ladd {x y : Int64} (hd : decode mi.2.1 pc = .ok (.ladd, 1))  (kk : xEv g d mi (pc + 1) ls (.long (x + y) :: st) nx u w r nx' P) : xEv g d mi pc ls (.long y :: .long x :: st) nx u w r nx' P :=
  xEv.lift (fun p e R s m args below meth c H locs k n rl Q F G hR ho kk => lv_ladd F.1 F.2.1 hd kk) kk
theorem xe_lsub {x y : Int64} (hd : decode mi.2.1 pc = .ok (.lsub, 1))  (kk : xEv g d mi (pc + 1) ls (.long (x - y) :: st) nx u w r nx' P) : xEv g d mi pc ls (.long y :: .long x :: st) nx u w r nx' P :=
  xEv.lift (fun p e R s m args below meth c H locs k n rl Q F G hR ho kk => lv_lsub F.1 F.2.1 hd kk) kk
theorem xe_lmul {x y : Int64} (hd : decode mi.2.1 pc = .ok (.lmul, 1))  (kk : xEv g d mi (pc + 1) ls (.long (x * y) :: st) nx u w r nx' P) : xEv g d mi pc ls (.long y :: .long x :: st) nx u w r nx' P :=
  xEv.lift (fun p e R s m args below meth c H locs k n rl Q F G hR ho kk => lv_lmul F.1 F.2.1 hd kk) kk
theorem xe_land {x y : Int64} (hd : decode mi.2.1 pc = .ok (.land, 1))  (kk : xEv g d mi (pc + 1) ls (.long (x &&& y) :: st) nx u w r nx' P) : xEv g d mi pc ls (.long y :: .long x :: st) nx u w r nx' P :=
  xEv.lift (fun p e R s m args below meth c H locs k n rl Q F G hR ho kk => lv_land F.1 F.2.1 hd kk) kk
theorem xe_lor {x y : Int64} (hd : decode mi.2.1 pc = .ok (.lor, 1))  (kk : xEv g d mi (pc + 1) ls (.long (x ||| y) :: st) nx u w r nx' P) : xEv g d mi pc ls (.long y :: .long x :: st) nx u w r nx' P :=
  xEv.lift (fun p e R s m args below meth c H locs k n rl Q F G hR ho kk => lv_lor F.1 F.2.1 hd kk) kk
theorem xe_lshl {x : Int64} {y : Int32} (hd : decode mi.2.1 pc = .ok (.lshl, 1))  (kk : xEv g d mi (pc + 1) ls (.long (x <<< (y.toInt64 &&& 63)) :: st) nx u w r nx' P) : xEv g d mi pc ls (.int y :: .long x :: st) nx u w r nx' P :=
  xEv.lift (fun p e R s m args below meth c H locs k n rl Q F G hR ho kk => lv_lshl F.1 F.2.1 hd rfl kk) kk
theorem xe_lcmp {x y : Int64} (hd : decode mi.2.1 pc = .ok (.lcmp, 1))  (kk : xEv g d mi (pc + 1) ls (.int (lg_cmp x y) :: st) nx u w r nx' P) : xEv g d mi pc ls (.long y :: .long x :: st) nx u w r nx' P :=
  xEv.lift (fun p e R s m args below meth c H locs k n rl Q F G hR ho kk => W.lcmp F.1 F.2.1 hd kk) kk
theorem xe_i2l {x : Int32} (hd : decode mi.2.1 pc = .ok (.i2l, 1))  (kk : xEv g d mi (pc + 1) ls (.long x.toInt64 :: st) nx u w r nx' P) : xEv g d mi pc ls (.int x :: st) nx u w r nx' P :=
  xEv.lift (fun p e R s m args below meth c H locs k n rl Q F G hR ho kk => lv_i2l F.1 F.2.1 hd rfl kk) kk
theorem xe_l2i {x : Int64} (hd : decode mi.2.1 pc = .ok (.l2i, 1))  (kk : xEv g d mi (pc + 1) ls (.int x.toInt32 :: st) nx u w r nx' P) : xEv g d mi pc ls (.long x :: st) nx u w r nx' P :=
  xEv.lift (fun p e R s m args below meth c H locs k n rl Q F G hR ho kk => lv_l2i F.1 F.2.1 hd rfl kk) kk
theorem xe_i2b {x : Int32} (hd : decode mi.2.1 pc = .ok (.i2b, 1))  (kk : xEv g d mi (pc + 1) ls (.int x.toInt8.toInt32 :: st) nx u w r nx' P) : xEv g d mi pc ls (.int x :: st) nx u w r nx' P :=
  xEv.lift (fun p e R s m args below meth c H locs k n rl Q F G hR ho kk => lv_i2b F.1 F.2.1 hd rfl kk) kk
theorem xe_i2c {x : Int32} (hd : decode mi.2.1 pc = .ok (.i2c, 1))  (kk : xEv g d mi (pc + 1) ls (.int (x.toUInt32 % 65536).toInt32 :: st) nx u w r nx' P) : xEv g d mi pc ls (.int x :: st) nx u w r nx' P :=
  xEv.lift (fun p e R s m args below meth c H locs k n rl Q F G hR ho kk => lv_i2c F.1 F.2.1 hd rfl kk) kk
theorem xe_dup {a : Value} (hd : decode mi.2.1 pc = .ok (.dup, 1)) (ha : a.category = 1) (kk : xEv g d mi (pc + 1) ls (a :: a :: st) nx u w r nx' P) : xEv g d mi pc ls (a :: st) nx u w r nx' P :=
  xEv.lift (fun p e R s m args below meth c H locs k n rl Q F G hR ho kk => lv_dup F.1 F.2.1 hd (by rw [xv_cat]; exact ha) kk) kk
theorem xe_dup_x1 {a b : Value} (hd : decode mi.2.1 pc = .ok (.dup_x1, 1)) (ha : a.category = 1) (hb : b.category = 1) (kk : xEv g d mi (pc + 1) ls (a :: b :: a :: st) nx u w r nx' P) : xEv g d mi pc ls (a :: b :: st) nx u w r nx' P :=
  xEv.lift (fun p e R s m args below meth c H locs k n rl Q F G hR ho kk => lv_dup_x1 F.1 F.2.1 hd (by rw [xv_cat]; exact ha) (by rw [xv_cat]; exact hb) kk) kk
theorem xe_dup2 {a b : Value} (hd : decode mi.2.1 pc = .ok (.dup2, 1)) (ha : a.category = 1) (hb : b.category = 1) (kk : xEv g d mi (pc + 1) ls (a :: b :: a :: b :: st) nx u w r nx' P) : xEv g d mi pc ls (a :: b :: st) nx u w r nx' P :=
  xEv.lift (fun p e R s m args below meth c H locs k n rl Q F G hR ho kk => lv_dup2_11 F.1 F.2.1 hd (by rw [xv_cat]; exact ha) (by rw [xv_cat]; exact hb) kk) kk
theorem xe_pop {a : Value} (hd : decode mi.2.1 pc = .ok (.pop, 1)) (ha : a.category = 1) (kk : xEv g d mi (pc + 1) ls st nx u w r nx' P) : xEv g d mi pc ls (a :: st) nx u w r nx' P :=
  xEv.lift (fun p e R s m args below meth c H locs k n rl Q F G hR ho kk => lv_pop F.1 F.2.1 hd (by rw [xv_cat]; exact ha) kk) kk
theorem xe_goto {off : Int} {tgt : Nat} (hd : decode mi.2.1 pc = .ok (.goto off, 3)) (ht : (pc : Int) + off = (tgt : Int)) (kk : xEv g d mi tgt ls st nx u w r nx' P) : xEv g d mi pc ls st nx u w r nx' P :=
  xEv.lift (fun p e R s m args below meth c H locs k n rl Q F G hR ho kk => lv_goto F.1 F.2.1 hd ht kk) kk
theorem xe_if_eq {x : Int32} {off : Int} {tgt : Nat} (hd : decode mi.2.1 pc = .ok (.ifCond .eq off, 3)) (ht : (pc : Int) + off = (tgt : Int)) (kt : x = 0 → xEv g d mi tgt ls st nx u w r nx' P) (kf : ¬ (x = 0) → xEv g d mi (pc + 3) ls st nx u w r nx' P) : xEv g d mi pc ls (.int x :: st) nx u w r nx' P := by
  by_cases hP : x = 0
  · exact xEv.lift (fun p e R s m args below meth c H locs k n rl Q F G hR ho kk => lv_if_eq F.1 F.2.1 hd ht (fun _ => kk) (fun h => absurd hP h)) (kt hP)
  · exact xEv.lift (fun p e R s m args below meth c H locs k n rl Q F G hR ho kk => lv_if_eq F.1 F.2.1 hd ht (fun h => absurd h hP) (fun _ => kk)) (kf hP)
theorem xe_icmp_eq {x y : Int32} {off : Int} {tgt : Nat} (hd : decode mi.2.1 pc = .ok (.if_icmp .eq off, 3)) (ht : (pc : Int) + off = (tgt : Int)) (kt : x = y → xEv g d mi tgt ls st nx u w r nx' P) (kf : ¬ (x = y) → xEv g d mi (pc + 3) ls st nx u w r nx' P) : xEv g d mi pc ls (.int y :: .int x :: st) nx u w r nx' P := by
  by_cases hP : x = y
  · exact xEv.lift (fun p e R s m args below meth c H locs k n rl Q F G hR ho kk => lv_icmp_eq F.1 F.2.1 hd ht (fun _ => kk) (fun h => absurd hP h)) (kt hP)
  · exact xEv.lift (fun p e R s m args below meth c H locs k n rl Q F G hR ho kk => lv_icmp_eq F.1 F.2.1 hd ht (fun h => absurd h hP) (fun _ => kk)) (kf hP)
theorem xe_if_ne {x : Int32} {off : Int} {tgt : Nat} (hd : decode mi.2.1 pc = .ok (.ifCond .ne off, 3)) (ht : (pc : Int) + off = (tgt : Int)) (kt : ¬ x = 0 → xEv g d mi tgt ls st nx u w r nx' P) (kf : x = 0 → xEv g d mi (pc + 3) ls st nx u w r nx' P) : xEv g d mi pc ls (.int x :: st) nx u w r nx' P := by
  by_cases hP : x = 0
  · exact xEv.lift (fun p e R s m args below meth c H locs k n rl Q F G hR ho kk => lv_if_ne F.1 F.2.1 hd ht (fun h => absurd hP h) (fun _ => kk)) (kf hP)
  · exact xEv.lift (fun p e R s m args below meth c H locs k n rl Q F G hR ho kk => lv_if_ne F.1 F.2.1 hd ht (fun _ => kk) (fun h => absurd h hP)) (kt hP)
theorem xe_icmp_ne {x y : Int32} {off : Int} {tgt : Nat} (hd : decode mi.2.1 pc = .ok (.if_icmp .ne off, 3)) (ht : (pc : Int) + off = (tgt : Int)) (kt : ¬ x = y → xEv g d mi tgt ls st nx u w r nx' P) (kf : x = y → xEv g d mi (pc + 3) ls st nx u w r nx' P) : xEv g d mi pc ls (.int y :: .int x :: st) nx u w r nx' P := by
  by_cases hP : x = y
  · exact xEv.lift (fun p e R s m args below meth c H locs k n rl Q F G hR ho kk => lv_icmp_ne F.1 F.2.1 hd ht (fun h => absurd hP h) (fun _ => kk)) (kf hP)
  · exact xEv.lift (fun p e R s m args below meth c H locs k n rl Q F G hR ho kk => lv_icmp_ne F.1 F.2.1 hd ht (fun _ => kk) (fun h => absurd h hP)) (kt hP)
theorem xe_if_lt {x : Int32} {off : Int} {tgt : Nat} (hd : decode mi.2.1 pc = .ok (.ifCond .lt off, 3)) (ht : (pc : Int) + off = (tgt : Int)) (kt : x < 0 → xEv g d mi tgt ls st nx u w r nx' P) (kf : ¬ (x < 0) → xEv g d mi (pc + 3) ls st nx u w r nx' P) : xEv g d mi pc ls (.int x :: st) nx u w r nx' P := by
  by_cases hP : x < 0
  · exact xEv.lift (fun p e R s m args below meth c H locs k n rl Q F G hR ho kk => lv_if_lt F.1 F.2.1 hd ht (fun _ => kk) (fun h => absurd hP h)) (kt hP)
  · exact xEv.lift (fun p e R s m args below meth c H locs k n rl Q F G hR ho kk => lv_if_lt F.1 F.2.1 hd ht (fun h => absurd h hP) (fun _ => kk)) (kf hP)
theorem xe_icmp_lt {x y : Int32} {off : Int} {tgt : Nat} (hd : decode mi.2.1 pc = .ok (.if_icmp .lt off, 3)) (ht : (pc : Int) + off = (tgt : Int)) (kt : x < y → xEv g d mi tgt ls st nx u w r nx' P) (kf : ¬ (x < y) → xEv g d mi (pc + 3) ls st nx u w r nx' P) : xEv g d mi pc ls (.int y :: .int x :: st) nx u w r nx' P := by
  by_cases hP : x < y
  · exact xEv.lift (fun p e R s m args below meth c H locs k n rl Q F G hR ho kk => lv_icmp_lt F.1 F.2.1 hd ht (fun _ => kk) (fun h => absurd hP h)) (kt hP)
  · exact xEv.lift (fun p e R s m args below meth c H locs k n rl Q F G hR ho kk => lv_icmp_lt F.1 F.2.1 hd ht (fun h => absurd h hP) (fun _ => kk)) (kf hP)
theorem xe_if_ge {x : Int32} {off : Int} {tgt : Nat} (hd : decode mi.2.1 pc = .ok (.ifCond .ge off, 3)) (ht : (pc : Int) + off = (tgt : Int)) (kt : 0 ≤ x → xEv g d mi tgt ls st nx u w r nx' P) (kf : ¬ (0 ≤ x) → xEv g d mi (pc + 3) ls st nx u w r nx' P) : xEv g d mi pc ls (.int x :: st) nx u w r nx' P := by
  by_cases hP : 0 ≤ x
  · exact xEv.lift (fun p e R s m args below meth c H locs k n rl Q F G hR ho kk => lv_if_ge F.1 F.2.1 hd ht (fun _ => kk) (fun h => absurd hP h)) (kt hP)
  · exact xEv.lift (fun p e R s m args below meth c H locs k n rl Q F G hR ho kk => lv_if_ge F.1 F.2.1 hd ht (fun h => absurd h hP) (fun _ => kk)) (kf hP)
theorem xe_icmp_ge {x y : Int32} {off : Int} {tgt : Nat} (hd : decode mi.2.1 pc = .ok (.if_icmp .ge off, 3)) (ht : (pc : Int) + off = (tgt : Int)) (kt : y ≤ x → xEv g d mi tgt ls st nx u w r nx' P) (kf : ¬ (y ≤ x) → xEv g d mi (pc + 3) ls st nx u w r nx' P) : xEv g d mi pc ls (.int y :: .int x :: st) nx u w r nx' P := by
  by_cases hP : y ≤ x
  · exact xEv.lift (fun p e R s m args below meth c H locs k n rl Q F G hR ho kk => lv_icmp_ge F.1 F.2.1 hd ht (fun _ => kk) (fun h => absurd hP h)) (kt hP)
  · exact xEv.lift (fun p e R s m args below meth c H locs k n rl Q F G hR ho kk => lv_icmp_ge F.1 F.2.1 hd ht (fun h => absurd h hP) (fun _ => kk)) (kf hP)
theorem xe_if_gt {x : Int32} {off : Int} {tgt : Nat} (hd : decode mi.2.1 pc = .ok (.ifCond .gt off, 3)) (ht : (pc : Int) + off = (tgt : Int)) (kt : 0 < x → xEv g d mi tgt ls st nx u w r nx' P) (kf : ¬ (0 < x) → xEv g d mi (pc + 3) ls st nx u w r nx' P) : xEv g d mi pc ls (.int x :: st) nx u w r nx' P := by
  by_cases hP : 0 < x
  · exact xEv.lift (fun p e R s m args below meth c H locs k n rl Q F G hR ho kk => lv_if_gt F.1 F.2.1 hd ht (fun _ => kk) (fun h => absurd hP h)) (kt hP)
  · exact xEv.lift (fun p e R s m args below meth c H locs k n rl Q F G hR ho kk => lv_if_gt F.1 F.2.1 hd ht (fun h => absurd h hP) (fun _ => kk)) (kf hP)
theorem xe_icmp_gt {x y : Int32} {off : Int} {tgt : Nat} (hd : decode mi.2.1 pc = .ok (.if_icmp .gt off, 3)) (ht : (pc : Int) + off = (tgt : Int)) (kt : y < x → xEv g d mi tgt ls st nx u w r nx' P) (kf : ¬ (y < x) → xEv g d mi (pc + 3) ls st nx u w r nx' P) : xEv g d mi pc ls (.int y :: .int x :: st) nx u w r nx' P := by
  by_cases hP : y < x
  · exact xEv.lift (fun p e R s m args below meth c H locs k n rl Q F G hR ho kk => lv_icmp_gt F.1 F.2.1 hd ht (fun _ => kk) (fun h => absurd hP h)) (kt hP)
  · exact xEv.lift (fun p e R s m args below meth c H locs k n rl Q F G hR ho kk => lv_icmp_gt F.1 F.2.1 hd ht (fun h => absurd h hP) (fun _ => kk)) (kf hP)
theorem xe_if_le {x : Int32} {off : Int} {tgt : Nat} (hd : decode mi.2.1 pc = .ok (.ifCond .le off, 3)) (ht : (pc : Int) + off = (tgt : Int)) (kt : x ≤ 0 → xEv g d mi tgt ls st nx u w r nx' P) (kf : ¬ (x ≤ 0) → xEv g d mi (pc + 3) ls st nx u w r nx' P) : xEv g d mi pc ls (.int x :: st) nx u w r nx' P := by
  by_cases hP : x ≤ 0
  · exact xEv.lift (fun p e R s m args below meth c H locs k n rl Q F G hR ho kk => lv_if_le F.1 F.2.1 hd ht (fun _ => kk) (fun h => absurd hP h)) (kt hP)
  · exact xEv.lift (fun p e R s m args below meth c H locs k n rl Q F G hR ho kk => lv_if_le F.1 F.2.1 hd ht (fun h => absurd h hP) (fun _ => kk)) (kf hP)
theorem xe_icmp_le {x y : Int32} {off : Int} {tgt : Nat} (hd : decode mi.2.1 pc = .ok (.if_icmp .le off, 3)) (ht : (pc : Int) + off = (tgt : Int)) (kt : x ≤ y → xEv g d mi tgt ls st nx u w r nx' P) (kf : ¬ (x ≤ y) → xEv g d mi (pc + 3) ls st nx u w r nx' P) : xEv g d mi pc ls (.int y :: .int x :: st) nx u w r nx' P := by
  by_cases hP : x ≤ y
  · exact xEv.lift (fun p e R s m args below meth c H locs k n rl Q F G hR ho kk => lv_icmp_le F.1 F.2.1 hd ht (fun _ => kk) (fun h => absurd hP h)) (kt hP)
  · exact xEv.lift (fun p e R s m args below meth c H locs k n rl Q F G hR ho kk => lv_icmp_le F.1 F.2.1 hd ht (fun h => absurd h hP) (fun _ => kk)) (kf hP)
theorem xe_lookup {dflt : Int} {ps : Array (Int × Int)} {len : Nat} {x : Int32} {off : Int} {tgt : Nat} (hd : decode mi.2.1 pc = .ok (.lookupswitch dflt ps, len)) (hp : (ps.toList.zip (ps.toList.drop 1)).all (fun (a, next) => a.1 < next.1) = true) (hx : Op.lookupswitch.offset ps.toList dflt x.toInt = off) (ht : (pc : Int) + off = (tgt : Int)) (kk : xEv g d mi tgt ls st nx u w r nx' P) : xEv g d mi pc ls (.int x :: st) nx u w r nx' P :=
  xEv.lift (fun p e R s m args below meth c H locs k n rl Q F G hR ho kk => lv_lookup F.1 F.2.1 hd hp hx ht kk) kk
theorem xe_tableOut {dflt lo hi : Int} {offs : Array Int} {len : Nat} {x : Int32} {tgt : Nat} (hd : decode mi.2.1 pc = .ok (.tableswitch dflt lo hi offs, len)) (h : x.toInt < lo ∨ hi < x.toInt) (ht : (pc : Int) + dflt = (tgt : Int)) (kk : xEv g d mi tgt ls st nx u w r nx' P) : xEv g d mi pc ls (.int x :: st) nx u w r nx' P :=
  xEv.lift (fun p e R s m args below meth c H locs k n rl Q F G hR ho kk => lv_tableOut F.1 F.2.1 hd h ht kk) kk
theorem xe_tableIn {dflt lo hi : Int} {offs : Array Int} {len : Nat} {x : Int32} {off : Int} {tgt : Nat} (hd : decode mi.2.1 pc = .ok (.tableswitch dflt lo hi offs, len)) (h1 : ¬ x.toInt < lo) (h2 : ¬ hi < x.toInt) (hx : offs[(x.toInt - lo).toNat]? = some off) (ht : (pc : Int) + off = (tgt : Int)) (kk : xEv g d mi tgt ls st nx u w r nx' P) : xEv g d mi pc ls (.int x :: st) nx u w r nx' P :=
  xEv.lift (fun p e R s m args below meth c H locs k n rl Q F G hR ho kk => lv_tableIn F.1 F.2.1 hd h1 h2 hx ht kk) kk
/-- the known locals as a list of pairs -/
def xPl (g : xGT) (ls : List (Option Value)) : List (Nat × Value) := (List.range ls.length).filterMap (fun i => match ls[i]? with
  | some (some v) => some (i, xv g v)
  | _ => none)
theorem xPl_mem {g : xGT} {ls : List (Option Value)} {i : Nat} {v : Value} (h : ls[i]? = some (some v)) : (i, xv g v) ∈ xPl g ls := by
  refine List.mem_filterMap.mpr ⟨i, List.mem_range.mpr (List.getElem?_eq_some_iff.mp h).1, ?_⟩
  simp only [h]
theorem xPl_in {g : xGT} {ls : List (Option Value)} {q : Nat × Value} (h : q ∈ xPl g ls) : ∃ v, ls[q.1]? = some (some v) ∧ q.2 = xv g v := by
  obtain ⟨i, -, hi⟩ := List.mem_filterMap.mp h
  split at hi
  · next v hv =>
    cases hi
    exact ⟨v, hv, rfl⟩
  · cases hi
theorem xLo.has {g : xGT} {rl : Array Slot} {n : Nat} {ls : List (Option Value)} (h : xLo g rl n ls) : lv_has rl n (xPl g ls) := ⟨h.1, h.2.1, fun q hq => by
  obtain ⟨v, h1, h2⟩ := xPl_in hq
  rw [h2]
  exact h.2.2 _ _ h1⟩
/-- a value put into a local: a long ahead of it goes -/
def xput (ls : List (Option Value)) (i : Nat) (v : Value) : List (Option Value) := (match i with
  | 0 => ls
  | j + 1 => match ls[j]? with
    | some (some y) => if y.category = 2 then ls.set j none else ls
    | _ => ls).set i (some v)
def xputL (ls : List (Option Value)) (i : Nat) (v : Value) : List (Option Value) := (xput ls i v).set (i + 1) none
theorem xput_get {ls : List (Option Value)} {i j : Nat} {v x : Value} (h : (xput ls i v)[j]? = some (some x)) : (j = i ∧ x = v) ∨ (¬ j = i ∧ ls[j]? = some (some x) ∧ ¬ (j + 1 = i ∧ x.category = 2)) := by
  unfold xput at h
  by_cases hj : j = i
  · subst hj
    rw [List.getElem?_set, if_pos rfl] at h
    generalize (match j with
      | 0 => ls
      | j + 1 => match ls[j]? with
        | some (some y) => if y.category = 2 then ls.set j none else ls
        | _ => ls) = l2 at h
    by_cases hlt : j < l2.length
    · rw [if_pos hlt] at h
      exact Or.inl ⟨rfl, (Option.some.inj (Option.some.inj h)).symm⟩
    · rw [if_neg hlt] at h
      cases h
  · rw [List.getElem?_set_ne (fun q => hj q.symm)] at h
    refine Or.inr ⟨hj, ?_⟩
    cases i with
    | zero => exact ⟨h, fun q => by omega⟩
    | succ k =>
      simp only at h
      split at h
      · next y hy =>
        by_cases hc : y.category = 2
        · rw [if_pos hc] at h
          by_cases hk : j = k
          · subst hk
            rw [List.getElem?_set, if_pos rfl] at h
            by_cases hlt : j < ls.length
            · rw [if_pos hlt] at h
              cases h
            · rw [if_neg hlt] at h
              cases h
          · rw [List.getElem?_set_ne (fun q => hk q.symm)] at h
            exact ⟨h, fun q => hk (by omega)⟩
        · rw [if_neg hc] at h
          refine ⟨h, fun q => ?_⟩
          have : j = k := by omega
          subst this
          rw [hy] at h
          cases h
          exact hc q.2
      · next hn =>
        refine ⟨h, fun q => ?_⟩
        have : j = k := by omega
        subst this
        exact hn _ h
theorem xputL_get {ls : List (Option Value)} {i j : Nat} {v x : Value} (h : (xputL ls i v)[j]? = some (some x)) : (j = i ∧ x = v) ∨ (¬ j = i ∧ ¬ j = i + 1 ∧ ls[j]? = some (some x) ∧ ¬ (j + 1 = i ∧ x.category = 2)) := by
  unfold xputL at h
  by_cases hj : j = i + 1
  · subst hj
    rw [List.getElem?_set, if_pos rfl] at h
    by_cases hlt : i + 1 < (xput ls i v).length
    · rw [if_pos hlt] at h
      cases h
    · rw [if_neg hlt] at h
      cases h
  · rw [List.getElem?_set_ne (fun q => hj q.symm)] at h
    rcases xput_get h with q | ⟨q1, q2, q3⟩
    · exact Or.inl q
    · exact Or.inr ⟨q1, hj, q2, q3⟩
theorem xLo.put {g : xGT} {rl' : Array Slot} {n i : Nat} {ls : List (Option Value)} {v : Value} (h : lv_has rl' n ((i, xv g v) :: (xPl g ls).filter (fun q => !(q.1 == i) && !(q.1 + 1 == i && q.2.category == 2)))) : xLo g rl' n (xput ls i v) := by
  refine ⟨h.1, h.2.1, fun j x hx => ?_⟩
  rcases xput_get hx with ⟨rfl, rfl⟩ | ⟨h1, h2, h3⟩
  · exact h.2.2 _ List.mem_cons_self
  · refine h.2.2 (j, xv g x) (List.mem_cons_of_mem _ (List.mem_filter.mpr ⟨xPl_mem h2, ?_⟩))
    simp only [Bool.and_eq_true, Bool.not_eq_true', beq_eq_false_iff_ne, ne_eq, Bool.and_eq_false_iff, xv_cat]
    refine ⟨h1, ?_⟩
    by_cases hj : j + 1 = i
    · exact Or.inr (fun q => h3 ⟨hj, q⟩)
    · exact Or.inl hj
theorem xLo.putL {g : xGT} {rl' : Array Slot} {n i : Nat} {ls : List (Option Value)} {v : Value} (h : lv_has rl' n ((i, xv g v) :: (xPl g ls).filter (fun q => !(q.1 == i) && (!(q.1 == i + 1) && !(q.1 + 1 == i && q.2.category == 2))))) : xLo g rl' n (xputL ls i v) := by
  refine ⟨h.1, h.2.1, fun j x hx => ?_⟩
  rcases xputL_get hx with ⟨rfl, rfl⟩ | ⟨h1, h0, h2, h3⟩
  · exact h.2.2 _ List.mem_cons_self
  · refine h.2.2 (j, xv g x) (List.mem_cons_of_mem _ (List.mem_filter.mpr ⟨xPl_mem h2, ?_⟩))
    simp only [Bool.and_eq_true, Bool.not_eq_true', beq_eq_false_iff_ne, ne_eq, Bool.and_eq_false_iff, xv_cat]
    refine ⟨h1, h0, ?_⟩
    by_cases hj : j + 1 = i
    · exact Or.inr (fun q => h3 ⟨hj, q⟩)
    · exact Or.inl hj
theorem xe_istore_n {k : Fin 4} {i : Nat} {x : Int32} {ls' : List (Option Value)} (hd : decode mi.2.1 pc = .ok (.istore_n k, 1)) (hi : (k : Nat) = i) (hn : i < mi.2.2.1) (hl : xput ls i (.int x) = ls') (kk : xEv g d mi (pc + 1) ls' st nx u w r nx' P) : xEv g d mi pc ls (.int x :: st) nx u w r nx' P :=
  xEv.liftL (fun p e R s m args below meth c H locs k n rl Q F ho kk => lv_istore_n F.1 F.2.1 hd hi ho.has hn rfl (fun rl' h => kk rl' (hl ▸ xLo.put (v := .int x) h))) kk
theorem xe_istore {i : Nat} {x : Int32} {ls' : List (Option Value)} (hd : decode mi.2.1 pc = .ok (.istore i, 2)) (hn : i < mi.2.2.1) (hl : xput ls i (.int x) = ls') (kk : xEv g d mi (pc + 2) ls' st nx u w r nx' P) : xEv g d mi pc ls (.int x :: st) nx u w r nx' P :=
  xEv.liftL (fun p e R s m args below meth c H locs k n rl Q F ho kk => lv_istore F.1 F.2.1 hd ho.has hn rfl (fun rl' h => kk rl' (hl ▸ xLo.put (v := .int x) h))) kk
theorem xe_astore_n {k : Fin 4} {i : Nat} {x : Nat} {ls' : List (Option Value)} (hd : decode mi.2.1 pc = .ok (.astore_n k, 1)) (hi : (k : Nat) = i) (hn : i < mi.2.2.1) (hl : xput ls i (.ref x) = ls') (kk : xEv g d mi (pc + 1) ls' st nx u w r nx' P) : xEv g d mi pc ls (.ref x :: st) nx u w r nx' P :=
  xEv.liftL (fun p e R s m args below meth c H locs k n rl Q F ho kk => lv_astore_n F.1 F.2.1 hd hi ho.has hn rfl (fun rl' h => kk rl' (hl ▸ xLo.put (v := .ref x) h))) kk
theorem xe_astore {i : Nat} {x : Nat} {ls' : List (Option Value)} (hd : decode mi.2.1 pc = .ok (.astore i, 2)) (hn : i < mi.2.2.1) (hl : xput ls i (.ref x) = ls') (kk : xEv g d mi (pc + 2) ls' st nx u w r nx' P) : xEv g d mi pc ls (.ref x :: st) nx u w r nx' P :=
  xEv.liftL (fun p e R s m args below meth c H locs k n rl Q F ho kk => lv_astore F.1 F.2.1 hd ho.has hn rfl (fun rl' h => kk rl' (hl ▸ xLo.put (v := .ref x) h))) kk
theorem xe_lstore_n {k : Fin 4} {i : Nat} {x : Int64} {ls' : List (Option Value)} (hd : decode mi.2.1 pc = .ok (.lstore_n k, 1)) (hi : (k : Nat) = i) (hn : i + 1 < mi.2.2.1) (hl : xputL ls i (.long x) = ls') (kk : xEv g d mi (pc + 1) ls' st nx u w r nx' P) : xEv g d mi pc ls (.long x :: st) nx u w r nx' P :=
  xEv.liftL (fun p e R s m args below meth c H locs k n rl Q F ho kk => lv_lstore_n F.1 F.2.1 hd hi ho.has hn rfl (fun rl' h => kk rl' (hl ▸ xLo.putL (v := .long x) h))) kk
theorem xe_lstore {i : Nat} {x : Int64} {ls' : List (Option Value)} (hd : decode mi.2.1 pc = .ok (.lstore i, 2)) (hn : i + 1 < mi.2.2.1) (hl : xputL ls i (.long x) = ls') (kk : xEv g d mi (pc + 2) ls' st nx u w r nx' P) : xEv g d mi pc ls (.long x :: st) nx u w r nx' P :=
  xEv.liftL (fun p e R s m args below meth c H locs k n rl Q F ho kk => lv_lstore F.1 F.2.1 hd ho.has hn rfl (fun rl' h => kk rl' (hl ▸ xLo.putL (v := .long x) h))) kk
theorem xe_iinc {i : Nat} {n : Int} {x v : Int32} {ls' : List (Option Value)} (hd : decode mi.2.1 pc = .ok (.iinc i n, 3)) (hx : ls[i]? = some (some (.int x))) (hn : i < mi.2.2.1) (hv : x + Int32.ofInt n = v) (hl : xput ls i (.int v) = ls') (kk : xEv g d mi (pc + 3) ls' st nx u w r nx' P) : xEv g d mi pc ls st nx u w r nx' P :=
  xEv.liftL (fun p e R s m args below meth c H locs k n rl Q F ho kk => by
    obtain ⟨j, hj⟩ := List.getElem?_of_mem (xPl_mem (g := g) hx)
    exact lv_iinc F.1 F.2.1 hd ho.has hj hv hn rfl (fun rl' h => kk rl' (hl ▸ xLo.put (v := .int v) h))) kk
theorem xe_ireturn {x : Int32} (hd : decode mi.2.1 pc = .ok (.ireturn, 1)) (hr : xrok mi.2.2.2 (some (.int x))) (hP : P (some (.int x)) u w r) : xEv g d mi pc ls [.int x] nx u w r nx P :=
  ⟨Nat.le_refl _, fun p e R s m args below meth c H locs n1 rl Q F G hR hl h1 hd' hL hc hs ho hQ => hQ pc rl H locs _ _ _ _ hP hd hr hR hl⟩
theorem xe_lreturn {x : Int64} (hd : decode mi.2.1 pc = .ok (.lreturn, 1)) (hr : xrok mi.2.2.2 (some (.long x))) (hP : P (some (.long x)) u w r) : xEv g d mi pc ls [.long x] nx u w r nx P :=
  ⟨Nat.le_refl _, fun p e R s m args below meth c H locs n1 rl Q F G hR hl h1 hd' hL hc hs ho hQ => hQ pc rl H locs _ _ _ _ hP hd hr hR hl⟩
theorem xe_areturn {x : Nat} (hd : decode mi.2.1 pc = .ok (.areturn, 1)) (hr : xrok mi.2.2.2 (some (.ref x))) (hP : P (some (.ref x)) u w r) : xEv g d mi pc ls [.ref x] nx u w r nx P :=
  ⟨Nat.le_refl _, fun p e R s m args below meth c H locs n1 rl Q F G hR hl h1 hd' hL hc hs ho hQ => hQ pc rl H locs _ _ _ _ hP hd hr hR hl⟩
theorem xe_return (hd : decode mi.2.1 pc = .ok (.return_, 1)) (hr : xrok mi.2.2.2 none) (hP : P none u w r) : xEv g d mi pc ls [] nx u w r nx P :=
  ⟨Nat.le_refl _, fun p e R s m args below meth c H locs n1 rl Q F G hR hl h1 hd' hL hc hs ho hQ => hQ pc rl H locs _ _ _ _ hP hd hr hR hl⟩
end XRULES
