/-! CONSTRUCTORS that read a text, or make rows of objects -/
section XGETQ
variable {g : xGT} {d : Nat} {mi : xMI} {pc : Nat} {ls : List (Option Value)} {st : List Value} {nx nx' : Nat} {u : xU} {w : xW} {r : xQ} {P : xPost}
/-- the formatter of the library's checks: null, or what lies at place 5 -/
theorem xe_getstQ {idx : Nat} (hd : decode mi.2.1 pc = .ok (.getstatic idx, 3)) (hl : Cond.fieldLink mi.1.cls idx "jdk/internal/util/Preconditions" "SIOOBE_FORMATTER" "Ljava/util/function/BiFunction;" ∈ xT) (k1 : xEv g d mi (pc + 3) ls (.null :: st) nx u w r nx' P) (k2 : xEv g d mi (pc + 3) ls (.ref 5 :: st) nx u w r nx' P) : xEv g d mi pc ls st nx u w r nx' P := by
  refine ⟨k1.1, fun p e R s m args below meth c H locs n1 rl Q F G hR hl' h1 hd' hL hc hs ho hQ => ?_⟩
  rcases G.2.2.2.2.2.2.2 with z | z
  · obtain ⟨cf, kf, fi, f, a, cell, y1, y2, y3, y4, y5, y6, y7, y8⟩ := z.kept (xH0_keep hR)
    exact W.gets F.1 F.2.1 F.2.2.2.1 (F.2.2.2.2.1 _ hl) y1 y2 y3 y4 y5 (fun e => by rw [e] at y6; cases y6) y7 rfl hd (k1.2 p e R s m args below meth c H locs n1 rl Q F G hR hl' h1 hd' hL hc hs ho hQ)
  · obtain ⟨cf, kf, fi, f, a, cell, y1, y2, y3, y4, y5, y6, y7, y8⟩ := z.kept (xH0_keep hR)
    have K := k2.2 p e R s m args below meth c H locs n1 rl Q F G hR hl' h1 hd' hL hc hs ho hQ
    rw [xv_pre (show 5 < 8 by omega)] at K
    exact W.gets F.1 F.2.1 F.2.2.2.1 (F.2.2.2.2.1 _ hl) y1 y2 y3 y4 y5 (fun e => by rw [e] at y6; cases y6) y7 rfl hd K
end XGETQ
theorem lJ0_1053 : Cond.fieldLink RJ0 1053 "jdk/internal/util/Preconditions" "SIOOBE_FORMATTER" "Ljava/util/function/BiFunction;" ∈ xT := xT_at 184 (by decide +kernel) (by decide +kernel)
theorem slJ0_495 : xLS RJ0 495 mJ1_charAt_3b067 2 := ⟨cdJ1_charAt_3b067, xT_at 178 (by decide +kernel) (by decide +kernel), by decide +kernel, xT_at 179 (by decide +kernel) (by decide +kernel)⟩
theorem slJ1_9 : xLS RJ1 9 mJ0_checkIndex_df160 2 := ⟨cdJ0_checkIndex_df160, xT_at 181 (by decide +kernel) (by decide +kernel), by decide +kernel, xT_at 182 (by decide +kernel) (by decide +kernel)⟩
theorem slJ0_1059 : xLS RJ0 1059 mJ3_checkIndex_8e157 3 := ⟨cdJ3_checkIndex_8e157, xT_at 186 (by decide +kernel) (by decide +kernel), by decide +kernel, xT_at 187 (by decide +kernel) (by decide +kernel)⟩
theorem pfJ0_cat : plainFor yJ0_charAt_5068e = true := by decide +kernel
theorem pfJ0_ci : plainFor yJ0_checkIndex_df160 = true := by decide +kernel
theorem pfJ1_cat : plainFor yJ1_charAt_3b067 = true := by decide +kernel
theorem pfJ3_ci : plainFor yJ3_checkIndex_8e157 = true := by decide +kernel
theorem nI_255 : ∀ c, c < 256 → (((nI c) &&& (255 : Int32)).toUInt32 % 65536).toInt32 = nI c := by decide +kernel
theorem nI_chr : ∀ c, c < 256 → (nI c).toUInt32.toUInt16.toUInt32.toInt32 = nI c := by decide +kernel
/-- the bytes of the text of words -/
def tcL : List Nat := [118, 105, 108, 108, 97, 103, 101, 32, 119, 97, 121, 32, 98, 105, 101, 114, 32, 108, 101, 116, 116, 101, 114, 32, 119, 97, 105, 116, 32, 119, 105, 110, 116, 101, 114, 32, 102, 114, 111, 109, 32, 116, 111, 32, 111, 110, 32, 104, 111, 108, 100, 115, 32, 97, 116, 32, 98, 121, 32, 119, 111, 114, 116, 104, 32, 111, 114, 32, 97, 110, 100, 32, 110, 111, 116, 32, 100, 97, 121, 32, 119, 97, 121, 115, 32, 114, 101, 115, 116, 32]
def tcB (i : Nat) : Nat := tcL.getD i 0
theorem tcL_ok : xByt.getD 0 [] = tcL.map nI := by decide +kernel
theorem tcB_ok : ∀ i, i < 90 → (tcL.map nI).getD i 0 = nI (tcB i) := by decide +kernel
theorem tcB_in : ∀ i, i < 90 → tcB i = 32 ∨ (97 ≤ tcB i ∧ tcB i < 123) := by decide +kernel
/-- words told and the word begun, behind i bytes -/
def tcS : Nat → Nat × Nat
  | 0 => (0, 0)
  | i + 1 => if tcB i = 32 then ((tcS i).1 + 1, 0) else ((tcS i).1, (tcS i).2 * 27 + (tcB i - 96))
theorem tcS_wd : ∀ i, i < 90 → tcB i = 32 → (tcS i).1 < 19 ∧ (tcS i).2 = w27 (tcS i).1 := by decide +kernel
theorem tcS_end : (tcS 90).1 = 19 := by decide +kernel
theorem xSr.to {s : Nat} {r r' : xQ} (h : xSr s r) (f : ∀ k, r' s k = r s k) : xSr s r' := ⟨(f 3).trans h.1, (f 4).trans h.2.1, (f 5).trans h.2.2.1, (f 6).trans h.2.2.2.1, (f 7).trans h.2.2.2.2.1, (f 8).trans h.2.2.2.2.2.1, (f 9).trans h.2.2.2.2.2.2.1, (f 10).trans h.2.2.2.2.2.2.2.1, (f 11).trans h.2.2.2.2.2.2.2.2.1, (f 12).trans h.2.2.2.2.2.2.2.2.2.1, (f 13).trans h.2.2.2.2.2.2.2.2.2.2⟩
section CTOR2
variable {g : xGT} {d nx : Nat} {u : xU} {w : xW} {r : xQ} {P : xPost}
theorem C_coder {i : Nat} (hi : i < 2) : xCall g d mJ0_coder_7d493 [.ref (1 + i)] nx u w r nx (xPr 0 u w r) := by
  refine xCall.ofF pfJ0_coder (Nat.le_of_ble_eq_true rfl) rfl ?_
  refine xe_getst dJ0_coder_7d493_0 lJ0_38 (fun s h => tx_cs h) ?_
  refine xe_if_eq dJ0_coder_7d493_3 rfl (fun z => absurd z (by decide)) (fun _ => ?_)
  refine xe_aload_n dJ0_coder_7d493_6 rfl ?_
  refine xe_getT (v := .int 0) dJ0_coder_7d493_7 (by omega) lJ0_15 (fun s h => tx_C h i hi) ?_
  refine xe_goto dJ0_coder_7d493_10 rfl ?_
  exact xe_ireturn dJ0_coder_7d493_14 rfl ⟨rfl, rfl, rfl, rfl⟩
theorem C_isLat {i : Nat} (hi : i < 2) : xCall g d mJ0_isLatin1_aae02 [.ref (1 + i)] nx u w r nx (xPr 1 u w r) := by
  refine xCall.ofF pfJ0_isLat (Nat.le_of_ble_eq_true rfl) rfl ?_
  refine xe_getst dJ0_isLatin1_aae02_0 lJ0_38 (fun s h => tx_cs h) ?_
  refine xe_if_eq dJ0_isLatin1_aae02_3 rfl (fun z => absurd z (by decide)) (fun _ => ?_)
  refine xe_aload_n dJ0_isLatin1_aae02_6 rfl ?_
  refine xe_getT (v := .int 0) dJ0_isLatin1_aae02_7 (by omega) lJ0_15 (fun s h => tx_C h i hi) ?_
  refine xe_if_ne dJ0_isLatin1_aae02_10 rfl (fun z => absurd rfl z) (fun _ => ?_)
  refine xe_iconst dJ0_isLatin1_aae02_13 rfl ?_
  refine xe_goto dJ0_isLatin1_aae02_14 rfl ?_
  exact xe_ireturn dJ0_isLatin1_aae02_18 rfl ⟨rfl, rfl, rfl, rfl⟩
theorem C_txLen : xCall g (d + 1) mJ0_length_8abf5 [.ref 1] nx u w r nx (xPr 90 u w r) := by
  refine xCall.ofF pfJ0_length (Nat.le_of_ble_eq_true rfl) rfl ?_
  refine xe_aload_n dJ0_length_8abf5_0 rfl ?_
  refine xe_getT (v := .ref 3) dJ0_length_8abf5_1 (by omega) lJ0_9 (fun s h => tx_V h 0 (by omega)) ?_
  refine xe_alenT (a := 3) dJ0_length_8abf5_4 (by omega) (fun s h => tx_T h 0 (by omega)) rfl ?_
  refine xe_aload_n dJ0_length_8abf5_5 rfl ?_
  refine xe_callT (b := 1) (args := []) (P1 := xPr 0 u w r) dJ0_length_8abf5_6 vlJ0_335 rfl rfl (by show 1 ≤ 8; omega) (by omega) rfl (fun s h => tx_O h 0 (by omega)) (C_coder (i := 0) (by omega)) (Nat.le_refl _) (fun rv1 u1 w1 r1 h => ?_)
  obtain ⟨rfl, rfl, rfl, rfl⟩ := h
  refine xe_ishr dJ0_length_8abf5_9 ?_
  exact xe_ireturn dJ0_length_8abf5_10 rfl ⟨rfl, rfl, rfl, rfl⟩
theorem C_ci3 {i n : Nat} {v : Value} (hi : i < n) (hn : n ≤ 100000) (hv : v = .null ∨ v = .ref 5) : xCall g d mJ3_checkIndex_8e157 [.int (nI i), .int (nI n), v] nx u w r nx (xPr (nI i) u w r) := by
  rcases hv with rfl | rfl
  all_goals
    refine xCall.ofF pfJ3_ci (Nat.le_of_ble_eq_true rfl) rfl ?_
    refine xe_iload_n dJ3_checkIndex_8e157_0 rfl ?_
    refine xe_if_lt dJ3_checkIndex_8e157_1 rfl (fun z => absurd z (nI_nn (by omega))) (fun _ => ?_)
    refine xe_iload_n dJ3_checkIndex_8e157_4 rfl ?_
    refine xe_iload_n dJ3_checkIndex_8e157_5 rfl ?_
    refine xe_icmp_lt dJ3_checkIndex_8e157_6 rfl (fun _ => ?_) (fun z => absurd ((lt_nI (by omega) (by omega)).2 hi) z)
    refine xe_iload_n dJ3_checkIndex_8e157_16 rfl ?_
    exact xe_ireturn dJ3_checkIndex_8e157_17 rfl ⟨rfl, rfl, rfl, rfl⟩
def xPn (u : xU) (w : xW) (r : xQ) : xPost := fun rv u' w' r' => rv = none ∧ u = u' ∧ w = w' ∧ r = r'
theorem C_ci0 {i n : Nat} (hi : i < n) (hn : n ≤ 100000) : xCall g (d + 1) mJ0_checkIndex_df160 [.int (nI i), .int (nI n)] nx u w r nx (xPn u w r) := by
  refine xCall.ofF pfJ0_ci (Nat.le_of_ble_eq_true rfl) rfl ?_
  refine xe_iload_n dJ0_checkIndex_df160_0 rfl ?_
  refine xe_iload_n dJ0_checkIndex_df160_1 rfl ?_
  refine xe_getstQ dJ0_checkIndex_df160_2 lJ0_1053 ?_ ?_
  · refine xe_callS (args := [.int (nI i), .int (nI n), .null]) (P1 := xPr (nI i) u w r) dJ0_checkIndex_df160_5 slJ0_1059 rfl rfl (by show 0 ≤ 8; omega) (C_ci3 hi hn (Or.inl rfl)) (Nat.le_refl _) (fun rv1 u1 w1 r1 h => ?_)
    obtain ⟨rfl, rfl, rfl, rfl⟩ := h
    refine xe_pop dJ0_checkIndex_df160_8 rfl ?_
    exact xe_return dJ0_checkIndex_df160_9 trivial ⟨rfl, rfl, rfl, rfl⟩
  · refine xe_callS (args := [.int (nI i), .int (nI n), .ref 5]) (P1 := xPr (nI i) u w r) dJ0_checkIndex_df160_5 slJ0_1059 rfl rfl (by show 0 ≤ 8; omega) (C_ci3 hi hn (Or.inr rfl)) (Nat.le_refl _) (fun rv1 u1 w1 r1 h => ?_)
    obtain ⟨rfl, rfl, rfl, rfl⟩ := h
    refine xe_pop dJ0_checkIndex_df160_8 rfl ?_
    exact xe_return dJ0_checkIndex_df160_9 trivial ⟨rfl, rfl, rfl, rfl⟩
theorem tcB_lt {j : Nat} (hj : j < 90) : tcB j < 256 := by
  have := tcB_in j hj
  omega
theorem C_cat1 {j : Nat} (hj : j < 90) : xCall g (d + 2) mJ1_charAt_3b067 [.ref 3, .int (nI j)] nx u w r nx (xPr (nI (tcB j)) u w r) := by
  refine xCall.ofF pfJ1_cat (Nat.le_of_ble_eq_true rfl) rfl ?_
  refine xe_iload_n dJ1_charAt_3b067_0 rfl ?_
  refine xe_aload_n dJ1_charAt_3b067_1 rfl ?_
  refine xe_alenT (a := 3) (v := nI 90) dJ1_charAt_3b067_2 (by omega) (fun s h => tx_T h 0 (by omega)) rfl ?_
  refine xe_callS (args := [.int (nI j), .int (nI 90)]) (P1 := xPn u w r) dJ1_charAt_3b067_3 slJ1_9 rfl rfl (by show 0 ≤ 8; omega) (C_ci0 hj (by omega)) (Nat.le_refl _) (fun rv1 u1 w1 r1 h => ?_)
  obtain ⟨rfl, rfl, rfl, rfl⟩ := h
  refine xe_aload_n dJ1_charAt_3b067_6 rfl ?_
  refine xe_iload_n dJ1_charAt_3b067_7 rfl ?_
  refine xe_baldT (a := 3) (n := 90) (x := nI (tcB j)) dJ1_charAt_3b067_8 (by omega) (fun s h => tx_T h 0 (by omega)) (vpn (by omega) (by omega)) (by rw [nc (by omega)]; show Value.int ((xByt.getD 0 []).getD j 0) = _; rw [tcL_ok, tcB_ok j hj]) ?_
  refine xe_sipush (v := 255) dJ1_charAt_3b067_9 (by decide +kernel) ?_
  refine xe_iand dJ1_charAt_3b067_12 ?_
  refine xe_i2c dJ1_charAt_3b067_13 ?_
  rw [nI_255 _ (tcB_lt hj)]
  exact xe_ireturn dJ1_charAt_3b067_14 (congrArg Value.int (nI_chr _ (tcB_lt hj))) ⟨rfl, rfl, rfl, rfl⟩
theorem C_cat {j : Nat} (hj : j < 90) : xCall g (d + 3) mJ0_charAt_5068e [.ref 1, .int (nI j)] nx u w r nx (xPr (nI (tcB j)) u w r) := by
  refine xCall.ofF pfJ0_cat (Nat.le_of_ble_eq_true rfl) rfl ?_
  refine xe_aload_n dJ0_charAt_5068e_0 rfl ?_
  refine xe_callT (b := 1) (args := []) (P1 := xPr 1 u w r) dJ0_charAt_5068e_1 vlJ0_492 rfl rfl (by show 0 ≤ 8; omega) (by omega) rfl (fun s h => tx_O h 0 (by omega)) (C_isLat (i := 0) (by omega)) (Nat.le_refl _) (fun rv1 u1 w1 r1 h => ?_)
  obtain ⟨rfl, rfl, rfl, rfl⟩ := h
  refine xe_if_eq dJ0_charAt_5068e_4 rfl (fun z => absurd z (by decide)) (fun _ => ?_)
  refine xe_aload_n dJ0_charAt_5068e_7 rfl ?_
  refine xe_getT (a := 1) (v := .ref 3) dJ0_charAt_5068e_8 (by omega) lJ0_9 (fun s h => tx_V h 0 (by omega)) ?_
  refine xe_iload_n dJ0_charAt_5068e_11 rfl ?_
  refine xe_callS (args := [.ref 3, .int (nI j)]) (P1 := xPr (nI (tcB j)) u w r) dJ0_charAt_5068e_12 slJ0_495 rfl rfl (by show 0 ≤ 8; omega) (C_cat1 hj) (Nat.le_refl _) (fun rv1 u1 w1 r1 h => ?_)
  obtain ⟨rfl, rfl, rfl, rfl⟩ := h
  exact xe_ireturn dJ0_charAt_5068e_15 (congrArg Value.int (nI_chr _ (tcB_lt hj))) ⟨rfl, rfl, rfl, rfl⟩
theorem C_packed {c v : Nat} (hv : 97 ≤ v) (h2 : v < 256) : xCall g d mX10_packedWith [.long (lN c), .int (nI v)] nx u w r nx (fun rv u' w' r' => rv = some (.long (lN (c * 27 + (v - 96)))) ∧ u = u' ∧ w = w' ∧ r = r') := by
  refine xCall.of (ls := [some (.long (lN c)), none, some (.int (nI v))]) plX10 (Nat.le_of_ble_eq_true rfl) rfl ?_
  refine xe_lload_n dX10_packedWith_0 rfl ?_
  refine xe_ldc2 (v := 27) dX10_packedWith_1 (xT_at 211 (by decide +kernel) (by decide +kernel)) ?_
  refine xe_lmul dX10_packedWith_4 ?_
  refine xe_iload_n dX10_packedWith_5 rfl ?_
  refine xe_i2l dX10_packedWith_6 ?_
  refine xe_ladd dX10_packedWith_7 ?_
  refine xe_ldc2 (v := 97) dX10_packedWith_8 (xT_at 212 (by decide +kernel) (by decide +kernel)) ?_
  refine xe_lsub dX10_packedWith_11 ?_
  refine xe_lconst (v := 1) dX10_packedWith_12 rfl ?_
  refine xe_ladd dX10_packedWith_13 ?_
  exact xe_lreturn dX10_packedWith_14 trivial ⟨congrArg (fun x => some (Value.long x)) (pk27 hv h2), rfl, rfl, rfl⟩
theorem K_tok_55 (hr : r 10 6 = some 15) : ∀ m i (w : xW), m + i = 90 → (∀ j, j < (tcS i).1 → w 15 j = lN (w27 j)) → xZ 16 u w r → (∀ w', kWd w' → xZ 16 u w' r → P none u w' r) →
    xEv g (d + 4) mX10_init 55 [some (.ref 10), some (.int (nI (tcS i).1)), some (.long (lN (tcS i).2)), none, some (.int (nI i)), none] [] 16 u w r 16 P := by
  intro m
  induction m with
  | zero =>
    intro i w hi hw hZ kk
    have ei : i = 90 := by omega
    subst ei
    refine xe_iload dX10_init_55 rfl ?_
    refine xe_ldcT (a := 1) (tx := xWORDS) dX10_init_57 (by omega) (fun s hs => hs.2.1) ?_
    refine xe_callT (b := 1) (args := []) (P1 := xPr 90 u w r) dX10_init_59 vlX10_31 rfl rfl (by show 1 ≤ 8; omega) (by omega) rfl (fun s h => tx_O h 0 (by omega)) C_txLen (Nat.le_refl _) (fun rv1 u1 w1 r1 h => ?_)
    obtain ⟨rfl, rfl, rfl, rfl⟩ := h
    refine xe_icmp_ge dX10_init_62 rfl (fun _ => ?_) (fun z => absurd (by decide) z)
    exact xe_return dX10_init_118 trivial (kk w (fun j hj => hw j (by rw [tcS_end]; exact hj)) hZ)
  | succ m ih =>
    intro i w hi hw hZ kk
    have hi9 : i < 90 := by omega
    refine xe_iload dX10_init_55 rfl ?_
    refine xe_ldcT (a := 1) (tx := xWORDS) dX10_init_57 (by omega) (fun s hs => hs.2.1) ?_
    refine xe_callT (b := 1) (args := []) (P1 := xPr 90 u w r) dX10_init_59 vlX10_31 rfl rfl (by show 1 ≤ 8; omega) (by omega) rfl (fun s h => tx_O h 0 (by omega)) C_txLen (Nat.le_refl _) (fun rv1 u1 w1 r1 h => ?_)
    obtain ⟨rfl, rfl, rfl, rfl⟩ := h
    refine xe_icmp_ge dX10_init_62 rfl (fun z => absurd ((le_nI (a := 90) (by omega) (by omega)).1 z) (by omega)) (fun _ => ?_)
    refine xe_ldcT (a := 1) (tx := xWORDS) dX10_init_65 (by omega) (fun s hs => hs.2.1) ?_
    refine xe_iload dX10_init_67 rfl ?_
    refine xe_callT (b := 1) (args := [.int (nI i)]) (P1 := xPr (nI (tcB i)) u w r) dX10_init_69 vlX10_37 rfl rfl (by show 0 ≤ 8; omega) (by omega) rfl (fun s h => tx_O h 0 (by omega)) (C_cat hi9) (Nat.le_refl _) (fun rv1 u1 w1 r1 h => ?_)
    obtain ⟨rfl, rfl, rfl, rfl⟩ := h
    refine xe_istore (ls' := [some (.ref 10), some (.int (nI (tcS i).1)), some (.long (lN (tcS i).2)), none, some (.int (nI i)), some (.int (nI (tcB i)))]) dX10_init_72 (by decide) rfl ?_
    refine xe_iload dX10_init_74 rfl ?_
    refine xe_bipush (v := 32) dX10_init_76 rfl ?_
    have bl := tcB_in i hi9
    by_cases c32 : tcB i = 32
    · have eS : tcS (i + 1) = ((tcS i).1 + 1, 0) := by
        show (if tcB i = 32 then _ else _) = _
        rw [if_pos c32]
      obtain ⟨q1, q2⟩ := tcS_wd i hi9 c32
      refine xe_icmp_eq dX10_init_78 rfl (fun _ => ?_) (fun z => absurd (by rw [c32]; rfl) z)
      refine xe_iload_n dX10_init_91 rfl ?_
      refine xe_aload_n dX10_init_92 rfl ?_
      refine xe_getR dX10_init_93 flX10_26 kk10 (by omega) rfl hr ?_
      refine xe_alen (v := 19) dX10_init_96 kk15 (by omega) (by simp) rfl ?_
      refine xe_icmp_ge dX10_init_97 rfl (fun z => absurd ((le_nI (a := 19) (by omega) (by omega)).1 z) (by omega)) (fun _ => ?_)
      refine xe_aload_n dX10_init_100 rfl ?_
      refine xe_getR dX10_init_101 flX10_26 kk10 (by omega) rfl hr ?_
      refine xe_iload_n dX10_init_104 rfl ?_
      refine xe_lload_n dX10_init_105 rfl ?_
      refine xe_last dX10_init_106 kk15 (by omega) (vpn (by omega) (by omega)) ?_
      rw [nc (by omega)]
      refine xe_iinc (v := nI ((tcS i).1 + 1)) (ls' := [some (.ref 10), some (.int (nI ((tcS i).1 + 1))), some (.long (lN (tcS i).2)), none, some (.int (nI i)), some (.int (nI (tcB i)))]) dX10_init_107 rfl (by decide) (nI_one _) rfl ?_
      refine xe_lconst (v := 0) dX10_init_110 rfl ?_
      refine xe_lstore_n (i := 2) (ls' := [some (.ref 10), some (.int (nI ((tcS i).1 + 1))), some (.long 0), none, some (.int (nI i)), some (.int (nI (tcB i)))]) dX10_init_111 rfl (by decide) rfl ?_
      refine xe_iinc (v := nI (i + 1)) (ls' := [some (.ref 10), some (.int (nI ((tcS i).1 + 1))), some (.long 0), none, some (.int (nI (i + 1))), some (.int (nI (tcB i)))]) dX10_init_112 rfl (by decide) (nI_one _) rfl ?_
      refine xe_goto dX10_init_115 rfl ?_
      have K := ih (i + 1) (x2 w 15 (tcS i).1 (lN (tcS i).2)) (by omega) (fun j hj => by
        rw [eS] at hj
        by_cases ej : j = (tcS i).1
        · subst ej; rw [x2_same, q2]
        · exact (x2_i _ _ ej).trans (hw j (by have hj' : j < (tcS i).1 + 1 := hj; omega))) (hZ.pw (by omega)) kk
      rw [eS] at K
      exact xEv.fewer K (xfw_get (xfw_s (xfw_s (xfw_s (xfw_n (xfw_s (xfw_n (xfw_nil _))))))))
    · have eS : tcS (i + 1) = ((tcS i).1, (tcS i).2 * 27 + (tcB i - 96)) := by
        show (if tcB i = 32 then _ else _) = _
        rw [if_neg c32]
      refine xe_icmp_eq dX10_init_78 rfl (fun z => absurd ((eq_nI (b := 32) (by omega) (by omega)).1 z) c32) (fun _ => ?_)
      refine xe_lload_n dX10_init_81 rfl ?_
      refine xe_iload dX10_init_82 rfl ?_
      refine xe_callS (args := [.long (lN (tcS i).2), .int (nI (tcB i))]) dX10_init_84 slX10_41 rfl rfl (by show 0 ≤ 8; omega) (C_packed (by omega) (by omega)) (Nat.le_refl _) (fun rv1 u1 w1 r1 h => ?_)
      obtain ⟨rfl, rfl, rfl, rfl⟩ := h
      refine xe_lstore_n (i := 2) (ls' := [some (.ref 10), some (.int (nI (tcS i).1)), some (.long (lN ((tcS i).2 * 27 + (tcB i - 96)))), none, some (.int (nI i)), some (.int (nI (tcB i)))]) dX10_init_87 rfl (by decide) rfl ?_
      refine xe_goto dX10_init_88 rfl ?_
      refine xe_iinc (v := nI (i + 1)) (ls' := [some (.ref 10), some (.int (nI (tcS i).1)), some (.long (lN ((tcS i).2 * 27 + (tcB i - 96)))), none, some (.int (nI (i + 1))), some (.int (nI (tcB i)))]) dX10_init_112 rfl (by decide) (nI_one _) rfl ?_
      refine xe_goto dX10_init_115 rfl ?_
      have K := ih (i + 1) w (by omega) (fun j hj => hw j (by rw [eS] at hj; exact hj)) hZ kk
      rw [eS] at K
      exact xEv.fewer K (xfw_get (xfw_s (xfw_s (xfw_s (xfw_n (xfw_s (xfw_n (xfw_nil _))))))))
theorem C_Tokens (hZ : xZ 11 u w r) (kk : ∀ w' r', kWd w' → (r' 10 0 = some 11 ∧ r' 10 2 = some 12 ∧ r' 10 3 = some 13 ∧ r' 10 4 = some 14 ∧ r' 10 6 = some 15) → rSm 10 11 r r' → xZ 16 u w' r' → P none u w' r') : xCall g (d + 4) mX10_init [.ref 10] 11 u w r 16 P := by
  refine xCall.of (ls := [some (.ref 10), none, none, none, none, none]) plX10 (Nat.le_of_ble_eq_true rfl) rfl ?_
  refine xe_aload_n dX10_init_0 rfl ?_
  refine xe_objInit dX10_init_1 (xT_at 158 (by decide +kernel) (by decide +kernel)) (Nat.le_of_ble_eq_true rfl) ?_
  refine xe_aload_n dX10_init_4 rfl ?_
  refine xe_sipush (v := 1600) dX10_init_5 rfl ?_
  refine xe_newa (n := 1600) (ty := .byte) dX10_init_8 rfl acB rfl (by omega) (by simp) (by decide +kernel) hZ ?_
  refine xe_putRF (b := 11) dX10_init_10 flX10_9 kk10 (by omega) (fun q h => by cases h; exact ⟨rfl, rfl⟩) rfl rfl ?_
  have hZ := (hZ.le (Nat.le_succ _)).pr (a := 10) (k := 0) (x := some 11) (by omega)
  refine xe_aload_n dX10_init_13 rfl ?_
  refine xe_sipush (v := 1601) dX10_init_14 rfl ?_
  refine xe_newa (n := 1601) (ty := .int) dX10_init_17 rfl acI rfl (by omega) (by simp) (by decide +kernel) hZ ?_
  refine xe_putRF (b := 12) dX10_init_19 flX10_15 kk10 (by omega) (fun q h => by cases h; exact ⟨rfl, rfl⟩) rfl rfl ?_
  have hZ := (hZ.le (Nat.le_succ _)).pr (a := 10) (k := 2) (x := some 12) (by omega)
  refine xe_aload_n dX10_init_22 rfl ?_
  refine xe_sipush (v := 1601) dX10_init_23 rfl ?_
  refine xe_newa (n := 1601) (ty := .long) dX10_init_26 rfl acJ rfl (by omega) (by simp) (by decide +kernel) hZ ?_
  refine xe_putRF (b := 13) dX10_init_28 flX10_19 kk10 (by omega) (fun q h => by cases h; exact ⟨rfl, rfl⟩) rfl rfl ?_
  have hZ := (hZ.le (Nat.le_succ _)).pr (a := 10) (k := 3) (x := some 13) (by omega)
  refine xe_aload_n dX10_init_31 rfl ?_
  refine xe_sipush (v := 1601) dX10_init_32 rfl ?_
  refine xe_newa (n := 1601) (ty := .int) dX10_init_35 rfl acI rfl (by omega) (by simp) (by decide +kernel) hZ ?_
  refine xe_putRF (b := 14) dX10_init_37 flX10_23 kk10 (by omega) (fun q h => by cases h; exact ⟨rfl, rfl⟩) rfl rfl ?_
  have hZ := (hZ.le (Nat.le_succ _)).pr (a := 10) (k := 4) (x := some 14) (by omega)
  refine xe_aload_n dX10_init_40 rfl ?_
  refine xe_bipush (v := 19) dX10_init_41 rfl ?_
  refine xe_newa (n := 19) (ty := .long) dX10_init_43 rfl acJ rfl (by omega) (by simp) (by decide +kernel) hZ ?_
  refine xe_putRF (b := 15) dX10_init_45 flX10_26 kk10 (by omega) (fun q h => by cases h; exact ⟨rfl, rfl⟩) rfl rfl ?_
  have hZ := (hZ.le (Nat.le_succ _)).pr (a := 10) (k := 6) (x := some 15) (by omega)
  refine xe_iconst (v := 0) dX10_init_48 rfl ?_
  refine xe_istore_n (i := 1) (ls' := [some (.ref 10), some (.int 0), none, none, none, none]) dX10_init_49 rfl (by decide) rfl ?_
  refine xe_lconst (v := 0) dX10_init_50 rfl ?_
  refine xe_lstore_n (i := 2) (ls' := [some (.ref 10), some (.int 0), some (.long 0), none, none, none]) dX10_init_51 rfl (by decide) rfl ?_
  refine xe_iconst (v := 0) dX10_init_52 rfl ?_
  refine xe_istore (ls' := [some (.ref 10), some (.int 0), some (.long 0), none, some (.int 0), none]) dX10_init_53 (by decide) rfl ?_
  refine K_tok_55 (x2_same _ _ _ _) 90 0 _ rfl (fun j hj => absurd hj (Nat.not_lt_zero _)) hZ (fun w' k1 k2 => kk w' _ k1 ⟨(x2_i _ _ (by decide)).trans ((x2_i _ _ (by decide)).trans ((x2_i _ _ (by decide)).trans ((x2_i _ _ (by decide)).trans (x2_same _ _ _ _)))), (x2_i _ _ (by decide)).trans ((x2_i _ _ (by decide)).trans ((x2_i _ _ (by decide)).trans (x2_same _ _ _ _))), (x2_i _ _ (by decide)).trans ((x2_i _ _ (by decide)).trans (x2_same _ _ _ _)), (x2_i _ _ (by decide)).trans (x2_same _ _ _ _), x2_same _ _ _ _⟩ (fun b i hb => (x2_a _ _ (by omega)).trans ((x2_a _ _ (by omega)).trans ((x2_a _ _ (by omega)).trans ((x2_a _ _ (by omega)).trans (x2_a _ _ (by omega)))))) k2)
theorem C_Names {s n : Nat} (h1 : xKK s = some (.inl 5)) (h2 : xKK (s + 1) = some (.inr (.long, n))) (hn : n ≤ 100) (hZ : xZ (s + 1) u w r) (kk : ∀ r', r' s 0 = some (s + 1) → (∀ b i, ¬ b = s → r' b i = r b i) → xZ (s + 2) u w r' → P none u w r') : xCall g (d + 1) mX5_init [.ref s, .int (nI n)] (s + 1) u w r (s + 2) P := by
  refine xCall.of (ls := [some (.ref s), some (.int (nI n))]) plX5 (Nat.le_of_ble_eq_true rfl) rfl ?_
  refine xe_aload_n dX5_init_0 rfl ?_
  refine xe_objInit dX5_init_1 (xT_at 244 (by decide +kernel) (by decide +kernel)) (Nat.le_of_ble_eq_true rfl) ?_
  refine xe_aload_n dX5_init_4 rfl ?_
  refine xe_iload_n dX5_init_5 rfl ?_
  refine xe_iconst (v := 0) dX5_init_6 rfl ?_
  refine xe_mmax dX5_init_7 mlX5_9 (by show 1 ≤ 8; omega) ?_
  rw [if_neg (nI_nn (by omega))]
  refine xe_newa (n := n) (ty := .long) dX5_init_10 rfl acJ rfl (by omega) (by simp) h2 hZ ?_
  refine xe_putRF (b := s + 1) dX5_init_12 flX5_15 h1 (by omega) (fun q h => by cases h; exact ⟨rfl, rfl⟩) rfl rfl ?_
  have hZ := (hZ.le (Nat.le_succ _)).pr (a := s) (k := 0) (x := some (s + 1)) (by omega)
  exact xe_return dX5_init_15 trivial (kk _ (x2_same _ _ _ _) (fun b i hb => x2_a _ _ hb) hZ)
/-- the reader is made -/
theorem C_Reader (hZ : xZ 10 u w r) (kk : ∀ w' r', kWd w' → (r' 9 0 = some 10 ∧ r' 9 1 = some 16 ∧ r' 9 2 = some 18 ∧ r' 9 3 = some 20 ∧ r' 10 0 = some 11 ∧ r' 10 2 = some 12 ∧ r' 10 3 = some 13 ∧ r' 10 4 = some 14 ∧ r' 10 6 = some 15) → (xNr 16 r' ∧ xNr 18 r' ∧ xNr 20 r') → rSm 9 22 r r' → xZ 22 (x2 u 9 9 (-1)) w' r' → P none (x2 u 9 9 (-1)) w' r') : xCall g (d + 5) mX7_init [.ref 9] 10 u w r 22 P := by
  refine xCall.of (ls := [some (.ref 9)]) plX7 (Nat.le_of_ble_eq_true rfl) rfl ?_
  refine xe_aload_n dX7_init_0 rfl ?_
  refine xe_objInit dX7_init_1 (xT_at 152 (by decide +kernel) (by decide +kernel)) (Nat.le_of_ble_eq_true rfl) ?_
  refine xe_aload_n dX7_init_4 rfl ?_
  refine xe_new (ci := 10) dX7_init_5 rfl (xT_at 153 (by decide +kernel) (by decide +kernel)) (xT_at 154 (by decide +kernel) (by decide +kernel)) (xT_at 120 (by decide +kernel) (by decide +kernel)) kk10 hZ ?_
  refine xe_dup dX7_init_8 rfl ?_
  refine xe_callI (args := []) (P1 := fun rv u1 w1 r1 => rv = none ∧ u = u1 ∧ kWd w1 ∧ (r1 10 0 = some 11 ∧ r1 10 2 = some 12 ∧ r1 10 3 = some 13 ∧ r1 10 4 = some 14 ∧ r1 10 6 = some 15) ∧ rSm 10 11 r r1 ∧ xZ 16 u w1 r1) dX7_init_9 ilX7_11 rfl rfl (Nat.le_of_ble_eq_true rfl) (C_Tokens (hZ.le (Nat.le_succ _)) (fun w1 r1 y1 y2 y3 y4 => ⟨rfl, rfl, y1, y2, y3, y4⟩)) (Nat.le_of_ble_eq_true rfl) (fun rv1 u1 w1 r1 k => ?_)
  obtain ⟨rfl, rfl, kw, ⟨t0, t2, t3, t4, t6⟩, f1, hZ1⟩ := k
  refine xe_putRF (b := 10) dX7_init_12 flX7_12 kk9 (by omega) (fun q h => by cases h; exact ⟨rfl, rfl⟩) rfl rfl ?_
  have hZ2 := hZ1.pr (a := 9) (k := 0) (x := some 10) (by omega)
  refine xe_aload_n dX7_init_15 rfl ?_
  refine xe_new (ci := 5) dX7_init_16 rfl (xT_at 239 (by decide +kernel) (by decide +kernel)) (xT_at 240 (by decide +kernel) (by decide +kernel)) (xT_at 125 (by decide +kernel) (by decide +kernel)) nm16.1 hZ2 ?_
  refine xe_dup dX7_init_19 rfl ?_
  refine xe_bipush (v := nI 7) dX7_init_20 rfl ?_
  refine xe_callI (args := [.int (nI 7)]) (P1 := fun rv u2 w2 r2 => rv = none ∧ u = u2 ∧ w1 = w2 ∧ r2 16 0 = some 17 ∧ (∀ b i, ¬ b = 16 → r2 b i = x2 r1 9 0 (some 10) b i) ∧ xZ 18 u w1 r2) dX7_init_22 ilX7_20 rfl rfl (Nat.le_of_ble_eq_true rfl) (C_Names (s := 16) nm16.1 nm16.2 (by omega) (hZ2.le (Nat.le_succ _)) (fun r2 y1 y2 y3 => ⟨rfl, rfl, rfl, y1, y2, y3⟩)) (Nat.le_of_ble_eq_true rfl) (fun rv1 u1 w2 r2 k => ?_)
  obtain ⟨rfl, rfl, rfl, n16, f2, hZ3⟩ := k
  refine xe_putRF (b := 16) dX7_init_25 flX7_23 kk9 (by omega) (fun q h => by cases h; exact ⟨rfl, rfl⟩) rfl rfl ?_
  have hZ4 := hZ3.pr (a := 9) (k := 1) (x := some 16) (by omega)
  refine xe_aload_n dX7_init_28 rfl ?_
  refine xe_new (ci := 5) dX7_init_29 rfl (xT_at 239 (by decide +kernel) (by decide +kernel)) (xT_at 240 (by decide +kernel) (by decide +kernel)) (xT_at 125 (by decide +kernel) (by decide +kernel)) nm18.1 hZ4 ?_
  refine xe_dup dX7_init_32 rfl ?_
  refine xe_bipush (v := nI 6) dX7_init_33 rfl ?_
  refine xe_callI (args := [.int (nI 6)]) (P1 := fun rv u2 w2 r3 => rv = none ∧ u = u2 ∧ w1 = w2 ∧ r3 18 0 = some 19 ∧ (∀ b i, ¬ b = 18 → r3 b i = x2 r2 9 1 (some 16) b i) ∧ xZ 20 u w1 r3) dX7_init_35 ilX7_20 rfl rfl (Nat.le_of_ble_eq_true rfl) (C_Names (s := 18) nm18.1 nm18.2 (by omega) (hZ4.le (Nat.le_succ _)) (fun r3 y1 y2 y3 => ⟨rfl, rfl, rfl, y1, y2, y3⟩)) (Nat.le_of_ble_eq_true rfl) (fun rv1 u1 w2 r3 k => ?_)
  obtain ⟨rfl, rfl, rfl, n18, f3, hZ5⟩ := k
  refine xe_putRF (b := 18) dX7_init_38 flX7_27 kk9 (by omega) (fun q h => by cases h; exact ⟨rfl, rfl⟩) rfl rfl ?_
  have hZ6 := hZ5.pr (a := 9) (k := 2) (x := some 18) (by omega)
  refine xe_aload_n dX7_init_41 rfl ?_
  refine xe_new (ci := 5) dX7_init_42 rfl (xT_at 239 (by decide +kernel) (by decide +kernel)) (xT_at 240 (by decide +kernel) (by decide +kernel)) (xT_at 125 (by decide +kernel) (by decide +kernel)) nm20.1 hZ6 ?_
  refine xe_dup dX7_init_45 rfl ?_
  refine xe_bipush (v := nI 8) dX7_init_46 rfl ?_
  refine xe_callI (args := [.int (nI 8)]) (P1 := fun rv u2 w2 r4 => rv = none ∧ u = u2 ∧ w1 = w2 ∧ r4 20 0 = some 21 ∧ (∀ b i, ¬ b = 20 → r4 b i = x2 r3 9 2 (some 18) b i) ∧ xZ 22 u w1 r4) dX7_init_48 ilX7_20 rfl rfl (Nat.le_of_ble_eq_true rfl) (C_Names (s := 20) nm20.1 nm20.2 (by omega) (hZ6.le (Nat.le_succ _)) (fun r4 y1 y2 y3 => ⟨rfl, rfl, rfl, y1, y2, y3⟩)) (Nat.le_of_ble_eq_true rfl) (fun rv1 u1 w2 r4 k => ?_)
  obtain ⟨rfl, rfl, rfl, n20, f4, hZ7⟩ := k
  refine xe_putRF (b := 20) dX7_init_51 flX7_30 kk9 (by omega) (fun q h => by cases h; exact ⟨rfl, rfl⟩) rfl rfl ?_
  have hZ8 := hZ7.pr (a := 9) (k := 3) (x := some 20) (by omega)
  refine xe_aload_n dX7_init_54 rfl ?_
  refine xe_iconst (v := -1) dX7_init_55 rfl ?_
  refine xe_putI dX7_init_56 flX7_33 kk9 (by omega) (fun q h => by cases h; rfl) rfl ?_
  have hZ9 := hZ8.pu (a := 9) (k := 9) (x := -1) (by omega)
  have g2 : ∀ b i, ¬ b = 9 → ¬ b = 16 → ¬ b = 18 → ¬ b = 20 → x2 r4 9 3 (some 20) b i = r1 b i := fun b i h1 h2 h3 h4 => (x2_a _ _ h1).trans ((f4 b i h4).trans ((x2_a _ _ h1).trans ((f3 b i h3).trans ((x2_a _ _ h1).trans ((f2 b i h2).trans (x2_a _ _ h1))))))
  refine xe_return dX7_init_59 trivial (kk _ _ kw ⟨?_, ?_, ?_, x2_same _ _ _ _, (g2 _ _ (by decide) (by decide) (by decide) (by decide)).trans t0, (g2 _ _ (by decide) (by decide) (by decide) (by decide)).trans t2, (g2 _ _ (by decide) (by decide) (by decide) (by decide)).trans t3, (g2 _ _ (by decide) (by decide) (by decide) (by decide)).trans t4, (g2 _ _ (by decide) (by decide) (by decide) (by decide)).trans t6⟩ ⟨?_, ?_, ?_⟩ (fun b i hb => (g2 b i (by omega) (by omega) (by omega) (by omega)).trans (f1 b i (by omega))) hZ9)
  · exact (x2_i _ _ (by decide)).trans ((f4 9 0 (by decide)).trans ((x2_i _ _ (by decide)).trans ((f3 9 0 (by decide)).trans ((x2_i _ _ (by decide)).trans ((f2 9 0 (by decide)).trans (x2_same _ _ _ _))))))
  · exact (x2_i _ _ (by decide)).trans ((f4 9 1 (by decide)).trans ((x2_i _ _ (by decide)).trans ((f3 9 1 (by decide)).trans (x2_same _ _ _ _))))
  · exact (x2_i _ _ (by decide)).trans ((f4 9 2 (by decide)).trans (x2_same _ _ _ _))
  · exact (x2_a _ _ (by decide)).trans ((f4 16 0 (by decide)).trans ((x2_a _ _ (by decide)).trans ((f3 16 0 (by decide)).trans ((x2_a _ _ (by decide)).trans n16))))
  · exact (x2_a _ _ (by decide)).trans ((f4 18 0 (by decide)).trans ((x2_a _ _ (by decide)).trans n18))
  · exact (x2_a _ _ (by decide)).trans n20
/-- the ring of states is made -/
theorem K_past_15 {r0 : xQ} : ∀ m i s (r : xQ), m + i = 41 → s = 119 + 12 * i → r 117 0 = some 118 → (∀ j, j < i → r 118 j = some (119 + 12 * j)) → (∀ j, j < i → xSr (119 + 12 * j) r) → rSm 117 611 r0 r → xZ s u w r →
    (∀ r', r' 117 0 = some 118 → (∀ j, j < 41 → r' 118 j = some (119 + 12 * j)) → (∀ j, j < 41 → xSr (119 + 12 * j) r') → rSm 117 611 r0 r' → xZ 611 u w r' → P none u w r') →
    xEv g (d + 2) mX6_init 15 [some (.ref 117), some (.int (nI i))] [] s u w r 611 P := by
  intro m
  induction m with
  | zero =>
    intro i s r hi hs h1 h2 h3 h4 hZ kk
    have ei : i = 41 := by omega
    subst ei
    have es : s = 611 := by omega
    subst es
    refine xe_iload_n dX6_init_15 rfl ?_
    refine xe_bipush (v := 41) dX6_init_16 rfl ?_
    refine xe_icmp_ge dX6_init_18 rfl (fun _ => ?_) (fun z => absurd (by decide) z)
    exact xe_return dX6_init_40 trivial (kk r h1 h2 h3 h4 hZ)
  | succ m ih =>
    intro i s r hi hs h1 h2 h3 h4 hZ kk
    have hst : xSt s := by rw [hs]; exact stAll _ (srow118 i (by omega))
    refine xe_iload_n dX6_init_15 rfl ?_
    refine xe_bipush (v := 41) dX6_init_16 rfl ?_
    refine xe_icmp_ge dX6_init_18 rfl (fun z => absurd ((le_nI (a := 41) (by omega) (by omega)).1 z) (by omega)) (fun _ => ?_)
    refine xe_aload_n dX6_init_21 rfl ?_
    refine xe_getR dX6_init_22 flX6_13 kk117 (by omega) rfl h1 ?_
    refine xe_iload_n dX6_init_25 rfl ?_
    refine xe_new (ci := 9) dX6_init_26 rfl (xT_at 587 (by decide +kernel) (by decide +kernel)) (xT_at 445 (by decide +kernel) (by decide +kernel)) (xT_at 132 (by decide +kernel) (by decide +kernel)) hst.k0 hZ ?_
    refine xe_dup dX6_init_29 rfl ?_
    refine xe_callIN (args := []) (P1 := fun rv u1 w1 r1 => rv = none ∧ u = u1 ∧ w = w1 ∧ xSr s r1 ∧ (∀ b i, ¬ b = s → r1 b i = r b i) ∧ xZ (s + 12) u w r1) dX6_init_30 inX6_17 rfl rfl (Nat.le_of_ble_eq_true rfl) (C_State hst (hZ.le (Nat.le_succ _)) (fun r1 y1 y2 y3 => ⟨rfl, rfl, rfl, y1, y2, y3⟩)) (by omega) (fun rv1 u1 w1 r1 k => ?_)
    obtain ⟨rfl, rfl, rfl, y1, y2, y3⟩ := k
    refine xe_aastS dX6_init_33 kk118 (by omega) (vpn (by omega) (by omega)) hst.k0 (by omega) ?_
    rw [nc (by omega)]
    refine xe_iinc (v := nI (i + 1)) (ls' := [some (.ref 117), some (.int (nI (i + 1)))]) dX6_init_34 rfl (by decide) (nI_one _) rfl ?_
    refine xe_goto dX6_init_37 rfl ?_
    refine ih (i + 1) (s + 12) _ (by omega) (by omega) ((x2_a _ _ (by decide)).trans ((y2 117 0 (by omega)).trans h1)) (fun j hj => ?_) (fun j hj => ?_) (fun b k hb => (x2_a _ _ (by omega)).trans ((y2 b k (by omega)).trans (h4 b k hb))) (y3.pr (by omega)) kk
    · by_cases ej : j = i
      · subst ej
        rw [x2_same, hs]
      · exact (x2_i _ _ ej).trans ((y2 118 j (by omega)).trans (h2 j (by omega)))
    · by_cases ej : j = i
      · subst ej
        rw [← hs]
        exact y1.to (fun k => x2_a _ _ (by omega))
      · exact (h3 j (by omega)).to (fun k => (x2_a _ _ (by omega)).trans (y2 _ k (by omega)))
theorem C_Past (hZ : xZ 118 u w r) (kk : ∀ r', r' 117 0 = some 118 → (∀ j, j < 41 → r' 118 j = some (119 + 12 * j)) → (∀ j, j < 41 → xSr (119 + 12 * j) r') → rSm 117 611 r r' → xZ 611 u w r' → P none u w r') : xCall g (d + 2) mX6_init [.ref 117] 118 u w r 611 P := by
  refine xCall.of (ls := [some (.ref 117), none]) plX6 (Nat.le_of_ble_eq_true rfl) rfl ?_
  refine xe_aload_n dX6_init_0 rfl ?_
  refine xe_objInit dX6_init_1 (xT_at 586 (by decide +kernel) (by decide +kernel)) (Nat.le_of_ble_eq_true rfl) ?_
  refine xe_aload_n dX6_init_4 rfl ?_
  refine xe_bipush (v := 41) dX6_init_5 rfl ?_
  refine xe_anewS (n := 41) dX6_init_7 (xT_at 587 (by decide +kernel) (by decide +kernel)) (fun s z => z.2.2.1.2.1) rfl (by omega) kk118 hZ ?_
  refine xe_putRF (b := 118) dX6_init_10 flX6_13 kk117 (by omega) (fun q h => by cases h; exact ⟨rfl, rfl⟩) rfl rfl ?_
  refine xe_iconst (v := 0) dX6_init_13 rfl ?_
  refine xe_istore_n (i := 1) (ls' := [some (.ref 117), some (.int (nI 0))]) dX6_init_14 rfl (by decide) rfl ?_
  exact K_past_15 41 0 119 _ rfl rfl (x2_same _ _ _ _) (fun j hj => absurd hj (Nat.not_lt_zero _)) (fun j hj => absurd hj (Nat.not_lt_zero _)) (fun b k hb => x2_a _ _ (by omega)) ((hZ.le (Nat.le_succ _)).pr (by omega)) kk
end CTOR2
