/-! TEXTS: what the library's members do with a text that was there before -/
section XTEXT
variable {g : xGT} {d : Nat} {mi : xMI} {pc : Nat} {ls : List (Option Value)} {st : List Value} {nx nx' : Nat} {u : xU} {w : xW} {r : xQ} {P : xPost}
theorem xi_pre {a : Nat} (h : a < 8) : xi g a = xpre g a := if_pos h
theorem xH0_keep {H : Heap} (hR : xR g nx u w r H) : ∀ a : Nat, a < (xH0 g).size → ¬ xWA g a → H[a]? = (xH0 g)[a]? := fun a _ h => hR.2.2.1 a (Nat.lt_of_not_le h)
theorem xv_pre {a : Nat} (h : a < 8) (st : List Value) : (Value.ref a :: st).map (xv g) = .ref (xpre g a) :: st.map (xv g) := by
  show Value.ref (xi g a) :: st.map (xv g) = _
  rw [xi_pre h]
theorem xe_ldcT {idx a : Nat} {tx : String} (hd : decode mi.2.1 pc = .ok (.ldc idx, 2)) (ha : a < 8) (hs : ∀ s, xStr g s → vk_R mi.1.cls idx tx (xpre g a) s) (kk : xEv g d mi (pc + 2) ls (.ref a :: st) nx u w r nx' P) : xEv g d mi pc ls st nx u w r nx' P := by
  refine xEv.lift (fun p e R s m args below meth c H locs kc ks rl Q F G hR ho kk => ?_) kk
  rw [xv_pre ha] at kk
  exact va_ldcS F.1 F.2.1 F.2.2.2.1 (hs s G.2.2.2) hd kk
theorem xe_getT {idx a : Nat} {n dd : String} {v : Value} (hd : decode mi.2.1 pc = .ok (.getfield idx, 3)) (ha : a < 8) (hl : Cond.fieldLink mi.1.cls idx "java/lang/String" n dd ∈ xT) (hs : ∀ s, xStr g s → va_OF "java/lang/String" n dd (xv g v) (xpre g a) (xWA g) s (xH0 g)) (kk : xEv g d mi (pc + 3) ls (v :: st) nx u w r nx' P) : xEv g d mi pc ls (.ref a :: st) nx u w r nx' P := by
  refine xEv.lift (fun p e R s m args below meth c H locs kc ks rl Q F G hR ho kk => ?_) kk
  obtain ⟨cf, k, fi, f, cell, h1, h2, h3, h4, h5, h6⟩ := (hs s G.2.2.2).kept (xH0_keep hR)
  rw [xv_pre ha]
  exact W.getf F.1 F.2.1 F.2.2.2.1 (F.2.2.2.2.1 _ hl) h1 h2 h3 h4 (v := xv g v) h5 rfl rfl hd kk
theorem xe_getst {idx : Nat} {C n dd : String} {v : Value} (hd : decode mi.2.1 pc = .ok (.getstatic idx, 3)) (hl : Cond.fieldLink mi.1.cls idx C n dd ∈ xT) (hs : ∀ s, xStr g s → va_Z C n dd (xv g v) (xWA g) s (xH0 g)) (kk : xEv g d mi (pc + 3) ls (v :: st) nx u w r nx' P) : xEv g d mi pc ls st nx u w r nx' P := by
  refine xEv.lift (fun p e R s m args below meth c H locs kc ks rl Q F G hR ho kk => ?_) kk
  obtain ⟨cf, kf, fi, f, a, cell, h1, h2, h3, h4, h5, h6, h7, h8⟩ := (hs s G.2.2.2).kept (xH0_keep hR)
  exact W.gets F.1 F.2.1 F.2.2.2.1 (F.2.2.2.2.1 _ hl) h1 h2 h3 h4 h5 (fun e => by rw [e] at h6; cases h6) h7 rfl hd kk
theorem xe_alenT {a n : Nat} {f : Nat → Value} {v : Int32} (hd : decode mi.2.1 pc = .ok (.arraylength, 1)) (ha : a < 8) (hs : ∀ s, xStr g s → va_T .byte (xpre g a) n f (xWA g) s (xH0 g)) (hv : Int32.ofNat n = v) (kk : xEv g d mi (pc + 1) ls (.int v :: st) nx u w r nx' P) : xEv g d mi pc ls (.ref a :: st) nx u w r nx' P := by
  subst hv
  refine xEv.lift (fun p e R s m args below meth c H locs kc ks rl Q F G hR ho kk => ?_) kk
  obtain ⟨cell, h1, h2, h3, h4, h5, h6, h7⟩ := (hs s G.2.2.2).kept (xH0_keep hR)
  rw [xv_pre ha]
  exact W.alen (n := Int32.ofNat n) F.1 F.2.1 h1 h2 h5 rfl rfl hd kk
theorem xe_baldT {a n : Nat} {f : Nat → Value} {i x : Int32} (hd : decode mi.2.1 pc = .ok (.baload, 1)) (ha : a < 8) (hs : ∀ s, xStr g s → va_T .byte (xpre g a) n f (xWA g) s (xH0 g)) (hin : vp_in i n) (hv : f i.toNatClampNeg = .int x) (kk : xEv g d mi (pc + 1) ls (.int x :: st) nx u w r nx' P) : xEv g d mi pc ls (.int i :: .ref a :: st) nx u w r nx' P := by
  refine xEv.lift (fun p e R s m args below meth c H locs kc ks rl Q F G hR ho kk => ?_) kk
  obtain ⟨cell, h1, h2, h3, h4, h5, h6, h7⟩ := (hs s G.2.2.2).kept (xH0_keep hR)
  have hlt : i.toNatClampNeg < n := Nat.not_le.mp fun q => hin (Or.inr q)
  have hin' : ¬ (i < 0 ∨ cell.slots.size ≤ i.toNatClampNeg) := by
    intro q
    rcases q with q | q
    · exact hin (Or.inl q)
    · omega
  show W p (xl g) e R s m args below meth c H locs kc ks Q (F0 m pc rl (.int i :: (Value.ref a :: st).map (xv g)))
  rw [xv_pre ha]
  exact W.bald (v := .int x) F.1 F.2.1 h1 h2 h3 hin' (by rw [h6 _ hlt, hv]) rfl rfl hd kk
theorem xe_callT {idx n b nx1 : Nat} {mi2 : xMI} {P1 : xPost} {args stk : List Value} (hd : decode mi.2.1 pc = .ok (.invokevirtual idx, 3)) (hk : xLV mi.1.cls idx mi2 n) (hst : stk = args.reverse ++ .ref b :: st) (hn : args.length = n) (hsm : (st.map fun v => v.category).sum ≤ 8)
    (hb : b < 8) (hcls : "java/lang/String" = mi2.1.cls) (hs : ∀ s, xStr g s → va_O "java/lang/String" (xpre g b) (xWA g) s (xH0 g)) (hc : xCall g d mi2 (.ref b :: args) nx u w r nx1 P1) (hle : nx1 ≤ nx') (kk : ∀ rv1 u1 w1 r1, P1 rv1 u1 w1 r1 → xEv g (d + 1) mi (pc + 3) ls (rv1.toList ++ st) nx1 u1 w1 r1 nx' P) :
    xEv g (d + 1) mi pc ls stk nx u w r nx' P := by
  obtain ⟨hcd, hlk, hnp, hin, hse⟩ := hk
  refine ⟨Nat.le_trans hc.1 hle, fun p e R s m args' below meth c H locs n1 rl Q F G hR hl hn1 hdR hL hcc hss ho hQ => ?_⟩
  have hsum : (((st.map (xv g)).map fun v => v.category).sum) ≤ 8 := by
    rw [List.map_map]
    rw [show ((fun v : Value => v.category) ∘ xv g) = (fun v : Value => v.category) from funext fun v => xv_cat g v]
    exact hsm
  have h1 := hle
  have h2 := hc.1
  have m1 := xsl_le h1
  have m2 := xsl_le h2
  have m3 := xsl_le hn1
  refine xe_after (args := .ref b :: args) hc.1 kk F G hl hn1 hdR hL hcc hss ho hQ ?_
  have hrec : ∃ cell : Cell, H[xi g b]? = some cell ∧ cell.vm.isStatics = false ∧ s.vm.findClass "java/lang/String" = some cell.cls := by
    obtain ⟨cell, y1, y2, y3, -⟩ := (hs s G.2.2.2).kept (xH0_keep hR)
    rw [xi_pre hb]
    exact ⟨cell, y1, y2, y3⟩
  exact va_runV (C := "java/lang/String") (b := xi g b) (As := args.map (xv g)) (n := n) ⟨F.1, F.2.1, F.2.2.1, F.2.2.2.1, F.2.2.2.2.1⟩ hc.2 ⟨xcallB hcd hlk hnp F.2.2.2.2.1 hdR hL, F.2.2.2.2.1 _ hin, by rw [hcls]; exact F.2.2.2.2.1 _ hse⟩
    ⟨xPc_blind, hrec, fun U hU hW => ⟨rfl, xG_warm hW G, by rw [hU]; exact hR⟩⟩ rfl (by rw [List.length_map]; exact hn) ho.1 (by rw [hst]; simp [List.map_reverse, xv]) (lv_room hsum) hd ⟨by omega, by omega⟩
end XTEXT
/-- the two texts, as they lie -/
theorem tx_O {g : xGT} {s : State} (h : xStr g s) : ∀ i : Nat, i < 2 → va_O "java/lang/String" (xpre g (1 + i)) (xWA g) s (xH0 g) := fun i hi => (h.1.1 i hi).1
theorem tx_C {g : xGT} {s : State} (h : xStr g s) : ∀ i : Nat, i < 2 → va_OF "java/lang/String" "coder" "B" (.int 0) (xpre g (1 + i)) (xWA g) s (xH0 g) := fun i hi => (h.1.1 i hi).2.1
theorem tx_V {g : xGT} {s : State} (h : xStr g s) : ∀ i : Nat, i < 2 → va_OF "java/lang/String" "value" "[B" (xv g (.ref (3 + i))) (xpre g (1 + i)) (xWA g) s (xH0 g) := fun i hi => by
  have := (h.1.1 i hi).2.2.1
  show va_OF "java/lang/String" "value" "[B" (.ref (xi g (3 + i))) (xpre g (1 + i)) (xWA g) s (xH0 g)
  rw [xi_pre (show 3 + i < 8 by omega)]
  exact this
theorem tx_T {g : xGT} {s : State} (h : xStr g s) : ∀ i : Nat, i < 2 → va_T .byte (xpre g (3 + i)) (xLen.getD i 0) (fun j => .int ((xByt.getD i []).getD j 0)) (xWA g) s (xH0 g) := fun i hi => (h.1.1 i hi).2.2.2
theorem tx_cs {g : xGT} {s : State} (h : xStr g s) : va_Z "java/lang/String" "COMPACT_STRINGS" "Z" (xv g (.int 1)) (xWA g) s (xH0 g) := h.2.2.2.1
theorem lJ0_38 : Cond.fieldLink RJ0 38 "java/lang/String" "COMPACT_STRINGS" "Z" ∈ xT := xT_at 168 (by decide +kernel) (by decide +kernel)
theorem lJ0_9 : Cond.fieldLink RJ0 9 "java/lang/String" "value" "[B" ∈ xT := xT_at 2092 (by decide +kernel) (by decide +kernel)
theorem lJ0_15 : Cond.fieldLink RJ0 15 "java/lang/String" "coder" "B" ∈ xT := xT_at 2093 (by decide +kernel) (by decide +kernel)
theorem vlJ0_335 : xLV RJ0 335 mJ0_coder_7d493 0 := ⟨cdJ0_coder_7d493, xT_at 164 (by decide +kernel) (by decide +kernel), by decide +kernel, xT_at 165 (by decide +kernel) (by decide +kernel), xT_at 166 (by decide +kernel) (by decide +kernel)⟩
theorem vlJ0_492 : xLV RJ0 492 mJ0_isLatin1_aae02 0 := ⟨cdJ0_isLatin1_aae02, xT_at 174 (by decide +kernel) (by decide +kernel), by decide +kernel, xT_at 175 (by decide +kernel) (by decide +kernel), xT_at 176 (by decide +kernel) (by decide +kernel)⟩
theorem vlJ0_505 : xLV RJ0 505 mJ0_length_8abf5 0 := ⟨cdJ0_length_8abf5, xT_at 781 (by decide +kernel) (by decide +kernel), by decide +kernel, xT_at 161 (by decide +kernel) (by decide +kernel), xT_at 162 (by decide +kernel) (by decide +kernel)⟩
theorem vlJ0_633 : xLV RJ0 633 mJ0_indexOf_7cf53 2 := ⟨cdJ0_indexOf_7cf53, xT_at 777 (by decide +kernel) (by decide +kernel), by decide +kernel, xT_at 778 (by decide +kernel) (by decide +kernel), xT_at 779 (by decide +kernel) (by decide +kernel)⟩
theorem slJ0_637 : xLS RJ0 637 mJ1_indexOf_4cfef 4 := ⟨cdJ1_indexOf_4cfef, xT_at 782 (by decide +kernel) (by decide +kernel), by decide +kernel, xT_at 783 (by decide +kernel) (by decide +kernel)⟩
theorem slJ1_88 : xLS RJ1 88 mJ1_canEncode_9a6ad 1 := ⟨cdJ1_canEncode_9a6ad, xT_at 785 (by decide +kernel) (by decide +kernel), by decide +kernel, xT_at 786 (by decide +kernel) (by decide +kernel)⟩
theorem slJ1_95 : xLS RJ1 95 mJ1_indexOfChar_4cfef 4 := ⟨cdJ1_indexOfChar_4cfef, xT_at 790 (by decide +kernel) (by decide +kernel), by decide +kernel, xT_at 791 (by decide +kernel) (by decide +kernel)⟩
theorem mlJ1_92 : xLM RJ1 92 Lib.Math.max.name Lib.Math.max.code := ⟨xT_at 788 (by decide +kernel) (by decide +kernel), xT_at 246 (by decide +kernel) (by decide +kernel), xT_at 126 (by decide +kernel) (by decide +kernel), xT_at 247 (by decide +kernel) (by decide +kernel)⟩
theorem mlJ1_38 : xLM RJ1 38 Lib.Math.min.name Lib.Math.min.code := ⟨xT_at 789 (by decide +kernel) (by decide +kernel), xT_at 660 (by decide +kernel) (by decide +kernel), xT_at 126 (by decide +kernel) (by decide +kernel), xT_at 661 (by decide +kernel) (by decide +kernel)⟩
theorem pfJ0_coder : plainFor yJ0_coder_7d493 = true := by decide +kernel
theorem pfJ0_isLat : plainFor yJ0_isLatin1_aae02 = true := by decide +kernel
theorem pfJ0_length : plainFor yJ0_length_8abf5 = true := by decide +kernel
theorem pfJ0_ix1 : plainFor yJ0_indexOf_0f7a4 = true := by decide +kernel
theorem pfJ0_ix2 : plainFor yJ0_indexOf_7cf53 = true := by decide +kernel
theorem pfJ1_can : plainFor yJ1_canEncode_9a6ad = true := by decide +kernel
theorem pfJ1_ix : plainFor yJ1_indexOf_4cfef = true := by decide +kernel
theorem pfJ1_ixc : plainFor yJ1_indexOfChar_4cfef = true := by decide +kernel
/-- the signs -/
def sg (i : Nat) : Nat := if i = 0 then 59 else if i = 1 then 40 else if i = 2 then 41 else if i = 3 then 60 else if i = 4 then 62 else if i = 5 then 61 else if i = 6 then 43 else if i = 7 then 45 else if i = 8 then 42 else if i = 9 then 47 else 37
theorem sg_byt : ∀ i, i < 11 → (xByt.getD 1 []).getD i 0 = nI (sg i) := by decide +kernel
def sgF (c : Nat) : Nat → Nat
  | 0 => 11
  | k + 1 => if c = sg (10 - k) then 10 - k else sgF c k
theorem sgF_sgn : ∀ c, c < 257 → (if sgF c 11 = 11 then 1 else 4 + sgF c 11) = sgn c := by decide +kernel
theorem sg_i2b : ∀ i, i < 11 → ∀ c, c < 256 → ((nI (sg i) = (nI c).toInt8.toInt32) ↔ c = sg i) := by decide +kernel
theorem nI_i2c : ∀ c, c < 256 → ((nI c).toUInt32 % 65536).toInt32 = nI c := by decide +kernel
def aIx (c m : Nat) : Int32 := if sgF c m = 11 then -1 else nI (sgF c m)
section TEXTM
variable {g : xGT} {d : Nat} {u : xU} {w : xW} {r : xQ}
theorem K_coder {i : Nat} (hi : i < 2) : xCall g d mJ0_coder_7d493 [.ref (1 + i)] 698 u w r 698 (xPr 0 u w r) := by
  refine xCall.ofF pfJ0_coder (Nat.le_of_ble_eq_true rfl) rfl ?_
  refine xe_getst dJ0_coder_7d493_0 lJ0_38 (fun s h => tx_cs h) ?_
  refine xe_if_eq dJ0_coder_7d493_3 rfl (fun z => absurd z (by decide)) (fun _ => ?_)
  refine xe_aload_n dJ0_coder_7d493_6 rfl ?_
  refine xe_getT (v := .int 0) dJ0_coder_7d493_7 (by omega) lJ0_15 (fun s h => tx_C h i hi) ?_
  refine xe_goto dJ0_coder_7d493_10 rfl ?_
  exact xe_ireturn dJ0_coder_7d493_14 rfl ⟨rfl, rfl, rfl, rfl⟩
theorem K_isLat {i : Nat} (hi : i < 2) : xCall g d mJ0_isLatin1_aae02 [.ref (1 + i)] 698 u w r 698 (xPr 1 u w r) := by
  refine xCall.ofF pfJ0_isLat (Nat.le_of_ble_eq_true rfl) rfl ?_
  refine xe_getst dJ0_isLatin1_aae02_0 lJ0_38 (fun s h => tx_cs h) ?_
  refine xe_if_eq dJ0_isLatin1_aae02_3 rfl (fun z => absurd z (by decide)) (fun _ => ?_)
  refine xe_aload_n dJ0_isLatin1_aae02_6 rfl ?_
  refine xe_getT (v := .int 0) dJ0_isLatin1_aae02_7 (by omega) lJ0_15 (fun s h => tx_C h i hi) ?_
  refine xe_if_ne dJ0_isLatin1_aae02_10 rfl (fun z => absurd rfl z) (fun _ => ?_)
  refine xe_iconst dJ0_isLatin1_aae02_13 rfl ?_
  refine xe_goto dJ0_isLatin1_aae02_14 rfl ?_
  exact xe_ireturn dJ0_isLatin1_aae02_18 rfl ⟨rfl, rfl, rfl, rfl⟩
theorem K_txLen {i : Nat} (hi : i < 2) : xCall g (d + 1) mJ0_length_8abf5 [.ref (1 + i)] 698 u w r 698 (xPr (nI (xLen.getD i 0)) u w r) := by
  refine xCall.ofF pfJ0_length (Nat.le_of_ble_eq_true rfl) rfl ?_
  refine xe_aload_n dJ0_length_8abf5_0 rfl ?_
  refine xe_getT (v := .ref (3 + i)) dJ0_length_8abf5_1 (by omega) lJ0_9 (fun s h => tx_V h i hi) ?_
  refine xe_alenT dJ0_length_8abf5_4 (by omega) (fun s h => tx_T h i hi) rfl ?_
  refine xe_aload_n dJ0_length_8abf5_5 rfl ?_
  refine xe_callT (args := []) (P1 := xPr 0 u w r) dJ0_length_8abf5_6 vlJ0_335 rfl rfl (by show 1 ≤ 8; omega) (by omega) rfl (fun s h => tx_O h i hi) (K_coder hi) (Nat.le_refl _) (fun rv1 u1 w1 r1 h => ?_)
  obtain ⟨rfl, rfl, rfl, rfl⟩ := h
  refine xe_ishr dJ0_length_8abf5_9 ?_
  refine xe_ireturn dJ0_length_8abf5_10 rfl ⟨?_, rfl, rfl, rfl⟩
  match i, hi with
  | 0, _ => rfl
  | 1, _ => rfl
theorem K_canEnc {c : Nat} (hc : c < 256) : xCall g d mJ1_canEncode_9a6ad [.int (nI c)] 698 u w r 698 (xPr 1 u w r) := by
  refine xCall.ofF pfJ1_can (Nat.le_of_ble_eq_true rfl) rfl ?_
  refine xe_iload_n dJ1_canEncode_9a6ad_0 rfl ?_
  refine xe_if_lt dJ1_canEncode_9a6ad_1 rfl (fun z => absurd z (nI_nn (by omega))) (fun _ => ?_)
  refine xe_iload_n dJ1_canEncode_9a6ad_4 rfl ?_
  refine xe_sipush (v := 255) dJ1_canEncode_9a6ad_5 (by decide +kernel) ?_
  refine xe_icmp_gt dJ1_canEncode_9a6ad_8 rfl (fun z => absurd ((lt_nI (a := 255) (by omega) (by omega)).1 z) (by omega)) (fun _ => ?_)
  refine xe_iconst dJ1_canEncode_9a6ad_11 rfl ?_
  refine xe_goto dJ1_canEncode_9a6ad_12 rfl ?_
  exact xe_ireturn dJ1_canEncode_9a6ad_16 rfl ⟨rfl, rfl, rfl, rfl⟩
theorem K_ixc_7 {c : Nat} {P : xPost} (hc : c < 256) : ∀ m i, m + i = 11 → P (some (.int (aIx c m))) u w r →
    xEv g d mJ1_indexOfChar_4cfef 7 [some (.ref 4), some (.int (nI c)), some (.int 0), some (.int 11), some (.int (nI c).toInt8.toInt32), some (.int (nI i))] [] 698 u w r 698 P := by
  intro m
  induction m with
  | zero =>
    intro i hi kk
    refine xe_iload dJ1_indexOfChar_4cfef_7 rfl ?_
    refine xe_iload_n dJ1_indexOfChar_4cfef_9 rfl ?_
    refine xe_icmp_ge dJ1_indexOfChar_4cfef_10 rfl (fun _ => ?_) (fun z => absurd (nI_le (a := 11) (by omega) (by omega)) z)
    refine xe_iconst (v := -1) dJ1_indexOfChar_4cfef_31 (by decide +kernel) ?_
    exact xe_ireturn dJ1_indexOfChar_4cfef_32 rfl kk
  | succ m ih =>
    intro i hi kk
    refine xe_iload dJ1_indexOfChar_4cfef_7 rfl ?_
    refine xe_iload_n dJ1_indexOfChar_4cfef_9 rfl ?_
    refine xe_icmp_ge dJ1_indexOfChar_4cfef_10 rfl (fun z => absurd ((le_nI (a := 11) (by omega) (by omega)).1 z) (by omega)) (fun _ => ?_)
    refine xe_aload_n dJ1_indexOfChar_4cfef_13 rfl ?_
    refine xe_iload dJ1_indexOfChar_4cfef_14 rfl ?_
    refine xe_baldT (a := 4) (n := 11) (x := nI (sg i)) dJ1_indexOfChar_4cfef_16 (by omega) (fun s h => tx_T h 1 (by omega)) (vpn (by omega) (by omega)) (by rw [nc (by omega)]; show Value.int ((xByt.getD 1 []).getD i 0) = _; rw [sg_byt i (by omega)]) ?_
    refine xe_iload dJ1_indexOfChar_4cfef_17 rfl ?_
    have em : 10 - m = i := by omega
    refine xe_icmp_ne dJ1_indexOfChar_4cfef_19 rfl (fun z => ?_) (fun z => ?_)
    · rw [sg_i2b i (by omega) c hc] at z
      have e2 : aIx c (m + 1) = aIx c m := by unfold aIx; rw [sgF, em, if_neg z]
      rw [e2] at kk
      refine xe_iinc (v := nI (i + 1)) dJ1_indexOfChar_4cfef_25 rfl (by decide) (nI_one i) rfl ?_
      exact xe_goto dJ1_indexOfChar_4cfef_28 rfl (ih (i + 1) (by omega) kk)
    · rw [sg_i2b i (by omega) c hc] at z
      have e2 : aIx c (m + 1) = nI i := by unfold aIx; rw [sgF, em, if_pos z, if_neg (by omega)]
      rw [e2] at kk
      refine xe_iload dJ1_indexOfChar_4cfef_22 rfl ?_
      exact xe_ireturn dJ1_indexOfChar_4cfef_24 rfl kk
theorem K_ixc {c : Nat} (hc : c < 256) : xCall g d mJ1_indexOfChar_4cfef [.ref 4, .int (nI c), .int 0, .int 11] 698 u w r 698 (xPr (aIx c 11) u w r) := by
  refine xCall.ofF pfJ1_ixc (Nat.le_of_ble_eq_true rfl) rfl ?_
  refine xe_iload_n dJ1_indexOfChar_4cfef_0 rfl ?_
  refine xe_i2b dJ1_indexOfChar_4cfef_1 ?_
  refine xe_istore dJ1_indexOfChar_4cfef_2 (by decide) rfl ?_
  refine xe_iload_n dJ1_indexOfChar_4cfef_4 rfl ?_
  refine xe_istore dJ1_indexOfChar_4cfef_5 (by decide) rfl ?_
  exact K_ixc_7 hc 11 0 rfl ⟨rfl, rfl, rfl, rfl⟩
theorem K_ix4 {c : Nat} (hc : c < 256) : xCall g (d + 1) mJ1_indexOf_4cfef [.ref 4, .int (nI c), .int 0, .int 11] 698 u w r 698 (xPr (aIx c 11) u w r) := by
  refine xCall.ofF pfJ1_ix (Nat.le_of_ble_eq_true rfl) rfl ?_
  refine xe_iload_n dJ1_indexOf_4cfef_0 rfl ?_
  refine xe_callS (args := [.int (nI c)]) (P1 := xPr 1 u w r) dJ1_indexOf_4cfef_1 slJ1_88 rfl rfl (by show 0 ≤ 8; omega) (K_canEnc hc) (Nat.le_refl _) (fun rv1 u1 w1 r1 h => ?_)
  obtain ⟨rfl, rfl, rfl, rfl⟩ := h
  refine xe_if_ne dJ1_indexOf_4cfef_4 rfl (fun _ => ?_) (fun z => absurd z (by decide))
  refine xe_iload_n dJ1_indexOf_4cfef_9 rfl ?_
  refine xe_iconst (v := 0) dJ1_indexOf_4cfef_10 rfl ?_
  refine xe_mmax dJ1_indexOf_4cfef_11 mlJ1_92 (by show 0 ≤ 8; omega) ?_
  refine xe_istore_n (ls' := [some (.ref 4), some (.int (nI c)), some (.int 0), some (.int 11)]) dJ1_indexOf_4cfef_14 rfl (by decide) rfl ?_
  refine xe_iload_n dJ1_indexOf_4cfef_15 rfl ?_
  refine xe_aload_n dJ1_indexOf_4cfef_16 rfl ?_
  refine xe_alenT (a := 4) (n := 11) (v := 11) dJ1_indexOf_4cfef_17 (by omega) (fun s h => tx_T h 1 (by omega)) rfl ?_
  refine xe_mmin dJ1_indexOf_4cfef_18 mlJ1_38 (by show 0 ≤ 8; omega) ?_
  refine xe_istore_n (ls' := [some (.ref 4), some (.int (nI c)), some (.int 0), some (.int 11)]) dJ1_indexOf_4cfef_21 rfl (by decide) rfl ?_
  refine xe_iload_n dJ1_indexOf_4cfef_22 rfl ?_
  refine xe_iload_n dJ1_indexOf_4cfef_23 rfl ?_
  refine xe_icmp_lt dJ1_indexOf_4cfef_24 rfl (fun _ => ?_) (fun z => absurd (by decide) z)
  refine xe_aload_n dJ1_indexOf_4cfef_29 rfl ?_
  refine xe_iload_n dJ1_indexOf_4cfef_30 rfl ?_
  refine xe_iload_n dJ1_indexOf_4cfef_31 rfl ?_
  refine xe_iload_n dJ1_indexOf_4cfef_32 rfl ?_
  refine xe_callS (args := [.ref 4, .int (nI c), .int 0, .int 11]) (P1 := xPr (aIx c 11) _ _ _) dJ1_indexOf_4cfef_33 slJ1_95 rfl rfl (by show 0 ≤ 8; omega) (K_ixc hc) (Nat.le_refl _) (fun rv1 u1 w1 r1 h => ?_)
  obtain ⟨rfl, rfl, rfl, rfl⟩ := h
  exact xe_ireturn dJ1_indexOf_4cfef_36 rfl ⟨rfl, rfl, rfl, rfl⟩
theorem K_ix2 {c : Nat} (hc : c < 256) : xCall g (d + 2) mJ0_indexOf_7cf53 [.ref 2, .int (nI c), .int 0] 698 u w r 698 (xPr (aIx c 11) u w r) := by
  refine xCall.ofF pfJ0_ix2 (Nat.le_of_ble_eq_true rfl) rfl ?_
  refine xe_aload_n dJ0_indexOf_7cf53_0 rfl ?_
  refine xe_callT (b := 2) (args := []) (P1 := xPr 1 u w r) dJ0_indexOf_7cf53_1 vlJ0_492 rfl rfl (by show 0 ≤ 8; omega) (by omega) rfl (fun s h => tx_O h 1 (by omega)) (K_isLat (i := 1) (by omega)) (Nat.le_refl _) (fun rv1 u1 w1 r1 h => ?_)
  obtain ⟨rfl, rfl, rfl, rfl⟩ := h
  refine xe_if_eq dJ0_indexOf_7cf53_4 rfl (fun z => absurd z (by decide)) (fun _ => ?_)
  refine xe_aload_n dJ0_indexOf_7cf53_7 rfl ?_
  refine xe_getT (a := 2) (v := .ref 4) dJ0_indexOf_7cf53_8 (by omega) lJ0_9 (fun s h => tx_V h 1 (by omega)) ?_
  refine xe_iload_n dJ0_indexOf_7cf53_11 rfl ?_
  refine xe_iload_n dJ0_indexOf_7cf53_12 rfl ?_
  refine xe_aload_n dJ0_indexOf_7cf53_13 rfl ?_
  refine xe_callT (b := 2) (args := []) (P1 := xPr 11 _ _ _) dJ0_indexOf_7cf53_14 vlJ0_505 rfl rfl (by show 3 ≤ 8; omega) (by omega) rfl (fun s h => tx_O h 1 (by omega)) (K_txLen (i := 1) (by omega)) (Nat.le_refl _) (fun rv1 u1 w1 r1 h => ?_)
  obtain ⟨rfl, rfl, rfl, rfl⟩ := h
  refine xe_callS (args := [.ref 4, .int (nI c), .int 0, .int 11]) (P1 := xPr (aIx c 11) _ _ _) dJ0_indexOf_7cf53_17 slJ0_637 rfl rfl (by show 0 ≤ 8; omega) (K_ix4 hc) (Nat.le_refl _) (fun rv1 u1 w1 r1 h => ?_)
  obtain ⟨rfl, rfl, rfl, rfl⟩ := h
  refine xe_goto dJ0_indexOf_7cf53_20 rfl ?_
  exact xe_ireturn dJ0_indexOf_7cf53_36 rfl ⟨rfl, rfl, rfl, rfl⟩
theorem K_ix1 {c : Nat} (hc : c < 256) : xCall g (d + 3) mJ0_indexOf_0f7a4 [.ref 2, .int (nI c)] 698 u w r 698 (xPr (aIx c 11) u w r) := by
  refine xCall.ofF pfJ0_ix1 (Nat.le_of_ble_eq_true rfl) rfl ?_
  refine xe_aload_n dJ0_indexOf_0f7a4_0 rfl ?_
  refine xe_iload_n dJ0_indexOf_0f7a4_1 rfl ?_
  refine xe_iconst (v := 0) dJ0_indexOf_0f7a4_2 rfl ?_
  refine xe_callT (b := 2) (args := [.int (nI c), .int 0]) (P1 := xPr (aIx c 11) u w r) dJ0_indexOf_0f7a4_3 vlJ0_633 rfl rfl (by show 0 ≤ 8; omega) (by omega) rfl (fun s h => tx_O h 1 (by omega)) (K_ix2 hc) (Nat.le_refl _) (fun rv1 u1 w1 r1 h => ?_)
  obtain ⟨rfl, rfl, rfl, rfl⟩ := h
  exact xe_ireturn dJ0_indexOf_0f7a4_6 rfl ⟨rfl, rfl, rfl, rfl⟩
end TEXTM
