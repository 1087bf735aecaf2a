/-! THE START: what the tables, the constants and the heap say where the law begins -/
theorem xks_le (n : Nat) : xks (xKK n) ≤ 3700 := by
  by_cases h : n < 698
  · exact (by decide +kernel : ∀ n, n < 698 → xks (xKK n) ≤ 3700) n h
  · cases hk : xKK n with
    | none => exact Nat.zero_le _
    | some kd => exact absurd (xKK_lt hk) h
theorem xsl_le3700 : ∀ n, xsl n ≤ 3700 * n := by
  intro n
  induction n with
  | zero => exact Nat.le_refl _
  | succ n ih =>
    have h := xks_le n
    show xsl n + xks (xKK n) ≤ _
    omega
theorem v_inst : ∀ (c : Nat) (q : vw_C), vwCl[c]? = some q → Cond.instantiable q.1 q.2.2 ∈ xT := by
  intro c q h
  have hl := (List.getElem?_eq_some_iff.mp h).1
  have l13 : vwCl.length = 13 := by decide +kernel
  have cs : c = 0 ∨ c = 1 ∨ c = 2 ∨ c = 3 ∨ c = 4 ∨ c = 5 ∨ c = 6 ∨ c = 7 ∨ c = 8 ∨ c = 9 ∨ c = 10 ∨ c = 11 ∨ c = 12 := by omega
  rcases cs with rfl | rfl | rfl | rfl | rfl | rfl | rfl | rfl | rfl | rfl | rfl | rfl | rfl
  · cases h; exact xT_at 401 (by decide +kernel) (by decide +kernel)
  · cases h; exact xT_at 297 (by decide +kernel) (by decide +kernel)
  · cases h; exact xT_at 291 (by decide +kernel) (by decide +kernel)
  · cases h; exact xT_at 439 (by decide +kernel) (by decide +kernel)
  · cases h; exact xT_at 604 (by decide +kernel) (by decide +kernel)
  · cases h; exact xT_at 240 (by decide +kernel) (by decide +kernel)
  · cases h; exact xT_at 582 (by decide +kernel) (by decide +kernel)
  · cases h; exact xT_at 148 (by decide +kernel) (by decide +kernel)
  · cases h; exact xT_at 407 (by decide +kernel) (by decide +kernel)
  · cases h; exact xT_at 445 (by decide +kernel) (by decide +kernel)
  · cases h; exact xT_at 154 (by decide +kernel) (by decide +kernel)
  · cases h; exact xT_at 140 (by decide +kernel) (by decide +kernel)
  · cases h; exact xT_at 1353 (by decide +kernel) (by decide +kernel)
theorem v_known {s : State} {A : Array Value} (hts : ∀ w ∈ xT, w.before A s = true) : ∃ D : va_G, ∀ (c : Nat) (q : vw_C), vwCl[c]? = some q → u_Kn s q.1 q.2.1 q.2.2 (D.1 c) (D.2 c) := by
  have h : ∀ c : Nat, ∃ x : ClassId × (Nat → Nat), ∀ q : vw_C, vwCl[c]? = some q → u_Kn s q.1 q.2.1 q.2.2 x.1 x.2 := by
    intro c
    by_cases hc : ∃ q, vwCl[c]? = some q
    · obtain ⟨q, hq⟩ := hc
      obtain ⟨cC, iS, hk⟩ := u_known hts (xin hq) (hts _ (v_inst c q hq))
      refine ⟨(cC, iS), fun q' h' => ?_⟩
      cases hq.symm.trans h'
      exact hk
    · exact ⟨(0, fun _ => 0), fun q h' => absurd ⟨q, h'⟩ hc⟩
  obtain ⟨f, hf⟩ := Classical.axiomOfChoice h
  exact ⟨(fun c => (f c).1, fun c => (f c).2), fun c q hq => hf c q hq⟩
theorem v_arr {s : State} {A : Array Value} {ty : FieldType} (h : (Cond.arrayClass ty).before A s = true) : ∃ cA : ClassId, ArrOfT s cA ty ∧ s.vm.findClass ("[" ++ ty.toString) = some cA := by
  obtain ⟨cA, kA, comp, h1, h2, h3⟩ := Cond.arrayClass_spec h
  exact ⟨cA, fun N z => ⟨fun k hk => (by cases hk), kA, h2, comp, h3⟩, h1⟩
theorem v_tys {s : State} {A : Array Value} (hI : (Cond.arrayClass .int).before A s = true) (hB : (Cond.arrayClass .byte).before A s = true) (hZ : (Cond.arrayClass .boolean).before A s = true) (hJ : (Cond.arrayClass .long).before A s = true) (hO : (Cond.arrayOver (.array .int)).before A s = true) (hS : (Cond.arrayOver (.object "FuneralPost$State")).before A s = true) :
    ∃ DA : FieldType → ClassId, (ArrOfT s (DA .int) .int ∧ va_RA s (DA .int) .int) ∧ (ArrOfT s (DA .byte) .byte ∧ va_RA s (DA .byte) .byte) ∧ (ArrOfT s (DA .boolean) .boolean ∧ va_RA s (DA .boolean) .boolean) ∧ (ArrOfT s (DA .long) .long ∧ va_RA s (DA .long) .long) ∧ (ArrOfT s (DA (.array .int)) (.array .int) ∧ va_RA s (DA (.array .int)) (.array .int)) ∧ (ArrOfT s (DA xTst) xTst ∧ va_RA s (DA xTst) xTst) := by
  obtain ⟨cI, i1, i2⟩ := v_arr hI
  obtain ⟨cB, b1, b2⟩ := v_arr hB
  obtain ⟨cZ, z1, z2⟩ := v_arr hZ
  obtain ⟨cJ, j1, j2⟩ := v_arr hJ
  obtain ⟨compO, cO, kO, o1, -, o3, o4, o5⟩ := arrayOverA_spec hO
  obtain ⟨compS, cS, kS, s1, -, s3, s4, s5⟩ := Cond.arrayOver_spec hS
  refine ⟨fun ty => match ty with
    | .int => cI
    | .byte => cB
    | .boolean => cZ
    | .long => cJ
    | .array _ => cO
    | _ => cS, ⟨i1, i2⟩, ⟨b1, b2⟩, ⟨z1, z2⟩, ⟨j1, j2⟩, ⟨fun N z => ⟨fun k hk => (by cases hk), kO, o3, compO, o4⟩, o5⟩, ⟨fun N z => ⟨fun k hk => (by cases hk), kS, s3, compS, s4⟩, ⟨kS, compS, s3, s4, s1, s5⟩⟩⟩
theorem v_nest {s : State} {b : Nat} (hts : ∀ w ∈ lw_tbl, w.before #[Value.ref b] s = true) : ∀ w ∈ xNs, va_Nw w s := by
  have one : ∀ (i : Nat) (w : Cond), lw_tbl[i]? = some w → w.onTables = true → va_Nw w s := fun i w hi ho => va_tabs ho rfl (hts w (List.mem_of_getElem? hi))
  intro w hw
  unfold xNs at hw
  simp only [List.mem_cons, List.not_mem_nil, or_false] at hw
  rcases hw with rfl | rfl | rfl | rfl | rfl | rfl | rfl | rfl | rfl | rfl | rfl | rfl | rfl | rfl
  · exact one 149 _ (by decide +kernel) (by decide +kernel)
  · exact one 292 _ (by decide +kernel) (by decide +kernel)
  · exact one 298 _ (by decide +kernel) (by decide +kernel)
  · exact one 408 _ (by decide +kernel) (by decide +kernel)
  · exact one 446 _ (by decide +kernel) (by decide +kernel)
  · exact one 580 _ (by decide +kernel) (by decide +kernel)
  · exact one 589 _ (by decide +kernel) (by decide +kernel)
  · exact one 605 _ (by decide +kernel) (by decide +kernel)
  · exact one 643 _ (by decide +kernel) (by decide +kernel)
  · exact one 650 _ (by decide +kernel) (by decide +kernel)
  · exact one 956 _ (by decide +kernel) (by decide +kernel)
  · exact one 1218 _ (by decide +kernel) (by decide +kernel)
  · exact one 1223 _ (by decide +kernel) (by decide +kernel)
  · exact one 1302 _ (by decide +kernel) (by decide +kernel)
/-! the two texts -/
def vTm (i : Nat) : Term := .string "FuneralPost$Tokens" (if i = 0 then 29 else 68)
def vFl : List Cond := flatC (Jvm.Cond.and given_1 narrow_1)
theorem vE_ex : ∀ i, i < 2 → Cond.exactly (vTm i) "java/lang/String" ∈ vFl := by decide +kernel
theorem vE_co : ∀ i, i < 2 → Cond.eq (.field (vTm i) "java/lang/String" "coder" "B") (.int 0) ∈ vFl := by decide +kernel
theorem vE_ar : ∀ i, i < 2 → Cond.arrayOf (.field (vTm i) "java/lang/String" "value" "[B") .byte ∈ vFl := by decide +kernel
theorem vE_le : ∀ i, i < 2 → Cond.eq (.length (.field (vTm i) "java/lang/String" "value" "[B")) (.int (Int32.ofNat (xLen.getD i 0))) ∈ vFl := by decide +kernel
theorem vE_e0 : ∀ j, j < 90 → Cond.eq (.elem (.field (vTm 0) "java/lang/String" "value" "[B") (.int (Int32.ofNat j))) (.int (nI (tcB j))) ∈ vFl := by decide +kernel
theorem vE_e1 : ∀ j, j < 11 → Cond.eq (.elem (.field (vTm 1) "java/lang/String" "value" "[B") (.int (Int32.ofNat j))) (.int (nI (sg j))) ∈ vFl := by decide +kernel
theorem vE_ne : Cond.not (Cond.eq (vTm 0) (vTm 1)) ∈ vFl := by decide +kernel
theorem vE_cs : Cond.eq (.static "java/lang/String" "COMPACT_STRINGS" "Z") (.int 1) ∈ vFl := by decide +kernel
theorem vE_fm : Cond.isRef (.static "jdk/internal/util/Preconditions" "SIOOBE_FORMATTER" "Ljava/util/function/BiFunction;") ∈ vFl := by decide +kernel
theorem v_G {s : State} {b L : Nat} {xs : Nat → Int32} (l : Launch) (hts : ∀ w ∈ lw_tbl, w.before #[Value.ref b] s = true) (hX : va_X b L xs s s.heap) (hgv : (Jvm.Cond.and given_1 narrow_1).before #[Value.ref b] s = true) :
    ∃ g : xGT, xG g s ∧ xpre g 0 = b ∧ xz g = s.heap.size ∧ xH0 g = s.heap ∧ xL g = L ∧ xl g = l := by
  have hs : ∀ c ∈ vFl, c.before #[Value.ref b] s = true := flat_of_before _ hgv
  have hT : ∀ w ∈ xT, w.before #[Value.ref b] s = true := fun w hw => hts w (List.mem_filter.mp hw).1
  have at_ : ∀ (i : Nat) (w : Cond), lw_tbl[i]? = some w → w.before #[Value.ref b] s = true := fun i w hi => hts w (List.mem_of_getElem? hi)
  obtain ⟨D, hD⟩ := v_known hT
  have hO := at_ 413 (Cond.arrayOver (.array .int)) (by decide +kernel)
  have hS := at_ 588 (Cond.arrayOver (.object "FuneralPost$State")) (by decide +kernel)
  obtain ⟨DA, t1, t2, t3, t4, t5, t6⟩ := v_tys (hT _ acI) (hT _ acB) (hT _ acZ) (hT _ acJ) hO hS
  have hA : ∀ a : Nat, a < s.heap.size → ¬ (fun q => s.heap.size ≤ q) a := fun a ha => Nat.not_le_of_lt ha
  obtain ⟨adK, adV, kS, kE⟩ := vk_Sof (args := #[Value.ref b]) (s := s) (N := 2) (tm := vTm) (len := xLen) (byt := xByt) (A := fun q => s.heap.size ≤ q)
    (fun i hi => by
      match i, hi with
      | 0, _ => decide
      | 1, _ => decide)
    (fun i hi => hs _ (vE_ex i hi)) (fun i hi => hs _ (vE_co i hi)) (fun i hi => hs _ (vE_ar i hi)) (fun i hi => hs _ (vE_le i hi))
    (fun i hi j hj => by
      match i, hi with
      | 0, _ =>
        have h9 : j < 90 := hj
        rw [tcL_ok, tcB_ok j h9]
        exact hs _ (vE_e0 j h9)
      | 1, _ =>
        have h9 : j < 11 := hj
        rw [sg_byt j h9]
        exact hs _ (vE_e1 j h9))
    (fun i j hi hj hij => by
      match i, hi, j, hj with
      | 0, _, 0, _ => exact absurd rfl hij
      | 0, _, 1, _ => exact Or.inl (hs _ vE_ne)
      | 1, _, 0, _ => exact Or.inr (hs _ vE_ne)
      | 1, _, 1, _ => exact absurd rfl hij) hA
  have zc := va_Zof (A := fun q => s.heap.size ≤ q) (at_ 169 (Cond.laysStatic "java/lang/String" "COMPACT_STRINGS" "Z") (by decide +kernel)) (at_ 121 (Cond.initialized "java/lang/String") (by decide +kernel)) (va_eqi (hs _ vE_cs)) hA
  have zq := va_Zqof (A := fun q => s.heap.size ≤ q) (at_ 185 (Cond.laysStatic "jdk/internal/util/Preconditions" "SIOOBE_FORMATTER" "Ljava/util/function/BiFunction;") (by decide +kernel)) (at_ 123 (Cond.initialized "jdk/internal/util/Preconditions") (by decide +kernel)) (hs _ vE_fm) hA
  have r1 : vk_R "FuneralPost$Tokens" 29 xWORDS (adK 0) s := vk_R.of (at_ 159 (Cond.stringRef "FuneralPost$Tokens" 29 xWORDS) (by decide +kernel)) (kE 0 (by omega))
  have r2 : vk_R "FuneralPost$Tokens" 68 xSIGNS (adK 1) s := vk_R.of (at_ 772 (Cond.stringRef "FuneralPost$Tokens" 68 xSIGNS) (by decide +kernel)) (kE 1 (by omega))
  obtain ⟨q5, hq5⟩ : ∃ q5 : Nat, va_Z "jdk/internal/util/Preconditions" "SIOOBE_FORMATTER" "Ljava/util/function/BiFunction;" .null (fun q => s.heap.size ≤ q) s s.heap ∨ va_Z "jdk/internal/util/Preconditions" "SIOOBE_FORMATTER" "Ljava/util/function/BiFunction;" (.ref q5) (fun q => s.heap.size ≤ q) s s.heap := by
    rcases zq with z | ⟨t, z⟩
    · exact ⟨0, Or.inl z⟩
    · exact ⟨t, Or.inr z⟩
  refine ⟨(fun a => match a with
    | 0 => b
    | 1 => adK 0
    | 2 => adK 1
    | 3 => adV 0
    | 4 => adV 1
    | _ => q5, s.heap.size, s.heap, D, DA, L, xs, l), ⟨⟨hD, fun k q hq => ?_⟩, v_nest hts, ⟨hX, hS, hO⟩, ⟨⟨fun i hi => ?_, fun i j hi hj e => ?_⟩, r1, r2, zc, hq5⟩⟩, rfl, rfl, rfl, rfl, rfl⟩
  · match k, hq with
    | 0, hq => cases hq; exact t1
    | 1, hq => cases hq; exact t2
    | 2, hq => cases hq; exact t3
    | 3, hq => cases hq; exact t4
    | 4, hq => cases hq; exact t5
    | 5, hq => cases hq; exact t6
    | k + 6, hq => cases hq
  · match i, hi with
    | 0, _ => exact kS.1 0 (by omega)
    | 1, _ => exact kS.1 1 (by omega)
  · match i, hi, j, hj, e with
    | 0, _, 0, _, _ => rfl
    | 0, _, 1, _, e => exact kS.2 0 1 (by omega) (by omega) e
    | 1, _, 0, _, e => exact kS.2 1 0 (by omega) (by omega) e
    | 1, _, 1, _, _ => rfl
