/-! THE CLASS splits: all tokens -/
/-- where the token number k is looked for -/
def ps (N : Nat) (T : Nat → Int32) : Nat → Nat
  | 0 => 0
  | k + 1 => tkE N T (ps N T k)
theorem ps_le (N : Nat) (T : Nat → Int32) : ∀ k, ps N T k ≤ N := by
  intro k
  induction k with
  | zero => exact Nat.zero_le _
  | succ k ih => exact tkE_le ih
theorem ps_ge {N : Nat} {T : Nat → Int32} : ∀ k, (∀ j, j < k → ¬ tkK N T (ps N T j) = 0) → k ≤ ps N T k := by
  intro k
  induction k with
  | zero => intro _; exact Nat.zero_le _
  | succ k ih =>
    intro h
    have h1 := ih (fun j hj => h j (by omega))
    have h2 := tkE_gt (ps_le N T k) (h k (by omega))
    have h3 := tkS_ge N (ps N T k) T
    show k + 1 ≤ tkE N T (ps N T k)
    omega
theorem tkS_mid {N p q : Nat} {T : Nat → Int32} (hp : p ≤ N) (h1 : p ≤ q) (h2 : q ≤ tkS N T p) : tkS N T q = tkS N T p :=
  run_eq (qWs_N N T) h2 (tkS_le hp) (fun j j1 j2 => run_in (qWs N T) (by omega) j2) (run_out hp (qWs_N N T))
theorem tkS_stop {N q : Nat} {T : Nat → Int32} (hq : q ≤ N) (h : ¬ cWs (tb N T q)) : tkS N T q = q :=
  run_stop (qWs_N N T) hq (decide_eq_false h)
abbrev fSp : Nat → Nat → Prop := fun b i => b = 12 ∨ b = 14 ∨ (b = 10 ∧ i = 5)
abbrev fSw : Nat → Nat → Prop := fun b _ => b = 13
/-- the tokens lie in their order, the end behind them -/
def spDone (N : Nat) (T : Nat → Int32) (M : Nat) (u : xU) (w : xW) : Prop := M ≤ N ∧ (∀ j, j < M → ¬ tkK N T (ps N T j) = 0) ∧ tkK N T (ps N T M) = 0 ∧ u 10 5 = nI (M + 1) ∧ ∀ j, j ≤ M → aTk N T j (ps N T j) u w
theorem aTk.kept {N : Nat} {T : Nat → Int32} {j p k : Nat} {u u' : xU} {w w' : xW} (h : aTk N T j p u w) (f : xSn (fAd k) u u') (fw : wSn (fAw k) w w') (hj : j ≠ k) : aTk N T j p u' w' := by
  obtain ⟨h1, h2, h3, h4⟩ := h
  refine ⟨?_, ?_, fun z => ?_, fun z => ?_⟩
  · rw [f 12 j (by omega)]; exact h1
  · rw [f 14 j (by omega)]; exact h2
  · rw [fw 13 j (by omega)]; exact h3 z
  · rw [fw 13 j (by omega)]; exact h4 z
section SPLIT
variable {g : xGT} {d : Nat} {r : xQ} {N : Nat} {T : Nat → Int32}
theorem K_split_117 {u : xU} {w : xW} {P : xPost} {k : Nat} {o1 o2 o3 o4 : Option Value} (hr : xRf r) (ok : tpOk N T) (h : cTp N T u) (hk : k ≤ N) (h5 : u 10 5 = nI k) (hs : tkS N T (ps N T k) = N)
    (ha : ∀ j, j < k → aTk N T j (ps N T j) u w) (hn : ∀ j, j < k → ¬ tkK N T (ps N T j) = 0) (kk : ∀ u' w' M, spDone N T M u' w' → xSn fSp u u' → wSn fSw w w' → P none u' w' r) :
    xEv g (d + 4) mX10_split 117 [some (.ref 10), o1, o2, o3, o4] [] 698 u w r 698 P := by
  have n16 := ok.1
  refine xe_aload_n dX10_split_117 rfl ?_
  refine xe_iconst (v := 0) dX10_split_118 rfl ?_
  refine xe_lconst (v := 0) dX10_split_119 rfl ?_
  refine xe_aload_n dX10_split_120 rfl ?_
  refine xe_getI dX10_split_121 flX10_45 kk10 (xKK_lt kk10) rfl ?_
  rw [h.1]
  have e0 : tkK N T (ps N T k) = 0 := (tkK_0 ok (ps_le N T k)).2 hs
  refine xe_callV (args := [.int 0, .long 0, .int (nI N)]) (P1 := fun rv u' w' r' => rv = none ∧ r = r' ∧ (aTk N T k (ps N T k) u' w' ∧ u' 10 5 = nI (k + 1) ∧ xSn (fAd k) u u' ∧ wSn (fAw k) w w')) dX10_split_124 vlX10_73 rfl rfl (Nat.le_of_ble_eq_true rfl) kk10 (xKK_lt kk10) rfl rfl (K_addAt (d := d + 3) hr (by omega) h5 ⟨rfl, rfl, ⟨?_, ?_, fun z => ?_, fun z => ?_⟩, x2_same _ _ _ _, (((xSn.rf).put (Or.inl ⟨Or.inl rfl, rfl⟩)).put (Or.inl ⟨Or.inr rfl, rfl⟩)).put (Or.inr ⟨rfl, rfl⟩), (wSn.rf).put ⟨rfl, rfl⟩⟩) (Nat.le_refl _) (fun rv1 u1 w1 r1 q => ?_)
  · rw [x2_a _ _ (by omega), x2_a _ _ (by omega), x2_same, e0]; rfl
  · rw [x2_a _ _ (by omega), x2_same, hs]
  · omega
  · omega
  · obtain ⟨rfl, rfl, a1, c1, f1, g1⟩ := q
    refine xe_return dX10_split_127 trivial (kk u1 w1 k ⟨hk, hn, e0, c1, fun j hj => ?_⟩ (f1.to (fun b i z => by omega)) (g1.to (fun b i z => z.1)))
    by_cases y : j = k
    · subst y; exact a1
    · exact (ha j (by omega)).kept f1 g1 y
theorem K_split_9 (hr : xRf r) (ok : tpOk N T) : ∀ (m at' turn k : Nat) (u : xU) (w : xW) (P : xPost), N - at' ≤ m → at' ≤ N → turn ≤ at' → ps N T k ≤ at' → at' ≤ tkS N T (ps N T k) → cTp N T u → kWd w → u 10 5 = nI k → (∀ j, j < k → aTk N T j (ps N T j) u w) → (∀ j, j < k → ¬ tkK N T (ps N T j) = 0) →
    (∀ u' w' M, spDone N T M u' w' → xSn fSp u u' → wSn fSw w w' → P none u' w' r) → xEv g (d + 4) mX10_split 9 [some (.ref 10), some (.int (nI at')), some (.int (nI turn)), none, none] [] 698 u w r 698 P := by
  have n16 := ok.1
  intro m
  induction m with
  | zero =>
    intro at' turn k u w P hm haN ht hp1 hp2 h hw h5 ha hn kk
    have ea : at' = N := by omega
    have hs : tkS N T (ps N T k) = N := by have := tkS_le (T := T) (ps_le N T k); omega
    have hkN : k ≤ N := Nat.le_trans (ps_ge k hn) (ps_le N T k)
    subst ea
    refine xe_iload_n dX10_split_9 rfl ?_
    refine xe_sipush (v := 1600) dX10_split_10 rfl ?_
    refine xe_icmp_ge (tgt := 117) dX10_split_13 rfl (fun _ => K_split_117 hr ok h hkN h5 hs ha hn kk) (fun _ => ?_)
    refine xe_iload_n dX10_split_16 rfl ?_
    refine xe_aload_n dX10_split_17 rfl ?_
    refine xe_getI dX10_split_18 flX10_45 kk10 (xKK_lt kk10) rfl ?_
    rw [h.1]
    exact xe_icmp_ge (tgt := 117) dX10_split_21 rfl (fun _ => K_split_117 hr ok h hkN h5 hs ha hn kk) (fun z => absurd (nI_le (Nat.le_refl _) (by omega)) z)
  | succ m ih =>
    intro at' turn k u w P hm haN ht hp1 hp2 h hw h5 ha hn kk
    have hsN := tkS_le (T := T) (ps_le N T k)
    have hkp := ps_ge k hn
    by_cases lt : at' < N
    · refine xe_iload_n dX10_split_9 rfl ?_
      refine xe_sipush (v := 1600) dX10_split_10 rfl ?_
      refine xe_icmp_ge (tgt := 117) dX10_split_13 rfl (fun z => absurd z (nI_ge (b := 1600) (by omega) (by omega))) (fun _ => ?_)
      refine xe_iload_n dX10_split_16 rfl ?_
      refine xe_aload_n dX10_split_17 rfl ?_
      refine xe_getI dX10_split_18 flX10_45 kk10 (xKK_lt kk10) rfl ?_
      rw [h.1]
      refine xe_icmp_ge (tgt := 117) dX10_split_21 rfl (fun z => absurd z (nI_ge (by omega) (by omega))) (fun _ => ?_)
      refine xe_aload_n dX10_split_24 rfl ?_
      refine xe_iload_n dX10_split_25 rfl ?_
      refine xe_callV (args := [.int (nI at')]) (P1 := xPr (kb N T at') u w r) dX10_split_26 vlX10_51 rfl rfl (Nat.le_of_ble_eq_true rfl) kk10 (xKK_lt kk10) rfl rfl (K_byteAt hr ok h (by omega)) (Nat.le_refl _) (fun rv1 u1 w1 r1 q => ?_)
      obtain ⟨rfl, rfl, rfl, rfl⟩ := q
      refine xe_istore_n (ls' := [some (.ref 10), some (.int (nI at')), some (.int (nI turn)), some (.int (kb N T at')), none]) dX10_split_29 rfl (by decide) rfl ?_
      obtain ⟨ec, c256⟩ := kb_in ok lt
      -- behind a step
      have go : ∀ (at2 k2 : Nat) (u2 : xU) (w2 : xW) (o3 o4 : Option Value), N - at2 ≤ m → at2 ≤ N → turn + 1 ≤ at2 → ps N T k2 ≤ at2 → at2 ≤ tkS N T (ps N T k2) → cTp N T u2 → kWd w2 → u2 10 5 = nI k2 → (∀ j, j < k2 → aTk N T j (ps N T j) u2 w2) → (∀ j, j < k2 → ¬ tkK N T (ps N T j) = 0) → xSn fSp u u2 → wSn fSw w w2 →
          xEv g (d + 4) mX10_split 111 [some (.ref 10), some (.int (nI at2)), some (.int (nI turn)), o3, o4] [] 698 u2 w2 r 698 P := by
        intro at2 k2 u2 w2 o3 o4 q1 q2 q3 q4 q5 q6 q7 q8 q9 q10 f2 g2
        refine xe_iinc (v := nI (turn + 1)) (ls' := [some (.ref 10), some (.int (nI at2)), some (.int (nI (turn + 1))), o3, o4]) dX10_split_111 rfl (by decide) (nI_one turn) rfl ?_
        refine xe_goto (tgt := 9) dX10_split_114 rfl ?_
        exact xEv.fewer (ls' := [some (.ref 10), some (.int (nI at2)), some (.int (nI (turn + 1))), none, none]) (ih at2 (turn + 1) k2 u2 w2 P q1 q2 q3 q4 q5 q6 q7 q8 q9 q10 (fun u' w' M y1 y2 y3 => kk u' w' M y1 (f2.tr y2) (g2.tr y3))) (xfw_get (xfw_s (xfw_s (xfw_s (xfw_n (xfw_n (xfw_nil _)))))))
      have white : cWs (tb N T at') → xEv g (d + 4) mX10_split 42 [some (.ref 10), some (.int (nI at')), some (.int (nI turn)), some (.int (kb N T at')), none] [] 698 u w r 698 P := by
        intro hws
        have hne : at' < tkS N T (ps N T k) := by
          refine Nat.lt_of_le_of_ne hp2 (fun z => ?_)
          rw [z] at hws
          exact tkS_ws (ps_le N T k) hws
        refine xe_iinc (v := nI (at' + 1)) (ls' := [some (.ref 10), some (.int (nI (at' + 1))), some (.int (nI turn)), some (.int (kb N T at')), none]) dX10_split_42 rfl (by decide) (nI_one at') rfl ?_
        refine xe_goto (tgt := 111) dX10_split_45 rfl ?_
        exact go (at' + 1) k u w _ _ (by omega) (by omega) (by omega) (by omega) (by omega) h hw h5 ha hn xSn.rf wSn.rf
      refine xe_iload_n dX10_split_30 rfl ?_
      refine xe_bipush (v := 32) dX10_split_31 (by decide +kernel) ?_
      refine xe_icmp_eq (tgt := 42) dX10_split_33 rfl (fun z => white (Or.inl ?_)) (fun z1 => ?_)
      · rw [ec] at z
        exact (eq_nI (b := 32) (by omega) (by omega)).1 z
      refine xe_iload_n dX10_split_36 rfl ?_
      refine xe_bipush (v := 10) dX10_split_37 (by decide +kernel) ?_
      refine xe_icmp_ne (tgt := 48) dX10_split_39 rfl (fun z2 => ?_) (fun z => white (Or.inr ?_))
      rotate_left
      · rw [ec] at z
        exact (eq_nI (b := 10) (by omega) (by omega)).1 z
      have nws : ¬ cWs (tb N T at') := fun z => by
        rcases z with y | y
        · exact z1 (by rw [ec, y]; rfl)
        · exact z2 (by rw [ec, y]; rfl)
      have es : tkS N T (ps N T k) = at' := by rw [← tkS_mid (ps_le N T k) hp1 hp2]; exact tkS_stop haN nws
      have eC : tkC N T (ps N T k) = tb N T at' := by unfold tkC; rw [es]
      have c0 : ¬ tkC N T (ps N T k) = 256 := by omega
      have nz : ¬ tkK N T (ps N T k) = 0 := fun z => by
        have := (tkK_0 ok (ps_le N T k)).1 z
        omega
      have hE := tkE_gt (ps_le N T k) nz
      have hE2 := tkE_le (T := T) (ps_le N T k)
      have k16 : k ≤ 1600 := by have := ps_le N T k; omega
      -- behind a token
      have tok : ∀ (u2 : xU) (w2 : xW) (o3 o4 : Option Value), aTk N T k (ps N T k) u2 w2 → u2 10 5 = nI (k + 1) → xSn (fAd k) u u2 → wSn (fAw k) w w2 →
          xEv g (d + 4) mX10_split 111 [some (.ref 10), some (.int (nI (tkE N T (ps N T k)))), some (.int (nI turn)), o3, o4] [] 698 u2 w2 r 698 P := by
        intro u2 w2 o3 o4 a2 b2 f2 g2
        refine go (tkE N T (ps N T k)) (k + 1) u2 w2 o3 o4 (by omega) hE2 (by omega) (Nat.le_refl _) (tkS_ge N _ T) ⟨?_, fun i hi => ?_⟩ (fun i hi => ?_) b2 (fun j hj => ?_) (fun j hj => ?_) (f2.to (fun b i z => by omega)) (g2.to (fun b i z => z.1))
        · rw [f2 10 1 (by omega)]; exact h.1
        · rw [f2 11 i (by omega)]; exact h.2 i hi
        · rw [g2 15 i (by omega)]; exact hw i hi
        · by_cases y : j = k
          · subst y; exact a2
          · exact (ha j (by omega)).kept f2 g2 y
        · by_cases y : j = k
          · subst y; exact nz
          · exact hn j (by omega)
      refine xe_iload_n dX10_split_48 rfl ?_
      refine xe_callS (args := [.int (kb N T at')]) (P1 := xPr (xb (cLet (tb N T at'))) u w r) dX10_split_49 slX10_55 rfl rfl (Nat.le_of_ble_eq_true rfl) (K_isLet ok at') (Nat.le_refl _) (fun rv1 u1 w1 r1 q => ?_)
      obtain ⟨rfl, rfl, rfl, rfl⟩ := q
      refine xe_if_eq (tgt := 64) dX10_split_52 rfl (fun z3 => ?_) (fun z3 => ?_)
      rotate_left
      · have cl : cLet (tb N T at') := Classical.byContradiction (fun y => z3 (xb_neg y))
        refine xe_aload_n dX10_split_55 rfl ?_
        refine xe_iload_n dX10_split_56 rfl ?_
        refine xe_callV (args := [.int (nI at')]) (P1 := fun rv u' w' r' => rv = some (.int (nI (tkE N T (ps N T k)))) ∧ r = r' ∧ (aTk N T k (ps N T k) u' w' ∧ u' 10 5 = nI (k + 1) ∧ xSn (fAd k) u u' ∧ wSn (fAw k) w w')) dX10_split_57 vlX10_59 rfl rfl (Nat.le_of_ble_eq_true rfl) kk10 (xKK_lt kk10) rfl rfl ?_ (Nat.le_refl _) (fun rv1 u1 w1 r1 q => ?_)
        · have := K_addWord (g := g) (d := d + 2) (P := fun rv u' w' r' => rv = some (.int (nI (tkE N T (ps N T k)))) ∧ r = r' ∧ (aTk N T k (ps N T k) u' w' ∧ u' 10 5 = nI (k + 1) ∧ xSn (fAd k) u u' ∧ wSn (fAw k) w w')) hr ok hw h (ps_le N T k) (by rw [eC]; exact cl) k16 h5 (fun u' w' y1 y2 y3 y4 => ⟨rfl, rfl, y1, y2, y3, y4⟩)
          rw [es] at this
          exact this
        · obtain ⟨rfl, rfl, a1, b1, f1, g1⟩ := q
          refine xe_istore_n (ls' := [some (.ref 10), some (.int (nI (tkE N T (ps N T k)))), some (.int (nI turn)), some (.int (kb N T at')), none]) dX10_split_60 rfl (by decide) rfl ?_
          exact xe_goto (tgt := 111) dX10_split_61 rfl (tok u1 w1 _ _ a1 b1 f1 g1)
      have ncl : ¬ cLet (tb N T at') := xb_eq0.1 z3
      refine xe_iload_n dX10_split_64 rfl ?_
      refine xe_callS (args := [.int (kb N T at')]) (P1 := xPr (xb (cDig (tb N T at'))) u w r) dX10_split_65 slX10_62 rfl rfl (Nat.le_of_ble_eq_true rfl) (K_isDig ok at') (Nat.le_refl _) (fun rv1 u1 w1 r1 q => ?_)
      obtain ⟨rfl, rfl, rfl, rfl⟩ := q
      refine xe_if_eq (tgt := 80) dX10_split_68 rfl (fun z4 => ?_) (fun z4 => ?_)
      rotate_left
      · have cd : cDig (tb N T at') := Classical.byContradiction (fun y => z4 (xb_neg y))
        refine xe_aload_n dX10_split_71 rfl ?_
        refine xe_iload_n dX10_split_72 rfl ?_
        refine xe_callV (args := [.int (nI at')]) (P1 := fun rv u' w' r' => rv = some (.int (nI (tkE N T (ps N T k)))) ∧ r = r' ∧ (aTk N T k (ps N T k) u' w' ∧ u' 10 5 = nI (k + 1) ∧ xSn (fAd k) u u' ∧ wSn (fAw k) w w')) dX10_split_73 vlX10_65 rfl rfl (Nat.le_of_ble_eq_true rfl) kk10 (xKK_lt kk10) rfl rfl ?_ (Nat.le_refl _) (fun rv1 u1 w1 r1 q => ?_)
        · have := K_addNumber (g := g) (d := d + 2) (P := fun rv u' w' r' => rv = some (.int (nI (tkE N T (ps N T k)))) ∧ r = r' ∧ (aTk N T k (ps N T k) u' w' ∧ u' 10 5 = nI (k + 1) ∧ xSn (fAd k) u u' ∧ wSn (fAw k) w w')) hr ok h (ps_le N T k) (by rw [eC]; exact cd) k16 h5 (fun u' w' y1 y2 y3 y4 => ⟨rfl, rfl, y1, y2, y3, y4⟩)
          rw [es] at this
          exact this
        · obtain ⟨rfl, rfl, a1, b1, f1, g1⟩ := q
          refine xe_istore_n (ls' := [some (.ref 10), some (.int (nI (tkE N T (ps N T k)))), some (.int (nI turn)), some (.int (kb N T at')), none]) dX10_split_76 rfl (by decide) rfl ?_
          exact xe_goto (tgt := 111) dX10_split_77 rfl (tok u1 w1 _ _ a1 b1 f1 g1)
      have ncd : ¬ cDig (tb N T at') := xb_eq0.1 z4
      have eK : tkK N T (ps N T k) = sgn (tb N T at') := by unfold tkK; rw [if_neg c0, eC, if_neg ncl, if_neg ncd]
      have eE : tkE N T (ps N T k) = at' + 1 := by unfold tkE; rw [if_neg c0, eC, if_neg ncl, if_neg ncd, es]
      have sgs := sgF_sgn (tb N T at') (by omega)
      refine xe_ldcT (a := 2) (tx := xSIGNS) dX10_split_80 (by omega) (fun s hs => hs.2.2.1) ?_
      refine xe_iload_n dX10_split_82 rfl ?_
      refine xe_i2c dX10_split_83 ?_
      rw [ec, nI_i2c _ c256]
      refine xe_callT (b := 2) (args := [.int (nI (tb N T at'))]) (P1 := xPr (aIx (tb N T at') 11) u w r) dX10_split_84 vlX10_70 rfl rfl (by show 0 ≤ 8; omega) (by omega) rfl (fun s hs => tx_O hs 1 (by omega)) (K_ix1 c256) (Nat.le_refl _) (fun rv1 u1 w1 r1 q => ?_)
      obtain ⟨rfl, rfl, rfl, rfl⟩ := q
      refine xe_istore (ls' := [some (.ref 10), some (.int (nI at')), some (.int (nI turn)), some (.int (nI (tb N T at'))), some (.int (aIx (tb N T at') 11))]) dX10_split_87 (by decide) rfl ?_
      have fin : ∀ kd : Int32, kd = nI (tkK N T (ps N T k)) → xEv g (d + 4) mX10_split 103 [some (.ref 10), some (.int (nI at')), some (.int (nI turn)), some (.int (nI (tb N T at'))), some (.int (aIx (tb N T at') 11))] [.int kd, .ref 10] 698 u w r 698 P := by
        intro kd hkd
        refine xe_lconst (v := 0) dX10_split_103 rfl ?_
        refine xe_iload_n dX10_split_104 rfl ?_
        have n2 : ¬ tkK N T (ps N T k) = 2 ∧ ¬ tkK N T (ps N T k) = 3 := by
          rw [eK]
          by_cases y : isSg (tb N T at')
          · have := sgn_yes y; omega
          · rw [sgn_not y]; omega
        refine xe_callV (args := [.int kd, .long 0, .int (nI at')]) (P1 := fun rv u' w' r' => rv = none ∧ r = r' ∧ (aTk N T k (ps N T k) u' w' ∧ u' 10 5 = nI (k + 1) ∧ xSn (fAd k) u u' ∧ wSn (fAw k) w w')) dX10_split_105 vlX10_73 rfl rfl (Nat.le_of_ble_eq_true rfl) kk10 (xKK_lt kk10) rfl rfl (K_addAt (d := d + 3) hr k16 h5 ⟨rfl, rfl, ⟨?_, ?_, fun z => absurd z n2.1, fun z => absurd z n2.2⟩, x2_same _ _ _ _, (((xSn.rf).put (Or.inl ⟨Or.inl rfl, rfl⟩)).put (Or.inl ⟨Or.inr rfl, rfl⟩)).put (Or.inr ⟨rfl, rfl⟩), (wSn.rf).put ⟨rfl, rfl⟩⟩) (Nat.le_refl _) (fun rv1 u1 w1 r1 q => ?_)
        · rw [x2_a _ _ (by omega), x2_a _ _ (by omega), x2_same, hkd]
        · rw [x2_a _ _ (by omega), x2_same, es]
        · obtain ⟨rfl, rfl, a1, b1, f1, g1⟩ := q
          have tk := tok u1 w1 (some (.int (nI (tb N T at')))) (some (.int (aIx (tb N T at') 11))) a1 b1 f1 g1
          rw [eE] at tk
          exact xe_iinc (v := nI (at' + 1)) (ls' := [some (.ref 10), some (.int (nI (at' + 1))), some (.int (nI turn)), some (.int (nI (tb N T at'))), some (.int (aIx (tb N T at') 11))]) dX10_split_108 rfl (by decide) (nI_one at') rfl tk
      refine xe_aload_n dX10_split_89 rfl ?_
      refine xe_iload dX10_split_90 rfl ?_
      by_cases y : sgF (tb N T at') 11 = 11
      · have ei : aIx (tb N T at') 11 = -1 := if_pos y
        rw [if_pos y] at sgs
        refine xe_if_ge (tgt := 99) dX10_split_92 rfl (fun z => absurd z (by rw [ei]; decide)) (fun _ => ?_)
        refine xe_iconst (v := 1) dX10_split_95 rfl ?_
        exact xe_goto (tgt := 103) dX10_split_96 rfl (fin 1 (by rw [eK, ← sgs]; rfl))
      · have ei : aIx (tb N T at') 11 = nI (sgF (tb N T at') 11) := if_neg y
        rw [if_neg y] at sgs
        have sb : sgF (tb N T at') 11 < 2000 := by
          by_cases y2 : isSg (tb N T at')
          · have := sgn_yes y2; omega
          · rw [sgn_not y2] at sgs; omega
        refine xe_if_ge (tgt := 99) dX10_split_92 rfl (fun _ => ?_) (fun z => absurd (by rw [ei]; exact nI_le (a := 0) (by omega) (by omega)) z)
        refine xe_iconst (v := 4) dX10_split_99 rfl ?_
        refine xe_iload dX10_split_100 rfl ?_
        refine xe_iadd dX10_split_102 (fin _ ?_)
        rw [ei, eK, ← sgs]
        exact nI_add 4 _
    · have ea : at' = N := by omega
      exact ih at' turn k u w P (by omega) haN ht hp1 hp2 h hw h5 ha hn kk
theorem K_split {u : xU} {w : xW} {P : xPost} (hr : xRf r) (ok : tpOk N T) (h : cTp N T u) (hw : kWd w) (kk : ∀ u' w' M, spDone N T M u' w' → xSn fSp u u' → wSn fSw w w' → P none u' w' r) :
    xCall g (d + 4) mX10_split [.ref 10] 698 u w r 698 P := by
  refine xCall.of plX10 (Nat.le_of_ble_eq_true rfl) rfl ?_
  refine xe_aload_n dX10_split_0 rfl ?_
  refine xe_iconst (v := 0) dX10_split_1 rfl ?_
  refine xe_putI dX10_split_2 flX10_48 kk10 (xKK_lt kk10) (fun q hq => by cases hq; rfl) rfl ?_
  refine xe_iconst (v := 0) dX10_split_5 rfl ?_
  refine xe_istore_n (ls' := [some (.ref 10), some (.int 0), none, none, none]) dX10_split_6 rfl (by decide) rfl ?_
  refine xe_iconst (v := 0) dX10_split_7 rfl ?_
  refine xe_istore_n (ls' := [some (.ref 10), some (.int 0), some (.int 0), none, none]) dX10_split_8 rfl (by decide) rfl ?_
  have f0 : xSn fSp u (x2 u 10 5 0) := (xSn.rf).put (Or.inr (Or.inr ⟨rfl, rfl⟩))
  refine K_split_9 (at' := 0) (turn := 0) (k := 0) (m := N) hr ok _ _ _ (by omega) (Nat.zero_le _) (Nat.le_refl _) (Nat.le_refl _) (Nat.zero_le _) ⟨?_, fun i hi => ?_⟩ hw (x2_same _ _ _ _) (fun j hj => absurd hj (Nat.not_lt_zero _)) (fun j hj => absurd hj (Nat.not_lt_zero _)) (fun u' w' M y1 y2 y3 => kk u' w' M y1 (f0.tr y2) y3)
  · rw [x2_i _ _ (by omega)]; exact h.1
  · rw [x2_a _ _ (by omega)]; exact h.2 i hi
end SPLIT
