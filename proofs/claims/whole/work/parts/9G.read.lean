/-! THE WHOLE TEXT -/
def pGo (N : Nat) (T : Nat → Int32) : Nat → pD → pC → pC × pD
  | 0, D, c => (c, D)
  | m + 1, D, c => if c.2.1 = 0 ∧ ¬ kK N T c.1 = 0 then pGo N T m (pLine N T D c).2 (pLine N T D c).1 else (c, D)
def D0 : pD := (fun _ => 0, fun _ _ => 0, fun _ _ => 0, fun _ _ => 0, [])
def pAll (N : Nat) (T : Nat → Int32) : pC × pD := pGo N T 1601 D0 (0, 0, -1)
theorem exM (N : Nat) (T : Nat → Int32) : ∃ M, M ≤ N ∧ kK N T M = 0 := by
  refine Classical.byContradiction (fun h => ?_)
  have h1 := ps_ge (N := N) (T := T) (N + 1) (fun j hj z => h ⟨j, by omega, z⟩)
  have h2 := ps_le N T (N + 1)
  omega
theorem pGo_stop {N m : Nat} {T : Nat → Int32} {D : pD} {c : pC} (h : ¬ (c.2.1 = 0 ∧ ¬ kK N T c.1 = 0)) : pGo N T m D c = (c, D) := by
  cases m with
  | zero => rfl
  | succ m => rw [pGo, if_neg h]
theorem oD_0 (N : Nat) (T : Nat → Int32) : oD N T D0 :=
  ⟨⟨⟨Nat.zero_le _, fun i hi => absurd hi (Nat.not_lt_zero _), fun i j h1 h2 => absurd h2 (Nat.not_lt_zero _)⟩, ⟨Nat.zero_le _, fun i hi => absurd hi (Nat.not_lt_zero _), fun i j h1 h2 => absurd h2 (Nat.not_lt_zero _)⟩, ⟨Nat.zero_le _, fun i hi => absurd hi (Nat.not_lt_zero _), fun i j h1 h2 => absurd h2 (Nat.not_lt_zero _)⟩⟩, ⟨Nat.zero_le _, Nat.zero_le _, Nat.zero_le _, Nat.zero_le _⟩, ⟨Nat.zero_le _, Nat.zero_le _⟩, fun _ => ⟨rfl, rfl⟩, fun z => absurd (show (0 : Nat) = 1 from z) (by decide), fun k hk => absurd hk (Nat.not_lt_zero _), fun j k hj hk => absurd hk (Nat.not_lt_zero _), fun k hk => absurd hk (Nat.not_lt_zero _), fun k hk => absurd hk (Nat.not_lt_zero _)⟩
section READK
variable {g : xGT} {d : Nat} {r : xQ} {N : Nat} {T : Nat → Int32} {M l : Nat} {P : xPost}
theorem K_read_102 {c : pC} {u : xU} {w : xW} {o1 o2 : Option Value} (h : cP N T M c u w) (kk : P (some (.int (xb (c.2.1 = 0)))) u w r) : xEv g d mX7_read 102 [some (.ref 9), o1, o2] [] 698 u w r 698 P := by
  refine xe_aload_n dX7_read_102 rfl ?_
  refine xe_getI dX7_read_103 flX7_59 kk9 (xKK_lt kk9) rfl ?_
  rw [h.2.2.2.2.1]
  refine xe_if_ne (tgt := 113) dX7_read_106 rfl (fun z => ?_) (fun z => ?_)
  · rw [xb_neg (fun y => z ((f9_0 h.2.2.1).2 y))] at kk
    exact xe_iconst (v := 0) dX7_read_113 rfl (xe_ireturn dX7_read_114 rfl kk)
  · rw [xb_pos ((f9_0 h.2.2.1).1 z)] at kk
    exact xe_iconst (v := 1) dX7_read_109 rfl (xe_goto (tgt := 114) dX7_read_110 rfl (xe_ireturn dX7_read_114 rfl kk))
theorem K_read_70 (hr : xRf r) (ok : tpOk N T) (h_l : xLd l) (q_l : xLr l r) (h94 : r 9 4 = some l) (hl : l = 22 ∨ l = 37) (hM : kK N T M = 0) {u0 : xU} {w0 : xW} : ∀ m i D c u w, i + m = 1601 → cP N T M c u w → (c.2.1 = 0 → oD N T D ∧ cD N T l D u w) → xSn (fCl l) u0 u → wSn fWl w0 w →
    (∀ u' w', cP N T M (pGo N T m D c).1 u' w' → ((pGo N T m D c).1.2.1 = 0 → oD N T (pGo N T m D c).2 ∧ cD N T l (pGo N T m D c).2 u' w') → xSn (fCl l) u0 u' → wSn fWl w0 w' → P (some (.int (xb ((pGo N T m D c).1.2.1 = 0)))) u' w' r) →
    xEv g (d + 102) mX7_read 70 [some (.ref 9), some (.ref l), some (.int (nI i))] [] 698 u w r 698 P := by
  intro m
  induction m with
  | zero =>
    intro i D c u w hi h hO f fw kk
    have ei : i = 1601 := by omega
    subst ei
    refine xe_iload_n dX7_read_70 rfl ?_
    refine xe_sipush (v := 1600) dX7_read_71 rfl ?_
    refine xe_icmp_gt (tgt := 102) dX7_read_74 rfl (fun _ => K_read_102 h (kk u w h hO f fw)) (fun z => absurd ((lt_nI (a := 1600) (b := 1601) (by omega) (by omega)).2 (by omega)) z)
  | succ m ih =>
    intro i D c u w hi h hO f fw kk
    have stop : ¬ (c.2.1 = 0 ∧ ¬ kK N T c.1 = 0) → xEv g (d + 102) mX7_read 102 [some (.ref 9), some (.ref l), some (.int (nI i))] [] 698 u w r 698 P := fun q => by
      rw [pGo_stop q] at kk
      exact K_read_102 h (kk u w h hO f fw)
    refine xe_iload_n dX7_read_70 rfl ?_
    refine xe_sipush (v := 1600) dX7_read_71 rfl ?_
    refine xe_icmp_gt (tgt := 102) dX7_read_74 rfl (fun z => absurd ((lt_nI (a := 1600) (by omega) (by omega)).1 z) (by omega)) (fun _ => ?_)
    refine xe_aload_n dX7_read_77 rfl ?_
    refine xe_getI dX7_read_78 flX7_59 kk9 (xKK_lt kk9) rfl ?_
    rw [h.2.2.2.2.1]
    refine xe_if_ne (tgt := 102) dX7_read_81 rfl (fun z => stop (fun y => z ((f9_0 h.2.2.1).2 y.1))) (fun z => ?_)
    have q : c.2.1 = 0 := (f9_0 h.2.2.1).1 z
    refine xe_aload_n dX7_read_84 rfl (xe_iconst (v := 0) dX7_read_85 rfl ?_)
    refine xe_callV (args := [.int 0]) dX7_read_86 vlX7_65 rfl rfl (Nat.le_of_ble_eq_true rfl) kk9 (xKK_lt kk9) rfl rfl (K_sees (d := d + 100) (k := 0) hr ok h (by omega)) (Nat.le_refl _) (fun rv1 u1 w1 r1 k => ?_)
    obtain ⟨rfl, rfl, rfl, rfl⟩ := k
    refine xe_if_ne (tgt := 102) dX7_read_89 rfl (fun z2 => stop (fun y => ?_)) (fun z2 => ?_)
    · exact z2 (xb_neg (fun y2 => y.2 y2.2))
    · have q2 : ¬ kK N T c.1 = 0 := fun y => (xb_eq0.1 z2) ⟨q, y⟩
      have e : pGo N T (m + 1) D c = pGo N T m (pLine N T D c).2 (pLine N T D c).1 := by rw [pGo, if_pos ⟨q, q2⟩]
      rw [e] at kk
      refine xe_aload_n dX7_read_92 rfl ?_
      refine xe_callV (args := []) (P1 := fun rv u' w' r' => rv = none ∧ r = r' ∧ xEv g (d + 102) mX7_read 96 [some (.ref 9), some (.ref l), some (.int (nI i))] [] 698 u' w' r 698 P) dX7_read_93 vlX7_69 rfl rfl (Nat.le_of_ble_eq_true rfl) kk9 (xKK_lt kk9) rfl rfl (K_readLine (d := d) hr ok h_l q_l h94 hl hM h q (hO q).1 (hO q).2 (fun u2 w2 y1 y2 y3 y4 => ⟨rfl, rfl, ?_⟩)) (Nat.le_refl _) (fun rv1 u1 w1 r1 k => ?_)
      · refine xe_iinc (v := nI (i + 1)) (ls' := [some (.ref 9), some (.ref l), some (.int (nI (i + 1)))]) dX7_read_96 rfl (by decide) (nI_one i) rfl ?_
        exact xe_goto (tgt := 70) dX7_read_99 rfl (ih (i + 1) (pLine N T D c).2 (pLine N T D c).1 u2 w2 (by omega) y1 (fun z => ⟨pLine_ok hM q h.2.1 (hO q).1 z, y2 z⟩) (f.tr y3) (fw.tr y4) kk)
      · obtain ⟨rfl, rfl, k⟩ := k
        exact k
/-- where the references lie still -/
theorem xRf.upd {r r' : xQ} (h : xRf r) (f : ∀ b i, ¬ (b = 9 ∧ i = 4) → ¬ (b = 52 ∧ i = 1) → ¬ (b = 8 ∧ (i = 10 ∨ i = 11)) → r' b i = r b i) : xRf r' := by
  obtain ⟨a1, a2, a3, a4, a5, a6, a7⟩ := h
  have k1 : ∀ q ∈ xRl, ¬ (q.1 = 9 ∧ q.2.1 = 4) ∧ ¬ (q.1 = 52 ∧ q.2.1 = 1) ∧ ¬ (q.1 = 8 ∧ (q.2.1 = 10 ∨ q.2.1 = 11)) := by decide +kernel
  have k2 : ∀ s ∈ xSb, ¬ s = 9 ∧ ¬ s = 52 ∧ ¬ s = 8 := by decide +kernel
  have e : ∀ b i, ¬ b = 9 → ¬ b = 52 → ¬ b = 8 → r' b i = r b i := fun b i h1 h2 h3 => f b i (fun z => h1 z.1) (fun z => h2 z.1) (fun z => h3 z.1)
  have lr : ∀ l, l = 22 ∨ l = 37 → xLr l r → xLr l r' := fun l hl h => by
    unfold xLr xLr0 xFr1 at h ⊢
    have e0 : ∀ i, r' l i = r l i := fun i => e l i (by omega) (by omega) (by omega)
    have e1 : ∀ i, r' (l + 12) i = r (l + 12) i := fun i => e (l + 12) i (by omega) (by omega) (by omega)
    simp only [e0, e1]
    exact h
  refine ⟨fun q hq => ?_, fun s hs => ?_, lr 22 (Or.inl rfl) a3, lr 37 (Or.inr rfl) a4, (e _ _ (by omega) (by omega) (by omega)).trans a5, (e _ _ (by omega) (by omega) (by omega)).trans a6, (e _ _ (by omega) (by omega) (by omega)).trans a7⟩
  · obtain ⟨b1, b2, b3⟩ := k1 q hq
    exact (f _ _ b1 b2 b3).trans (a1 q hq)
  · obtain ⟨b1, b2, b3⟩ := k2 s hs
    have h := a2 s hs
    unfold xSr at h ⊢
    have e0 : ∀ i, r' s i = r s i := fun i => e s i b1 b2 b3
    simp only [e0]
    exact h
theorem xRf.ld {r : xQ} (h : xRf r) (hl : l = 22 ∨ l = 37) : xLr l r := by
  rcases hl with rfl | rfl
  · exact h.2.2.1
  · exact h.2.2.2.1
theorem ld_of (hl : l = 22 ∨ l = 37) : xLd l := by
  rcases hl with rfl | rfl
  · exact ⟨by decide +kernel, by decide +kernel, by decide +kernel, by decide +kernel, by decide +kernel, by decide +kernel, by decide +kernel, by decide +kernel, by decide +kernel, by decide +kernel, by decide +kernel, by decide +kernel, by decide +kernel, by decide +kernel, by decide +kernel⟩
  · exact ⟨by decide +kernel, by decide +kernel, by decide +kernel, by decide +kernel, by decide +kernel, by decide +kernel, by decide +kernel, by decide +kernel, by decide +kernel, by decide +kernel, by decide +kernel, by decide +kernel, by decide +kernel, by decide +kernel, by decide +kernel⟩
/-- ahead of the first token all is empty -/
def rdC (u : xU) (l : Nat) : xU := x2 (x2 (x2 (x2 (x2 (x2 (x2 (x2 u l 0 0) l 1 0) l 5 0) l 10 0) l 15 0) l 16 (-1)) (l + 12) 2 0) (l + 12) 3 0
def rdU (u : xU) (l : Nat) : xU := x2 (x2 (x2 (x2 (x2 (x2 (x2 (x2 (rdC u l) 16 1 0) 18 1 0) 20 1 0) 9 5 0) 9 6 0) 9 7 0) 9 8 0) 9 9 (-1)
theorem rdU_fr (u : xU) (hl : l = 22 ∨ l = 37) : xSn (fCl l) u (rdU u l) := by
  unfold rdU rdC
  exact ((((((((((((((((xSn.rf (F := fCl l)).put (by omega)).put (by omega)).put (by omega)).put (by omega)).put (by omega)).put (by omega)).put (by omega)).put (by omega)).put (by omega)).put (by omega)).put (by omega)).put (by omega)).put (by omega)).put (by omega)).put (by omega)).put (by omega)
theorem rdU_at (u : xU) (hl : l = 22 ∨ l = 37) : (rdU u l 16 1 = 0 ∧ rdU u l 18 1 = 0 ∧ rdU u l 20 1 = 0 ∧ rdU u l 9 5 = 0 ∧ rdU u l 9 6 = 0 ∧ rdU u l 9 7 = 0 ∧ rdU u l 9 8 = 0 ∧ rdU u l 9 9 = -1) ∧ rdU u l l 0 = 0 ∧ rdU u l l 1 = 0 ∧ rdU u l l 5 = 0 ∧ rdU u l l 10 = 0 ∧ rdU u l l 15 = 0 ∧ rdU u l l 16 = -1 ∧ rdU u l (l + 12) 2 = 0 ∧ rdU u l (l + 12) 3 = 0 := by
  rcases hl with rfl | rfl
  · exact ⟨⟨rfl, rfl, rfl, rfl, rfl, rfl, rfl, rfl⟩, rfl, rfl, rfl, rfl, rfl, rfl, rfl, rfl⟩
  · exact ⟨⟨rfl, rfl, rfl, rfl, rfl, rfl, rfl, rfl⟩, rfl, rfl, rfl, rfl, rfl, rfl, rfl, rfl⟩
theorem cD_0 {u : xU} {w : xW} (hl : l = 22 ∨ l = 37) : cD N T l D0 (rdU u l) w := by
  obtain ⟨⟨a1, a2, a3, a4, a5, a6, a7, a8⟩, b1, b2, b3, b4, b5, b6, b7, b8⟩ := rdU_at u hl
  exact ⟨⟨a1, fun i hi => absurd hi (Nat.not_lt_zero _)⟩, ⟨a2, fun i hi => absurd hi (Nat.not_lt_zero _)⟩, ⟨a3, fun i hi => absurd hi (Nat.not_lt_zero _)⟩, b1, ⟨b2, fun i hi => absurd hi (Nat.not_lt_zero _)⟩, ⟨b3, fun i hi => absurd hi (Nat.not_lt_zero _)⟩, ⟨b4, fun i hi => absurd hi (Nat.not_lt_zero _)⟩, a4, a5, fun _ => ⟨b5, b6⟩, fun z => absurd (show (0 : Nat) = 1 from z) (by decide), b7, b8, fun i hi => absurd hi (Nat.not_lt_zero _)⟩
abbrev fRe (l : Nat) : Nat → Nat → Prop := fun b i => fCl l b i ∨ fSp b i
abbrev fRew : Nat → Nat → Prop := fun b i => fWl b i ∨ fSw b i
theorem K_read {u : xU} {w : xW} (hr : xRf r) (ok : tpOk N T) (hl : l = 22 ∨ l = 37) (hT : cTp N T u) (hw : kWd w)
    (kk : ∀ u' w', u' 9 8 = nI (pAll N T).1.2.1 → u' 9 9 = (pAll N T).1.2.2 → ((pAll N T).1.2.1 = 0 → oD N T (pAll N T).2 ∧ cD N T l (pAll N T).2 u' w') → xSn (fRe l) u u' → wSn fRew w w' → P (some (.int (xb ((pAll N T).1.2.1 = 0)))) u' w' (x2 r 9 4 (some l))) :
    xCall g (d + 102) mX7_read [.ref 9, .ref l] 698 u w r 698 P := by
  have h_l := ld_of hl
  refine xCall.of (ls := [some (.ref 9), some (.ref l), none]) plX7 (Nat.le_of_ble_eq_true rfl) rfl ?_
  refine xe_aload_n dX7_read_0 rfl (xe_aload_n dX7_read_1 rfl ?_)
  refine xe_putR (b := l) dX7_read_2 flX7_37 kk9 (xKK_lt kk9) nf7_4 rfl ?_
  have hr' : xRf (x2 r 9 4 (some l)) := hr.upd (fun b i h1 h2 h3 => x2_ne _ _ h1)
  have h94 : (x2 r 9 4 (some l)) 9 4 = some l := x2_same _ _ _ _
  generalize x2 r 9 4 (some l) = r' at hr' h94 kk
  have q_l : xLr l r' := hr'.ld hl
  refine xe_aload_n dX7_read_5 rfl ?_
  refine xe_getR (b := l) dX7_read_6 flX7_37 kk9 (xKK_lt kk9) rfl h94 ?_
  refine xe_callV (args := []) (P1 := fun rv u1 w1 r1 => rv = none ∧ rdC u l = u1 ∧ w = w1 ∧ r' = r1) dX7_read_9 vlX7_41 rfl rfl (Nat.le_of_ble_eq_true rfl) h_l.k0 (xKK_lt h_l.k0) rfl rfl (CX2_clear (d := d + 100) h_l q_l (CX1_clear h_l.fm ⟨rfl, rfl, rfl, rfl, rfl, rfl, rfl⟩)) (Nat.le_refl _) (fun rv1 u1 w1 r1 k => ?_)
  obtain ⟨rfl, rfl, rfl, rfl⟩ := k
  refine xe_aload_n dX7_read_12 rfl ?_
  refine xe_getR (b := 16) dX7_read_13 flX7_23 kk9 (xKK_lt kk9) rfl (rf9_1 hr') ?_
  refine xe_iconst (v := 0) dX7_read_16 rfl ?_
  refine xe_putI dX7_read_17 flX7_46 nm16.k0 (xKK_lt nm16.k0) nf5_1 rfl ?_
  refine xe_aload_n dX7_read_20 rfl ?_
  refine xe_getR (b := 18) dX7_read_21 flX7_27 kk9 (xKK_lt kk9) rfl (rf9_2 hr') ?_
  refine xe_iconst (v := 0) dX7_read_24 rfl ?_
  refine xe_putI dX7_read_25 flX7_46 nm18.k0 (xKK_lt nm18.k0) nf5_1 rfl ?_
  refine xe_aload_n dX7_read_28 rfl ?_
  refine xe_getR (b := 20) dX7_read_29 flX7_30 kk9 (xKK_lt kk9) rfl (rf9_3 hr') ?_
  refine xe_iconst (v := 0) dX7_read_32 rfl ?_
  refine xe_putI dX7_read_33 flX7_46 nm20.k0 (xKK_lt nm20.k0) nf5_1 rfl ?_
  refine xe_aload_n dX7_read_36 rfl (xe_iconst (v := 0) dX7_read_37 rfl ?_)
  refine xe_putZ dX7_read_38 flX7_49 kk9 (xKK_lt kk9) nf7_5 rfl (Or.inl rfl) ?_
  refine xe_aload_n dX7_read_41 rfl (xe_iconst (v := 0) dX7_read_42 rfl ?_)
  refine xe_putZ dX7_read_43 flX7_53 kk9 (xKK_lt kk9) nf7_6 rfl (Or.inl rfl) ?_
  refine xe_aload_n dX7_read_46 rfl (xe_iconst (v := 0) dX7_read_47 rfl ?_)
  refine xe_putI dX7_read_48 flX7_56 kk9 (xKK_lt kk9) nf7_7 rfl ?_
  refine xe_aload_n dX7_read_51 rfl (xe_iconst (v := 0) dX7_read_52 rfl ?_)
  refine xe_putI dX7_read_53 flX7_59 kk9 (xKK_lt kk9) nf7_8 rfl ?_
  refine xe_aload_n dX7_read_56 rfl (xe_iconst (v := -1) dX7_read_57 rfl ?_)
  refine xe_putI dX7_read_58 flX7_33 kk9 (xKK_lt kk9) nf7_9 rfl ?_
  refine xe_aload_n dX7_read_61 rfl ?_
  refine xe_getR (b := 10) dX7_read_62 flX7_12 kk9 (xKK_lt kk9) rfl (rf9_0 hr') ?_
  have fU := rdU_fr u hl
  have at5 := (rdU_at u hl).1
  have c0 : cD N T l D0 (rdU u l) w := cD_0 hl
  change xEv g (d + 102) mX7_read 65 _ _ 698 (rdU u l) w r' 698 P
  generalize rdU u l = u5 at fU at5 c0
  have hT5 : cTp N T u5 := ⟨(fU _ _ (by omega)).trans hT.1, fun i hi => by rw [fU _ _ (by omega)]; exact hT.2 i hi⟩
  refine xe_callV (args := []) (P1 := fun rv u' w' r1 => rv = none ∧ r' = r1 ∧ xEv g (d + 102) mX7_read 68 [some (.ref 9), some (.ref l), none] [] 698 u' w' r' 698 P) dX7_read_65 vlX7_62 rfl rfl (Nat.le_of_ble_eq_true rfl) kk10 (xKK_lt kk10) rfl rfl (K_split (d := d + 97) hr' ok hT5 hw (fun u6 w6 M y1 y2 y3 => ⟨rfl, rfl, ?_⟩)) (Nat.le_refl _) (fun rv1 u1 w1 r1 k => ?_)
  · refine xe_iconst (v := nI 0) dX7_read_68 rfl ?_
    refine xe_istore_n (ls' := [some (.ref 9), some (.ref l), some (.int (nI 0))]) dX7_read_69 rfl (by decide) rfl ?_
    have h : cP N T M (0, 0, -1) u6 w6 := ⟨y1, Nat.zero_le _, Nat.zero_le _, (y2 _ _ (by omega)).trans at5.2.2.2.2.2.1, (y2 _ _ (by omega)).trans at5.2.2.2.2.2.2.1, (y2 _ _ (by omega)).trans at5.2.2.2.2.2.2.2⟩
    have c6 : cD N T l D0 u6 w6 := by
      obtain ⟨b1, b2, b3, b4⟩ := c0.kept y2 (fun b i z => by omega)
      exact ⟨b1.keptW rfl (fun i => y3 _ _ (by omega)), b2.keptW rfl (fun i => y3 _ _ (by omega)), b3.keptW rfl (fun i => y3 _ _ (by omega)), b4⟩
    refine K_read_70 hr' ok h_l q_l h94 hl y1.2.2.1 1601 0 D0 (0, 0, -1) u6 w6 (by omega) h (fun _ => ⟨oD_0 N T, c6⟩) xSn.rf wSn.rf (fun u7 w7 z1 z2 z3 z4 => ?_)
    exact kk u7 w7 z1.2.2.2.2.1 z1.2.2.2.2.2 z2 ((fU.to (fun b i z => Or.inl z)).tr ((y2.to (fun b i z => Or.inr z)).tr (z3.to (fun b i z => Or.inl z)))) ((y3.to (fun b i z => Or.inr z)).tr (z4.to (fun b i z => Or.inl z)))
  · obtain ⟨rfl, rfl, k⟩ := k
    exact k
end READK
