/-! QUESTIONS: soon, heard, deaf: the class -/
theorem sLay_6 {L : xU} {c : Int32} {n e : Nat} {σ T : Nat → Int32} {cy : Int32} (hB6 : lB L ≤ 6) (hS : gSt L c n e σ) : sLay σ cy 6 T = sLay σ cy (lB L) T := by
  have : ∀ j, lB L + j ≤ 6 → sLay σ cy (lB L + j) T = sLay σ cy (lB L) T := by
    intro j
    induction j with
    | zero => intro _; rfl
    | succ j ih =>
      intro hj
      rw [show lB L + (j + 1) = lB L + j + 1 by omega, sLay_s, ih (by omega)]
      have z := (hS.2.2.2.1 (lB L + j) (by omega)).2 (by omega)
      unfold sLayB
      rw [if_neg]
      rintro ⟨-, y | y, -⟩ <;> rw [z] at y <;> exact absurd y (by decide)
  have := this (6 - lB L) (by omega)
  rw [show lB L + (6 - lB L) = 6 by omega] at this
  exact this
theorem sTak_6 {L : xU} {c : Int32} {n e : Nat} {σ T : Nat → Int32} {cy : Int32} (hB6 : lB L ≤ 6) (hS : gSt L c n e σ) : cy ||| xset 6 (sTakP σ T) = sTak σ T (lB L) cy := by
  refine b_ext (fun i hi => ?_)
  rw [b_or, bt_xset (by omega) _ hi, bt_sTak hi _ (by omega)]
  by_cases q : i < lB L
  · rw [decide_eq_true q, decide_eq_true (show i < 6 by omega)]
  · rw [decide_eq_false q, Bool.false_and]
    by_cases z : i < 6
    · have y := (hS.2.2.2.1 i z).2 q
      have : sTakP σ T i = false := decide_eq_false (fun x => by rw [y] at x; exact absurd x.1 (by decide))
      rw [this, Bool.and_false]
    · rw [decide_eq_false z, Bool.false_and]
/-- the first days in the class's memory -/
def cT (u : xU) (T : Nat → Int32) : Prop := ∀ v, v < 7 → u 92 v = T v
section SOON
variable {g : xGT} {d : Nat} {w : xW} {r : xQ} {L : xU} {c : Int32} {l : Nat}
theorem K_layDown {u : xU} {n e : Nat} {σ Tb T : Nat → Int32} (hr : xRf r) (hK : lOkk L) (hk : kSt L n u 80 σ Tb) (hS : gSt L c n e σ) (hT : cT u T) (cy : Int32) :
    xCall g (d + 1) mX3_layDown [.ref 79, .int cy] 698 u w r 698 (xVd (fun u' => cT u' (sLay σ cy (lB L) T) ∧ xSm (fun b => b = 92) u u') w r) := by
  have hb6 := hK.2.2.1.1
  have hv7 := hK.1.1
  rw [← sLay_6 hb6 hS]
  refine CX3_layDown ?_
  refine xlp (N := 6) (Q := fun k u' => cT u' (sLay σ cy k T) ∧ xSm (fun b => b = 92) u u') (G := fun k u' => xEv g (d + 1) mX3_layDown 2 [some (.ref 79), some (.int cy), some (.int (nI k)), none, none, none] [] 698 u' w r 698 _) ?_ ?_ ⟨hT, xSm.rf⟩
  · intro u1 ⟨h1, h2⟩
    exact TX3_layDown_2 hr (brT (nI_le (a := 6) (Nat.le_refl _) (by omega)) ⟨rfl, ⟨h1, h2⟩, rfl, rfl⟩)
  · intro k u1 hkk ⟨h1, h2⟩ kk
    have k1 := hk.kept h2 (by omega)
    refine TX3_layDown_2 hr (brF (nI_ge (b := 6) (by omega) (by omega)) ⟨vpn (by omega) (by omega), ?_⟩)
    rw [nc (by omega), k1.2.1 k hkk, k1.1.1, xb_eq0, Classical.not_not, test_1 (by omega), xb_eq0, Classical.not_not]
    rw [sLay_s] at kk
    generalize sLay σ cy k T = U at h1 kk
    refine ⟨fun q => TX3_layDown_111 ?_, fun q => xPr.use (K_isOneOf _ _) ⟨_, rfl, rfl, rfl, rfl, ?_⟩⟩
    · unfold sLayB at kk
      rw [if_neg (fun z => q ⟨z.1, z.2.1⟩)] at kk
      rw [nI_one]
      exact kk u1 ⟨h1, h2⟩
    · have kb : k < lB L := Nat.lt_of_not_le (fun z => by
        have y := (hS.2.2.2.1 k hkk).2 (by omega)
        rcases q.2 with x | x <;> rw [y] at x <;> exact absurd x (by decide))
      obtain ⟨⟨v, hv, ev⟩, -⟩ := (hS.2.2.2.1 k hkk).1 kb
      rw [(k1.2.2.1 k kb).1, ev, nc (by omega), h1 v (by omega)]
      unfold sLayB at kk
      rw [ev, nc (by omega)] at kk
      have in7 : ¬ xb (¬ (nI v < 0) ∧ ¬ ((7 : Int32) ≤ nI v)) = 0 := by
        rw [xb_eq0, Classical.not_not]
        exact ⟨nI_nn (by omega), nI_ge (b := 7) (by omega) (by omega)⟩
      refine ⟨fun _ => vpn (by omega) (by omega), fun q2 => ⟨vpn (by omega) (by omega), TX3_layDown_111 ?_⟩, fun q2 => TX3_layDown_111 ?_⟩
      · rw [if_pos ⟨q.1, q.2, q2.2⟩] at kk
        rw [nI_one]
        refine kk _ ⟨fun v' hv' => ?_, h2.put rfl⟩
        unfold up
        by_cases z : v' = v
        · subst z; rw [x2_same, if_pos rfl]
        · rw [x2_i _ _ z, if_neg z]; exact h1 v' hv'
      · rw [if_neg (fun z => q2 ⟨in7, z.2.2⟩)] at kk
        rw [nI_one]
        exact kk u1 ⟨h1, h2⟩
theorem K_takeUp {u : xU} {n e : Nat} {σ Tb T : Nat → Int32} (hr : xRf r) (hK : lOkk L) (hk : kSt L n u 80 σ Tb) (hS : gSt L c n e σ) (hT : cT u T) :
    xCall g (d + 1) mX3_takeUp [.ref 79] 698 u w r 698 (xPr (xset 6 (sTakP σ T)) u w r) := by
  have hb6 := hK.2.2.1.1
  have hv7 := hK.1.1
  refine CX3_takeUp ?_
  refine xlq (N := 6) (G := fun k => xEv g (d + 1) mX3_takeUp 4 [some (.ref 79), some (.int (xset k (sTakP σ T))), some (.int (nI k))] [] 698 u w r 698 _) ?_ ?_
  · exact TX3_takeUp_4 hr (brT (nI_le (a := 6) (Nat.le_refl _) (by omega)) ⟨rfl, rfl, rfl, rfl⟩)
  · intro k hkk kk
    refine TX3_takeUp_4 hr (brF (nI_ge (b := 6) (by omega) (by omega)) ?_)
    rw [xset_s] at kk
    refine xPr.use (K_standsIn st80 (sr80 hr) hkk) ⟨_, rfl, rfl, rfl, rfl, ?_⟩
    rw [hk.2.1 k hkk]
    by_cases q : σ k = 1
    · have kb : k < lB L := Nat.lt_of_not_le (fun z => by
        have y := (hS.2.2.2.1 k hkk).2 (by omega)
        rw [y] at q
        exact absurd q (by decide))
      obtain ⟨⟨v, hv, ev⟩, -⟩ := (hS.2.2.2.1 k hkk).1 kb
      have ep : sTakP σ T k = decide (¬ T v = -1) := by
        unfold sTakP
        rw [ev, nc (by omega)]
        by_cases z : T v = -1 <;> simp [z, q]
      rw [if_pos q, (hk.2.2.1 k kb).1, ev]
      refine xPr.use (K_cell kk92 (by omega) (by omega)) ⟨_, rfl, rfl, rfl, rfl, ?_⟩
      rw [hT v (by omega)]
      rw [ep] at kk
      refine ⟨fun z => TX3_takeUp_35 ?_, fun z => TX3_takeUp_35 ?_⟩
      · rw [if_neg (by simp [z])] at kk; rw [nI_one]; exact kk
      · rw [if_pos (decide_eq_true z)] at kk; rw [nI_one]; exact kk
    · rw [if_neg q]
      refine xPr.use (K_cell_none kk92) ⟨_, rfl, rfl, rfl, rfl, brT rfl (TX3_takeUp_35 ?_)⟩
      rw [if_neg (by unfold sTakP; simp [q])] at kk
      rw [nI_one]; exact kk
theorem K_spread_loop {P : xPost} (hr : xRf r) (h_l : xLd l) (q_l : xLr l r) (hm : r 52 1 = some l) (hl : l + 14 < 52) (hK : lOkk L) : ∀ (m i e n : Nat) (σ Tb T : Nat → Int32) (cy : Int32) (u : xU), e + m = 300 → i + m ≤ 300 → kE u l L c → kSt L n u 80 σ Tb → gSt L c n e σ → cT u T →
    (∀ (u' : xU), xSm (fLk l) u u' → cT u' (sp L c m σ T cy) → P none u' w r) →
    xEv g (d + 4) mX3_spread 53 [some (.ref 79), none, none, some (.int cy), some (.int (nI i))] [] 698 u w r 698 P := by
  have hW := hK.1
  have hB := hK.2.2.1
  have hb6 := hB.1
  intro m
  induction m with
  | zero =>
    intro i e n σ Tb T cy u he hi hE hk hS hT kk
    refine TX3_spread_53 hr (brF (fun q => q.2 ?_) (kk u xSm.rf hT))
    rw [hk.1.1, hS.2.2.1.1]
    exact nI_le (a := 300) (by omega) (by omega)
  | succ m ih =>
    intro i e n σ Tb T cy u he hi hE hk hS hT kk
    have S1 := fOne_st hW hB hS
    have S2 := fFour_st hW hB S1 (by omega)
    refine TX3_spread_53 hr (brT ⟨nI_ge (b := 300) (by omega) (by omega), ?_⟩ ?_)
    · rw [hk.1.1, hS.2.2.1.1]
      exact nI_ge (b := 300) (by omega) (by omega)
    · refine xVd.use (K_arrive hr st80 (sr80 hr) h_l q_l hm hl (by omega) hE hK hk hS) (fun u1 ⟨⟨T1, k1, t1⟩, f1⟩ => ⟨rfl, rfl, rfl, ?_⟩)
      have E1 : kE u1 l L c := hE.kept f1 (by omega) (by omega)
      have hT1 : cT u1 T := fun v hv => (f1 _ _ (by omega)).trans (hT v hv)
      refine xVd.use (K_layDown hr hK k1 S1 hT1 cy) (fun u2 ⟨hT2, f2⟩ => ⟨rfl, rfl, rfl, ?_⟩)
      have k2 := k1.kept f2 (by omega)
      have E2 : kE u2 l L c := E1.kept f2 (by omega) (by omega)
      refine xPr.use (K_takeUp hr hK k2 S1 hT2) ⟨_, rfl, rfl, rfl, rfl, ?_⟩
      refine xVd.use (K_depart hr st80 (sr80 hr) h_l q_l hm hl (by omega) E2 hK k2 S1) (fun u3 ⟨k3, f3⟩ => ⟨rfl, rfl, rfl, ?_⟩)
      have E3 : kE u3 l L c := E2.kept f3 (by omega) (by omega)
      have hT3 : cT u3 (sLay (fOne L c σ) cy (lB L) T) := fun v hv => (f3 _ _ (by omega)).trans (hT2 v hv)
      have f123 : xSm (fLk l) u u3 := ((f1.to (fun b hb => fCd80 hb)).tr (f2.to (fun b hb => Or.inl (by omega)))).tr (f3.to (fun b hb => fSt80 hb))
      rw [sp_s] at kk
      rw [sTak_6 hb6 S1]
      refine xPr.use (K_isStill hr st80 (sr80 hr) h_l q_l hm E3 hK k3 S2) ⟨_, rfl, rfl, rfl, rfl, fun q => ?_, fun q => ?_⟩
      · rw [nI_one]
        exact ih (i + 1) (e + 1) n _ T1 _ _ u3 (by omega) (by omega) E3 k3 S2 hT3 (fun u4 f4 h => kk u4 (f123.tr f4) h)
      · rw [xb_eq0, Classical.not_not] at q
        have k4 := fFour_still hb6 q
        have fx : sFix L (fOne L c σ) (sLay (fOne L c σ) cy (lB L) T) (sTak (fOne L c σ) (sLay (fOne L c σ) cy (lB L) T) (lB L) cy) := sFix_one hb6 (by rw [S1.2.2.1.1]; exact nI_m1 (by omega))
        rw [sp_still hb6 m _ _ _ q (fun b hb => by
          unfold fFour
          rw [k4, up_n (show b ≠ 90 by omega), up_n (show 6 + b ≠ 90 by omega)]
          exact fx b hb)] at kk
        exact kk u3 f123 hT3
theorem K_spread {u : xU} {n e : Nat} {σ : Nat → Int32} (hK : lOkk L) (hR : kR r l) (hN : kN L l n e u σ) {s : Nat} (hs : s < 7) :
    xCall g (d + 5) mX3_spread [.ref 79, .ref 105, .int (nI s)] 698 u w r 698 (xVd (fun u' => cT u' (spE L e σ s) ∧ xSm (fLk l) u u') w r) := by
  obtain ⟨hr, h_l, q_l, hm, ht, hl⟩ := hR
  obtain ⟨hE, ⟨Tb, hk⟩, hS⟩ := hN
  have hb6 := hK.2.2.1.1
  have he := hS.2.2.1.2
  refine CX3_spread ?_
  refine xlp (N := 7) (Q := fun k u' => (∀ v, v < k → u' 92 v = -1) ∧ xSm (fun b => b = 92) u u') (G := fun k u' => xEv g (d + 5) mX3_spread 2 [some (.ref 79), some (.ref 105), some (.int (nI s)), some (.int (nI k)), none] [] 698 u' w r 698 _) ?_ ?_ ⟨fun v hv => by omega, xSm.rf⟩
  · intro u1 ⟨h1, h2⟩
    refine TX3_spread_2 hr st105 (brT (nI_le (a := 7) (Nat.le_refl _) (by omega)) (xPr.use (K_isOneOf _ _) ⟨_, rfl, rfl, rfl, rfl, brF ?_ ⟨vpn (by omega) (by omega), ?_⟩⟩))
    · rw [xb_eq0, Classical.not_not]
      exact ⟨nI_nn (by omega), nI_ge (b := 7) (by omega) (by omega)⟩
    · rw [nc (by omega), h2 _ _ (by omega), hk.1.1]
      generalize hu2 : x2 u1 92 s (σ 90) = u2
      have f2 : xSm (fun b => b = 92) u u2 := by rw [← hu2]; exact h2.put rfl
      have T2 : cT u2 (sp0 s (σ 90)) := by
        intro v hv
        unfold sp0
        rw [← hu2]
        by_cases q : v = s
        · subst q; rw [x2_same, if_pos rfl]
        · rw [x2_i _ _ q, if_neg q]; exact h1 v hv
      refine TX3_spread_40 hr (xVd.use (K_copyFrom st80 (sr80 hr) st105 (sr105 hr) (by omega)) (fun u3 ⟨h3, f3⟩ => ⟨rfl, rfl, rfl, ?_⟩))
      have f23 : xSm (fLk l) u u3 := (f2.to (fun b hb => Or.inl (by omega))).tr (f3.to (fun b hb => fSt80 hb))
      exact K_spread_loop hr h_l q_l hm hl hK (300 - e) 0 e n σ Tb (sp0 s (σ 90)) 0 u3 (by omega) (by omega) ((hE.kept f2 (by omega) (by omega)).kept f3 (by omega) (by omega)) (h3.st (hk.kept f2 (by omega)) hb6 hS.1.2) hS (fun v hv => (f3 _ _ (by omega)).trans (T2 v hv)) (fun u4 f4 h => ⟨rfl, ⟨h, f23.tr f4⟩, rfl, rfl⟩)
  · intro k u1 hkk ⟨h1, h2⟩ kk
    refine TX3_spread_2 hr st105 (brF (nI_ge (b := 7) (by omega) (by omega)) ⟨vpn (by omega) (by omega), ?_⟩)
    rw [nI_one, nc (by omega)]
    refine kk _ ⟨fun v hv => ?_, h2.put rfl⟩
    by_cases q : v = k
    · subst q; rw [x2_same]
    · rw [x2_i _ _ q]; exact h1 v (by omega)
end SOON
