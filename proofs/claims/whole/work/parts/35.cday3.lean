/-! DEPARTING, a whole day, standing still: the class -/
theorem kSt.day {L : xU} {n : Nat} {u : xU} {s : Nat} {σ T : Nat → Int32} (h : kSt L n u s σ T) (hB6 : lB L ≤ 6) (hn : n ≤ 10) (x : Int32) : kSt L n (x2 u s 0 x) s (up σ 90 x) T := by
  obtain ⟨⟨a1, a2, a3⟩, b1, b2, b3⟩ := h
  have e : ∀ k i, 1 ≤ k → x2 u s 0 x (s + k) i = u (s + k) i := fun k i hk => x2_a _ _ (by omega)
  have f : ∀ j, j ≠ 90 → up σ 90 x j = σ j := fun j hj => up_n hj
  have ef : ∀ b, fIn n (up σ 90 x) b = fIn n σ b := fun b => cn_congr (fun i hi => by rw [f (28 + i) (by omega)])
  refine ⟨⟨?_, ?_, ?_⟩, fun b hb => ?_, fun b hb => ?_, fun l hl => ?_⟩
  · rw [x2_same, up_s]
  · rw [x2_i _ _ (by omega), f _ (by omega)]; exact a2
  · rw [x2_i _ _ (by omega), f _ (by omega)]; exact a3
  · rw [e 1 b (by omega), f b (by omega)]; exact b1 b hb
  · rw [e 2 b (by omega), e 3 b (by omega), e 4 b (by omega), f b (by omega), f (6 + b) (by omega), f (12 + b) (by omega), ef]; exact b2 b hb
  · rw [e 5 l (by omega), e 6 l (by omega), e 7 l (by omega), e 8 l (by omega), e 9 l (by omega), e 10 l (by omega), e 11 l (by omega), f (18 + l) (by omega), f (28 + l) (by omega), f (38 + l) (by omega), f (48 + l) (by omega), f (58 + l) (by omega), f (68 + l) (by omega), f (78 + l) (by omega)]
    exact b3 l hl
section CDAY3
variable {g : xGT} {d : Nat} {w : xW} {r : xQ} {L : xU} {c : Int32} {s l : Nat}
/-- where a standing bier goes next: -1 where none stands -/
theorem K_next {u : xU} {n e : Nat} {σ T : Nat → Int32} (hr : xRf r) (hE : kE u l L c) (hK : lOkk L) (hS : gSt L c n e σ) {b : Nat} (hb : b < lB L) : xCall g d mX8_nextOf [.ref 53, .int (if σ b = 1 then σ (6 + b) else -1), .int (L 5 b)] 698 u w r 698 (xPr (if σ b = 1 then fTo L c σ b else -1) u w r) := by
  have hB := hK.2.2.1
  have hW := hK.1
  have hb6 := hB.1
  have hv7 := hW.1
  by_cases q : σ b = 1
  · rw [if_pos q, if_pos q]
    obtain ⟨⟨v, hv, ev⟩, -⟩ := (hS.2.2.2.1 b (by omega)).1 hb
    obtain ⟨ho1, ho2⟩ := hB.home hW hb
    unfold fTo
    rw [ev, ho2, nc (by omega)]
    have := K_nextOf' (g := g) (d := d) (u := u) (w := w) hr (show v < 7 by omega) (show lH L b < 7 by omega)
    rw [hE.2.2.2.2 v _ (by omega) (by omega)] at this
    exact this
  · rw [if_neg q, if_neg q]
    exact K_nextOf_none hr _
theorem K_depart {u : xU} {n e : Nat} {σ T : Nat → Int32} (hr : xRf r) (h_s : xSt s) (q_s : xSr s r) (h_l : xLd l) (q_l : xLr l r) (hm : r 52 1 = some l) (hl : l + 14 < 52) (hs : 79 < s) (hE : kE u l L c) (hK : lOkk L) (hk : kSt L n u s σ T) (hS : gSt L c n e σ) :
    xCall g (d + 2) mX0_depart [.ref 52, .ref s] 698 u w r 698 (xVd (fun u' => kSt L n u' s (fFour L c σ) T ∧ xSm (fSt s) u u') w r) := by
  have hB := hK.2.2.1
  have hW := hK.1
  have hb6 := hB.1
  have hv7 := hW.1
  have n10 := hS.1.2
  refine CX0_depart h_s h_l hm (CX2_isWinter h_l ⟨_, rfl, rfl, rfl, rfl, ?_⟩)
  rw [hk.1.1]
  have ew : xb (¬ (σ 90 < u l 15) ∧ ¬ (u l 16 < σ 90)) = xb (¬ σ 90 < L 0 3 ∧ ¬ L 0 4 < σ 90) := xb_iff (hE.1.2.2.2.1 (σ 90))
  rw [ew]
  refine xlp (N := lB L) (Q := fun k u' => kSt L n u' s (xfold k (fFourB L c) σ) T ∧ xSm (fSt s) u u') (G := fun k u' => xEv g (d + 2) mX0_depart 14 [some (.ref 52), some (.ref s), some (.int (xb (¬ σ 90 < L 0 3 ∧ ¬ L 0 4 < σ 90))), some (.int (nI k)), none, none] [] 698 u' w r 698 _) ?_ ?_ ⟨hk, xSm.rf⟩
  · intro u1 ⟨h1, h2⟩
    have E1 : kE u1 l L c := hE.kept h2 (by omega) (by omega)
    refine TX0_depart_14 hr h_s q_s h_l q_l hm (brT (by rw [E1.1.1.2.2]; exact nI_le (Nat.le_refl _) (by omega)) ⟨rfl, ⟨?_, h2.put ⟨by omega, by omega⟩⟩, rfl, rfl⟩)
    rw [h1.1.1]
    exact h1.day hb6 n10 _
  · intro k u1 hkk ⟨h1, h2⟩ kk
    have E1 : kE u1 l L c := hE.kept h2 (by omega) (by omega)
    have S1 := fFourKk_st hW hB hS (show k ≤ lB L by omega)
    rw [xfold_s] at kk
    generalize hτ : xfold k (fFourB L c) σ = τ at *
    have e90 : σ 90 = τ 90 := hS.2.2.1.1.trans S1.2.2.1.1.symm
    obtain ⟨b1, b2, b3, b4⟩ := E1.1.2.2.1 k hkk
    obtain ⟨ho1, ho2⟩ := hB.home hW hkk
    obtain ⟨⟨v, hv, ev⟩, st⟩ := (S1.2.2.2.1 k (by omega)).1 hkk
    refine TX0_depart_14 hr h_s q_s h_l q_l hm (brF (by rw [E1.1.1.2.2]; exact nI_ge (by omega) (by omega)) ?_)
    rw [nc (by omega), b2, h1.1.1]
    refine xPr.use (K_stands h_s q_s h1 hkk hb6) ⟨_, rfl, rfl, rfl, rfl, vpn (by omega) (by omega), ?_⟩
    refine xPr.use (K_next (T := T) hr E1 hK S1 hkk) ⟨_, rfl, rfl, rfl, rfl, ?_⟩
    rw [xb_eq0]
    have fin : ∀ u2 : xU, kSt L n u2 s (fFourB L c k τ) T → xSm (fSt s) u1 u2 → xEv g (d + 2) mX0_depart 112 [some (.ref 52), some (.ref s), some (.int (xb (¬ σ 90 < L 0 3 ∧ ¬ L 0 4 < σ 90))), some (.int (nI k)), none, none] [] 698 u2 w r 698 (xVd (fun u' => kSt L n u' s (fFour L c σ) T ∧ xSm (fSt s) u u') w r) := by
      intro u2 y1 y2
      refine TX0_depart_112 ?_
      rw [nI_one]
      exact kk u2 ⟨y1, h2.tr y2⟩
    by_cases q1 : τ k = 1
    · rw [if_pos q1, if_pos q1, ((h1.2.2.1 k hkk).2.1 (by rw [q1]; decide)), ev]
      rcases fTo_or hW c τ k with y | ⟨o, o1, o2⟩
      · refine brF (fun z => z.2.1 y) (fin u1 ?_ xSm.rf)
        unfold fFourB
        rw [if_neg (fun z => z.2 (by rw [y]; exact m1_neg))]
        exact h1
      · rw [o2]
        refine ⟨fun z => ?_, fun z => fin u1 ?_ xSm.rf⟩
        · have ef : fFourB L c k τ = up (up (up τ k 2) (12 + k) (τ 90 + lD L c v o)) (6 + k) (nI o) := by
            unfold fFourB
            rw [if_pos ⟨⟨⟨q1, z.2.2⟩, by rw [← e90]; exact z.1⟩, by rw [o2]; exact nI_nn (by omega)⟩, o2, ev, nc (by omega), nc (by omega)]
          have f0 : x2 u1 (s + 1) k 2 s 0 = τ 90 := by rw [x2_a _ _ (by omega)]; exact h1.1.1
          rw [f0]
          refine xPr.use (K_daysOfWay' hr (by omega) (by omega)) ⟨_, rfl, rfl, rfl, rfl, fin _ ?_ (((xSm.rf.put ⟨by omega, by omega⟩).put ⟨by omega, by omega⟩).put ⟨by omega, by omega⟩)⟩
          have ed : x2 u1 (s + 1) k 2 (63 + v) o = lD L c v o := by
            rw [x2_a _ _ (by omega), E1.2.2.1 v o (by omega) (by omega)]
            unfold gD0
            rw [if_neg]
            · rfl
            · rcases lNx_or hW c v (lH L k) with y | ⟨o', y0, y1, y2, -⟩
              · unfold fTo at o2
                rw [ev, nc (by omega), y] at o2
                exact absurd o2.symm (nI_m1 (by omega))
              · unfold fTo at o2
                rw [ev, nc (by omega), y1] at o2
                have : o' = o := nI_inv (by omega) (by omega) o2
                rw [← this]
                exact y2
          rw [ed]
          have := h1.bier hkk hb6 n10 (u' := x2 (x2 (x2 u1 (s + 1) k 2) (s + 3) k (τ 90 + lD L c v o)) (s + 2) k (nI o)) (st := 2) (pl := nI o) (wh := τ 90 + lD L c v o) (T' := T) (fun k' i a1 a2 a3 a4 => by rw [x2_ne _ _ (by omega), x2_ne _ _ (by omega), x2_ne _ _ (by omega)]) (by rw [x2_a _ _ (by omega), x2_a _ _ (by omega), x2_same]) (by rw [x2_same]) (fun _ => by rw [x2_a _ _ (by omega), x2_same]) (fun y => absurd y (by decide)) (fun _ _ => rfl)
          rw [ef]
          refine this.cg (fun j hj => ?_) hb6 n10
          unfold up
          by_cases y1 : j = 6 + k
          · rw [if_pos y1, if_neg (by omega), if_pos y1]
          · rw [if_neg y1, if_neg y1]
        · unfold fFourB
          rw [if_neg (fun y => z ⟨by rw [e90]; exact y.1.2, nI_m1 (by omega), y.1.1.2⟩)]
          exact h1
    · rw [if_neg q1, if_neg q1]
      refine brF (fun z => z.2.1 rfl) (fin u1 ?_ xSm.rf)
      unfold fFourB
      rw [if_neg (fun z => q1 z.1.1.1)]
      exact h1
theorem K_goBy {u : xU} {n e : Nat} {σ T : Nat → Int32} (hr : xRf r) (h_s : xSt s) (q_s : xSr s r) (h_l : xLd l) (q_l : xLr l r) (hm : r 52 1 = some l) (hl : l + 14 < 52) (hs : 79 < s) (hE : kE u l L c) (hK : lOkk L) (hk : kSt L n u s σ T) (hS : gSt L c n e σ) :
    xCall g (d + 4) mX0_goBy [.ref 52, .ref s] 698 u w r 698 (xIn (fTwo n (fOne L c σ)).1 (fun u' => (∃ T', kSt L n u' s (fDay L c n σ) T' ∧ tRel L σ (fOne L c σ) T T') ∧ xSm (fCd s l) u u') w r) := by
  have hB := hK.2.2.1
  have hW := hK.1
  have S1 := fOne_st hW hB hS
  have S2 := fTwo_st hB S1
  have S3 := fThree_st hW hB S2
  refine CX0_goBy (xVd.use (K_arrive hr h_s q_s h_l q_l hm hl hs hE hK hk hS) (fun u1 ⟨⟨T1, h1, t1⟩, f1⟩ => ⟨rfl, rfl, rfl, ?_⟩))
  have E1 : kE u1 l L c := hE.kept f1 (by omega) (by omega)
  refine xIn.use (K_bringHome h_s q_s hB hW h1 S1) (fun u2 ⟨h2, f2⟩ => ⟨_, rfl, rfl, rfl, ?_⟩)
  have E2 : kE u2 l L c := E1.kept f2 (by omega) (by omega)
  refine xVd.use (K_handOn hr h_s q_s h_l q_l hm hl hs E2 hK h2 S2) (fun u3 ⟨h3, f3⟩ => ⟨rfl, rfl, rfl, ?_⟩)
  have E3 : kE u3 l L c := E2.kept f3 (by omega) (by omega)
  refine xVd.use (K_depart hr h_s q_s h_l q_l hm hl hs E3 hK h3 S3) (fun u4 ⟨h4, f4⟩ => ⟨rfl, rfl, rfl, rfl, ⟨⟨T1, h4, t1⟩, ?_⟩, rfl, rfl⟩)
  exact ((f1.tr (f2.to (fun b hb => Or.inl hb))).tr (f3.to (fun b hb => Or.inl hb))).tr (f4.to (fun b hb => Or.inl hb))
theorem K_isStill {u : xU} {n e : Nat} {σ T : Nat → Int32} (hr : xRf r) (h_s : xSt s) (q_s : xSr s r) (h_l : xLd l) (q_l : xLr l r) (hm : r 52 1 = some l) (hE : kE u l L c) (hK : lOkk L) (hk : kSt L n u s σ T) (hS : gSt L c n e σ) :
    xCall g (d + 1) mX0_isStill [.ref 52, .ref s] 698 u w r 698 (xPr (xb (fStill L c σ = true)) u w r) := by
  have hB := hK.2.2.1
  have hb6 := hB.1
  refine CX0_isStill ?_
  have H : fStillK L c σ 0 = true → xEv g (d + 1) mX0_isStill 2 [some (.ref 52), some (.ref s), some (.int (nI 0)), none, none] [] 698 u w r 698 (xPr (xb (fStill L c σ = true)) u w r) := by
    refine xlq (N := lB L) (G := fun k => fStillK L c σ k = true → xEv g (d + 1) mX0_isStill 2 [some (.ref 52), some (.ref s), some (.int (nI k)), none, none] [] 698 u w r 698 (xPr (xb (fStill L c σ = true)) u w r)) ?_ ?_
    · intro ht
      refine TX0_isStill_2 hr h_s h_l q_l hm (brT (by rw [hE.1.1.2.2]; exact nI_le (Nat.le_refl _) (by omega)) ⟨?_, rfl, rfl, rfl⟩)
      rw [xb_pos (show fStill L c σ = true from ht)]
    · intro k hkk kk ht
      obtain ⟨b1, b2, b3, b4⟩ := hE.1.2.2.1 k hkk
      refine TX0_isStill_2 hr h_s h_l q_l hm (brF (by rw [hE.1.1.2.2]; exact nI_ge (by omega) (by omega)) ?_)
      have no : ¬ (σ k = 3 ∨ (σ k = 1 ∧ fTo L c σ k = -1)) → fStill L c σ = true → False := fun z y => z ((fStillK_iff L c σ (lB L)).mp y k hkk)
      have yes : (σ k = 3 ∨ (σ k = 1 ∧ fTo L c σ k = -1)) → xEv g (d + 1) mX0_isStill 2 [some (.ref 52), some (.ref s), some (.int (nI k + 1)), none, none] [] 698 u w r 698 (xPr (xb (fStill L c σ = true)) u w r) := by
        intro z
        rw [nI_one]
        refine kk ?_
        rw [fStillK_iff] at ht ⊢
        intro b hb
        by_cases y : b = k
        · subst y; exact z
        · exact ht b (by omega)
      have p49 : ¬ (σ k = 1 ∧ fTo L c σ k = -1) → xEv g (d + 1) mX0_isStill 49 [some (.ref 52), some (.ref s), some (.int (nI k)), none, none] [] 698 u w r 698 (xPr (xb (fStill L c σ = true)) u w r) := by
        intro z
        refine TX0_isStill_49 (TX0_isStill_50 h_s q_s ⟨vpn (by omega) (by omega), ?_⟩)
        rw [nc (by omega), hk.2.1 k (by omega)]
        refine ⟨fun y => ⟨?_, rfl, rfl, rfl⟩, fun y => yes (Or.inl (Classical.byContradiction (fun x => y ⟨x, rfl⟩)))⟩
        rw [xb_neg (no (fun x => x.elim y.1 z))]
      refine xPr.use (K_stands h_s q_s hk hkk hb6) ⟨_, rfl, rfl, rfl, rfl, fun z => p49 ?_, fun z => ⟨vpn (by omega) (by omega), ?_⟩⟩
      · by_cases q : σ k = 1
        · rw [if_pos q] at z
          obtain ⟨⟨v, hv, ev⟩, -⟩ := (hS.2.2.2.1 k (by omega)).1 hkk
          rw [ev] at z
          exact absurd z (nI_m1 (by have := hK.1.1; omega))
        · exact fun y => q y.1
      · rw [nc (by omega), b2]
        refine xPr.use (K_next (T := T) hr hE hK hS hkk) ⟨_, rfl, rfl, rfl, rfl, fun y => ?_, fun y => p49 ?_⟩
        · refine TX0_isStill_50 h_s q_s ⟨vpn (by omega) (by omega), brF (fun x => absurd x.2 (by decide)) (yes (Or.inr ?_))⟩
          by_cases q : σ k = 1
          · rw [if_pos q] at y; exact ⟨q, y⟩
          · rw [if_neg q] at z; exact absurd rfl z
        · intro x
          rw [if_pos x.1] at y
          exact y x.2
  exact H rfl
theorem K_cell {u : xU} {a n : Nat} (h_a : xKK a = some (.inr (.int, n))) {b : Nat} (hb : b < n) (hn : n < 2147483648) : xCall g d mX11_cell [.ref a, .int (nI b)] 698 u w r 698 (xPr (u a b) u w r) := by
  refine CX11_cell h_a ⟨fun _ => vpn hb (by omega), ?_, rfl, rfl, rfl⟩
  rw [if_pos ⟨nI_nn (by omega), nI_ge (b := n) hb hn⟩, nc (by omega)]
theorem K_cell_none {u : xU} {a n : Nat} (h_a : xKK a = some (.inr (.int, n))) : xCall g d mX11_cell [.ref a, .int (-1)] 698 u w r 698 (xPr (-1) u w r) := by
  refine CX11_cell h_a ⟨fun z => absurd m1_neg z.1, ?_, rfl, rfl, rfl⟩
  rw [if_neg (fun z => z.1 m1_neg)]
theorem K_restOf {u : xU} {n e : Nat} {σ T : Nat → Int32} (hr : xRf r) (h_s : xSt s) (q_s : xSr s r) (h_l : xLd l) (q_l : xLr l r) (hm : r 52 1 = some l) (hE : kE u l L c) (hK : lOkk L) (hk : kSt L n u s σ T) (hS : gSt L c n e σ) {b : Nat} (hb : b < lB L) :
    xCall g (d + 2) mX0_restOf [.ref 52, .ref s, .int (nI b)] 698 u w r 698 (xPr (if σ b = 1 then lR L c (σ (6 + b)).toNatClampNeg (lH L b) else 0) u w r) := by
  have hB := hK.2.2.1
  have hb6 := hB.1
  have hv7 := hK.1.1
  obtain ⟨b1, b2, b3, b4⟩ := hE.1.2.2.1 b hb
  obtain ⟨ho1, ho2⟩ := hB.home hK.1 hb
  refine CX0_restOf hr h_s h_l q_l hm (xPr.use (K_stands h_s q_s hk hb hb6) ⟨_, rfl, rfl, rfl, rfl, ?_⟩)
  refine xPr.use (K_cell h_l.k5 (by omega) (by omega)) ⟨_, rfl, rfl, rfl, rfl, ?_⟩
  rw [b2, ho2]
  by_cases q : σ b = 1
  · rw [if_pos q, if_pos q]
    obtain ⟨⟨v, hv, ev⟩, -⟩ := (hS.2.2.2.1 b (by omega)).1 hb
    rw [ev, nc (by omega)]
    exact xPr.use (K_passed hr hK.1 hE.2.2.2.2 hv (by omega)) ⟨_, rfl, rfl, rfl, rfl, rfl, rfl, rfl, rfl⟩
  · rw [if_neg q, if_neg q]
    exact xPr.use K_passed_none ⟨_, rfl, rfl, rfl, rfl, rfl, rfl, rfl, rfl⟩
end CDAY3
