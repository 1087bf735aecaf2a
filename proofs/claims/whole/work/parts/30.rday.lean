/-! A DAY in the reference -/
theorem fStk_q {L : xU} {q q' S : Nat → Int32} (h : ∀ i, i < 4 → q i = q' i) {n : Nat} (ok : ∀ k, k < n → fStepOk L k) : ∀ k, k ≤ n → fStk L q S k = fStk L q' S k := by
  intro k
  induction k with
  | zero => intro _; rfl
  | succ k ih =>
    intro hk
    rw [fStk, fStk, ih (by omega)]
    by_cases h1 : L 8 k = 0 ∨ L 8 k = 1
    · rw [if_pos h1, if_pos h1]
      by_cases h0 : L 8 k = 0
      · rw [if_pos h0, if_pos h0]
      · rw [if_neg h0, if_neg h0]
        rcases ok k (by omega) with o | ⟨o, n, n1, n2⟩ | o | o
        · exact absurd o.1 h0
        · rw [n2, nc (by omega), h n n1]
        · rw [o.1] at h1; exact absurd h1 (by decide)
        · rw [o.1] at h1; exact absurd h1 (by decide)
    · rw [if_neg h1, if_neg h1]
theorem fVal_q {L : xU} {q q' : Nat → Int32} (hf : fOk L) (h : ∀ i, i < 4 → q i = q' i) : fVal L q = fVal L q' := by
  unfold fVal
  rw [fStk_q h hf.2.2.1 (lS L) (Nat.le_refl _)]
/-- frames, entry by entry -/
def xSn (F : Nat → Nat → Prop) (u u' : xU) : Prop := ∀ b i, ¬ F b i → u' b i = u b i
theorem xSn.rf {F : Nat → Nat → Prop} {u : xU} : xSn F u u := fun _ _ _ => rfl
theorem xSn.tr {F : Nat → Nat → Prop} {u v w : xU} (h1 : xSn F u v) (h2 : xSn F v w) : xSn F u w := fun b i h => (h2 b i h).trans (h1 b i h)
theorem xSn.put {F : Nat → Nat → Prop} {u v : xU} {a k : Nat} {x : Int32} (h : xSn F u v) (ha : F a k) : xSn F u (x2 v a k x) := fun b i hb => by
  rw [x2_ne _ _ (fun q => hb (by rw [q.1, q.2]; exact ha))]
  exact h b i hb
theorem xSm.n {F : Nat → Prop} {G : Nat → Nat → Prop} {u v : xU} (h : xSm F u v) (hs : ∀ b i, F b → G b i) : xSn G u v := fun b i hb => h b i (fun q => hb (hs b i q))
theorem xSn.to {F G : Nat → Nat → Prop} {u v : xU} (h : xSn F u v) (hs : ∀ b i, F b i → G b i) : xSn G u v := fun b i hb => h b i (fun q => hb (hs b i q))
/-- what a day of the reference writes -/
abbrev fDy : Nat → Prop := fun b => b = 663 ∨ b = 664 ∨ b = 684
abbrev fDh : Nat → Nat → Prop := fun b i => b = 663 ∨ b = 664 ∨ b = 684 ∨ b = 686 ∨ (b = 655 ∧ i = 61)
theorem rL.kn {u u' : xU} {L : xU} (h : rL u L) (hs : xSn fDh u u') : rL u' L := by
  obtain ⟨⟨a1, a2, a3⟩, b1, b2, b3, b4, b5, b6, b7, b8, b9, c1, c2, c3, c4⟩ := h
  have e : ∀ b, b ≠ 663 → b ≠ 664 → b ≠ 684 → b ≠ 686 → b ≠ 655 → u' b = u b := fun b h1 h2 h3 h4 h5 => funext fun i => hs b i (by omega)
  have f : ∀ i, i ≠ 61 → u' 655 i = u 655 i := fun i hi => hs _ _ (by omega)
  rw [rL, f 49 (by omega), f 50 (by omega), f 51 (by omega), f 52 (by omega), f 53 (by omega), f 18 (by omega), f 56 (by omega), e 660 (by omega) (by omega) (by omega) (by omega) (by omega), e 661 (by omega) (by omega) (by omega) (by omega) (by omega), e 668 (by omega) (by omega) (by omega) (by omega) (by omega), e 669 (by omega) (by omega) (by omega) (by omega) (by omega), e 670 (by omega) (by omega) (by omega) (by omega) (by omega), e 675 (by omega) (by omega) (by omega) (by omega) (by omega), e 676 (by omega) (by omega) (by omega) (by omega) (by omega), e 677 (by omega) (by omega) (by omega) (by omega) (by omega), e 678 (by omega) (by omega) (by omega) (by omega) (by omega)]
  exact ⟨⟨a1, a2, a3⟩, b1, b2, b3, b4, b5, b6, b7, b8, b9, c1, c2, c3, c4⟩
theorem rE.kn {u u' L : xU} {c : Int32} (h : rE u L c) (hs : xSn fDh u u') (h89 : u' 684 89 = c) : rE u' L c :=
  ⟨h.1.kn hs, fun a b ha hb => (hs _ _ (by omega)).trans (h.2.1 a b ha hb), h89⟩
theorem fDy_h : ∀ b i, fDy b → fDh b i := fun b i h => by unfold fDh; unfold fDy at h; omega
/-- the land is what a land may be -/
def lOkk (L : xU) : Prop := lWok L ∧ lDi L ∧ lBk L ∧ fOk L
section RDAY
variable {g : xGT} {d : Nat} {w : xW} {r : xQ} {L : xU} {c : Int32}
theorem R_comeTo {u : xU} (hr : xRf r) (hE : rE u L c) (hK : lOkk L) {b v n : Nat} (hb : b < lB L) (hv : v < lV L) (hn : u 684 88 = nI n) (hn10 : n ≤ 10) :
    xCall g (d + 3) mX12_comeTo [.ref 655, .int (nI b), .int (nI v)] 698 u w r 698 (xVd (fun u' => u' 684 = fCome L c b v (u 684) ∧ xSm fDy u u') w r) := by
  obtain ⟨hW, hD, hB, hf⟩ := hK
  have hb6 := hB.1
  have hv7 := hW.1
  obtain ⟨ho1, ho2⟩ := hB.home hW hb
  refine CX12_comeTo hr ?_
  simp (disch := omega) only [a6, a12, nc]
  refine ⟨vpn (by omega) (by omega), vpn (by omega) (by omega), vpn (by omega) (by omega), ?_⟩
  have e678 : u 678 = L 7 := hE.1.2.2.2.2.2.2.2.1
  rw [e678]
  generalize hu1 : (x2 (x2 (x2 (x2 u 684 b 1) 684 (6 + b) (nI v)) 664 0 (u 684 90)) 664 1 (L 7 b)) = u1
  have s1 : xSm fDy u u1 := by rw [← hu1]; exact (((xSm.rf.put (by decide)).put (by decide)).put (by decide)).put (by decide)
  have r1 : u1 684 = up (up (u 684) b 1) (6 + b) (nI v) := by rw [← hu1, x2_row' _ _ _ (by omega), x2_row' _ _ _ (by omega), x2_row, x2_row]
  have E1 : rE u1 L c := hE.kn (s1.n fDy_h) (by rw [r1, up_n (by omega), up_n (by omega)]; exact hE.2.2)
  refine xPr.use (R_openWays hr E1 hW v) ⟨_, rfl, rfl, rfl, rfl, ?_⟩
  generalize hu2 : x2 u1 664 2 (lO L c v) = u2
  have s2 : xSm fDy u u2 := by rw [← hu2]; exact s1.put (by decide)
  have r2 : u2 684 = up (up (u 684) b 1) (6 + b) (nI v) := by rw [← hu2, x2_row' _ _ _ (by omega), r1]
  have E2 : rE u2 L c := hE.kn (s2.n fDy_h) (by rw [r2, up_n (by omega), up_n (by omega)]; exact hE.2.2)
  have e676 : u 676 = L 5 := hE.1.2.2.2.2.2.1
  rw [e676, ho2]
  refine xPr.use (R_farOf hr E2 (by omega) (by omega)) ⟨_, rfl, rfl, rfl, rfl, ?_⟩
  generalize hu3 : x2 u2 664 3 (lF L c v (lH L b)) = u3
  have s3 : xSm fDy u u3 := by rw [← hu3]; exact s2.put (by decide)
  have r3 : u3 684 = up (up (u 684) b 1) (6 + b) (nI v) := by rw [← hu3, x2_row' _ _ _ (by omega), r2]
  have E3 : rE u3 L c := hE.kn (s3.n fDy_h) (by rw [r3, up_n (by omega), up_n (by omega)]; exact hE.2.2)
  have q3 : fVal L (u3 664) = fWt L c (u 684) b v := by
    refine fVal_q hf (fun i hi => ?_)
    rw [← hu3, x2_row, ← hu2, x2_row, ← hu1, x2_row, x2_row]
    have : i = 0 ∨ i = 1 ∨ i = 2 ∨ i = 3 := by omega
    rcases this with rfl | rfl | rfl | rfl
    · rw [up_n (by omega), up_n (by omega), up_n (by omega), up_s]; rfl
    · rw [up_n (by omega), up_n (by omega), up_s]; rfl
    · rw [up_n (by omega), up_s]; rfl
    · rw [up_s]; rfl
  refine xIn.use (R_waitHere hr E3.1 hf) (fun u4 s4 => ⟨_, rfl, rfl, rfl, vpn (by omega) (by omega), ?_⟩)
  rw [q3]
  have s4' : xSm fDy u u4 := s3.tr (s4.to (fun b hb => Or.inl hb))
  have r4 : u4 684 = up (up (u 684) b 1) (6 + b) (nI v) := by
    rw [← r3]; exact funext fun i => s4 _ _ (by omega)
  have e676' : u4 676 b = nI (lH L b) := by
    rw [s4' _ _ (by omega), e676, ho2]
  rw [e676']
  have eL : (nI v = L 5 b) = (nI v = nI (lH L b)) := by rw [ho2]
  refine ⟨fun hc => ?_, fun hc => ⟨rfl, ⟨?_, s4'.put (by decide)⟩, rfl, rfl⟩⟩
  · have fin : fCome L c b v (u 684) = fBuryK n b (nI v) (up (up (up (up (up (u 684) b 1) (6 + b) (nI v)) (12 + b) (u 684 90 + fWt L c (u 684) b v)) b 3) (12 + b) (-1)) := by
      unfold fCome
      rw [if_pos (by rw [eL]; exact hc), hn, nc (by omega)]
    rw [fin]
    generalize hX : up (up (up (up (up (u 684) b 1) (6 + b) (nI v)) (12 + b) (u 684 90 + fWt L c (u 684) b v)) b 3) (12 + b) (-1) = X
    have hX88 : X 88 = nI n := by rw [← hX, up_n (by omega), up_n (by omega), up_n (by omega), up_n (by omega), up_n (by omega)]; exact hn
    refine xlp (N := n) (Q := fun k u' => u' 684 = fBuryK k b (nI v) X ∧ xSm fDy u u') (G := fun k u' => xEv g (d + 3) mX12_comeTo 118 [some (.ref 655), some (.int (nI b)), some (.int (nI v)), none, some (.int (nI k))] [] 698 u' w r 698 _) ?_ ?_ ⟨?_, ((s4'.put (by decide)).put (by decide)).put (by decide)⟩
    · intro u5 ⟨h1, h2⟩
      refine TX12_comeTo_118 hr (brT ?_ ⟨rfl, ⟨h1, h2⟩, rfl, rfl⟩)
      rw [h1, fBury_at _ _ _ n hn10, if_neg (by omega), if_neg (by omega), hX88]
      exact nI_le (Nat.le_refl _) (by omega)
    · intro k u5 hk ⟨h1, h2⟩ kk
      refine TX12_comeTo_118 hr (brF ?_ ?_)
      · rw [h1, fBury_at _ _ _ k (by omega), if_neg (by omega), if_neg (by omega), hX88]
        exact nI_ge (by omega) (by omega)
      · simp (disch := omega) only [a18, a28, nc]
        rw [h1]
        refine ⟨vpn (by omega) (by omega), fun q => ⟨vpn (by omega) (by omega), TX12_comeTo_169 ?_⟩, fun q => TX12_comeTo_169 ?_⟩ <;> rw [nI_one] <;> refine kk _ ⟨?_, ?_⟩
        · rw [x2_row, x2_row, h1, fBuryK_s, if_pos q]
        · exact (h2.put (by decide)).put (by decide)
        · rw [h1, fBuryK_s, if_neg q]
        · exact h2
    · show _ = X
      rw [x2_row, x2_row, x2_row, r4, hX]
  · unfold fCome
    rw [if_neg (by rw [eL]; exact hc), x2_row, r4]
theorem R_stepOne {u : xU} {n e : Nat} (hr : xRf r) (hE : rE u L c) (hK : lOkk L) (hS : gSt L c n e (u 684)) :
    xCall g (d + 4) mX12_stepOne [.ref 655] 698 u w r 698 (xVd (fun u' => u' 684 = fOne L c (u 684) ∧ xSm fDy u u') w r) := by
  have hb6 := hK.2.2.1.1
  have hv7 := hK.1.1
  refine CX12_stepOne ?_
  refine xlp (N := lB L) (Q := fun k u' => u' 684 = xfold k (fOneB L c) (u 684) ∧ xSm fDy u u') (G := fun k u' => xEv g (d + 4) mX12_stepOne 2 [some (.ref 655), some (.int (nI k))] [] 698 u' w r 698 _) ?_ ?_ ⟨rfl, xSm.rf⟩
  · intro u1 ⟨h1, h2⟩
    have E1 := hE.1.kn (h2.n fDy_h)
    exact TX12_stepOne_2 hr (brT (by rw [E1.1.2.2]; exact nI_le (Nat.le_refl _) (by omega)) ⟨rfl, ⟨h1, h2⟩, rfl, rfl⟩)
  · intro k u1 hk ⟨h1, h2⟩ kk
    have S1 : gSt L c n e (u1 684) := by rw [h1]; exact fOneK_st hK.1 hK.2.2.1 hS (by omega)
    have E1 : rE u1 L c := hE.kn (h2.n fDy_h) S1.2.1
    refine TX12_stepOne_2 hr (brF (by rw [E1.1.1.2.2]; exact nI_ge (by omega) (by omega)) ?_)
    simp (disch := omega) only [a6, a12, nc]
    have e677 : u1 677 = L 6 := E1.1.2.2.2.2.2.2.1
    have e675 : u1 675 = L 4 := E1.1.2.2.2.2.1
    rw [e677, e675]
    have fin : ∀ u2 : xU, u2 684 = fOneB L c k (u1 684) → xSm fDy u1 u2 → xEv g (d + 4) mX12_stepOne 92 [some (.ref 655), some (.int (nI k))] [] 698 u2 w r 698 (xVd (fun u' => u' 684 = fOne L c (u 684) ∧ xSm fDy u u') w r) := by
      intro u2 z1 z2
      refine TX12_stepOne_92 ?_
      rw [nI_one]
      exact kk u2 ⟨by rw [z1, xfold_s, h1], h2.tr z2⟩
    refine ⟨vpn (by omega) (by omega), fun _ => vpn (by omega) (by omega), fun q => ⟨vpn (by omega) (by omega), ?_⟩, fun q => ⟨fun _ => vpn (by omega) (by omega), fun q2 => ⟨vpn (by omega) (by omega), ?_⟩, fun q2 => fin u1 ?_ xSm.rf⟩⟩
    · obtain ⟨⟨v, hv, ev⟩, -, -⟩ := hK.2.2.1.2 k hk
      rw [ev]
      refine xVd.use (R_comeTo hr E1 hK hk hv S1.1.1 S1.1.2) (fun u2 h => ⟨rfl, rfl, rfl, fin u2 ?_ h.2⟩)
      rw [h.1]
      unfold fOneB
      rw [if_pos q, ev, nc (by omega)]
    · obtain ⟨⟨v, hv, ev⟩, -⟩ := (S1.2.2.2.1 k (by omega)).1 hk
      rw [ev]
      refine xVd.use (R_comeTo hr E1 hK hk hv S1.1.1 S1.1.2) (fun u2 h => ⟨rfl, rfl, rfl, fin u2 ?_ h.2⟩)
      rw [h.1]
      unfold fOneB
      rw [if_neg q, if_pos q2, ev, nc (by omega)]
    · unfold fOneB
      rw [if_neg q, if_neg q2]
theorem R_standsAt {u : xU} (hr : xRf r) {b : Nat} (hb : b < 6) (v : Int32) : xCall g d mX12_standsAt [.ref 655, .int (nI b), .int v] 698 u w r 698 (xPr (xb (u 684 b = 1 ∧ u 684 (6 + b) = v)) u w r) := by
  refine CX12_standsAt hr ?_
  simp (disch := omega) only [a6, nc]
  exact ⟨vpn (by omega) (by omega), fun _ => vpn (by omega) (by omega), rfl, rfl, rfl, rfl⟩
theorem R_villageOf {u : xU} {n e : Nat} (hr : xRf r) (hB : lBk L) (hS : gSt L c n e (u 684)) {l : Nat} (hl : l < n) : xCall g d mX12_villageOf [.ref 655, .int (nI l)] 698 u w r 698 (xPr (fVil (u 684) l) u w r) := by
  have n10 := hS.1.2
  have hb6 := hB.1
  refine CX12_villageOf hr ?_
  simp (disch := omega) only [a18, a28, a38, nc]
  refine ⟨vpn (by omega) (by omega), vpn (by omega) (by omega), fun q1 => ⟨fun q2 => ?_, fun q2 => ⟨vpn (by omega) (by omega), ?_, rfl, rfl, rfl⟩⟩, fun q1 => ⟨?_, rfl, rfl, rfl⟩⟩
  · obtain ⟨-, l2⟩ := hS.2.2.2.2.1 l hl
    have : ∃ b, b < lB L ∧ u 684 (28 + l) = nI b := by
      rcases l2 with ⟨q, -⟩ | ⟨b, b1, b2, -⟩ | ⟨q, -⟩
      · rw [q] at q2; exact absurd q2 (by decide)
      · exact ⟨b, b1, b2⟩
      · rw [q] at q2; exact absurd q2 (by decide)
    obtain ⟨b, b1, b2⟩ := this
    rw [b2]
    simp (disch := omega) only [a6, nc]
    refine ⟨vpn (by omega) (by omega), fun q3 => ⟨vpn (by omega) (by omega), ?_, rfl, rfl, rfl⟩, fun q3 => ⟨?_, rfl, rfl, rfl⟩⟩
    · unfold fVil
      rw [if_pos q1, if_pos q2, b2, nc (by omega), if_pos q3]
    · unfold fVil
      rw [if_pos q1, if_pos q2, b2, nc (by omega), if_neg q3]
  · unfold fVil; rw [if_pos q1, if_neg q2]
  · unfold fVil; rw [if_neg q1]
theorem R_stepTwo {u : xU} {n e : Nat} (hr : xRf r) (hB : lBk L) (hS : gSt L c n e (u 684)) :
    xCall g (d + 1) mX12_stepTwo [.ref 655] 698 u w r 698 (xIn (fTwo n (u 684)).1 (fun u' => u' 684 = (fTwo n (u 684)).2 ∧ xSm (fun b => b = 684) u u') w r) := by
  have n10 := hS.1.2
  refine CX12_stepTwo ?_
  refine xlp (N := n) (Q := fun k u' => u' 684 = (xfold k fTwoL (0, u 684)).2 ∧ xSm (fun b => b = 684) u u') (G := fun k u' => xEv g (d + 1) mX12_stepTwo 4 [some (.ref 655), some (.int (xfold k fTwoL (0, u 684)).1), some (.int (nI k))] [] 698 u' w r 698 _) ?_ ?_ ⟨rfl, xSm.rf⟩
  · intro u1 ⟨h1, h2⟩
    have S1 : gSt L c n e (u1 684) := by rw [h1]; exact fTwoK_st hB hS (Nat.le_refl _)
    exact TX12_stepTwo_4 hr (brT (by rw [S1.1.1]; exact nI_le (Nat.le_refl _) (by omega)) ⟨rfl, ⟨h1, h2⟩, rfl, rfl⟩)
  · intro k u1 hk ⟨h1, h2⟩ kk
    have S1 : gSt L c n e (u1 684) := by rw [h1]; exact fTwoK_st hB hS (by omega)
    refine TX12_stepTwo_4 hr (brF (by rw [S1.1.1]; exact nI_ge (by omega) (by omega)) ?_)
    refine xPr.use (R_villageOf hr hB S1 hk) ⟨_, rfl, rfl, rfl, rfl, ?_⟩
    rw [xfold_s] at kk
    have step : fTwoL k (xfold k fTwoL (0, u 684)) = if fVil (u1 684) k < 0 ∨ ¬ fVil (u1 684) k = u1 684 (58 + k) then xfold k fTwoL (0, u 684) else ((xfold k fTwoL (0, u 684)).1 + 1, up (up (up (u1 684) (38 + k) (u1 684 90)) (18 + k) (-1)) (28 + k) (-1)) := by
      rw [h1]; rfl
    rw [step] at kk
    refine ⟨fun q => ?_, fun q => ?_⟩
    · refine TX12_stepTwo_82 ?_
      rw [if_pos (Or.inl q)] at kk
      rw [nI_one]
      exact kk u1 ⟨h1, h2⟩
    · refine xPr.use (R_villageOf hr hB S1 hk) ⟨_, rfl, rfl, rfl, rfl, ?_⟩
      simp (disch := omega) only [a18, a28, a38, a58, nc]
      refine ⟨vpn (by omega) (by omega), fun q2 => ⟨vpn (by omega) (by omega), vpn (by omega) (by omega), vpn (by omega) (by omega), TX12_stepTwo_82 ?_⟩, fun q2 => TX12_stepTwo_82 ?_⟩
      · rw [if_neg (fun z => z.elim q (fun y => y q2))] at kk
        rw [nI_one]
        exact kk _ ⟨by rw [x2_row, x2_row, x2_row], ((h2.put rfl).put rfl).put rfl⟩
      · rw [if_pos (Or.inr q2)] at kk
        rw [nI_one]
        exact kk u1 ⟨h1, h2⟩
theorem R_lettersIn {u : xU} (hr : xRf r) {n : Nat} (hn : u 684 88 = nI n) (hn10 : n ≤ 10) (b : Nat) : xCall g (d + 1) mX12_lettersIn [.ref 655, .int (nI b)] 698 u w r 698 (xPr (nI (fIn n (u 684) b)) u w r) := by
  refine CX12_lettersIn ?_
  refine xlq (N := n) (G := fun k => xEv g (d + 1) mX12_lettersIn 4 [some (.ref 655), some (.int (nI b)), some (.int (nI (fIn k (u 684) b))), some (.int (nI k))] [] 698 u w r 698 _) ?_ ?_
  · exact TX12_lettersIn_4 hr (brT (by rw [hn]; exact nI_le (Nat.le_refl _) (by omega)) ⟨rfl, rfl, rfl, rfl⟩)
  · intro k hk kk
    refine TX12_lettersIn_4 hr (brF (by rw [hn]; exact nI_ge (by omega) (by omega)) ?_)
    simp (disch := omega) only [a28, nc]
    refine ⟨vpn (by omega) (by omega), xPr.use (R_truthb _) ⟨_, rfl, rfl, rfl, rfl, ?_⟩⟩
    have : nI (fIn k (u 684) b) + xb (u 684 (28 + k) = nI b) = nI (fIn (k + 1) (u 684) b) := by
      unfold fIn
      rw [cn_s]
      by_cases q : u 684 (28 + k) = nI b
      · rw [xb_pos q, if_pos (decide_eq_true q), nI_one]
      · rw [xb_neg q, decide_eq_false q, if_neg (by decide), Int32.add_zero]
    rw [nI_one, this]
    exact kk
end RDAY
