/-! A BIER is told: the class, all of it -/
section CBIER2
variable {g : xGT} {d : Nat} {w : xW} {r : xQ} {N : Nat} {T : Nat → Int32} {M : Nat} {c : pC} {nm nb : Nat → Nat} {n k l : Nat} {L : xU}
theorem cNm.keptW {o : Nat} {u u' : xU} {w' : xW} (h : cNm N T o nm n u w) (h1 : u' o 1 = u o 1) (h2 : ∀ i, w' (o + 1) i = w (o + 1) i) : cNm N T o nm n u' w' := ⟨h1.trans h.1, fun i hi => (h2 i).trans (h.2 i hi)⟩
theorem K_readBier {u : xU} {P : xPost} (hr : xRf r) (ok : tpOk N T) (h_l : xLd l) (q_l : xLr l r) (h94 : r 9 4 = some l) (hl : l = 22 ∨ l = 37) (h : cP N T M c u w) (hn : n ≤ 7) (hok : nmOk N T nm n) (hc : cNm N T 16 nm n u w) (hk : k < 6) (hokB : nmOk N T nb k) (hcB : cNm N T 18 nb k u w) (hb : cBi l L k u)
    (kk : ∀ u' w', ((pBier N T nm n nb k c).2.1 = 0 → cNm N T 18 (nmAdd nb k c.1) (k + 1) u' w' ∧ cBi l (bierL N T nm n nb k L c) (k + 1) u') → cP N T M (pBier N T nm n nb k c) u' w' → xSn (fun b i => fPc b i ∨ (b = 18 ∧ i = 1) ∨ (b = l ∧ i = 5) ∨ (l + 4 ≤ b ∧ b ≤ l + 7)) u u' → wSn (fun b i => b = 19 ∧ i = k) w w' → P none u' w' r) :
    xCall g (d + 3) mX7_readBier [.ref 9] 698 u w r 698 P := by
  refine CX7_readBier hr (K_readNewName (d := d) hr ok nm18 (nr18 hr) (by omega) (by omega) h hk hokB hcB (fun u1 w1 a1 a2 a3 a4 => ⟨rfl, rfl, ?_⟩))
  have hc1 : cNm N T 16 nm n u1 w1 := hc.keptW (a3 _ _ (by omega)) (fun i => a4 _ _ (by omega))
  have hb1 : cBi l L k u1 := hb.kept a3 (fun b i b1 b2 => by omega)
  refine xVd.use (K_want (d := d) (k := 21) hr ok a2 (by omega) (by omega)) (fun u2 ⟨b1, b2⟩ => ⟨rfl, rfl, rfl, ?_⟩)
  have B3 : cP N T M (pB3 N T nm n nb k 21 c) u2 w1 := b1
  have f8 := fd_le (N := N) (T := T) (nm := nm) (j := (pB3 N T nm n nb k 21 c).1) (show n ≤ 8 by omega)
  refine xCall.mono (K_readVillage (d := d) (x := 100) (i1 := -1) hr ok B3 hn hok (hc1.kept b2 (by omega)) (Or.inl rfl) (fun _ => rfl)) (fun rv u3 w3 r3 q => ?_)
  obtain ⟨v3, rfl, rfl, rfl, c1, c2, c3⟩ := q
  refine ⟨v3, rfl, rfl, rfl, ?_⟩
  refine xVd.use (K_want (d := d) (k := 22) hr ok c2 (by omega) (by omega)) (fun u4 ⟨d1, d2⟩ => ⟨rfl, rfl, rfl, ?_⟩)
  have B5 : cP N T M (pB5 N T nm n nb k 21 c) u4 w1 := d1
  have hv3 : (pB5 N T nm n nb k 21 c).2.1 = 0 → v3 = nI (fd N T nm (pB3 N T nm n nb k 21 c).1 n) ∧ fd N T nm (pB3 N T nm n nb k 21 c).1 n < n := fun z => by
    have := c1 (pWant_0 z)
    exact ⟨this.1, this.2.1⟩
  refine xCall.mono (K_readVillage (d := d) (x := fd N T nm (pB3 N T nm n nb k 21 c).1 n) (i1 := v3) hr ok B5 hn hok (hc1.kept ((b2.tr c3).tr d2) (by omega)) f8 (fun z => by
    obtain ⟨y1, y2⟩ := hv3 z
    unfold aFd
    rw [if_neg (by omega)]; exact y1)) (fun rv u5 w5 r5 q => ?_)
  obtain ⟨v5, rfl, rfl, rfl, e1, e2, e3⟩ := q
  refine ⟨v5, rfl, rfl, rfl, ?_⟩
  have B6 : cP N T M (pB6 N T nm n nb k 21 c) u5 w1 := e2
  refine xVd.use (K_want (d := d) (k := 23) hr ok B6 (by omega) (by omega)) (fun u6 ⟨g1, g2⟩ => ⟨rfl, rfl, rfl, ?_⟩)
  have B7 : cP N T M (pB7 N T nm n nb k c) u6 w1 := g1
  refine xCall.mono (K_readNumber (d := d) (lo := 0) (hi := 60) hr ok B7 (by omega) (by omega)) (fun rv u7 w7 r7 q => ?_)
  obtain ⟨v7, rfl, rfl, rfl, h1, h2, h3⟩ := q
  refine ⟨v7, rfl, rfl, rfl, ?_⟩
  have B8 : cP N T M (pB8 N T nm n nb k c) u7 w1 := h2
  have fA : xSn fPc u1 u7 := ((((b2.tr c3).tr d2).tr e3).tr g2).tr h3
  have hb7 : cBi l L k u7 := hb1.kept fA (fun b i b1 b2 => by omega)
  -- what was told, when no fault is
  have vals : (pB8 N T nm n nb k c).2.1 = 0 → (pNew N T nb k c).2.1 = 0 ∧ v3 = nI (fd N T nm (pB3 N T nm n nb k 21 c).1 n) ∧ v5 = nI (fd N T nm (pB5 N T nm n nb k 21 c).1 n) ∧ v7 = nI (kV N T (pB7 N T nm n nb k c).1) := fun z => by
    have z7 : (pB7 N T nm n nb k c).2.1 = 0 := (pNum_0 z).1.1
    have z6 : (pB6 N T nm n nb k 21 c).2.1 = 0 := pWant_0 z7
    have z5 : (pB5 N T nm n nb k 21 c).2.1 = 0 := (pVil_0 z6).1.1
    have z4 : (pVil N T nm n 100 (pB3 N T nm n nb k 21 c)).2.1 = 0 := pWant_0 z5
    have z3 : (pB3 N T nm n nb k 21 c).2.1 = 0 := (pVil_0 z4).1.1
    exact ⟨pWant_0 z3, (hv3 z5).1, (e1 z6).1, h1 z⟩
  -- the rest
  have fin : ∀ (u8 : xU) (v8 : Int32) (c9 : pC), pBier N T nm n nb k c = c9 → (c9.2.1 = 0 → v8 = if pSee N T 24 (pB8 N T nm n nb k c) then nI (kV N T ((pB8 N T nm n nb k c).1 + 1)) else 2) → cP N T M c9 u8 w1 → xSn fPc u7 u8 → xEv g (d + 3) mX7_readBier 77 [some (.ref 9), some (.int v3), some (.int v5), some (.int v7), some (.int v8)] [] 698 u8 w1 r 698 P := by
    intro u8 v8 c9 ep hv8 h9 f9
    refine K_bier_77 h_l q_l h94 hl h9 (hb7.kept f9 (fun b i b1 b2 => by omega)) hk (fun u9 k1 k2 k3 => kk u9 w1 (fun z => ?_) (by rw [ep]; exact k2) ?_ a4)
    · have z9 : c9.2.1 = 0 := by rw [← ep]; exact z
      obtain ⟨x0, x1, x2', x3⟩ := vals (pOpt_0 z)
      refine ⟨(a1 x0).keptW ?_ (fun i => rfl), ?_⟩
      · rw [k3 _ _ (by omega), f9 _ _ (by omega), fA _ _ (by omega)]
      · have kk1 := k1 z9
        rw [x1, x2', x3, hv8 z9] at kk1
        exact kk1
    · exact ((a3.to (fun b i z => by omega)).tr ((fA.tr f9).to (fun b i z => Or.inl z))).tr (k3.to (fun b i z => by omega))
  refine xPr.use (K_sees (k := 24) hr ok B8 (by omega)) ⟨_, rfl, rfl, rfl, rfl, ?_⟩
  by_cases q : pSee N T 24 (pB8 N T nm n nb k c)
  · have ep : pBier N T nm n nb k c = pNum N T 1 9 (pAdv (pB8 N T nm n nb k c)) := if_pos q
    refine brF (by rw [xb_pos q]; decide) ?_
    have ad := B8.adv (by rw [q.2]; decide)
    refine xCall.mono (K_readNumber (d := d) (lo := 1) (hi := 9) hr ok ad.1 (by omega) (by omega)) (fun rv u8 w8 r8 q2 => ?_)
    obtain ⟨v8, rfl, rfl, rfl, i1, i2, i3⟩ := q2
    exact ⟨v8, rfl, rfl, rfl, fin u8 v8 _ ep (fun z => by rw [if_pos q]; exact i1 z) i2 (ad.2.tr i3)⟩
  · have ep : pBier N T nm n nb k c = pB8 N T nm n nb k c := if_neg q
    exact brT (xb_neg q) (fin u7 2 _ ep (fun _ => by rw [if_neg q]) B8 xSn.rf)
end CBIER2
