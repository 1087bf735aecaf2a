/-! A LETTER is told: the class, all of it -/
def pL7 (N : Nat) (T : Nat → Int32) (nm : Nat → Nat) (n : Nat) (nb : Nat → Nat) (k : Nat) (c : pC) : pC := pOpt N T 26 0 200 (pB6 N T nm n nb k 25 c)
def pLett (N : Nat) (T : Nat → Int32) (nm : Nat → Nat) (n : Nat) (nb : Nat → Nat) (k : Nat) (c : pC) : pC := pOpt N T 27 1 9 (pL7 N T nm n nb k c)
def lettL (N : Nat) (T : Nat → Int32) (nm : Nat → Nat) (n : Nat) (nb : Nat → Nat) (k : Nat) (E : xU) (c : pC) : xU :=
  ltPut E k (nI (fd N T nm (pB3 N T nm n nb k 25 c).1 n)) (nI (fd N T nm (pB5 N T nm n nb k 25 c).1 n)) (if pSee N T 26 (pB6 N T nm n nb k 25 c) then nI (kV N T ((pB6 N T nm n nb k 25 c).1 + 1)) else 200) (if pSee N T 27 (pL7 N T nm n nb k c) then nI (kV N T ((pL7 N T nm n nb k c).1 + 1)) else 1)
section CLETT2
variable {g : xGT} {d : Nat} {w : xW} {r : xQ} {N : Nat} {T : Nat → Int32} {M : Nat} {c : pC} {nm nb : Nat → Nat} {n k l : Nat} {E : xU}
theorem K_lett_64 {u : xU} {P : xPost} {a b e : Int32} (hr : xRf r) (ok : tpOk N T) (h_l : xLd l) (q_l : xLr l r) (h94 : r 9 4 = some l) (hl : l = 22 ∨ l = 37) (h : cP N T M c u w) (hb : cLt l E k u) (hk : k < 8)
    (kk : ∀ u', ((pOpt N T 27 1 9 c).2.1 = 0 → cLt l (ltPut E k a b e (if pSee N T 27 c then nI (kV N T (c.1 + 1)) else 1)) (k + 1) u') → cP N T M (pOpt N T 27 1 9 c) u' w → xSn (fun x i => fPc x i ∨ (x = l ∧ i = 10) ∨ (l + 8 ≤ x ∧ x ≤ l + 11)) u u' → P none u' w r) :
    xEv g (d + 3) mX7_readLetter 64 [some (.ref 9), some (.int a), some (.int b), some (.int e), none] [] 698 u w r 698 P := by
  have fin : ∀ (u8 : xU) (v8 : Int32) (c9 : pC), pOpt N T 27 1 9 c = c9 → (c9.2.1 = 0 → v8 = if pSee N T 27 c then nI (kV N T (c.1 + 1)) else 1) → cP N T M c9 u8 w → xSn fPc u u8 → xEv g (d + 3) mX7_readLetter 95 [some (.ref 9), some (.int a), some (.int b), some (.int e), some (.int v8)] [] 698 u8 w r 698 P := by
    intro u8 v8 c9 ep hv8 h9 f9
    refine K_lett_95 h_l q_l h94 hl h9 (hb.kept f9 (fun b i b1 b2 => by omega)) hk (fun u9 k1 k2 k3 => kk u9 (fun z => ?_) (by rw [ep]; exact k2) ((f9.to (fun b i z => Or.inl z)).tr (k3.to (fun b i z => Or.inr z))))
    have z9 : c9.2.1 = 0 := by rw [← ep]; exact z
    have kk1 := k1 z9
    rw [hv8 z9] at kk1
    exact kk1
  refine TX7_readLetter_64 (xPr.use (K_sees (d := d + 1) (k := 27) hr ok h (by omega)) ⟨_, rfl, rfl, rfl, rfl, ?_⟩)
  by_cases q : pSee N T 27 c
  · have ep : pOpt N T 27 1 9 c = pNum N T 1 9 (pAdv c) := if_pos q
    refine brF (by rw [xb_pos q]; decide) ?_
    have ad := h.adv (by rw [q.2]; decide)
    refine xCall.mono (K_readNumber (d := d) (lo := 1) (hi := 9) hr ok ad.1 (by omega) (by omega)) (fun rv u8 w8 r8 q2 => ?_)
    obtain ⟨v8, rfl, rfl, rfl, i1, i2, i3⟩ := q2
    exact ⟨v8, rfl, rfl, rfl, fin u8 v8 _ ep (fun z => by rw [if_pos q]; exact i1 z) i2 (ad.2.tr i3)⟩
  · have ep : pOpt N T 27 1 9 c = c := if_neg q
    exact brT (xb_neg q) (fin u 1 _ ep (fun _ => by rw [if_neg q]) h xSn.rf)
theorem K_readLetter {u : xU} {P : xPost} (hr : xRf r) (ok : tpOk N T) (h_l : xLd l) (q_l : xLr l r) (h94 : r 9 4 = some l) (hl : l = 22 ∨ l = 37) (h : cP N T M c u w) (hn : n ≤ 7) (hok : nmOk N T nm n) (hc : cNm N T 16 nm n u w) (hk : k < 8) (hokB : nmOk N T nb k) (hcB : cNm N T 20 nb k u w) (hb : cLt l E k u)
    (kk : ∀ u' w', ((pLett N T nm n nb k c).2.1 = 0 → cNm N T 20 (nmAdd nb k c.1) (k + 1) u' w' ∧ cLt l (lettL N T nm n nb k E c) (k + 1) u') → cP N T M (pLett N T nm n nb k c) u' w' → xSn (fun b i => fPc b i ∨ (b = 20 ∧ i = 1) ∨ (b = l ∧ i = 10) ∨ (l + 8 ≤ b ∧ b ≤ l + 11)) u u' → wSn (fun b i => b = 21 ∧ i = k) w w' → P none u' w' r) :
    xCall g (d + 3) mX7_readLetter [.ref 9] 698 u w r 698 P := by
  refine CX7_readLetter hr (K_readNewName (d := d) hr ok nm20 (nr20 hr) (by omega) (by omega) h hk hokB hcB (fun u1 w1 a1 a2 a3 a4 => ⟨rfl, rfl, ?_⟩))
  have hc1 : cNm N T 16 nm n u1 w1 := hc.keptW (a3 _ _ (by omega)) (fun i => a4 _ _ (by omega))
  have hb1 : cLt l E k u1 := hb.kept a3 (fun b i b1 b2 => by omega)
  refine xVd.use (K_want (d := d) (k := 25) hr ok a2 (by omega) (by omega)) (fun u2 ⟨b1, b2⟩ => ⟨rfl, rfl, rfl, ?_⟩)
  have B3 : cP N T M (pB3 N T nm n nb k 25 c) u2 w1 := b1
  have f8 := fd_le (N := N) (T := T) (nm := nm) (j := (pB3 N T nm n nb k 25 c).1) (show n ≤ 8 by omega)
  refine xCall.mono (K_readVillage (d := d) (x := 100) (i1 := -1) hr ok B3 hn hok (hc1.kept b2 (by omega)) (Or.inl rfl) (fun _ => rfl)) (fun rv u3 w3 r3 q => ?_)
  obtain ⟨v3, rfl, rfl, rfl, c1, c2, c3⟩ := q
  refine ⟨v3, rfl, rfl, rfl, ?_⟩
  refine xVd.use (K_want (d := d) (k := 22) hr ok c2 (by omega) (by omega)) (fun u4 ⟨d1, d2⟩ => ⟨rfl, rfl, rfl, ?_⟩)
  have B5 : cP N T M (pB5 N T nm n nb k 25 c) u4 w1 := d1
  have hv3 : (pB5 N T nm n nb k 25 c).2.1 = 0 → v3 = nI (fd N T nm (pB3 N T nm n nb k 25 c).1 n) ∧ fd N T nm (pB3 N T nm n nb k 25 c).1 n < n := fun z => by
    have := c1 (pWant_0 z)
    exact ⟨this.1, this.2.1⟩
  refine xCall.mono (K_readVillage (d := d) (x := fd N T nm (pB3 N T nm n nb k 25 c).1 n) (i1 := v3) hr ok B5 hn hok (hc1.kept ((b2.tr c3).tr d2) (by omega)) f8 (fun z => by
    obtain ⟨y1, y2⟩ := hv3 z
    unfold aFd
    rw [if_neg (by omega)]; exact y1)) (fun rv u5 w5 r5 q => ?_)
  obtain ⟨v5, rfl, rfl, rfl, e1, e2, e3⟩ := q
  refine ⟨v5, rfl, rfl, rfl, ?_⟩
  have B6 : cP N T M (pB6 N T nm n nb k 25 c) u5 w1 := e2
  have fA : xSn fPc u1 u5 := ((b2.tr c3).tr d2).tr e3
  have hb5 : cLt l E k u5 := hb1.kept fA (fun b i b1 b2 => by omega)
  -- what was told, when no fault is
  have vals : (pB6 N T nm n nb k 25 c).2.1 = 0 → (pNew N T nb k c).2.1 = 0 ∧ v3 = nI (fd N T nm (pB3 N T nm n nb k 25 c).1 n) ∧ v5 = nI (fd N T nm (pB5 N T nm n nb k 25 c).1 n) := fun z => by
    have z5 : (pB5 N T nm n nb k 25 c).2.1 = 0 := (pVil_0 z).1.1
    have z4 : (pVil N T nm n 100 (pB3 N T nm n nb k 25 c)).2.1 = 0 := pWant_0 z5
    have z3 : (pB3 N T nm n nb k 25 c).2.1 = 0 := (pVil_0 z4).1.1
    exact ⟨pWant_0 z3, (hv3 z5).1, (e1 z).1⟩
  -- the rest
  have fin : ∀ (u6 : xU) (v6 : Int32) (c7 : pC), pL7 N T nm n nb k c = c7 → (c7.2.1 = 0 → v6 = if pSee N T 26 (pB6 N T nm n nb k 25 c) then nI (kV N T ((pB6 N T nm n nb k 25 c).1 + 1)) else 200) → cP N T M c7 u6 w1 → xSn fPc u5 u6 → xEv g (d + 3) mX7_readLetter 64 [some (.ref 9), some (.int v3), some (.int v5), some (.int v6), none] [] 698 u6 w1 r 698 P := by
    intro u6 v6 c7 ep hv6 h7 f7
    refine K_lett_64 hr ok h_l q_l h94 hl h7 (hb5.kept f7 (fun b i b1 b2 => by omega)) hk (fun u9 k1 k2 k3 => kk u9 w1 (fun z => ?_) ?_ ?_ a4)
    · have z' : (pOpt N T 27 1 9 (pL7 N T nm n nb k c)).2.1 = 0 := z
      have z7 := pOpt_0 z'
      obtain ⟨x0, x1, x2'⟩ := vals (pOpt_0 (c := pB6 N T nm n nb k 25 c) z7)
      rw [ep] at z' z7
      refine ⟨(a1 x0).keptW ?_ (fun i => rfl), ?_⟩
      · rw [k3 _ _ (by omega), f7 _ _ (by omega), fA _ _ (by omega)]
      · have kk1 := k1 z'
        rw [x1, x2', hv6 z7] at kk1
        unfold lettL
        rw [ep]
        exact kk1
    · unfold pLett; rw [ep]; exact k2
    · exact ((a3.to (fun b i z => by omega)).tr ((fA.tr f7).to (fun b i z => Or.inl z))).tr (k3.to (fun b i z => by omega))
  refine xPr.use (K_sees (d := d + 1) (k := 26) hr ok B6 (by omega)) ⟨_, rfl, rfl, rfl, rfl, ?_⟩
  by_cases q : pSee N T 26 (pB6 N T nm n nb k 25 c)
  · have ep : pL7 N T nm n nb k c = pNum N T 0 200 (pAdv (pB6 N T nm n nb k 25 c)) := if_pos q
    refine brF (by rw [xb_pos q]; decide) ?_
    have ad := B6.adv (by rw [q.2]; decide)
    refine xCall.mono (K_readNumber (d := d) (lo := 0) (hi := 200) hr ok ad.1 (by omega) (by omega)) (fun rv u8 w8 r8 q2 => ?_)
    obtain ⟨v8, rfl, rfl, rfl, i1, i2, i3⟩ := q2
    exact ⟨v8, rfl, rfl, rfl, fin u8 v8 _ ep (fun z => by rw [if_pos q]; exact i1 z) i2 (ad.2.tr i3)⟩
  · have ep : pL7 N T nm n nb k c = pB6 N T nm n nb k 25 c := if_neg q
    exact brT (xb_neg q) (fin u5 200 _ ep (fun _ => by rw [if_neg q]) B6 xSn.rf)
end CLETT2
