/-! A BIER, A LETTER is told: the reference -/
def rBi (L : xU) (n : Nat) (u : xU) : Prop := u 655 45 = nI n ∧ ∀ k, k < n → u 671 k = L 4 k ∧ u 672 k = L 5 k ∧ u 673 k = L 6 k ∧ u 674 k = L 7 k
def rLt (E : xU) (n : Nat) (u : xU) : Prop := u 655 46 = nI n ∧ ∀ k, k < n → u 679 k = E 0 k ∧ u 680 k = E 1 k ∧ u 681 k = E 2 k ∧ u 682 k = E 3 k
abbrev fBr : Nat → Nat → Prop := fun b i => b = 671 ∨ b = 672 ∨ b = 673 ∨ b = 674 ∨ (b = 655 ∧ i = 45)
abbrev fLr : Nat → Nat → Prop := fun b i => b = 679 ∨ b = 680 ∨ b = 681 ∨ b = 682 ∨ (b = 655 ∧ i = 46)
theorem rBi.kept {n : Nat} {L u u' : xU} (h : rBi L n u) {F : Nat → Nat → Prop} (f : xSn F u u') (h1 : ∀ b i, fBr b i → ¬ F b i) : rBi L n u' := by
  refine ⟨(f _ _ (h1 _ _ (by omega))).trans h.1, fun k hk => ?_⟩
  rw [f _ _ (h1 671 k (by omega)), f _ _ (h1 672 k (by omega)), f _ _ (h1 673 k (by omega)), f _ _ (h1 674 k (by omega))]
  exact h.2 k hk
theorem rLt.kept {n : Nat} {L u u' : xU} (h : rLt L n u) {F : Nat → Nat → Prop} (f : xSn F u u') (h1 : ∀ b i, fLr b i → ¬ F b i) : rLt L n u' := by
  refine ⟨(f _ _ (h1 _ _ (by omega))).trans h.1, fun k hk => ?_⟩
  rw [f _ _ (h1 679 k (by omega)), f _ _ (h1 680 k (by omega)), f _ _ (h1 681 k (by omega)), f _ _ (h1 682 k (by omega))]
  exact h.2 k hk
theorem rBi.put {L u v : xU} {k : Nat} {a b c e : Int32} (h : rBi L k u) (f : xSn (fun b i => fPr b i ∨ ((b = 671 ∨ b = 672 ∨ b = 673 ∨ b = 674) ∧ i = k)) u v) (h1 : v 671 k = a) (h2 : v 672 k = b) (h3 : v 673 k = c) (h4 : v 674 k = e) : rBi (biPut L k a b c e) (k + 1) (x2 v 655 45 (nI (k + 1))) := by
  refine ⟨x2_same _ _ _ _, fun j hj => ?_⟩
  unfold biPut
  have e : ∀ o, o ≠ 655 → (x2 v 655 45 (nI (k + 1))) o j = v o j := fun o ho => x2_a _ _ ho
  rw [e 671 (by omega), e 672 (by omega), e 673 (by omega), e 674 (by omega)]
  clear e
  by_cases y : j = k
  · subst y
    refine ⟨?_, ?_, ?_, ?_⟩
    · rw [x2_a _ _ (by omega), x2_a _ _ (by omega), x2_a _ _ (by omega), x2_same, h1]
    · rw [x2_a _ _ (by omega), x2_a _ _ (by omega), x2_same, h2]
    · rw [x2_a _ _ (by omega), x2_same, h3]
    · rw [x2_same, h4]
  · obtain ⟨a1, a2, a3, a4⟩ := h.2 j (by omega)
    rw [f 671 j (by omega), f 672 j (by omega), f 673 j (by omega), f 674 j (by omega)]
    refine ⟨?_, ?_, ?_, ?_⟩
    · rw [x2_a _ _ (by omega), x2_a _ _ (by omega), x2_a _ _ (by omega), x2_i _ _ y, a1]
    · rw [x2_a _ _ (by omega), x2_a _ _ (by omega), x2_i _ _ y, x2_a _ _ (by omega), a2]
    · rw [x2_a _ _ (by omega), x2_i _ _ y, x2_a _ _ (by omega), x2_a _ _ (by omega), a3]
    · rw [x2_i _ _ y, x2_a _ _ (by omega), x2_a _ _ (by omega), x2_a _ _ (by omega), a4]
theorem rLt.put {L u v : xU} {k : Nat} {a b c e : Int32} (h : rLt L k u) (f : xSn (fun b i => fPr b i ∨ ((b = 679 ∨ b = 680 ∨ b = 681 ∨ b = 682) ∧ i = k)) u v) (h1 : v 679 k = a) (h2 : v 680 k = b) (h3 : v 681 k = c) (h4 : v 682 k = e) : rLt (ltPut L k a b c e) (k + 1) (x2 v 655 46 (nI (k + 1))) := by
  refine ⟨x2_same _ _ _ _, fun j hj => ?_⟩
  unfold ltPut
  have e : ∀ o, o ≠ 655 → (x2 v 655 46 (nI (k + 1))) o j = v o j := fun o ho => x2_a _ _ ho
  rw [e 679 (by omega), e 680 (by omega), e 681 (by omega), e 682 (by omega)]
  clear e
  by_cases y : j = k
  · subst y
    refine ⟨?_, ?_, ?_, ?_⟩
    · rw [x2_a _ _ (by omega), x2_a _ _ (by omega), x2_a _ _ (by omega), x2_same, h1]
    · rw [x2_a _ _ (by omega), x2_a _ _ (by omega), x2_same, h2]
    · rw [x2_a _ _ (by omega), x2_same, h3]
    · rw [x2_same, h4]
  · obtain ⟨a1, a2, a3, a4⟩ := h.2 j (by omega)
    rw [f 679 j (by omega), f 680 j (by omega), f 681 j (by omega), f 682 j (by omega)]
    refine ⟨?_, ?_, ?_, ?_⟩
    · rw [x2_a _ _ (by omega), x2_a _ _ (by omega), x2_a _ _ (by omega), x2_i _ _ y, a1]
    · rw [x2_a _ _ (by omega), x2_a _ _ (by omega), x2_i _ _ y, x2_a _ _ (by omega), a2]
    · rw [x2_a _ _ (by omega), x2_i _ _ y, x2_a _ _ (by omega), x2_a _ _ (by omega), a3]
    · rw [x2_i _ _ y, x2_a _ _ (by omega), x2_a _ _ (by omega), x2_a _ _ (by omega), a4]
theorem pVil_f {N : Nat} {T : Nat → Int32} {nm : Nat → Nat} {n x : Nat} {c : pC} (h : ¬ c.2.1 = 0) : pVil N T nm n x c = c := by
  unfold pVil
  rw [if_neg (fun z => h z.1), pFail_f h]
section RBIER
variable {g : xGT} {d : Nat} {w : xW} {r : xQ} {N : Nat} {T : Nat → Int32} {c : pC} {nm nb : Nat → Nat} {n k : Nat} {L E : xU}
theorem R_goalBut2 {u : xU} {P : xPost} {x : Nat} {i1 : Int32} (hr : xRf r) (ok : tpOk N T) (h : rP N T c u w) (hn : n ≤ 7) (h43 : u 655 43 = nI n) (hok : nmOk N T nm n) (hc : rNm N T 0 nm n w) (hx : c.2.1 = 0 → i1 = nI x ∧ x < n)
    (kk : ∀ v u' w', ((pVil N T nm n x (pWant N T 22 c)).2.1 = 0 → v = nI (fd N T nm (pWant N T 22 c).1 n)) → rP N T (pVil N T nm n x (pWant N T 22 c)) u' w' → xSn fPr u u' → wSn fTw w w' → P (some (.int v)) u' w' r) :
    xCall g (d + 3) mX12_goalBut [.ref 655, .int i1] 698 u w r 698 P := by
  by_cases q : c.2.1 = 0
  · obtain ⟨hi, hx'⟩ := hx q
    exact R_goalBut hr ok h hn h43 hok hc (show x < 8 by omega) (fun _ => hi) (fun v u' w' y1 y2 y3 y4 => kk v u' w' (fun z => (y1 z).1) y2 y3 y4)
  · have e1 : pWant N T 22 c = c := pWant_f q
    rw [e1, pVil_f q] at kk
    refine R_goalBut (x := 0) hr ok h hn h43 hok hc (by omega) (fun z => absurd z q) (fun v u' w' y1 y2 y3 y4 => kk v u' w' (fun z => absurd z q) ?_ y3 y4)
    rw [e1, pVil_f q] at y2
    exact y2
/-- behind the last option of a bier -/
theorem R_readBier {u : xU} {P : xPost} (hr : xRf r) (ok : tpOk N T) (h : rP N T c u w) (h1 : ¬ kK N T c.1 = 1) (hn : n ≤ 7) (h43 : u 655 43 = nI n) (hok : nmOk N T nm n) (hc : rNm N T 0 nm n w) (hk : k < 6) (hokB : nmOk N T nb k) (hcB : rNm N T 7 nb k w) (hb : rBi L k u)
    (kk : ∀ u' w', ((pBier N T nm n nb k (pAdv c)).2.1 = 0 → rNm N T 7 (nmAdd nb k (c.1 + 1)) (k + 1) w' ∧ rBi (bierL N T nm n nb k L (pAdv c)) (k + 1) u') → rP N T (pBier N T nm n nb k (pAdv c)) u' w' → xSn (fun b i => fPr b i ∨ fBr b i) u u' → wSn (fun b i => fTw b i ∨ (b = 657 ∧ i = 7 + k)) w w' → P none u' w' r) :
    xCall g (d + 5) mX12_readBier [.ref 655] 698 u w r 698 P := by
  refine CX12_readBier hr ?_
  rw [hb.1]
  refine R_newName (d := d + 1) (b := 7) hr ok h h1 (by omega) (by omega) hokB hcB (fun u1 w1 a1 a2 a3 a4 => ⟨rfl, rfl, ?_⟩)
  have e45 : u1 655 45 = nI k := (a3 _ _ (by omega)).trans hb.1
  have hc1 : rNm N T 0 nm n w1 := fun i hi => (a4 657 (0 + i) (by omega)).trans (hc i hi)
  rw [e45, nc (by omega)]
  have c1a : c.1 + 1 = (pAdv c).1 := rfl
  rw [c1a] at kk a1
  generalize pAdv c = c0 at kk a1 a2
  refine R_villageBy (d := d + 1) (i := 6) hr ok a2 (by omega) hn ((a3 _ _ (by omega)).trans h43) hok hc1 (fun v2 u2 w2 b1 b2 b3 b4 => ⟨v2, rfl, rfl, vpn (by omega) (by omega), ?_⟩)
  rw [x2_same]
  have B1 : (pVil N T nm n 100 (pB3 N T nm n nb k 21 c0)).2.1 = 0 → v2 = nI (fd N T nm (pB3 N T nm n nb k 21 c0).1 n) ∧ fd N T nm (pB3 N T nm n nb k 21 c0).1 n < n := b1
  have B2 : rP N T (pVil N T nm n 100 (pB3 N T nm n nb k 21 c0)) u2 w2 := b2
  have g1 : xSn (fun b i => b = 671 ∧ i = k) u2 (x2 u2 671 k v2) := (xSn.rf).put ⟨rfl, rfl⟩
  have F1 : xSn (fun b i => fPr b i ∨ ((b = 671 ∨ b = 672 ∨ b = 673 ∨ b = 674) ∧ i = k)) u (x2 u2 671 k v2) := ((a3.tr b3).to (fun _ _ z => Or.inl z)).tr (g1.to (fun _ _ z => by omega))
  have V1 : (x2 u2 671 k v2) 671 k = v2 := x2_same _ _ _ _
  have hc2 : rNm N T 0 nm n w2 := hc1.kept b4
  have W2 : wSn (fun b i => fTw b i ∨ (b = 657 ∧ i = 7 + k)) w w2 := a4.tr (b4.to (fun _ _ z => Or.inl z))
  have hcB2 : (pNew N T nb k c0).2.1 = 0 → rNm N T 7 (nmAdd nb k c0.1) (k + 1) w2 := fun z => (a1 z).kept b4
  have H2 := B2.keptU g1 (fun i hi => by omega) (fun i => by omega)
  generalize x2 u2 671 k v2 = u3 at H2 F1 V1
  refine R_goalBut2 (d := d + 1) (x := fd N T nm (pB3 N T nm n nb k 21 c0).1 n) hr ok H2 hn ((F1 _ _ (by omega)).trans h43) hok hc2 B1 (fun v4 u4 w4 d1 d2 d3 d4 => ⟨v4, rfl, rfl, ?_⟩)
  have D1 : (pB6 N T nm n nb k 21 c0).2.1 = 0 → v4 = nI (fd N T nm (pB5 N T nm n nb k 21 c0).1 n) := d1
  have D2 : rP N T (pB6 N T nm n nb k 21 c0) u4 w4 := d2
  have g2 : xSn (fun b i => b = 672 ∧ i = k) u4 (x2 u4 672 k v4) := (xSn.rf).put ⟨rfl, rfl⟩
  have F2 : xSn (fun b i => fPr b i ∨ ((b = 671 ∨ b = 672 ∨ b = 673 ∨ b = 674) ∧ i = k)) u (x2 u4 672 k v4) := (F1.tr (d3.to (fun _ _ z => Or.inl z))).tr (g2.to (fun _ _ z => by omega))
  have V2 : (x2 u4 672 k v4) 672 k = v4 := x2_same _ _ _ _
  have V2a : (x2 u4 672 k v4) 671 k = v2 := by rw [x2_a _ _ (by omega), d3 _ _ (by omega), V1]
  have H4 := D2.keptU g2 (fun i hi => by omega) (fun i => by omega)
  generalize x2 u4 672 k v4 = u5 at H4 F2 V2 V2a
  refine R_told (d := d + 1) (i := 8) (lo := 0) (hi := 60) hr ok H4 (by omega) (by omega) (by omega) (fun v6 u6 w6 e1 e2 e3 e4 => ⟨v6, rfl, rfl, ?_⟩)
  have E1 : (pB8 N T nm n nb k c0).2.1 = 0 → v6 = nI (kV N T (pB7 N T nm n nb k c0).1) := e1
  have E2 : rP N T (pB8 N T nm n nb k c0) u6 w6 := e2
  have g3 : xSn (fun b i => b = 673 ∧ i = k) u6 (x2 u6 673 k v6) := (xSn.rf).put ⟨rfl, rfl⟩
  have F3 : xSn (fun b i => fPr b i ∨ ((b = 671 ∨ b = 672 ∨ b = 673 ∨ b = 674) ∧ i = k)) u (x2 u6 673 k v6) := (F2.tr (e3.to (fun _ _ z => Or.inl z))).tr (g3.to (fun _ _ z => by omega))
  have V3 : (x2 u6 673 k v6) 673 k = v6 := x2_same _ _ _ _
  have V3a : (x2 u6 673 k v6) 671 k = v2 := by rw [x2_a _ _ (by omega), e3 _ _ (by omega), V2a]
  have V3b : (x2 u6 673 k v6) 672 k = v4 := by rw [x2_a _ _ (by omega), e3 _ _ (by omega), V2]
  have H6 := E2.keptU g3 (fun i hi => by omega) (fun i => by omega)
  generalize x2 u6 673 k v6 = u7 at H6 F3 V3 V3a V3b
  refine R_option (d := d) (i := 9) (lo := 1) (hi := 9) (x := 2) hr ok H6 (by omega) (by omega) (by omega) (fun v8 u8 w8 m1 m2 m3 m4 => ⟨v8, rfl, rfl, ?_⟩)
  have M1 : (pBier N T nm n nb k c0).2.1 = 0 → v8 = if pSee N T 24 (pB8 N T nm n nb k c0) then nI (kV N T ((pB8 N T nm n nb k c0).1 + 1)) else 2 := m1
  have M2 : rP N T (pBier N T nm n nb k c0) u8 w8 := m2
  have g4 : xSn (fun b i => b = 674 ∧ i = k) u8 (x2 u8 674 k v8) := (xSn.rf).put ⟨rfl, rfl⟩
  have F4 : xSn (fun b i => fPr b i ∨ ((b = 671 ∨ b = 672 ∨ b = 673 ∨ b = 674) ∧ i = k)) u (x2 u8 674 k v8) := (F3.tr (m3.to (fun _ _ z => Or.inl z))).tr (g4.to (fun _ _ z => by omega))
  have V4 : (x2 u8 674 k v8) 674 k = v8 := x2_same _ _ _ _
  have V4a : (x2 u8 674 k v8) 671 k = v2 := by rw [x2_a _ _ (by omega), m3 _ _ (by omega), V3a]
  have V4b : (x2 u8 674 k v8) 672 k = v4 := by rw [x2_a _ _ (by omega), m3 _ _ (by omega), V3b]
  have V4c : (x2 u8 674 k v8) 673 k = v6 := by rw [x2_a _ _ (by omega), m3 _ _ (by omega), V3]
  have H8 := M2.keptU g4 (fun i hi => by omega) (fun i => by omega)
  have e8 : u8 655 45 = nI k := by
    have := F4 655 45 (by omega)
    rw [x2_a _ _ (by omega)] at this
    exact this.trans hb.1
  have F8 : xSn (fun b i => fPr b i ∨ fBr b i) u (x2 u8 674 k v8) := F4.to (fun _ _ z => by omega)
  have WW : wSn (fun b i => fTw b i ∨ (b = 657 ∧ i = 7 + k)) w w8 := W2.tr (((d4.tr e4).tr m4).to (fun _ _ z => Or.inl z))
  rw [M2.2.2.2.1, f9_0 M2.2.2.1, e8, nI_one]
  generalize x2 u8 674 k v8 = u9 at H8 F4 F8 V4 V4a V4b V4c
  by_cases q : (pBier N T nm n nb k c0).2.1 = 0
  · have g5 : xSn (fun b i => b = 655 ∧ i = 45) u9 (x2 u9 655 45 (nI (k + 1))) := (xSn.rf).put ⟨rfl, rfl⟩
    refine brT q (kk _ w8 (fun _ => ⟨?_, ?_⟩) (H8.keptU g5 (fun i hi => by omega) (fun i => by omega)) (F8.tr (g5.to (fun _ _ z => by omega))) WW)
    · have z8 : (pB8 N T nm n nb k c0).2.1 = 0 := pOpt_0 q
      have z7 : (pB7 N T nm n nb k c0).2.1 = 0 := (pNum_0 z8).1.1
      have z6 : (pB6 N T nm n nb k 21 c0).2.1 = 0 := pWant_0 z7
      have z5 : (pB5 N T nm n nb k 21 c0).2.1 = 0 := (pVil_0 z6).1.1
      have z4 : (pVil N T nm n 100 (pB3 N T nm n nb k 21 c0)).2.1 = 0 := pWant_0 z5
      have z3 : (pB3 N T nm n nb k 21 c0).2.1 = 0 := (pVil_0 z4).1.1
      exact (((hcB2 (pWant_0 z3)).kept d4).kept e4).kept m4
    · have z8 : (pB8 N T nm n nb k c0).2.1 = 0 := pOpt_0 q
      have z7 : (pB7 N T nm n nb k c0).2.1 = 0 := (pNum_0 z8).1.1
      have z6 : (pB6 N T nm n nb k 21 c0).2.1 = 0 := pWant_0 z7
      have z5 : (pB5 N T nm n nb k 21 c0).2.1 = 0 := (pVil_0 z6).1.1
      have z4 : (pVil N T nm n 100 (pB3 N T nm n nb k 21 c0)).2.1 = 0 := pWant_0 z5
      have := hb.put F4 V4a V4b V4c V4
      rw [(B1 z4).1, D1 z6, E1 z8, M1 q] at this
      exact this
  · exact brF q (kk _ w8 (fun z => absurd z q) H8 F8 WW)
theorem R_readLetter {u : xU} {P : xPost} (hr : xRf r) (ok : tpOk N T) (h : rP N T c u w) (h1 : ¬ kK N T c.1 = 1) (hn : n ≤ 7) (h43 : u 655 43 = nI n) (hok : nmOk N T nm n) (hc : rNm N T 0 nm n w) (hk : k < 8) (hokB : nmOk N T nb k) (hcB : rNm N T 13 nb k w) (hb : rLt E k u)
    (kk : ∀ u' w', ((pLett N T nm n nb k (pAdv c)).2.1 = 0 → rNm N T 13 (nmAdd nb k (c.1 + 1)) (k + 1) w' ∧ rLt (lettL N T nm n nb k E (pAdv c)) (k + 1) u') → rP N T (pLett N T nm n nb k (pAdv c)) u' w' → xSn (fun b i => fPr b i ∨ fLr b i) u u' → wSn (fun b i => fTw b i ∨ (b = 657 ∧ i = 13 + k)) w w' → P none u' w' r) :
    xCall g (d + 5) mX12_readLetter [.ref 655] 698 u w r 698 P := by
  refine CX12_readLetter hr ?_
  rw [hb.1]
  refine R_newName (d := d + 1) (b := 13) hr ok h h1 (by omega) (by omega) hokB hcB (fun u1 w1 a1 a2 a3 a4 => ⟨rfl, rfl, ?_⟩)
  have e45 : u1 655 46 = nI k := (a3 _ _ (by omega)).trans hb.1
  have hc1 : rNm N T 0 nm n w1 := fun i hi => (a4 657 (0 + i) (by omega)).trans (hc i hi)
  rw [e45, nc (by omega)]
  have c1a : c.1 + 1 = (pAdv c).1 := rfl
  rw [c1a] at kk a1
  generalize pAdv c = c0 at kk a1 a2
  refine R_villageBy (d := d + 1) (i := 10) hr ok a2 (by omega) hn ((a3 _ _ (by omega)).trans h43) hok hc1 (fun v2 u2 w2 b1 b2 b3 b4 => ⟨v2, rfl, rfl, vpn (by omega) (by omega), ?_⟩)
  rw [x2_same]
  have B1 : (pVil N T nm n 100 (pB3 N T nm n nb k 25 c0)).2.1 = 0 → v2 = nI (fd N T nm (pB3 N T nm n nb k 25 c0).1 n) ∧ fd N T nm (pB3 N T nm n nb k 25 c0).1 n < n := b1
  have B2 : rP N T (pVil N T nm n 100 (pB3 N T nm n nb k 25 c0)) u2 w2 := b2
  have g1 : xSn (fun b i => b = 679 ∧ i = k) u2 (x2 u2 679 k v2) := (xSn.rf).put ⟨rfl, rfl⟩
  have F1 : xSn (fun b i => fPr b i ∨ ((b = 679 ∨ b = 680 ∨ b = 681 ∨ b = 682) ∧ i = k)) u (x2 u2 679 k v2) := ((a3.tr b3).to (fun _ _ z => Or.inl z)).tr (g1.to (fun _ _ z => by omega))
  have V1 : (x2 u2 679 k v2) 679 k = v2 := x2_same _ _ _ _
  have hc2 : rNm N T 0 nm n w2 := hc1.kept b4
  have W2 : wSn (fun b i => fTw b i ∨ (b = 657 ∧ i = 13 + k)) w w2 := a4.tr (b4.to (fun _ _ z => Or.inl z))
  have hcB2 : (pNew N T nb k c0).2.1 = 0 → rNm N T 13 (nmAdd nb k c0.1) (k + 1) w2 := fun z => (a1 z).kept b4
  have H2 := B2.keptU g1 (fun i hi => by omega) (fun i => by omega)
  generalize x2 u2 679 k v2 = u3 at H2 F1 V1
  refine R_goalBut2 (d := d + 1) (x := fd N T nm (pB3 N T nm n nb k 25 c0).1 n) hr ok H2 hn ((F1 _ _ (by omega)).trans h43) hok hc2 B1 (fun v4 u4 w4 d1 d2 d3 d4 => ⟨v4, rfl, rfl, ?_⟩)
  have D1 : (pB6 N T nm n nb k 25 c0).2.1 = 0 → v4 = nI (fd N T nm (pB5 N T nm n nb k 25 c0).1 n) := d1
  have D2 : rP N T (pB6 N T nm n nb k 25 c0) u4 w4 := d2
  have g2 : xSn (fun b i => b = 680 ∧ i = k) u4 (x2 u4 680 k v4) := (xSn.rf).put ⟨rfl, rfl⟩
  have F2 : xSn (fun b i => fPr b i ∨ ((b = 679 ∨ b = 680 ∨ b = 681 ∨ b = 682) ∧ i = k)) u (x2 u4 680 k v4) := (F1.tr (d3.to (fun _ _ z => Or.inl z))).tr (g2.to (fun _ _ z => by omega))
  have V2 : (x2 u4 680 k v4) 680 k = v4 := x2_same _ _ _ _
  have V2a : (x2 u4 680 k v4) 679 k = v2 := by rw [x2_a _ _ (by omega), d3 _ _ (by omega), V1]
  have H4 := D2.keptU g2 (fun i hi => by omega) (fun i => by omega)
  generalize x2 u4 680 k v4 = u5 at H4 F2 V2 V2a
  refine R_option (d := d) (i := 11) (lo := 0) (hi := 200) (x := 200) hr ok H4 (by omega) (by omega) (by omega) (fun v6 u6 w6 e1 e2 e3 e4 => ⟨v6, rfl, rfl, ?_⟩)
  have E1 : (pL7 N T nm n nb k c0).2.1 = 0 → v6 = if pSee N T 26 (pB6 N T nm n nb k 25 c0) then nI (kV N T ((pB6 N T nm n nb k 25 c0).1 + 1)) else 200 := e1
  have E2 : rP N T (pL7 N T nm n nb k c0) u6 w6 := e2
  have g3 : xSn (fun b i => b = 681 ∧ i = k) u6 (x2 u6 681 k v6) := (xSn.rf).put ⟨rfl, rfl⟩
  have F3 : xSn (fun b i => fPr b i ∨ ((b = 679 ∨ b = 680 ∨ b = 681 ∨ b = 682) ∧ i = k)) u (x2 u6 681 k v6) := (F2.tr (e3.to (fun _ _ z => Or.inl z))).tr (g3.to (fun _ _ z => by omega))
  have V3 : (x2 u6 681 k v6) 681 k = v6 := x2_same _ _ _ _
  have V3a : (x2 u6 681 k v6) 679 k = v2 := by rw [x2_a _ _ (by omega), e3 _ _ (by omega), V2a]
  have V3b : (x2 u6 681 k v6) 680 k = v4 := by rw [x2_a _ _ (by omega), e3 _ _ (by omega), V2]
  have H6 := E2.keptU g3 (fun i hi => by omega) (fun i => by omega)
  generalize x2 u6 681 k v6 = u7 at H6 F3 V3 V3a V3b
  refine R_option (d := d) (i := 12) (lo := 1) (hi := 9) (x := 1) hr ok H6 (by omega) (by omega) (by omega) (fun v8 u8 w8 m1 m2 m3 m4 => ⟨v8, rfl, rfl, ?_⟩)
  have M1 : (pLett N T nm n nb k c0).2.1 = 0 → v8 = if pSee N T 27 (pL7 N T nm n nb k c0) then nI (kV N T ((pL7 N T nm n nb k c0).1 + 1)) else 1 := m1
  have M2 : rP N T (pLett N T nm n nb k c0) u8 w8 := m2
  have g4 : xSn (fun b i => b = 682 ∧ i = k) u8 (x2 u8 682 k v8) := (xSn.rf).put ⟨rfl, rfl⟩
  have F4 : xSn (fun b i => fPr b i ∨ ((b = 679 ∨ b = 680 ∨ b = 681 ∨ b = 682) ∧ i = k)) u (x2 u8 682 k v8) := (F3.tr (m3.to (fun _ _ z => Or.inl z))).tr (g4.to (fun _ _ z => by omega))
  have V4 : (x2 u8 682 k v8) 682 k = v8 := x2_same _ _ _ _
  have V4a : (x2 u8 682 k v8) 679 k = v2 := by rw [x2_a _ _ (by omega), m3 _ _ (by omega), V3a]
  have V4b : (x2 u8 682 k v8) 680 k = v4 := by rw [x2_a _ _ (by omega), m3 _ _ (by omega), V3b]
  have V4c : (x2 u8 682 k v8) 681 k = v6 := by rw [x2_a _ _ (by omega), m3 _ _ (by omega), V3]
  have H8 := M2.keptU g4 (fun i hi => by omega) (fun i => by omega)
  have e8 : u8 655 46 = nI k := by
    have := F4 655 46 (by omega)
    rw [x2_a _ _ (by omega)] at this
    exact this.trans hb.1
  have F8 : xSn (fun b i => fPr b i ∨ fLr b i) u (x2 u8 682 k v8) := F4.to (fun _ _ z => by omega)
  have WW : wSn (fun b i => fTw b i ∨ (b = 657 ∧ i = 13 + k)) w w8 := W2.tr (((d4.tr e4).tr m4).to (fun _ _ z => Or.inl z))
  rw [M2.2.2.2.1, f9_0 M2.2.2.1, e8, nI_one]
  generalize x2 u8 682 k v8 = u9 at H8 F4 F8 V4 V4a V4b V4c
  by_cases q : (pLett N T nm n nb k c0).2.1 = 0
  · have g5 : xSn (fun b i => b = 655 ∧ i = 46) u9 (x2 u9 655 46 (nI (k + 1))) := (xSn.rf).put ⟨rfl, rfl⟩
    have z7 : (pL7 N T nm n nb k c0).2.1 = 0 := pOpt_0 q
    have z6 : (pB6 N T nm n nb k 25 c0).2.1 = 0 := pOpt_0 z7
    have z5 : (pB5 N T nm n nb k 25 c0).2.1 = 0 := (pVil_0 z6).1.1
    have z4 : (pVil N T nm n 100 (pB3 N T nm n nb k 25 c0)).2.1 = 0 := pWant_0 z5
    have z3 : (pB3 N T nm n nb k 25 c0).2.1 = 0 := (pVil_0 z4).1.1
    refine brT q (kk _ w8 (fun _ => ⟨?_, ?_⟩) (H8.keptU g5 (fun i hi => by omega) (fun i => by omega)) (F8.tr (g5.to (fun _ _ z => by omega))) WW)
    · exact (((hcB2 (pWant_0 z3)).kept d4).kept e4).kept m4
    · have := hb.put F4 V4a V4b V4c V4
      rw [(B1 z4).1, D1 z6, E1 z7, M1 q] at this
      exact this
  · exact brF q (kk _ w8 (fun z => absurd z q) H8 F8 WW)
end RBIER
