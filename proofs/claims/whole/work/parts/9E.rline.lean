/-! A LINE: the reference -/
def rDr (N : Nat) (T : Nat → Int32) (D : pD) (u : xU) (w : xW) : Prop :=
  rNm N T 0 (D.2.1 0) (D.1 0) w ∧ rNm N T 7 (D.2.1 1) (D.1 1) w ∧ rNm N T 13 (D.2.1 2) (D.1 2) w ∧ u 655 43 = nI (D.1 0) ∧ rWy D.2.2.1 (D.1 3) u ∧ rBi D.2.2.1 (D.1 1) u ∧ rLt D.2.2.2.1 (D.1 2) u ∧
  u 655 54 = nI (D.1 4) ∧ u 655 55 = nI (D.1 5) ∧ (D.1 5 = 0 → u 655 47 = 300 ∧ u 655 48 = 0) ∧ (D.1 5 = 1 → u 655 47 = nI (D.1 7) ∧ u 655 48 = nI (D.1 8)) ∧
  u 655 20 = nI (D.1 6) ∧ (D.1 4 = 1 → rS D.2.2.2.2 u)
abbrev fRd : Nat → Nat → Prop := fun b i => (658 ≤ b ∧ b ≤ 659) ∨ (665 ≤ b ∧ b ≤ 667) ∨ (671 ≤ b ∧ b ≤ 674) ∨ (679 ≤ b ∧ b ≤ 682) ∨ (b = 655 ∧ (i = 17 ∨ i = 20 ∨ (43 ≤ i ∧ i ≤ 48) ∨ (54 ≤ i ∧ i ≤ 55)))
abbrev fRln : Nat → Nat → Prop := fun b i => (657 ≤ b ∧ b ≤ 659) ∨ b = 662 ∨ (665 ≤ b ∧ b ≤ 667) ∨ (671 ≤ b ∧ b ≤ 674) ∨ (679 ≤ b ∧ b ≤ 682) ∨ (b = 655 ∧ ((2 ≤ i ∧ i ≤ 17) ∨ (19 ≤ i ∧ i ≤ 20) ∨ (22 ≤ i ∧ i ≤ 48) ∨ (54 ≤ i ∧ i ≤ 55)))
abbrev fRw : Nat → Nat → Prop := fun b i => fTw b i ∨ b = 657
theorem rDr.kept {N : Nat} {T : Nat → Int32} {D : pD} {u u' : xU} {w w' : xW} (h : rDr N T D u w) {F : Nat → Nat → Prop} (f : xSn F u u') (hF : ∀ b i, fRd b i → ¬ F b i) (hw : ∀ i, w' 657 i = w 657 i) : rDr N T D u' w' := by
  obtain ⟨a1, a2, a3, a4, a5, a6, a7, a8, a9, b1, b2, b3, b4⟩ := h
  have e : ∀ b i, fRd b i → u' b i = u b i := fun b i z => f b i (hF b i z)
  refine ⟨fun i hi => (hw _).trans (a1 i hi), fun i hi => (hw _).trans (a2 i hi), fun i hi => (hw _).trans (a3 i hi), (e 655 43 (by decide)).trans a4, a5.kept f (fun b i z => hF _ _ (by omega)), a6.kept f (fun b i z => hF _ _ (by omega)), a7.kept f (fun b i z => hF _ _ (by omega)), (e 655 54 (by decide)).trans a8, (e 655 55 (by decide)).trans a9, fun z => ?_, fun z => ?_, (e 655 20 (by decide)).trans b3, fun z => (b4 z).kept f (fun b i z => hF _ _ (by omega))⟩
  · exact ⟨(e 655 47 (by decide)).trans (b1 z).1, (e 655 48 (by decide)).trans (b1 z).2⟩
  · exact ⟨(e 655 47 (by decide)).trans (b2 z).1, (e 655 48 (by decide)).trans (b2 z).2⟩
theorem rNm.keptF {N : Nat} {T : Nat → Int32} {b n : Nat} {nm : Nat → Nat} {w w' : xW} (h : rNm N T b nm n w) {F : Nat → Nat → Prop} (f : wSn F w w') (hF : ∀ i, i < n → ¬ F 657 (b + i)) : rNm N T b nm n w' := fun i hi => (f _ _ (hF i hi)).trans (h i hi)
section RLINE
variable {g : xGT} {d : Nat} {w : xW} {r : xQ} {N : Nat} {T : Nat → Int32} {M : Nat} {c : pC} {D : pD}
theorem R_readVillage {u : xU} {P : xPost} (hr : xRf r) (ok : tpOk N T) (h : rP N T c u w) (h1 : ¬ kK N T c.1 = 1) {nm : Nat → Nat} {n : Nat} (hn : n < 7) (hok : nmOk N T nm n) (hc : rNm N T 0 nm n w) (h43 : u 655 43 = nI n)
    (kk : ∀ u' w', ((pNew N T nm n (pAdv c)).2.1 = 0 → rNm N T 0 (nmAdd nm n (c.1 + 1)) (n + 1) w' ∧ u' 655 43 = nI (n + 1)) → rP N T (pNew N T nm n (pAdv c)) u' w' → xSn (fun b i => fPr b i ∨ (b = 655 ∧ i = 43)) u u' → wSn (fun b2 i => fTw b2 i ∨ (b2 = 657 ∧ i = n)) w w' → P none u' w' r) :
    xCall g (d + 4) mX12_readVillage [.ref 655] 698 u w r 698 P := by
  refine CX12_readVillage ?_
  rw [h43]
  refine R_newName (b := 0) (d := d) hr ok h h1 (by omega) (by omega) hok hc (fun u1 w1 y1 y2 y3 y4 => ⟨rfl, rfl, ?_⟩)
  have y4' : wSn (fun b2 i => fTw b2 i ∨ (b2 = 657 ∧ i = n)) w w1 := y4.to (fun b i z => by omega)
  rw [y2.2.2.2.1, f9_0 y2.2.2.1, y3 655 43 (by decide), h43, nI_one]
  by_cases q : (pNew N T nm n (pAdv c)).2.1 = 0
  · have f2 : xSn (fun b i => b = 655 ∧ i = 43) u1 (x2 u1 655 43 (nI (n + 1))) := (xSn.rf).put ⟨rfl, rfl⟩
    exact brT q (kk _ w1 (fun z => ⟨y1 z, x2_same _ _ _ _⟩) (y2.keptU f2 (fun i hi => by omega) (fun i => by omega)) ((y3.to (fun b i z => Or.inl z)).tr (f2.to (fun b i z => Or.inr z))) y4')
  · exact brF q (kk u1 w1 (fun z => absurd z q) y2 (y3.to (fun b i z => Or.inl z)) y4')
theorem R_line_162 {u : xU} {P : xPost} (hr : xRf r) (ok : tpOk N T) (h : rP N T c u w) (kk : ∀ u' w', rP N T (pWant N T 4 c) u' w' → xSn fPr u u' → wSn fTw w w' → P none u' w' r) :
    xEv g (d + 10) mX12_readLine 162 [some (.ref 655)] [] 698 u w r 698 P := by
  have k33 := kK_small ok c.1
  have e6 : u 655 6 = nI (srt (kK N T c.1)) := h.2.1.2.1
  have key : ∀ k, k < 34 → (nI (srt k) = (59 : Int32) ↔ k = 4) := by decide +kernel
  refine TX12_readLine_162 ?_
  rw [h.2.2.2.1, f9_0 h.2.2.1, e6, key _ (by omega)]
  by_cases q : c.2.1 = 0
  · by_cases q4 : kK N T c.1 = 4
    · have e : pWant N T 4 c = pAdv c := if_pos ⟨q, q4⟩
      rw [e] at kk
      refine brF (fun z => z.2 q4) (TX12_readLine_183 ?_)
      rw [h.2.2.2.1, f9_0 h.2.2.1]
      exact brT q (R_adv (d := d + 8) hr ok h (by omega) (fun u1 w1 y1 y2 y3 => ⟨rfl, rfl, kk u1 w1 y1 y2 y3⟩))
    · have e : pWant N T 4 c = pFail N T 2 c := if_neg (fun z => q4 z.2)
      rw [e] at kk
      refine brT ⟨q, q4⟩ (xVd.use (R_wrong (x := 2) h (by omega)) (fun u1 h1 => ⟨rfl, rfl, rfl, TX12_readLine_183 ?_⟩))
      rw [h1.1.2.2.2.1, f9_0 h1.1.2.2.1]
      exact brF (pFail_0 (by omega)) (kk u1 w h1.1 h1.2 wSn.rf)
  · have e : pWant N T 4 c = c := pWant_f q
    rw [e] at kk
    refine brF (fun z => q z.1) (TX12_readLine_183 ?_)
    rw [h.2.2.2.1, f9_0 h.2.2.1]
    exact brF q (kk u w h xSn.rf wSn.rf)
/-- what is to come behind a line -/
def rLk (N : Nat) (T : Nat → Int32) (D : pD) (c : pC) (u : xU) (w : xW) (r : xQ) (P : xPost) : Prop := ∀ u' w', rP N T (pLine N T D c).1 u' w' → ((pLine N T D c).1.2.1 = 0 → rDr N T (pLine N T D c).2 u' w') → xSn fRln u u' → wSn fRw w w' → P none u' w' r
theorem R_fin {u u3 : xU} {w3 : xW} {c3 : pC} {D3 : pD} {P : xPost} (hr : xRf r) (ok : tpOk N T) (kk : rLk N T D c u w r P) (e : pLn N T D c = (c3, D3)) (h3 : rP N T c3 u3 w3) (hD3 : c3.2.1 = 0 → rDr N T D3 u3 w3) (f3 : xSn fRln u u3) (fw3 : wSn fRw w w3) : xEv g (d + 10) mX12_readLine 162 [some (.ref 655)] [] 698 u3 w3 r 698 P := by
  have e1 : (pLine N T D c).1 = pWant N T 4 c3 := by unfold pLine; rw [e]
  have e2 : (pLine N T D c).2 = D3 := by unfold pLine; rw [e]
  unfold rLk at kk
  rw [e1, e2] at kk
  refine R_line_162 hr ok h3 (fun u4 w4 y1 y2 y3 => kk u4 w4 y1 (fun z => ?_) (f3.tr (y2.to (fun b i z => by omega))) (fw3.tr (y3.to (fun _ _ z => Or.inl z))))
  exact rDr.kept (hD3 (pWant_0 z)) y2 (fun b i y => by omega) (fun i => y3 _ _ (by omega))
abbrev rLp (g : xGT) (d : Nat) (r : xQ) (P : xPost) : xPost := fun rv u' w' r' => rv = none ∧ r = r' ∧ xEv g (d + 10) mX12_readLine 162 [some (.ref 655)] [] 698 u' w' r 698 P
theorem R_line_0 {u : xU} {P : xPost} (hr : xRf r) (ok : tpOk N T) (h : rP N T c u w) (q1 : kK N T c.1 = 15) (q2 : D.1 0 < 7) (hO : oD N T D) (hD : rDr N T D u w) (kk : rLk N T D c u w r P) : xCall g (d + 9) mX12_readVillage [.ref 655] 698 u w r 698 (rLp g d r P) := by
  obtain ⟨⟨n0, n1, n2⟩, ⟨m0, m1, m2, m3⟩, ⟨m4, m5⟩, ow0, ow1, -⟩ := hO
  obtain ⟨a1, a2, a3, a4, a5, a6, a7, a8, a9, b1, b2, b3, b4⟩ := hD
  refine R_readVillage (d := d + 5) hr ok h (by omega) q2 n0 a1 a4 (fun u3 w3 y1 y2 y3 y4 => ⟨rfl, rfl, ?_⟩)
  refine R_fin hr ok kk (pLn_0 q1 q2) y2 (fun q => ?_) (y3.to (fun b i q => by omega)) (y4.to (fun b i q => by omega))
  obtain ⟨x1, x2'⟩ := y1 q
  exact ⟨x1, a2.keptF y4 (fun i hi => by omega), a3.keptF y4 (fun i hi => by omega), x2', a5.kept y3 (fun b i z => by omega), a6.kept y3 (fun b i z => by omega), a7.kept y3 (fun b i z => by omega), (y3 655 54 (by decide)).trans a8, (y3 655 55 (by decide)).trans a9, fun q => ⟨(y3 655 47 (by decide)).trans (b1 q).1, (y3 655 48 (by decide)).trans (b1 q).2⟩, fun q => ⟨(y3 655 47 (by decide)).trans (b2 q).1, (y3 655 48 (by decide)).trans (b2 q).2⟩, (y3 655 20 (by decide)).trans b3, fun z => (b4 z).kept y3 (fun b i z => by omega)⟩
theorem R_line_1 {u : xU} {P : xPost} (hr : xRf r) (ok : tpOk N T) (h : rP N T c u w) (q1 : kK N T c.1 = 16) (q2 : D.1 3 < 12) (hO : oD N T D) (hD : rDr N T D u w) (kk : rLk N T D c u w r P) : xCall g (d + 9) mX12_readWay [.ref 655] 698 u w r 698 (rLp g d r P) := by
  obtain ⟨⟨n0, n1, n2⟩, ⟨m0, m1, m2, m3⟩, ⟨m4, m5⟩, ow0, ow1, -⟩ := hO
  obtain ⟨a1, a2, a3, a4, a5, a6, a7, a8, a9, b1, b2, b3, b4⟩ := hD
  refine R_readWay (d := d + 6) hr ok h (by omega) m0 a4 n0 a1 a5 q2 (fun u3 w3 y1 y2 y3 y4 => ⟨rfl, rfl, ?_⟩)
  refine R_fin hr ok kk (pLn_1 q1 q2) y2 (fun q => ?_) (y3.to (fun b i q => by omega)) (y4.to (fun b i q => by omega))
  exact ⟨a1.keptF y4 (fun i hi => by omega), a2.keptF y4 (fun i hi => by omega), a3.keptF y4 (fun i hi => by omega), (y3 655 43 (by decide)).trans a4, y1 q, (a6.kept y3 (fun b i z => by omega)).cg (fun x i hx => wyPut_hi hx), a7.kept y3 (fun b i z => by omega), (y3 655 54 (by decide)).trans a8, (y3 655 55 (by decide)).trans a9, fun q => ⟨(y3 655 47 (by decide)).trans (b1 q).1, (y3 655 48 (by decide)).trans (b1 q).2⟩, fun q => ⟨(y3 655 47 (by decide)).trans (b2 q).1, (y3 655 48 (by decide)).trans (b2 q).2⟩, (y3 655 20 (by decide)).trans b3, fun z => (b4 z).kept y3 (fun b i z => by omega)⟩
theorem R_line_2 {u : xU} {P : xPost} (hr : xRf r) (ok : tpOk N T) (h : rP N T c u w) (q1 : kK N T c.1 = 17) (q2 : D.1 1 < 6) (hO : oD N T D) (hD : rDr N T D u w) (kk : rLk N T D c u w r P) : xCall g (d + 9) mX12_readBier [.ref 655] 698 u w r 698 (rLp g d r P) := by
  obtain ⟨⟨n0, n1, n2⟩, ⟨m0, m1, m2, m3⟩, ⟨m4, m5⟩, ow0, ow1, -⟩ := hO
  obtain ⟨a1, a2, a3, a4, a5, a6, a7, a8, a9, b1, b2, b3, b4⟩ := hD
  refine R_readBier (d := d + 4) hr ok h (by omega) m0 a4 n0 a1 q2 n1 a2 a6 (fun u3 w3 y1 y2 y3 y4 => ⟨rfl, rfl, ?_⟩)
  refine R_fin hr ok kk (pLn_2 q1 q2) y2 (fun q => ?_) (y3.to (fun b i q => by omega)) (y4.to (fun b i q => by omega))
  obtain ⟨x1, x2'⟩ := y1 q
  exact ⟨a1.keptF y4 (fun i hi => by omega), x1, a3.keptF y4 (fun i hi => by omega), (y3 655 43 (by decide)).trans a4, (a5.kept y3 (fun b i z => by omega)).cg (fun x i hx => biPut_lo hx), x2', a7.kept y3 (fun b i z => by omega), (y3 655 54 (by decide)).trans a8, (y3 655 55 (by decide)).trans a9, fun q => ⟨(y3 655 47 (by decide)).trans (b1 q).1, (y3 655 48 (by decide)).trans (b1 q).2⟩, fun q => ⟨(y3 655 47 (by decide)).trans (b2 q).1, (y3 655 48 (by decide)).trans (b2 q).2⟩, (y3 655 20 (by decide)).trans b3, fun z => (b4 z).kept y3 (fun b i z => by omega)⟩
theorem R_line_3 {u : xU} {P : xPost} (hr : xRf r) (ok : tpOk N T) (h : rP N T c u w) (q1 : kK N T c.1 = 18) (q2 : D.1 2 < 8) (hO : oD N T D) (hD : rDr N T D u w) (kk : rLk N T D c u w r P) : xCall g (d + 9) mX12_readLetter [.ref 655] 698 u w r 698 (rLp g d r P) := by
  obtain ⟨⟨n0, n1, n2⟩, ⟨m0, m1, m2, m3⟩, ⟨m4, m5⟩, ow0, ow1, -⟩ := hO
  obtain ⟨a1, a2, a3, a4, a5, a6, a7, a8, a9, b1, b2, b3, b4⟩ := hD
  refine R_readLetter (d := d + 4) hr ok h (by omega) m0 a4 n0 a1 q2 n2 a3 a7 (fun u3 w3 y1 y2 y3 y4 => ⟨rfl, rfl, ?_⟩)
  refine R_fin hr ok kk (pLn_3 q1 q2) y2 (fun q => ?_) (y3.to (fun b i q => by omega)) (y4.to (fun b i q => by omega))
  obtain ⟨x1, x2'⟩ := y1 q
  exact ⟨a1.keptF y4 (fun i hi => by omega), a2.keptF y4 (fun i hi => by omega), x1, (y3 655 43 (by decide)).trans a4, a5.kept y3 (fun b i z => by omega), a6.kept y3 (fun b i z => by omega), x2', (y3 655 54 (by decide)).trans a8, (y3 655 55 (by decide)).trans a9, fun q => ⟨(y3 655 47 (by decide)).trans (b1 q).1, (y3 655 48 (by decide)).trans (b1 q).2⟩, fun q => ⟨(y3 655 47 (by decide)).trans (b2 q).1, (y3 655 48 (by decide)).trans (b2 q).2⟩, (y3 655 20 (by decide)).trans b3, fun z => (b4 z).kept y3 (fun b i z => by omega)⟩
theorem R_line_4 {u : xU} {P : xPost} (hr : xRf r) (ok : tpOk N T) (h : rP N T c u w) (hM : kK N T M = 0) (hMN : M ≤ 1600) (h0 : c.2.1 = 0) (hcM : c.1 ≤ M) (q1 : kK N T c.1 = 19) (q2 : D.1 4 = 0) (hO : oD N T D) (hD : rDr N T D u w) (kk : rLk N T D c u w r P) : xCall g (d + 9) mX12_readWait [.ref 655] 698 (x2 u 655 54 (1 : Int32)) w r 698 (rLp g d r P) := by
  obtain ⟨⟨n0, n1, n2⟩, ⟨m0, m1, m2, m3⟩, ⟨m4, m5⟩, ow0, ow1, -⟩ := hO
  obtain ⟨a1, a2, a3, a4, a5, a6, a7, a8, a9, b1, b2, b3, b4⟩ := hD
  obtain ⟨t1, t2⟩ := ow0 q2
  have f3 : xSn (fun b i => b = 655 ∧ i = 54) u (x2 u 655 54 (1 : Int32)) := (xSn.rf).put ⟨rfl, rfl⟩
  have e3 : (x2 u 655 54 (1 : Int32)) 655 54 = nI 1 := x2_same _ _ _ _
  generalize x2 u 655 54 (1 : Int32) = u2 at f3 e3
  have cM1 : c.1 + 1 ≤ M := kK_end hM hcM (by omega)
  refine R_readWait (d := d + 5) hr ok hM hMN (h.keptU f3 (fun i hi => by omega) (fun i => by omega)) h0 cM1 (by omega) ((f3 655 20 (by decide)).trans (by rw [b3, t1])) (fun u3 w3 y1 y2 y3 y4 => ⟨rfl, rfl, ?_⟩)
  have f23 : xSn (fun b i => fFv b i ∨ (b = 655 ∧ i = 54)) u u3 := (f3.to (fun b i z => Or.inr z)).tr (y3.to (fun b i z => Or.inl z))
  refine R_fin hr ok kk (pLn_4 q1 q2) y1 (fun q => ?_) (f23.to (fun b i q => by omega)) (y4.to (fun b i q => by omega))
  obtain ⟨x1, x2'⟩ := y2 q
  exact ⟨a1.keptF y4 (fun i hi => by omega), a2.keptF y4 (fun i hi => by omega), a3.keptF y4 (fun i hi => by omega), (f23 655 43 (by decide)).trans a4, a5.kept f23 (fun b i z => by omega), a6.kept f23 (fun b i z => by omega), a7.kept f23 (fun b i z => by omega), (y3 655 54 (by decide)).trans e3, (f23 655 55 (by decide)).trans a9, fun q => ⟨(f23 655 47 (by decide)).trans (b1 q).1, (f23 655 48 (by decide)).trans (b1 q).2⟩, fun q => ⟨(f23 655 47 (by decide)).trans (b2 q).1, (f23 655 48 (by decide)).trans (b2 q).2⟩, x2', fun _ => x1⟩
theorem R_line_5 {u : xU} {P : xPost} (hr : xRf r) (ok : tpOk N T) (h : rP N T c u w) (h0 : c.2.1 = 0) (q1 : kK N T c.1 = 20) (q2 : D.1 5 = 0) (hO : oD N T D) (hD : rDr N T D u w) (kk : rLk N T D c u w r P) : xCall g (d + 9) mX12_readWinter [.ref 655] 698 u w r 698 (rLp g d r P) := by
  obtain ⟨⟨n0, n1, n2⟩, ⟨m0, m1, m2, m3⟩, ⟨m4, m5⟩, ow0, ow1, -⟩ := hO
  obtain ⟨a1, a2, a3, a4, a5, a6, a7, a8, a9, b1, b2, b3, b4⟩ := hD
  refine R_readWinter (d := d + 5) hr ok h h0 q1 (fun u3 w3 y1 y2 y3 y4 y5 => ⟨rfl, rfl, ?_⟩)
  refine R_fin hr ok kk (pLn_5 q1 q2) y3 (fun q => ?_) (y4.to (fun b i q => by omega)) (y5.to (fun b i q => by omega))
  exact ⟨a1.keptF y5 (fun i hi => by omega), a2.keptF y5 (fun i hi => by omega), a3.keptF y5 (fun i hi => by omega), (y4 655 43 (by decide)).trans a4, a5.kept y4 (fun b i z => by omega), a6.kept y4 (fun b i z => by omega), a7.kept y4 (fun b i z => by omega), (y4 655 54 (by decide)).trans a8, y2, fun q' => absurd (show (1 : Nat) = 0 from q') (by decide), fun _ => y1 q, (y4 655 20 (by decide)).trans b3, fun z => (b4 z).kept y4 (fun b i z => by omega)⟩
theorem R_readLine {u : xU} {P : xPost} (hr : xRf r) (ok : tpOk N T) (hM : kK N T M = 0) (hMN : M ≤ 1600) (h : rP N T c u w) (h0 : c.2.1 = 0) (hcM : c.1 ≤ M) (hO : oD N T D) (hD : rDr N T D u w) (kk : rLk N T D c u w r P) :
    xCall g (d + 10) mX12_readLine [.ref 655] 698 u w r 698 P := by
  have ow := hO
  have hD' := hD
  obtain ⟨-, ⟨m0, m1, m2, m3⟩, ⟨m4, m5⟩, -⟩ := ow
  obtain ⟨-, -, -, a4, a5, a6, a7, a8, a9, -⟩ := hD'
  have g0 : (7 : Int32) ≤ u 655 43 ↔ 7 ≤ D.1 0 := by rw [a4]; exact le_nI (a := 7) (by omega) (by omega)
  have g1 : (12 : Int32) ≤ u 655 44 ↔ 12 ≤ D.1 3 := by rw [a5.1]; exact le_nI (a := 12) (by omega) (by omega)
  have g2 : (6 : Int32) ≤ u 655 45 ↔ 6 ≤ D.1 1 := by rw [a6.1]; exact le_nI (a := 6) (by omega) (by omega)
  have g3 : (8 : Int32) ≤ u 655 46 ↔ 8 ≤ D.1 2 := by rw [a7.1]; exact le_nI (a := 8) (by omega) (by omega)
  have g4 : u 655 54 = 0 ↔ D.1 4 = 0 := by rw [a8]; exact eq_nI (b := 0) (by omega) (by omega)
  have g5 : u 655 55 = 0 ↔ D.1 5 = 0 := by rw [a9]; exact eq_nI (b := 0) (by omega) (by omega)
  clear a4 a5 a6 a7 a8 a9
  refine CX12_readLine (xPr.use (R_isWord (i := 0) h ok (by omega)) ⟨_, rfl, rfl, rfl, rfl, ?_⟩)
  rw [xb_eq0, g0]
  by_cases q0 : kK N T c.1 = 15 ∧ D.1 0 < 7
  · exact brT (by omega) (R_line_0 hr ok h q0.1 q0.2 hO hD kk)
  · refine brF (by omega) (xPr.use (R_isWord (i := 1) h ok (by omega)) ⟨_, rfl, rfl, rfl, rfl, ?_⟩)
    rw [xb_eq0, g1]
    by_cases q1 : kK N T c.1 = 16 ∧ D.1 3 < 12
    · exact brT (by omega) (R_line_1 hr ok h q1.1 q1.2 hO hD kk)
    · refine brF (by omega) (xPr.use (R_isWord (i := 2) h ok (by omega)) ⟨_, rfl, rfl, rfl, rfl, ?_⟩)
      rw [xb_eq0, g2]
      by_cases q2 : kK N T c.1 = 17 ∧ D.1 1 < 6
      · exact brT (by omega) (R_line_2 hr ok h q2.1 q2.2 hO hD kk)
      · refine brF (by omega) (xPr.use (R_isWord (i := 3) h ok (by omega)) ⟨_, rfl, rfl, rfl, rfl, ?_⟩)
        rw [xb_eq0, g3]
        by_cases q3 : kK N T c.1 = 18 ∧ D.1 2 < 8
        · exact brT (by omega) (R_line_3 hr ok h q3.1 q3.2 hO hD kk)
        · refine brF (by omega) (xPr.use (R_isWord (i := 4) h ok (by omega)) ⟨_, rfl, rfl, rfl, rfl, ?_⟩)
          rw [xb_eq0, g4]
          by_cases q4 : kK N T c.1 = 19 ∧ D.1 4 = 0
          · exact brT (by omega) (R_line_4 hr ok h hM hMN h0 hcM q4.1 q4.2 hO hD kk)
          · refine brF (by omega) (xPr.use (R_isWord (i := 5) h ok (by omega)) ⟨_, rfl, rfl, rfl, rfl, ?_⟩)
            rw [xb_eq0, g5]
            by_cases q5 : kK N T c.1 = 20 ∧ D.1 5 = 0
            · exact brT (by omega) (R_line_5 hr ok h h0 q5.1 q5.2 hO hD kk)
            · refine brF (by omega) (xVd.use (R_wrong (x := 2) h (by omega)) (fun u3 h3 => ⟨rfl, rfl, rfl, ?_⟩))
              exact R_fin hr ok kk (pLn_6 (by omega)) h3.1 (fun z => absurd z (pFail_0 (by omega))) (h3.2.to (fun b i z => by omega)) wSn.rf
end RLINE
