/-! A WAY is told: the reference -/
def rWy (L : xU) (n : Nat) (u : xU) : Prop := u 655 44 = nI n ∧ ∀ k, k < n → u 665 k = L 1 k ∧ u 666 k = L 2 k ∧ u 667 k = L 3 k
abbrev fWy : Nat → Nat → Prop := fun b i => b = 665 ∨ b = 666 ∨ b = 667 ∨ (b = 655 ∧ i = 44)
theorem rWy.kept {n : Nat} {L u u' : xU} (h : rWy L n u) {F : Nat → Nat → Prop} (f : xSn F u u') (h1 : ∀ b i, fWy b i → ¬ F b i) : rWy L n u' := by
  refine ⟨(f _ _ (h1 _ _ (by omega))).trans h.1, fun k hk => ?_⟩
  rw [f _ _ (h1 665 k (by omega)), f _ _ (h1 666 k (by omega)), f _ _ (h1 667 k (by omega))]
  exact h.2 k hk
theorem rP.keptU {N : Nat} {T : Nat → Int32} {c : pC} {u u' : xU} {w : xW} (h : rP N T c u w) {F : Nat → Nat → Prop} (f : xSn F u u') (h1 : ∀ i, i ≤ 8 → ¬ F 655 i) (h2 : ∀ i, ¬ F 656 i) : rP N T c u' w := by
  obtain ⟨a1, ⟨t1, t2, t3, t4, t5⟩, a2, a3, a4⟩ := h
  refine ⟨a1.kept f (h1 5 (by omega)) h2, ⟨?_, ?_, t3, fun z => ?_, fun z => ?_⟩, a2, ?_, ?_⟩
  · exact (f _ _ (h1 7 (by omega))).trans t1
  · exact (f _ _ (h1 6 (by omega))).trans t2
  · exact (f _ _ (h1 8 (by omega))).trans (t4 z)
  · exact (f _ _ (h1 4 (by omega))).trans (t5 z)
  · exact (f _ _ (h1 2 (by omega))).trans a3
  · exact (f _ _ (h1 3 (by omega))).trans a4
section RWAY
variable {g : xGT} {d : Nat} {w : xW} {r : xQ} {N : Nat} {T : Nat → Int32} {c : pC} {nm : Nat → Nat} {n nw : Nat} {L : xU}
theorem R_way_62 {u : xU} {P : xPost} {a b : Int32} (hr : xRf r) (ok : tpOk N T) (h : rP N T c u w) (hw : rWy L nw u) (hnw : nw < 12)
    (kk : ∀ u' w', ((pNum N T 1 9 c).2.1 = 0 → rWy (wyPut L nw a b (nI (kV N T c.1))) (nw + 1) u') → rP N T (pNum N T 1 9 c) u' w' → xSn (fun b i => fPr b i ∨ fWy b i) u u' → wSn fTw w w' → P none u' w' r) :
    xEv g (d + 3) mX12_readWay 62 [some (.ref 655), some (.int a), some (.int b)] [] 698 u w r 698 P := by
  refine TX12_readWay_62 hr (R_toldNumber (d := d) (lo := 1) (hi := 9) hr ok h (by omega) (by omega) (fun v u1 w1 z1 z2 z3 z4 => ⟨v, rfl, rfl, ?_⟩))
  have hw1 : rWy L nw u1 := hw.kept z3 (fun b i => by omega)
  rw [hw.1, hw1.1, z2.2.2.2.1, f9_le z2.2.2.1, nc (by omega), nI_one]
  refine ⟨vpn (by omega) (by omega), ?_⟩
  by_cases q : (pNum N T 1 9 c).2.1 = 0
  · refine brT q ⟨vpn (by omega) (by omega), ?_⟩
    have hv := z1 q
    have f1 : xSn fWy u1 (x2 (x2 (x2 (x2 u1 667 nw v) 665 nw a) 666 nw b) 655 44 (nI (nw + 1))) := ((((xSn.rf (F := fWy)).put (by omega)).put (by omega)).put (by omega)).put (by omega)
    refine kk _ w1 (fun _ => ⟨x2_same _ _ _ _, fun k hk => ?_⟩) (z2.keptU f1 (fun i hi => by omega) (fun i => by omega)) ((z3.to (fun _ _ z => Or.inl z)).tr (f1.to (fun _ _ z => Or.inr z))) z4
    unfold wyPut
    by_cases y : k = nw
    · subst y
      refine ⟨?_, ?_, ?_⟩
      · rw [x2_a _ _ (by omega), x2_a _ _ (by omega), x2_same, x2_a _ _ (by omega), x2_a _ _ (by omega), x2_same]
      · rw [x2_a _ _ (by omega), x2_same, x2_a _ _ (by omega), x2_same]
      · rw [x2_a _ _ (by omega), x2_a _ _ (by omega), x2_a _ _ (by omega), x2_same, x2_same, hv]
    · obtain ⟨a1, a2, a3⟩ := hw1.2 k (by omega)
      refine ⟨?_, ?_, ?_⟩
      · rw [x2_a _ _ (by omega), x2_a _ _ (by omega), x2_i _ _ y, x2_a _ _ (by omega), x2_a _ _ (by omega), x2_a _ _ (by omega), x2_i _ _ y, a1]
      · rw [x2_a _ _ (by omega), x2_i _ _ y, x2_a _ _ (by omega), x2_a _ _ (by omega), x2_a _ _ (by omega), x2_i _ _ y, x2_a _ _ (by omega), a2]
      · rw [x2_a _ _ (by omega), x2_a _ _ (by omega), x2_a _ _ (by omega), x2_i _ _ y, x2_i _ _ y, x2_a _ _ (by omega), x2_a _ _ (by omega), a3]
  · have f1 : xSn fWy u1 (x2 u1 667 nw v) := (xSn.rf (F := fWy)).put (by omega)
    exact brF q (kk _ w1 (fun z => absurd z q) (z2.keptU f1 (fun i hi => by omega) (fun i => by omega)) ((z3.to (fun _ _ z => Or.inl z)).tr (f1.to (fun _ _ z => Or.inr z))) z4)
theorem R_way_51 {u : xU} {P : xPost} {a b : Int32} {c3 : pC} (hr : xRf r) (ok : tpOk N T) (h : rP N T c u w) (h0 : c.2.1 = 0 → ¬ kK N T c.1 = 1 ∧ c3 = pAdv c) (h1 : ¬ c.2.1 = 0 → c3 = c) (hw : rWy L nw u) (hnw : nw < 12)
    (kk : ∀ u' w', ((pNum N T 1 9 c3).2.1 = 0 → rWy (wyPut L nw a b (nI (kV N T c3.1))) (nw + 1) u') → rP N T (pNum N T 1 9 c3) u' w' → xSn (fun b i => fPr b i ∨ fWy b i) u u' → wSn fTw w w' → P none u' w' r) :
    xEv g (d + 3) mX12_readWay 51 [some (.ref 655), some (.int a), some (.int b)] [] 698 u w r 698 P := by
  refine TX12_readWay_51 ?_
  rw [h.2.2.2.1, f9_0 h.2.2.1]
  by_cases q : c.2.1 = 0
  · obtain ⟨e1, e2⟩ := h0 q
    refine brT q (R_adv (d := d + 1) hr ok h e1 (fun u1 w1 y1 y2 y3 => ⟨rfl, rfl, ?_⟩))
    rw [← e2] at y1
    exact R_way_62 hr ok y1 (hw.kept y2 (fun b i => by omega)) hnw (fun u' w' k1 k2 k3 k4 => kk u' w' k1 k2 ((y2.to (fun _ _ z => Or.inl z)).tr k3) (y3.tr k4))
  · have e2 := h1 q
    rw [e2] at kk
    exact brF q (R_way_62 hr ok h hw hnw kk)
theorem R_way_20 {u : xU} {P : xPost} {i1 : Int32} {x1 : Nat} {c3 : pC} (hr : xRf r) (ok : tpOk N T) (h : rP N T c u w) (hn : n ≤ 7) (h43 : u 655 43 = nI n) (hok : nmOk N T nm n) (hc : rNm N T 0 nm n w) (hx : c.2.1 = 0 → i1 = nI x1 ∧ x1 < 8) (hw : rWy L nw u) (hnw : nw < 12)
    (e3 : c3 = if (pVil N T nm n x1 c).2.1 = 0 ∧ wtB (L 1) (L 2) (nI x1) (nI (fd N T nm c.1 n)) nw = true then pFail N T 3 c else pVil N T nm n x1 c)
    (kk : ∀ u' w', ((pNum N T 1 9 c3).2.1 = 0 → rWy (wyPut L nw (nI x1) (nI (fd N T nm c.1 n)) (nI (kV N T c3.1))) (nw + 1) u') → rP N T (pNum N T 1 9 c3) u' w' → xSn (fun b i => fPr b i ∨ fWy b i) u u' → wSn fTw w w' → P none u' w' r) :
    xEv g (d + 3) mX12_readWay 20 [some (.ref 655), some (.int i1), none] [] 698 u w r 698 P := by
  refine TX12_readWay_20 (xCall.mono (R_oldVillage (d := d) hr ok h hn h43 hok hc) (fun rv u1 w1 r1 q => ?_))
  obtain ⟨v, rfl, rfl, rfl, z1, z2, z3⟩ := q
  refine ⟨v, rfl, rfl, rfl, ?_⟩
  rw [z2.2.2.2.1, f9_0 z2.2.2.1]
  have hw1 : rWy L nw u1 := hw.kept z3 (fun b i => by omega)
  by_cases q : (pOld N T nm n c).2.1 = 0
  · obtain ⟨e1, e2, e4⟩ := pOld_0 (x := x1) q
    obtain ⟨v1, v2⟩ := z1 q
    have qo := q
    rw [e1] at z2 q
    obtain ⟨hi, hx8⟩ := hx q
    subst hi v1
    have ev : nI x1 = nI (fd N T nm c.1 n) ↔ fd N T nm c.1 n = x1 := by rw [eq_nI (by omega) (by omega)]; omega
    -- told already, or where one is
    have at46 : c3 = pFail N T 3 c → xEv g (d + 3) mX12_readWay 46 [some (.ref 655), some (.int (nI x1)), some (.int (nI (fd N T nm c.1 n)))] [] 698 u1 w r 698 P := by
      intro e5
      refine TX12_readWay_46 (xVd.use (R_wrong (x := 3) z2 (by omega)) (fun u2 h2 => ⟨rfl, rfl, rfl, ?_⟩))
      exact R_way_51 (c3 := c3) hr ok h2.1 (fun z => absurd z (pFail_0 (by omega))) (fun _ => e5) (hw1.kept h2.2 (fun b i => by omega)) hnw (fun u' w' k1 k2 k3 k4 => kk u' w' k1 k2 (((z3.tr h2.2).to (fun _ _ z => Or.inl z)).tr k3) k4)
    by_cases q2 : fd N T nm c.1 n = x1
    · rw [if_pos q2] at e4
      refine brT qo (brT (ev.2 q2) (at46 ?_))
      rw [e3, e4, if_neg (fun z => pFail_0 (by omega) z.1)]
    · rw [if_neg q2] at e4
      refine brT qo (brF (fun z => q2 (ev.1 z)) (xPr.use (R_isWayTold hr (show nw ≤ 12 by omega) hw1.1 _ _) ⟨_, rfl, rfl, rfl, rfl, ?_⟩))
      have ewt : wtB (u1 665) (u1 666) (nI x1) (nI (fd N T nm c.1 n)) nw = wtB (L 1) (L 2) (nI x1) (nI (fd N T nm c.1 n)) nw := wtB_cg nw (fun k hk => ⟨(hw1.2 k hk).1, (hw1.2 k hk).2.1⟩)
      rw [ewt]
      by_cases qt : wtB (L 1) (L 2) (nI x1) (nI (fd N T nm c.1 n)) nw = true
      · rw [qt]
        refine brF (by decide) (at46 ?_)
        rw [e3, e4, if_pos ⟨q, qt⟩]
      · rw [Bool.eq_false_iff.mpr qt]
        refine brT rfl (R_way_51 (c3 := c3) hr ok z2 (fun _ => ⟨by rw [e2]; decide, ?_⟩) (fun z => absurd q z) hw1 hnw (fun u' w' k1 k2 k3 k4 => kk u' w' k1 k2 ((z3.to (fun _ _ z => Or.inl z)).tr k3) k4))
        rw [e3, e4, if_neg (fun z => qt z.2)]
  · have e4 := pOld_1 (x := x1) q
    have e5 : c3 = pOld N T nm n c := by rw [e3, e4, if_neg (fun z => q z.1)]
    refine brF q (R_way_51 (c3 := c3) hr ok z2 (fun z => absurd z q) (fun _ => e5) hw1 hnw (fun u' w' k1 k2 k3 k4 => kk u' w' (fun z => ?_) k2 ((z3.to (fun _ _ z => Or.inl z)).tr k3) k4))
    rw [e5] at z
    exact absurd (pNum_0 z).1.1 q
theorem R_readWay {u : xU} {P : xPost} (hr : xRf r) (ok : tpOk N T) (h : rP N T c u w) (h1 : ¬ kK N T c.1 = 1) (hn : n ≤ 7) (h43 : u 655 43 = nI n) (hok : nmOk N T nm n) (hc : rNm N T 0 nm n w) (hw : rWy L nw u) (hnw : nw < 12)
    (kk : ∀ u' w', ((pWay N T nm n L nw (pAdv c)).2.1 = 0 → rWy (wayL N T nm n L nw (pAdv c)) (nw + 1) u') → rP N T (pWay N T nm n L nw (pAdv c)) u' w' → xSn (fun b i => fPr b i ∨ fWy b i) u u' → wSn fTw w w' → P none u' w' r) :
    xCall g (d + 3) mX12_readWay [.ref 655] 698 u w r 698 P := by
  refine CX12_readWay (R_adv (d := d + 1) hr ok h h1 (fun u1 w1 y1 y2 y3 => ⟨rfl, rfl, ?_⟩))
  have h43' : u1 655 43 = nI n := (y2 _ _ (by omega)).trans h43
  have hc1 : rNm N T 0 nm n w1 := hc.kept y3
  have hw1 : rWy L nw u1 := hw.kept y2 (fun b i => by omega)
  generalize pAdv c = c0 at y1 kk
  refine xCall.mono (R_oldVillage (d := d) hr ok y1 hn h43' hok hc1) (fun rv u2 w2 r2 q => ?_)
  obtain ⟨v, rfl, rfl, rfl, z1, z2, z3⟩ := q
  refine ⟨v, rfl, rfl, rfl, ?_⟩
  rw [z2.2.2.2.1, f9_0 z2.2.2.1]
  have f8 := fd_le (N := N) (T := T) (nm := nm) (j := c0.1) (show n ≤ 8 by omega)
  by_cases q : (pOld N T nm n c0).2.1 = 0
  · obtain ⟨e1, e2, e3⟩ := pOld_0 (x := 100) q
    obtain ⟨v1, v2⟩ := z1 q
    rw [if_neg (by omega)] at e3
    rw [e1] at z2
    refine brT q (R_adv (d := d + 1) hr ok z2 (by rw [e2]; decide) (fun u3 w3 x1 x2 x3 => ⟨rfl, rfl, ?_⟩))
    rw [← e3] at x1
    exact R_way_20 (x1 := fd N T nm c0.1 n) (c3 := pWay3 N T nm n L nw c0) hr ok x1 hn ((x2 _ _ (by omega)).trans ((z3 _ _ (by omega)).trans h43')) hok (hc1.kept x3) (fun _ => ⟨v1, by omega⟩) (hw1.kept (z3.tr x2) (fun b i => by omega)) hnw rfl (fun u' w' k1 k2 k3 k4 => kk u' w' k1 k2 ((((y2.tr z3).tr x2).to (fun _ _ z => Or.inl z)).tr k3) ((y3.tr x3).tr k4))
  · have e3 := pOld_1 (x := 100) q
    have z2' := z2
    rw [← e3] at z2'
    refine brF q (R_way_20 (x1 := fd N T nm c0.1 n) (c3 := pWay3 N T nm n L nw c0) hr ok z2' hn ((z3 _ _ (by omega)).trans h43') hok hc1 (fun z => ?_) (hw1.kept z3 (fun b i => by omega)) hnw rfl (fun u' w' k1 k2 k3 k4 => kk u' w' k1 k2 (((y2.tr z3).to (fun _ _ z => Or.inl z)).tr k3) (y3.tr k4)))
    rw [e3] at z
    exact absurd z q
end RWAY
