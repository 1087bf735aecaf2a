/-! WINTER is told: the reference -/
abbrev fWn : Nat → Nat → Prop := fun b i => b = 655 ∧ (i = 47 ∨ i = 48 ∨ i = 55)
section RWINTER
variable {g : xGT} {d : Nat} {w : xW} {r : xQ} {N : Nat} {T : Nat → Int32} {c : pC}
theorem R_told_f {u : xU} {P : xPost} (hr : xRf r) (ok : tpOk N T) (h : rP N T c u w) (h0 : ¬ c.2.1 = 0) {i : Nat} (hi9 : i < 19) (lo hi : Int32) (kk : ∀ v u' w', rP N T c u' w' → xSn fPr u u' → wSn fTw w w' → P (some (.int v)) u' w' r) : xCall g (d + 3) mX12_told [.ref 655, .long (lN (wd i)), .int lo, .int hi] 698 u w r 698 P := by
  refine CX12_told (R_want hr ok h hi9 (fun u1 w1 y1 y2 y3 => ⟨rfl, rfl, ?_⟩))
  rw [pWant_f h0] at y1
  refine CX12_toldNumber ?_
  rw [y1.2.2.2.1, f9_le y1.2.2.1]
  exact brF h0 ⟨_, rfl, rfl, kk _ u1 w1 y1 y2 y3⟩
theorem R_readWinter {u : xU} {P : xPost} (hr : xRf r) (ok : tpOk N T) (h : rP N T c u w) (h0 : c.2.1 = 0) (hk : kK N T c.1 = 20)
    (kk : ∀ u' w', ((pWin N T (pAdv c)).2.1 = 0 → u' 655 47 = nI (kV N T (pAdv c).1) ∧ u' 655 48 = nI (kV N T (pWin2 N T (pAdv c)).1)) → u' 655 55 = 1 → rP N T (pWin N T (pAdv c)) u' w' → xSn (fun b i => fPr b i ∨ fWn b i) u u' → wSn fTw w w' → P none u' w' r) :
    xCall g (d + 4) mX12_readWinter [.ref 655] 698 u w r 698 P := by
  have f0 : xSn fWn u (x2 u 655 55 1) := (xSn.rf (F := fWn)).put ⟨rfl, by omega⟩
  have h1 : rP N T c (x2 u 655 55 1) w := h.keptU f0 (fun i hi => by omega) (fun i => by omega)
  have ew : pWant N T 20 c = pAdv c := if_pos ⟨h0, hk⟩
  refine CX12_readWinter (R_told (d := d) (i := 5) (lo := 0) (hi := 200) hr ok h1 (by omega) (by omega) (by omega) (fun v1 u1 w1 z1 z2 z3 z4 => ⟨v1, rfl, rfl, ?_⟩))
  have z1' : (pNum N T 0 200 (pAdv c)).2.1 = 0 → v1 = nI (kV N T (pAdv c).1) := by rw [← ew]; exact z1
  have z2' : rP N T (pNum N T 0 200 (pAdv c)) u1 w1 := by rw [← ew]; exact z2
  clear z1 z2
  generalize pAdv c = c0 at z1' z2' kk
  have f1 : xSn fWn u1 (x2 u1 655 47 v1) := (xSn.rf (F := fWn)).put ⟨rfl, by omega⟩
  have h2 : rP N T (pNum N T 0 200 c0) (x2 u1 655 47 v1) w1 := z2'.keptU f1 (fun i hi => by omega) (fun i => by omega)
  have e55 : (x2 u1 655 47 v1) 655 55 = 1 := by rw [x2_i _ _ (by omega), z3 _ _ (by omega), x2_same]
  have e47 : (x2 u1 655 47 v1) 655 47 = v1 := x2_same _ _ _ _
  have f01 : xSn (fun b i => fPr b i ∨ fWn b i) u (x2 u1 655 47 v1) := ((f0.to (fun _ _ z => Or.inr z)).tr (z3.to (fun _ _ z => Or.inl z))).tr (f1.to (fun _ _ z => Or.inr z))
  generalize x2 u1 655 47 v1 = u5 at h2 e55 e47 f01
  have fin : ∀ (v2 : Int32) (u2 : xU) (w2 : xW), ((pWin N T c0).2.1 = 0 → v1 = nI (kV N T c0.1) ∧ v2 = nI (kV N T (pWin2 N T c0).1)) → rP N T (pWin N T c0) u2 w2 → xSn fPr u5 u2 → wSn fTw w1 w2 → P none (x2 u2 655 48 v2) w2 r := by
    intro v2 u2 w2 hv h3 f3 g3
    have f4 : xSn fWn u2 (x2 u2 655 48 v2) := (xSn.rf (F := fWn)).put ⟨rfl, by omega⟩
    refine kk _ w2 (fun z => ?_) ?_ (h3.keptU f4 (fun i hi => by omega) (fun i => by omega)) ((f01.tr (f3.to (fun _ _ z => Or.inl z))).tr (f4.to (fun _ _ z => Or.inr z))) (z4.tr g3)
    · obtain ⟨a1, a2⟩ := hv z
      refine ⟨?_, by rw [x2_same]; exact a2⟩
      rw [x2_i _ _ (by omega), f3 _ _ (by omega), e47]; exact a1
    · rw [x2_i _ _ (by omega), f3 _ _ (by omega)]; exact e55
  by_cases q : (pNum N T 0 200 c0).2.1 = 0
  · have ev := z1' q
    have el : wLo N T c0 = kV N T c0.1 := if_pos q
    have l2 := wLo_le N T c0
    have fin' : ∀ (v2 : Int32) (u2 : xU) (w2 : xW), ((pWin N T c0).2.1 = 0 → v2 = nI (kV N T (pWin2 N T c0).1)) → rP N T (pWin N T c0) u2 w2 → xSn fPr u5 u2 → wSn fTw w1 w2 → P none (x2 u2 655 48 v2) w2 r := fun v2 u2 w2 a1 a2 a3 a4 => fin v2 u2 w2 (fun z => ⟨ev, a1 z⟩) a2 a3 a4
    rw [ev, ← el]
    exact R_told (d := d) (i := 7) (lo := wLo N T c0) (hi := 200) hr ok h2 (by omega) (by omega) (by omega) (fun v2 u2 w2 y1 y2 y3 y4 => ⟨v2, rfl, rfl, fin' v2 u2 w2 y1 y2 y3 y4⟩)
  · have e2 : pWant N T 22 (pNum N T 0 200 c0) = pNum N T 0 200 c0 := pWant_f q
    have e3 : pWin N T c0 = pNum N T 0 200 c0 := by
      unfold pWin pWin2
      rw [e2]
      exact pNum_f q
    exact R_told_f (d := d) (i := 7) hr ok h2 q (by omega) v1 200 (fun v2 u2 w2 y2 y3 y4 => ⟨v2, rfl, rfl, fin v2 u2 w2 (fun z => absurd (pWin_0 z).1 q) (by rw [e3]; exact y2) y3 y4⟩)
end RWINTER
