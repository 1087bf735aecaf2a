/-! WINTER is told: both sides -/
def wLo (N : Nat) (T : Nat → Int32) (c : pC) : Nat := if (pNum N T 0 200 c).2.1 = 0 then kV N T c.1 else 0
def pWin2 (N : Nat) (T : Nat → Int32) (c : pC) : pC := pWant N T 22 (pNum N T 0 200 c)
def pWin (N : Nat) (T : Nat → Int32) (c : pC) : pC := pNum N T (wLo N T c) 200 (pWin2 N T c)
theorem wLo_le (N : Nat) (T : Nat → Int32) (c : pC) : wLo N T c ≤ 200 := by
  unfold wLo
  by_cases q : (pNum N T 0 200 c).2.1 = 0
  · rw [if_pos q]; exact (pNum_0 q).2.1.2
  · rw [if_neg q]; omega
theorem pWant_f {N : Nat} {T : Nat → Int32} {k : Nat} {c : pC} (h : ¬ c.2.1 = 0) : pWant N T k c = c := by
  unfold pWant
  rw [if_neg (fun z => h z.1), pFail_f h]
theorem pNum_f {N : Nat} {T : Nat → Int32} {lo hi : Nat} {c : pC} (h : ¬ c.2.1 = 0) : pNum N T lo hi c = c := by
  unfold pNum
  rw [if_neg (fun z => h z.1), pFail_f h]
theorem pWin_0 {N : Nat} {T : Nat → Int32} {c : pC} (h : (pWin N T c).2.1 = 0) : (pNum N T 0 200 c).2.1 = 0 ∧ (pWin2 N T c).2.1 = 0 := by
  have h2 : (pWin2 N T c).2.1 = 0 := (pNum_0 h).1.1
  refine ⟨Classical.byContradiction (fun z => ?_), h2⟩
  unfold pWin2 at h2
  rw [pWant_f z] at h2
  exact z h2
section WINTER
variable {g : xGT} {d : Nat} {w : xW} {r : xQ} {N : Nat} {T : Nat → Int32} {M : Nat} {c : pC} {l : Nat}
theorem K_readNumber_f {u : xU} (hr : xRf r) (ok : tpOk N T) (h : cP N T M c u w) (h0 : ¬ c.2.1 = 0) (i1 i2 : Int32) : xCall g (d + 2) mX7_readNumber [.ref 9, .int i1, .int i2] 698 u w r 698 (fun rv u' w' r' => ∃ v : Int32, rv = some (.int v) ∧ w = w' ∧ r = r' ∧ cP N T M c u' w ∧ xSn fPc u u') := by
  refine CX7_readNumber hr (xPr.use (K_sees (k := 3) hr ok h (by omega)) ⟨_, rfl, rfl, rfl, rfl, ?_⟩)
  refine brT (xb_neg (fun z => h0 z.1)) (xVd.use (K_fail (x := 2) hr ok h (by omega)) (fun u1 h1 => ⟨rfl, rfl, rfl, _, rfl, rfl, rfl, ?_, h1.2⟩))
  have := h1.1
  rw [pFail_f h0] at this
  exact this
theorem cP.keptU {u u' : xU} (h : cP N T M c u w) {F : Nat → Nat → Prop} (f : xSn F u u') (h1 : ∀ b i, (b = 9 ∧ 7 ≤ i) ∨ b = 12 ∨ b = 14 ∨ b = 10 → ¬ F b i) : cP N T M c u' w := by
  obtain ⟨b1, b2, b3, b4, b5, b6⟩ := h
  refine ⟨b1.kept f (fun _ => rfl) (fun j => h1 _ _ (by omega)) (fun j => h1 _ _ (by omega)) (h1 _ _ (by omega)), b2, b3, ?_, ?_, ?_⟩
  · exact (f _ _ (h1 _ _ (by omega))).trans b4
  · exact (f _ _ (h1 _ _ (by omega))).trans b5
  · exact (f _ _ (h1 _ _ (by omega))).trans b6
theorem K_readWinter {u : xU} {P : xPost} (hr : xRf r) (ok : tpOk N T) (h_l : xLd l) (h94 : r 9 4 = some l) (hl : l = 22 ∨ l = 37) (h : cP N T M c u w)
    (kk : ∀ u', ((pWin N T c).2.1 = 0 → u' l 15 = nI (kV N T c.1) ∧ u' l 16 = nI (kV N T (pWin2 N T c).1)) → u' 9 6 = 1 → cP N T M (pWin N T c) u' w → xSn (fun b i => fPc b i ∨ (b = 9 ∧ i = 6) ∨ (b = l ∧ (i = 15 ∨ i = 16))) u u' → P none u' w r) :
    xCall g (d + 3) mX7_readWinter [.ref 9] 698 u w r 698 P := by
  have f0 : xSn (fun b i => b = 9 ∧ i = 6) u (x2 u 9 6 1) := (xSn.rf).put ⟨rfl, rfl⟩
  have h0 : cP N T M c (x2 u 9 6 1) w := h.keptU f0 (fun b i => by omega)
  refine CX7_readWinter h_l h94 (xCall.mono (K_readNumber (d := d) (lo := 0) (hi := 200) hr ok h0 (by omega) (by omega)) (fun rv u1 w1 r1 q => ?_))
  obtain ⟨v1, rfl, rfl, rfl, z1, z2, z3⟩ := q
  refine ⟨v1, rfl, rfl, rfl, ?_⟩
  have f1 : xSn (fun b i => b = l ∧ i = 15) u1 (x2 u1 l 15 v1) := (xSn.rf).put ⟨rfl, rfl⟩
  have h1 := z2.keptU f1 (fun b i => by omega)
  refine xVd.use (K_want (d := d) (k := 22) hr ok h1 (by omega) (by omega)) (fun u2 ⟨y1, y2⟩ => ⟨rfl, rfl, rfl, ?_⟩)
  have e15 : u2 l 15 = v1 := by rw [y2 _ _ (by omega), x2_same]
  have e6 : u2 9 6 = 1 := by
    rw [y2 _ _ (by omega), x2_a _ _ (by omega), z3 _ _ (by omega), x2_same]
  rw [e15]
  have fin : ∀ (u3 : xU) (v3 : Int32), ((pWin N T c).2.1 = 0 → v1 = nI (kV N T c.1) ∧ v3 = nI (kV N T (pWin2 N T c).1)) → cP N T M (pWin N T c) u3 w → xSn fPc u2 u3 → P none (x2 u3 l 16 v3) w r := by
    intro u3 v3 hv h3 f3
    have f4 : xSn (fun b i => b = l ∧ i = 16) u3 (x2 u3 l 16 v3) := (xSn.rf).put ⟨rfl, rfl⟩
    refine kk _ (fun z => ?_) ?_ (h3.keptU f4 (fun b i => by omega)) ?_
    · obtain ⟨a1, a2⟩ := hv z
      refine ⟨?_, by rw [x2_same]; exact a2⟩
      rw [x2_i _ _ (by omega), f3 _ _ (by omega), e15]; exact a1
    · rw [x2_a _ _ (by omega), f3 _ _ (by omega)]; exact e6
    · exact (((((f0.to (fun b i z => Or.inr (Or.inl z))).tr (z3.to (fun b i z => Or.inl z))).tr (f1.to (fun b i z => Or.inr (Or.inr ⟨z.1, Or.inl z.2⟩)))).tr (y2.to (fun b i z => Or.inl z))).tr (f3.to (fun b i z => Or.inl z))).tr (f4.to (fun b i z => Or.inr (Or.inr ⟨z.1, Or.inr z.2⟩)))
  by_cases q : (pNum N T 0 200 c).2.1 = 0
  · have ev := z1 q
    have el : wLo N T c = kV N T c.1 := if_pos q
    have l2 := wLo_le N T c
    rw [ev, ← el]
    refine xCall.mono (K_readNumber (d := d) (lo := wLo N T c) (hi := 200) hr ok y1 (by omega) (by omega)) (fun rv u3 w3 r3 q2 => ?_)
    obtain ⟨v3, rfl, rfl, rfl, x1, x2', x3⟩ := q2
    exact ⟨v3, rfl, rfl, rfl, fin u3 v3 (fun z => ⟨ev, x1 z⟩) x2' x3⟩
  · have e2 : pWant N T 22 (pNum N T 0 200 c) = pNum N T 0 200 c := pWant_f q
    have e3 : pWin N T c = pWant N T 22 (pNum N T 0 200 c) := by
      unfold pWin pWin2
      rw [e2]
      exact pNum_f q
    refine xCall.mono (K_readNumber_f (d := d) hr ok y1 (by rw [e2]; exact q) v1 200) (fun rv u3 w3 r3 q2 => ?_)
    obtain ⟨v3, rfl, rfl, rfl, x2', x3⟩ := q2
    refine ⟨v3, rfl, rfl, rfl, fin u3 v3 (fun z => absurd (pWin_0 z).1 q) (by rw [e3]; exact x2') x3⟩
end WINTER
