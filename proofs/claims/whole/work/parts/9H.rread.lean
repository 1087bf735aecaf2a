/-! THE WHOLE TEXT, the reference -/
abbrev fRal : Nat → Nat → Prop := fun b i => fRln b i ∨ (b = 655 ∧ (i = 1 ∨ i = 5))
def raU (u : xU) (n : Int32) : xU := x2 (x2 (x2 (x2 (x2 (x2 (x2 (x2 (x2 (x2 (x2 (x2 (x2 (x2 (x2 u 655 5 n) 655 1 0) 655 4 0) 655 2 0) 655 3 (-1)) 655 43 0) 655 44 0) 655 45 0) 655 46 0) 655 47 300) 655 48 0) 655 54 0) 655 55 0) 655 20 0) 655 17 0
theorem raU_fr (u : xU) (n : Int32) : xSn (fun b i => b = 655 ∧ (i = 1 ∨ i = 2 ∨ i = 3 ∨ i = 4 ∨ i = 5 ∨ i = 17 ∨ i = 20 ∨ i = 43 ∨ i = 44 ∨ i = 45 ∨ i = 46 ∨ i = 47 ∨ i = 48 ∨ i = 54 ∨ i = 55)) u (raU u n) := by
  unfold raU
  exact (((((((((((((((xSn.rf).put (by omega)).put (by omega)).put (by omega)).put (by omega)).put (by omega)).put (by omega)).put (by omega)).put (by omega)).put (by omega)).put (by omega)).put (by omega)).put (by omega)).put (by omega)).put (by omega)).put (by omega)
theorem raU_at (u : xU) (n : Int32) : (raU u n 655 5 = n ∧ raU u n 655 1 = 0 ∧ raU u n 655 4 = 0 ∧ raU u n 655 2 = 0 ∧ raU u n 655 3 = -1) ∧ raU u n 655 43 = 0 ∧ raU u n 655 44 = 0 ∧ raU u n 655 45 = 0 ∧ raU u n 655 46 = 0 ∧ raU u n 655 47 = 300 ∧ raU u n 655 48 = 0 ∧ raU u n 655 54 = 0 ∧ raU u n 655 55 = 0 ∧ raU u n 655 20 = 0 :=
  ⟨⟨rfl, rfl, rfl, rfl, rfl⟩, rfl, rfl, rfl, rfl, rfl, rfl, rfl, rfl, rfl⟩
section READR
variable {g : xGT} {d : Nat} {r : xQ} {N : Nat} {T : Nat → Int32} {M : Nat} {P : xPost}
theorem R_read_84 (hr : xRf r) (ok : tpOk N T) (hM : kK N T M = 0) (hMN : M ≤ 1600) {u0 : xU} {w0 : xW} : ∀ m D c u w, (c.2.1 = 0 → c.1 ≤ M ∧ M < c.1 + m) → rP N T c u w → (c.2.1 = 0 → oD N T D ∧ rDr N T D u w) → xSn fRln u0 u → wSn fRw w0 w →
    (∀ u' w', rP N T (pGo N T m D c).1 u' w' → ((pGo N T m D c).1.2.1 = 0 → oD N T (pGo N T m D c).2 ∧ rDr N T (pGo N T m D c).2 u' w') → xSn fRln u0 u' → wSn fRw w0 w' → P none u' w' r) →
    xEv g (d + 11) mX12_readAll 84 [some (.ref 655)] [] 698 u w r 698 P := by
  intro m
  induction m with
  | zero =>
    intro D c u w hc h hO f fw kk
    have q : ¬ c.2.1 = 0 := fun z => by
      have := hc z
      omega
    refine TX12_readAll_84 ?_
    rw [h.2.2.2.1, f9_0 h.2.2.1]
    exact brF (fun z => q z.1) (kk u w h hO f fw)
  | succ m ih =>
    intro D c u w hc h hO f fw kk
    have k33 := kK_small ok c.1
    have e6 : u 655 6 = nI (srt (kK N T c.1)) := h.2.1.2.1
    have key : ∀ k, k < 34 → (nI (srt k) = (0 : Int32) ↔ k = 0) := by decide +kernel
    refine TX12_readAll_84 ?_
    rw [h.2.2.2.1, f9_0 h.2.2.1, e6, key _ (by omega)]
    by_cases q : c.2.1 = 0 ∧ ¬ kK N T c.1 = 0
    · have e : pGo N T (m + 1) D c = pGo N T m (pLine N T D c).2 (pLine N T D c).1 := by rw [pGo, if_pos q]
      rw [e] at kk
      obtain ⟨c1, c2⟩ := hc q.1
      refine brT q (R_readLine (d := d) hr ok hM hMN h q.1 c1 (hO q.1).1 (hO q.1).2 (fun u2 w2 y1 y2 y3 y4 => ⟨rfl, rfl, ?_⟩))
      refine ih (pLine N T D c).2 (pLine N T D c).1 u2 w2 (fun z => ?_) y1 (fun z => ⟨pLine_ok hM q.1 c1 (hO q.1).1 z, y2 z⟩) (f.tr y3) (fw.tr y4) kk
      have := pLine_mv hM q.1 c1 z
      omega
    · rw [pGo_stop q] at kk
      exact brF q (kk u w h hO f fw)
theorem R_readAll {u : xU} {w : xW} (hr : xRf r) (ok : tpOk N T) (hT : rTp N T u)
    (kk : ∀ u' w', u' 655 2 = nI (pAll N T).1.2.1 → u' 655 3 = (pAll N T).1.2.2 → (pAll N T).1.2.1 ≤ 9 → ((pAll N T).1.2.1 = 0 → oD N T (pAll N T).2 ∧ rDr N T (pAll N T).2 u' w') → u' 655 1 = 0 → xSn fRal u u' → wSn fRw w w' → P none u' w' r) :
    xCall g (d + 11) mX12_readAll [.ref 655] 698 u w r 698 P := by
  obtain ⟨M, m1, hM⟩ := exM N T
  have n16 := ok.1
  refine CX12_readAll ?_
  rw [hT.1]
  have fU := raU_fr u (nI N)
  obtain ⟨⟨a5, a1, a4, a2, a3⟩, b43, b44, b45, b46, b47, b48, b54, b55, b20⟩ := raU_at u (nI N)
  change xCall g (d + 10) mX12_token [.ref 655] 698 (raU u (nI N)) w r 698 _
  generalize raU u (nI N) = u1 at fU a5 a1 a4 a2 a3 b43 b44 b45 b46 b47 b48 b54 b55 b20
  have hS : rSz N T u1 := ⟨a5, fun i hi => (fU _ _ (by omega)).trans (hT.2 i hi)⟩
  refine R_token (d := d + 9) (p := 0) hr ok (Nat.zero_le _) hS a4 (fun u2 w2 y1 y2 y3 => ⟨rfl, rfl, ?_⟩)
  have h : rP N T (0, 0, -1) u2 w2 := ⟨hS.kept y2 (by omega) (fun i => by omega), y1, Nat.zero_le _, (y2 _ _ (by omega)).trans a2, (y2 _ _ (by omega)).trans a3⟩
  have hD : rDr N T D0 u2 w2 := ⟨fun i hi => absurd hi (Nat.not_lt_zero _), fun i hi => absurd hi (Nat.not_lt_zero _), fun i hi => absurd hi (Nat.not_lt_zero _), (y2 _ _ (by omega)).trans b43, ⟨(y2 _ _ (by omega)).trans b44, fun i hi => absurd hi (Nat.not_lt_zero _)⟩, ⟨(y2 _ _ (by omega)).trans b45, fun i hi => absurd hi (Nat.not_lt_zero _)⟩, ⟨(y2 _ _ (by omega)).trans b46, fun i hi => absurd hi (Nat.not_lt_zero _)⟩, (y2 _ _ (by omega)).trans b54, (y2 _ _ (by omega)).trans b55, fun _ => ⟨(y2 _ _ (by omega)).trans b47, (y2 _ _ (by omega)).trans b48⟩, fun z => absurd (show (0 : Nat) = 1 from z) (by decide), (y2 _ _ (by omega)).trans b20, fun z => absurd (show (0 : Nat) = 1 from z) (by decide)⟩
  refine R_read_84 (d := d) hr ok hM (by omega) 1601 D0 (0, 0, -1) u2 w2 (fun _ => ⟨Nat.zero_le _, by show M < 0 + 1601; omega⟩) h (fun _ => ⟨oD_0 N T, hD⟩) xSn.rf wSn.rf (fun u3 w3 z1 z2 z3 z4 => ?_)
  exact kk u3 w3 z1.2.2.2.1 z1.2.2.2.2 z1.2.2.1 z2 ((z3 _ _ (by omega)).trans ((y2 _ _ (by omega)).trans a1)) ((fU.to (fun b i z => by omega)).tr ((y2.to (fun b i z => by omega)).tr (z3.to (fun b i z => Or.inl z)))) ((y3.to (fun b i z => Or.inl z)).tr z4)
end READR
