/-! A LETTER is told: what the class adds -/
def cLt (l : Nat) (E : xU) (n : Nat) (u : xU) : Prop := u l 10 = nI n ∧ ∀ k, k < n → u (l + 8) k = E 0 k ∧ u (l + 9) k = E 1 k ∧ u (l + 10) k = E 2 k ∧ u (l + 11) k = E 3 k
def ltPut (E : xU) (n : Nat) (a b c e : Int32) : xU := x2 (x2 (x2 (x2 E 0 n a) 1 n b) 2 n c) 3 n e
theorem cLt.kept {l n : Nat} {L u u' : xU} (h : cLt l L n u) {F : Nat → Nat → Prop} (f : xSn F u u') (h1 : ∀ b i, l ≤ b → b ≤ l + 11 → ¬ F b i) : cLt l L n u' := by
  refine ⟨(f _ _ (h1 _ _ (by omega) (by omega))).trans h.1, fun k hk => ?_⟩
  rw [f _ _ (h1 (l + 8) k (by omega) (by omega)), f _ _ (h1 (l + 9) k (by omega) (by omega)), f _ _ (h1 (l + 10) k (by omega) (by omega)), f _ _ (h1 (l + 11) k (by omega) (by omega))]
  exact h.2 k hk
theorem cLt.put {l n : Nat} {L u : xU} {a b c e : Int32} (h : cLt l L n u) : cLt l (ltPut L n a b c e) (n + 1) (x2 (x2 (x2 (x2 (x2 u (l + 8) n a) (l + 9) n b) (l + 10) n c) (l + 11) n e) l 10 (nI (n + 1))) := by
  refine ⟨x2_same _ _ _ _, fun k hk => ?_⟩
  unfold ltPut
  by_cases y : k = n
  · subst y
    refine ⟨?_, ?_, ?_, ?_⟩
    · rw [x2_a _ _ (by omega), x2_a _ _ (by omega), x2_a _ _ (by omega), x2_a _ _ (by omega), x2_same, x2_a _ _ (by omega), x2_a _ _ (by omega), x2_a _ _ (by omega), x2_same]
    · rw [x2_a _ _ (by omega), x2_a _ _ (by omega), x2_a _ _ (by omega), x2_same, x2_a _ _ (by omega), x2_a _ _ (by omega), x2_same]
    · rw [x2_a _ _ (by omega), x2_a _ _ (by omega), x2_same, x2_a _ _ (by omega), x2_same]
    · rw [x2_a _ _ (by omega), x2_same, x2_same]
  · obtain ⟨a1, a2, a3, a4⟩ := h.2 k (by omega)
    refine ⟨?_, ?_, ?_, ?_⟩
    · rw [x2_a _ _ (by omega), x2_a _ _ (by omega), x2_a _ _ (by omega), x2_a _ _ (by omega), x2_i _ _ y, x2_a _ _ (by omega), x2_a _ _ (by omega), x2_a _ _ (by omega), x2_i _ _ y, a1]
    · rw [x2_a _ _ (by omega), x2_a _ _ (by omega), x2_a _ _ (by omega), x2_i _ _ y, x2_a _ _ (by omega), x2_a _ _ (by omega), x2_a _ _ (by omega), x2_i _ _ y, x2_a _ _ (by omega), a2]
    · rw [x2_a _ _ (by omega), x2_a _ _ (by omega), x2_i _ _ y, x2_a _ _ (by omega), x2_a _ _ (by omega), x2_a _ _ (by omega), x2_i _ _ y, x2_a _ _ (by omega), x2_a _ _ (by omega), a3]
    · rw [x2_a _ _ (by omega), x2_i _ _ y, x2_a _ _ (by omega), x2_a _ _ (by omega), x2_a _ _ (by omega), x2_i _ _ y, x2_a _ _ (by omega), x2_a _ _ (by omega), x2_a _ _ (by omega), a4]
section CLETT
variable {g : xGT} {d : Nat} {w : xW} {r : xQ} {N : Nat} {T : Nat → Int32} {M : Nat} {c : pC} {k l : Nat} {E : xU}
theorem K_lett_95 {u : xU} {P : xPost} {a b e f : Int32} (h_l : xLd l) (q_l : xLr l r) (h94 : r 9 4 = some l) (hl : l = 22 ∨ l = 37) (h : cP N T M c u w) (hb : cLt l E k u) (hk : k < 8)
    (kk : ∀ u', (c.2.1 = 0 → cLt l (ltPut E k a b e f) (k + 1) u') → cP N T M c u' w → xSn (fun x i => (x = l ∧ i = 10) ∨ (l + 8 ≤ x ∧ x ≤ l + 11)) u u' → P none u' w r) :
    xEv g (d + 3) mX7_readLetter 95 [some (.ref 9), some (.int a), some (.int b), some (.int e), some (.int f)] [] 698 u w r 698 P := by
  refine TX7_readLetter_95 h_l h94 ?_
  rw [h.2.2.2.2.1, f9_0 h.2.2.1]
  by_cases q : c.2.1 = 0
  · have f1 : xSn (fun x i => (x = l ∧ i = 10) ∨ (l + 8 ≤ x ∧ x ≤ l + 11)) u (x2 (x2 (x2 (x2 (x2 u (l + 8) k a) (l + 9) k b) (l + 10) k e) (l + 11) k f) l 10 (nI (k + 1))) := (((((xSn.rf).put (Or.inr ⟨by omega, by omega⟩)).put (Or.inr ⟨by omega, by omega⟩)).put (Or.inr ⟨by omega, by omega⟩)).put (Or.inr ⟨by omega, by omega⟩)).put (Or.inl ⟨rfl, rfl⟩)
    exact brT q (K_addLetterTold h_l q_l hk hb.1 ⟨rfl, rfl, rfl, kk _ (fun _ => hb.put) (h.keptU f1 (fun b i => by omega)) f1⟩)
  · exact brF q (kk u (fun z => absurd z q) h xSn.rf)
end CLETT
