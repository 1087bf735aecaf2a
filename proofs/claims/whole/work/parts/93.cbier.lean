/-! A BIER is told: the class -/
def cBi (l : Nat) (L : xU) (n : Nat) (u : xU) : Prop := u l 5 = nI n ∧ ∀ k, k < n → u (l + 4) k = L 4 k ∧ u (l + 5) k = L 5 k ∧ u (l + 6) k = L 6 k ∧ u (l + 7) k = L 7 k
def biPut (L : xU) (n : Nat) (a b c e : Int32) : xU := x2 (x2 (x2 (x2 L 4 n a) 5 n b) 6 n c) 7 n e
theorem cBi.kept {l n : Nat} {L u u' : xU} (h : cBi l L n u) {F : Nat → Nat → Prop} (f : xSn F u u') (h1 : ∀ b i, l ≤ b → b ≤ l + 7 → ¬ F b i) : cBi l L n u' := by
  refine ⟨(f _ _ (h1 _ _ (by omega) (by omega))).trans h.1, fun k hk => ?_⟩
  rw [f _ _ (h1 (l + 4) k (by omega) (by omega)), f _ _ (h1 (l + 5) k (by omega) (by omega)), f _ _ (h1 (l + 6) k (by omega) (by omega)), f _ _ (h1 (l + 7) k (by omega) (by omega))]
  exact h.2 k hk
theorem cBi.put {l n : Nat} {L u : xU} {a b c e : Int32} (h : cBi l L n u) : cBi l (biPut L n a b c e) (n + 1) (x2 (x2 (x2 (x2 (x2 u (l + 4) n a) (l + 5) n b) (l + 6) n c) (l + 7) n e) l 5 (nI (n + 1))) := by
  refine ⟨x2_same _ _ _ _, fun k hk => ?_⟩
  unfold biPut
  by_cases y : k = n
  · subst y
    refine ⟨?_, ?_, ?_, ?_⟩
    · rw [x2_a _ _ (by omega), x2_a _ _ (by omega), x2_a _ _ (by omega), x2_a _ _ (by omega), x2_same, x2_a _ _ (by omega), x2_a _ _ (by omega), x2_a _ _ (by omega), x2_same]
    · rw [x2_a _ _ (by omega), x2_a _ _ (by omega), x2_a _ _ (by omega), x2_same, x2_a _ _ (by omega), x2_a _ _ (by omega), x2_same]
    · rw [x2_a _ _ (by omega), x2_a _ _ (by omega), x2_same, x2_a _ _ (by omega), x2_same]
    · rw [x2_a _ _ (by omega), x2_same, x2_same]
  · obtain ⟨a1, a2, a3, a4⟩ := h.2 k (by omega)
    refine ⟨?_, ?_, ?_, ?_⟩
    · rw [x2_a _ _ (by omega), x2_a _ _ (by omega), x2_a _ _ (by omega), x2_a _ _ (by omega), x2_i _ _ y, x2_a _ _ (by omega), x2_a _ _ (by omega), x2_a _ _ (by omega), x2_i _ _ y, a1]
    · rw [x2_a _ _ (by omega), x2_a _ _ (by omega), x2_a _ _ (by omega), x2_i _ _ y, x2_a _ _ (by omega), x2_a _ _ (by omega), x2_a _ _ (by omega), x2_i _ _ y, x2_a _ _ (by omega), a2]
    · rw [x2_a _ _ (by omega), x2_a _ _ (by omega), x2_i _ _ y, x2_a _ _ (by omega), x2_a _ _ (by omega), x2_a _ _ (by omega), x2_i _ _ y, x2_a _ _ (by omega), x2_a _ _ (by omega), a3]
    · rw [x2_a _ _ (by omega), x2_i _ _ y, x2_a _ _ (by omega), x2_a _ _ (by omega), x2_a _ _ (by omega), x2_i _ _ y, x2_a _ _ (by omega), x2_a _ _ (by omega), x2_a _ _ (by omega), a4]
/-- where the reading stands, step by step -/
def pB3 (N : Nat) (T : Nat → Int32) (nm : Nat → Nat) (n : Nat) (nb : Nat → Nat) (k kw : Nat) (c : pC) : pC := pWant N T kw (pNew N T nb k c)
def pB5 (N : Nat) (T : Nat → Int32) (nm : Nat → Nat) (n : Nat) (nb : Nat → Nat) (k kw : Nat) (c : pC) : pC := pWant N T 22 (pVil N T nm n 100 (pB3 N T nm n nb k kw c))
def pB6 (N : Nat) (T : Nat → Int32) (nm : Nat → Nat) (n : Nat) (nb : Nat → Nat) (k kw : Nat) (c : pC) : pC := pVil N T nm n (fd N T nm (pB3 N T nm n nb k kw c).1 n) (pB5 N T nm n nb k kw c)
def pB7 (N : Nat) (T : Nat → Int32) (nm : Nat → Nat) (n : Nat) (nb : Nat → Nat) (k : Nat) (c : pC) : pC := pWant N T 23 (pB6 N T nm n nb k 21 c)
def pB8 (N : Nat) (T : Nat → Int32) (nm : Nat → Nat) (n : Nat) (nb : Nat → Nat) (k : Nat) (c : pC) : pC := pNum N T 0 60 (pB7 N T nm n nb k c)
def pBier (N : Nat) (T : Nat → Int32) (nm : Nat → Nat) (n : Nat) (nb : Nat → Nat) (k : Nat) (c : pC) : pC := pOpt N T 24 1 9 (pB8 N T nm n nb k c)
def bierL (N : Nat) (T : Nat → Int32) (nm : Nat → Nat) (n : Nat) (nb : Nat → Nat) (k : Nat) (L : xU) (c : pC) : xU :=
  biPut L k (nI (fd N T nm (pB3 N T nm n nb k 21 c).1 n)) (nI (fd N T nm (pB5 N T nm n nb k 21 c).1 n)) (nI (kV N T (pB7 N T nm n nb k c).1)) (if pSee N T 24 (pB8 N T nm n nb k c) then nI (kV N T ((pB8 N T nm n nb k c).1 + 1)) else 2)
theorem pOpt_0 {N : Nat} {T : Nat → Int32} {k lo hi : Nat} {c : pC} (h : (pOpt N T k lo hi c).2.1 = 0) : c.2.1 = 0 := by
  refine Classical.byContradiction (fun z => ?_)
  unfold pOpt at h
  rw [if_neg (fun y => z y.1)] at h
  exact z h
theorem pWant_0 {N : Nat} {T : Nat → Int32} {k : Nat} {c : pC} (h : (pWant N T k c).2.1 = 0) : c.2.1 = 0 := Classical.byContradiction (fun z => by rw [pWant_f z] at h; exact z h)
section CBIER
variable {g : xGT} {d : Nat} {w : xW} {r : xQ} {N : Nat} {T : Nat → Int32} {M : Nat} {c : pC} {nm nb : Nat → Nat} {n k l : Nat} {L : xU}
theorem K_bier_77 {u : xU} {P : xPost} {a b e f : Int32} (h_l : xLd l) (q_l : xLr l r) (h94 : r 9 4 = some l) (hl : l = 22 ∨ l = 37) (h : cP N T M c u w) (hb : cBi l L k u) (hk : k < 6)
    (kk : ∀ u', (c.2.1 = 0 → cBi l (biPut L k a b e f) (k + 1) u') → cP N T M c u' w → xSn (fun x i => (x = l ∧ i = 5) ∨ (l + 4 ≤ x ∧ x ≤ l + 7)) u u' → P none u' w r) :
    xEv g (d + 3) mX7_readBier 77 [some (.ref 9), some (.int a), some (.int b), some (.int e), some (.int f)] [] 698 u w r 698 P := by
  refine TX7_readBier_77 h_l h94 ?_
  rw [h.2.2.2.2.1, f9_0 h.2.2.1]
  by_cases q : c.2.1 = 0
  · have f1 : xSn (fun x i => (x = l ∧ i = 5) ∨ (l + 4 ≤ x ∧ x ≤ l + 7)) u (x2 (x2 (x2 (x2 (x2 u (l + 4) k a) (l + 5) k b) (l + 6) k e) (l + 7) k f) l 5 (nI (k + 1))) := (((((xSn.rf).put (Or.inr ⟨by omega, by omega⟩)).put (Or.inr ⟨by omega, by omega⟩)).put (Or.inr ⟨by omega, by omega⟩)).put (Or.inr ⟨by omega, by omega⟩)).put (Or.inl ⟨rfl, rfl⟩)
    exact brT q (K_addBier h_l q_l hk hb.1 ⟨rfl, rfl, rfl, kk _ (fun _ => hb.put) (h.keptU f1 (fun b i => by omega)) f1⟩)
  · exact brF q (kk u (fun z => absurd z q) h xSn.rf)
end CBIER
