/-! THE DRAFT of a land: what the class adds -/
section DRAFT
variable {g : xGT} {d : Nat} {w : xW} {r : xQ} {l n : Nat}
theorem K_addWay {u : xU} {P : xPost} {a b c : Int32} (h_l : xLd l) (q_l : xLr l r) (hn : n < 12) (h1 : u l 1 = nI n) (kk : P none (x2 (x2 (x2 (x2 u (l + 1) n a) (l + 2) n b) (l + 3) n c) l 1 (nI (n + 1))) w r) : xCall g d mX2_addWay [.ref l, .int a, .int b, .int c] 698 u w r 698 P := by
  have e1 : ∀ x, (x2 u (l + 1) n x) l 1 = nI n := fun x => (x2_a _ _ (by omega)).trans h1
  have e2 : ∀ x y, (x2 (x2 u (l + 1) n x) (l + 2) n y) l 1 = nI n := fun x y => (x2_a _ _ (by omega)).trans (e1 x)
  have e3 : ∀ x y z, (x2 (x2 (x2 u (l + 1) n x) (l + 2) n y) (l + 3) n z) l 1 = nI n := fun x y z => (x2_a _ _ (by omega)).trans (e2 x y)
  refine CX2_addWay h_l q_l (brF (by rw [h1]; exact nI_ge (b := 12) (by omega) (by omega)) ?_)
  rw [h1, nc (by omega), e1, nc (by omega), e2, nc (by omega), e3, nI_one]
  exact ⟨vpn (by omega) (by omega), vpn (by omega) (by omega), vpn (by omega) (by omega), kk⟩
theorem K_addBier {u : xU} {P : xPost} {a b c e : Int32} (h_l : xLd l) (q_l : xLr l r) (hn : n < 6) (h1 : u l 5 = nI n) (kk : P none (x2 (x2 (x2 (x2 (x2 u (l + 4) n a) (l + 5) n b) (l + 6) n c) (l + 7) n e) l 5 (nI (n + 1))) w r) : xCall g d mX2_addBier [.ref l, .int a, .int b, .int c, .int e] 698 u w r 698 P := by
  have e1 : ∀ x, (x2 u (l + 4) n x) l 5 = nI n := fun x => (x2_a _ _ (by omega)).trans h1
  have e2 : ∀ x y, (x2 (x2 u (l + 4) n x) (l + 5) n y) l 5 = nI n := fun x y => (x2_a _ _ (by omega)).trans (e1 x)
  have e3 : ∀ x y z, (x2 (x2 (x2 u (l + 4) n x) (l + 5) n y) (l + 6) n z) l 5 = nI n := fun x y z => (x2_a _ _ (by omega)).trans (e2 x y)
  have e4 : ∀ x y z t, (x2 (x2 (x2 (x2 u (l + 4) n x) (l + 5) n y) (l + 6) n z) (l + 7) n t) l 5 = nI n := fun x y z t => (x2_a _ _ (by omega)).trans (e3 x y z)
  refine CX2_addBier h_l q_l (brF (by rw [h1]; exact nI_ge (b := 6) (by omega) (by omega)) ?_)
  rw [h1, nc (by omega), e1, nc (by omega), e2, nc (by omega), e3, nc (by omega), e4, nI_one]
  exact ⟨vpn (by omega) (by omega), vpn (by omega) (by omega), vpn (by omega) (by omega), vpn (by omega) (by omega), kk⟩
theorem K_addLetterTold {u : xU} {P : xPost} {a b c e : Int32} (h_l : xLd l) (q_l : xLr l r) (hn : n < 8) (h1 : u l 10 = nI n) (kk : P none (x2 (x2 (x2 (x2 (x2 u (l + 8) n a) (l + 9) n b) (l + 10) n c) (l + 11) n e) l 10 (nI (n + 1))) w r) : xCall g d mX2_addLetter [.ref l, .int a, .int b, .int c, .int e] 698 u w r 698 P := by
  have e1 : ∀ x, (x2 u (l + 8) n x) l 10 = nI n := fun x => (x2_a _ _ (by omega)).trans h1
  have e2 : ∀ x y, (x2 (x2 u (l + 8) n x) (l + 9) n y) l 10 = nI n := fun x y => (x2_a _ _ (by omega)).trans (e1 x)
  have e3 : ∀ x y z, (x2 (x2 (x2 u (l + 8) n x) (l + 9) n y) (l + 10) n z) l 10 = nI n := fun x y z => (x2_a _ _ (by omega)).trans (e2 x y)
  have e4 : ∀ x y z t, (x2 (x2 (x2 (x2 u (l + 8) n x) (l + 9) n y) (l + 10) n z) (l + 11) n t) l 10 = nI n := fun x y z t => (x2_a _ _ (by omega)).trans (e3 x y z)
  refine CX2_addLetter h_l q_l (brF (by rw [h1]; exact nI_ge (b := 8) (by omega) (by omega)) ?_)
  rw [h1, nc (by omega), e1, nc (by omega), e2, nc (by omega), e3, nc (by omega), e4, nI_one]
  exact ⟨vpn (by omega) (by omega), vpn (by omega) (by omega), vpn (by omega) (by omega), vpn (by omega) (by omega), kk⟩
end DRAFT
