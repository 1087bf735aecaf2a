/-! A LAND BEGINS: the reference -/
/-- the row of the first day -/
def sRow (D : pD) (σ : Nat → Int32) : Prop :=
  (∀ b, b < 6 → σ b = 0 ∧ σ (6 + b) = (if b < D.1 1 then D.2.2.1 4 b else 0) ∧ (b < D.1 1 → σ (12 + b) = -1)) ∧
  (∀ i, i < D.1 2 → σ (18 + i) = D.2.2.2.1 0 i ∧ σ (28 + i) = -1 ∧ σ (38 + i) = -1 ∧ σ (48 + i) = 0 ∧ σ (58 + i) = D.2.2.2.1 1 i ∧ σ (68 + i) = D.2.2.2.1 2 i ∧ σ (78 + i) = D.2.2.2.1 3 i) ∧
  σ 88 = nI (D.1 2) ∧ σ 89 = 0 ∧ σ 90 = 0
def rbgn (D : pD) (u : xU) : Prop :=
  (u 655 49 = nI (D.1 0) ∧ u 655 50 = nI (D.1 3) ∧ u 655 51 = nI (D.1 1) ∧ (D.1 5 = 0 → u 655 52 = 300 ∧ u 655 53 = 0) ∧ (D.1 5 = 1 → u 655 52 = nI (D.1 7) ∧ u 655 53 = nI (D.1 8)) ∧ u 655 21 = nI (D.1 6) ∧ u 655 56 = nI (D.1 4) ∧ u 655 18 = nI D.2.2.2.2.length) ∧
  (∀ k, k < D.1 3 → u 668 k = D.2.2.1 1 k ∧ u 669 k = D.2.2.1 2 k ∧ u 670 k = D.2.2.1 3 k) ∧
  (∀ k, k < D.1 1 → u 675 k = D.2.2.1 4 k ∧ u 676 k = D.2.2.1 5 k ∧ u 677 k = D.2.2.1 6 k ∧ u 678 k = D.2.2.1 7 k) ∧
  (∀ k, k < D.2.2.2.2.length → u 660 k = nI (stp D.2.2.2.2 k).1 ∧ u 661 k = nI (stp D.2.2.2.2 k).2) ∧
  sRow D (u 683) ∧ (u 655 63 = 0 ∧ u 655 64 = 0 ∧ u 655 73 = 0 ∧ u 655 68 = 0) ∧ ∀ i, i < 3 → u 696 i = 0
section RLAND
variable {g : xGT} {d : Nat} {w : xW} {r : xQ} {P : xPost} {D : pD}
theorem R_ld_90 {u0 : xU} {n : Nat} (hr : xRf r) (hn : n ≤ 300) (h18 : u0 655 18 = nI n) (kk : ∀ u, (∀ i, i < n → u 660 i = u0 658 i ∧ u 661 i = u0 659 i) → xSm (fun b => b = 660 ∨ b = 661) u0 u → xEv g (d + 1) mX12_land 130 [some (.ref 655), some (.int (nI 0))] [] 698 u w r 698 P) :
    xEv g (d + 1) mX12_land 90 [some (.ref 655), some (.int (nI 0))] [] 698 u0 w r 698 P := by
  refine xlp (N := n) (Q := fun k u => (∀ i, i < k → u 660 i = u0 658 i ∧ u 661 i = u0 659 i) ∧ xSm (fun b => b = 660 ∨ b = 661) u0 u) (G := fun k u => xEv g (d + 1) mX12_land 90 [some (.ref 655), some (.int (nI k))] [] 698 u w r 698 P) ?_ ?_ ⟨fun b hb => absurd hb (Nat.not_lt_zero _), xSm.rf⟩
  · intro u h
    refine TX12_land_90 hr ?_
    rw [h.2 655 18 (by omega), h18]
    exact brT (nI_le (Nat.le_refl _) (by omega)) (kk u h.1 h.2)
  · intro k u hk h ih
    refine TX12_land_90 hr ?_
    rw [h.2 655 18 (by omega), h18, nc (by omega), nI_one, h.2 658 k (by omega), h.2 659 k (by omega)]
    refine brF (nI_ge (by omega) (by omega)) ⟨vpn (by omega) (by omega), ih _ ⟨fun i hi => ?_, (h.2.put (Or.inl rfl)).put (Or.inr rfl)⟩⟩
    by_cases q : i = k
    · subst q
      exact ⟨by rw [x2_a _ _ (by omega), x2_same], x2_same _ _ _ _⟩
    · rw [x2_a _ _ (by omega), x2_i _ _ q, x2_i _ _ q, x2_a _ _ (by omega)]
      exact h.1 i (by omega)
theorem R_ld_130 {u0 : xU} (hr : xRf r) (kk : ∀ u, (∀ i, i < 12 → u 668 i = u0 665 i ∧ u 669 i = u0 666 i ∧ u 670 i = u0 667 i) → xSm (fun b => b = 668 ∨ b = 669 ∨ b = 670) u0 u → xEv g (d + 1) mX12_land 180 [some (.ref 655), some (.int (nI 0))] [] 698 u w r 698 P) :
    xEv g (d + 1) mX12_land 130 [some (.ref 655), some (.int (nI 0))] [] 698 u0 w r 698 P := by
  refine xlp (N := 12) (Q := fun k u => (∀ i, i < k → u 668 i = u0 665 i ∧ u 669 i = u0 666 i ∧ u 670 i = u0 667 i) ∧ xSm (fun b => b = 668 ∨ b = 669 ∨ b = 670) u0 u) (G := fun k u => xEv g (d + 1) mX12_land 130 [some (.ref 655), some (.int (nI k))] [] 698 u w r 698 P) ?_ ?_ ⟨fun b hb => absurd hb (Nat.not_lt_zero _), xSm.rf⟩
  · intro u h
    exact TX12_land_130 hr (brT (nI_le (a := 12) (Nat.le_refl _) (by omega)) (kk u h.1 h.2))
  · intro k u hk h ih
    refine TX12_land_130 hr (brF (nI_ge (b := 12) (by omega) (by omega)) ⟨vpn (by omega) (by omega), ?_⟩)
    rw [nc (by omega), nI_one, h.2 665 k (by omega), h.2 666 k (by omega), h.2 667 k (by omega)]
    refine ih _ ⟨fun i hi => ?_, ((h.2.put (by omega)).put (by omega)).put (by omega)⟩
    by_cases q : i = k
    · subst q
      exact ⟨by rw [x2_a _ _ (by omega), x2_a _ _ (by omega), x2_same], by rw [x2_a _ _ (by omega), x2_same], x2_same _ _ _ _⟩
    · rw [x2_ne _ _ (by omega), x2_ne _ _ (by omega), x2_ne _ _ (by omega), x2_ne _ _ (by omega), x2_ne _ _ (by omega), x2_ne _ _ (by omega), x2_ne _ _ (by omega), x2_ne _ _ (by omega), x2_ne _ _ (by omega)]
      exact h.1 i (by omega)
theorem R_ld_180 {u0 : xU} (hr : xRf r) (kk : ∀ u, (∀ i, i < 91 → u 683 i = 0) → xSn (fun b i => b = 683 ∧ i < 91) u0 u → xEv g (d + 1) mX12_land 201 [some (.ref 655), some (.int (nI 0))] [] 698 u w r 698 P) :
    xEv g (d + 1) mX12_land 180 [some (.ref 655), some (.int (nI 0))] [] 698 u0 w r 698 P := by
  refine xlp (N := 91) (Q := fun k u => (∀ i, i < k → u 683 i = 0) ∧ xSn (fun b i => b = 683 ∧ i < 91) u0 u) (G := fun k u => xEv g (d + 1) mX12_land 180 [some (.ref 655), some (.int (nI k))] [] 698 u w r 698 P) ?_ ?_ ⟨fun b hb => absurd hb (Nat.not_lt_zero _), xSn.rf⟩
  · intro u h
    exact TX12_land_180 hr (brT (nI_le (a := 91) (Nat.le_refl _) (by omega)) (kk u h.1 h.2))
  · intro k u hk h ih
    refine TX12_land_180 hr (brF (nI_ge (b := 91) (by omega) (by omega)) ⟨vpn (by omega) (by omega), ?_⟩)
    rw [nc (by omega), nI_one]
    refine ih _ ⟨fun i hi => ?_, h.2.put ⟨rfl, hk⟩⟩
    by_cases q : i = k
    · rw [q, x2_same]
    · rw [x2_i _ _ q]; exact h.1 i (by omega)
theorem R_ld_201 {u0 : xU} {nB : Nat} (hr : xRf r) (hB : nB ≤ 6) (h51 : u0 655 51 = nI nB) (kk : ∀ u, (∀ b, b < 6 → (u 675 b = u0 671 b ∧ u 676 b = u0 672 b ∧ u 677 b = u0 673 b ∧ u 678 b = u0 674 b) ∧ u 683 (6 + b) = (if b < nB then u0 671 b else 0) ∧ u 683 (12 + b) = -1) → xSn (fun b i => b = 675 ∨ b = 676 ∨ b = 677 ∨ b = 678 ∨ (b = 683 ∧ 6 ≤ i ∧ i < 18)) u0 u → xEv g (d + 1) mX12_land 311 [some (.ref 655), some (.int (nI 0))] [] 698 (x2 u 683 88 (u 655 46)) w r 698 P) :
    xEv g (d + 1) mX12_land 201 [some (.ref 655), some (.int (nI 0))] [] 698 u0 w r 698 P := by
  refine xlp (N := 6) (Q := fun k u => (∀ b, b < k → (u 675 b = u0 671 b ∧ u 676 b = u0 672 b ∧ u 677 b = u0 673 b ∧ u 678 b = u0 674 b) ∧ u 683 (6 + b) = (if b < nB then u0 671 b else 0) ∧ u 683 (12 + b) = -1) ∧ xSn (fun b i => b = 675 ∨ b = 676 ∨ b = 677 ∨ b = 678 ∨ (b = 683 ∧ 6 ≤ i ∧ i < 18)) u0 u) (G := fun k u => xEv g (d + 1) mX12_land 201 [some (.ref 655), some (.int (nI k))] [] 698 u w r 698 P) ?_ ?_ ⟨fun b hb => absurd hb (Nat.not_lt_zero _), xSn.rf⟩
  · intro u h
    exact TX12_land_201 hr (brT (nI_le (a := 6) (Nat.le_refl _) (by omega)) (kk u h.1 h.2))
  · intro k u hk h ih
    refine TX12_land_201 hr ?_
    rw [show (6 : Int32) + nI k = nI (6 + k) from lit_add 6 k, show (12 : Int32) + nI k = nI (12 + k) from lit_add 12 k]
    refine brF (nI_ge (b := 6) (by omega) (by omega)) ⟨vpn (by omega) (by omega), vpn (by omega) (by omega), vpn (by omega) (by omega), ?_⟩
    rw [nc (k := k) (by omega), nc (k := 6 + k) (by omega), nc (k := 12 + k) (by omega), nI_one, h.2 671 k (by omega), h.2 672 k (by omega), h.2 673 k (by omega), h.2 674 k (by omega), h.2 655 51 (by omega), h51]
    have eI : (if nI nB ≤ nI k then (0 : Int32) else u0 671 k) = (if k < nB then u0 671 k else 0) := by
      by_cases q : k < nB
      · rw [if_pos q, if_neg (nI_ge q (by omega))]
      · rw [if_neg q, if_pos (nI_le (by omega) (by omega))]
    rw [eI]
    refine ih _ ⟨fun b hb => ?_, (((((h.2.put (by omega)).put (by omega)).put (by omega)).put (by omega)).put (by omega)).put (by omega)⟩
    by_cases q : b = k
    · subst q
      refine ⟨⟨?_, ?_, ?_, ?_⟩, ?_, x2_same _ _ _ _⟩
      · rw [x2_a _ _ (by omega), x2_a _ _ (by omega), x2_a _ _ (by omega), x2_a _ _ (by omega), x2_a _ _ (by omega), x2_same]
      · rw [x2_a _ _ (by omega), x2_a _ _ (by omega), x2_a _ _ (by omega), x2_a _ _ (by omega), x2_same]
      · rw [x2_a _ _ (by omega), x2_a _ _ (by omega), x2_a _ _ (by omega), x2_same]
      · rw [x2_a _ _ (by omega), x2_a _ _ (by omega), x2_same]
      · rw [x2_i _ _ (by omega), x2_same]
    · obtain ⟨⟨c1, c2, c3, c4⟩, c5, c6⟩ := h.1 b (by omega)
      refine ⟨⟨?_, ?_, ?_, ?_⟩, ?_, ?_⟩
      · rw [x2_ne _ _ (by omega), x2_ne _ _ (by omega), x2_ne _ _ (by omega), x2_ne _ _ (by omega), x2_ne _ _ (by omega), x2_ne _ _ (by omega)]; exact c1
      · rw [x2_ne _ _ (by omega), x2_ne _ _ (by omega), x2_ne _ _ (by omega), x2_ne _ _ (by omega), x2_ne _ _ (by omega), x2_ne _ _ (by omega)]; exact c2
      · rw [x2_ne _ _ (by omega), x2_ne _ _ (by omega), x2_ne _ _ (by omega), x2_ne _ _ (by omega), x2_ne _ _ (by omega), x2_ne _ _ (by omega)]; exact c3
      · rw [x2_ne _ _ (by omega), x2_ne _ _ (by omega), x2_ne _ _ (by omega), x2_ne _ _ (by omega), x2_ne _ _ (by omega), x2_ne _ _ (by omega)]; exact c4
      · rw [x2_ne _ _ (by omega), x2_ne _ _ (by omega), x2_ne _ _ (by omega), x2_ne _ _ (by omega), x2_ne _ _ (by omega), x2_ne _ _ (by omega)]; exact c5
      · rw [x2_ne _ _ (by omega), x2_ne _ _ (by omega), x2_ne _ _ (by omega), x2_ne _ _ (by omega), x2_ne _ _ (by omega), x2_ne _ _ (by omega)]; exact c6
theorem R_ld_311 {u0 E : xU} {nL : Nat} (hr : xRf r) (hn : nL ≤ 8) (hE : rLt E nL u0) (kk : ∀ u, (∀ i, i < nL → u 683 (18 + i) = E 0 i ∧ u 683 (28 + i) = -1 ∧ u 683 (38 + i) = -1 ∧ u 683 (48 + i) = 0 ∧ u 683 (58 + i) = E 1 i ∧ u 683 (68 + i) = E 2 i ∧ u 683 (78 + i) = E 3 i) → xSn (fun b i => b = 683 ∧ 18 ≤ i ∧ i < 88) u0 u → xEv g (d + 1) mX12_land 376 [some (.ref 655), some (.int (nI 0))] [] 698 (x2 (x2 (x2 (x2 u 655 63 (0 : Int32)) 655 64 (0 : Int32)) 655 73 (0 : Int32)) 655 68 (0 : Int32)) w r 698 P) :
    xEv g (d + 1) mX12_land 311 [some (.ref 655), some (.int (nI 0))] [] 698 u0 w r 698 P := by
  refine xlp (N := nL) (Q := fun k u => (∀ i, i < k → u 683 (18 + i) = E 0 i ∧ u 683 (28 + i) = -1 ∧ u 683 (38 + i) = -1 ∧ u 683 (48 + i) = 0 ∧ u 683 (58 + i) = E 1 i ∧ u 683 (68 + i) = E 2 i ∧ u 683 (78 + i) = E 3 i) ∧ xSn (fun b i => b = 683 ∧ 18 ≤ i ∧ i < 88) u0 u) (G := fun k u => xEv g (d + 1) mX12_land 311 [some (.ref 655), some (.int (nI k))] [] 698 u w r 698 P) ?_ ?_ ⟨fun b hb => absurd hb (Nat.not_lt_zero _), xSn.rf⟩
  · intro u h
    refine TX12_land_311 hr ?_
    rw [h.2 655 46 (by omega), hE.1]
    exact brT (nI_le (Nat.le_refl _) (by omega)) (kk u h.1 h.2)
  · intro k u hk h ih
    obtain ⟨e1, e2, e3, e4⟩ := hE.2 k hk
    refine TX12_land_311 hr ?_
    rw [h.2 655 46 (by omega), hE.1, nc (by omega), h.2 679 k (by omega), h.2 680 k (by omega), h.2 681 k (by omega), h.2 682 k (by omega), e1, e2, e3, e4, nI_one]
    refine brF (nI_ge (by omega) (by omega)) ⟨vpn (by omega) (by omega), CX12_layLetter hr ?_⟩
    rw [show (18 : Int32) + nI k = nI (18 + k) from lit_add 18 k, show (28 : Int32) + nI k = nI (28 + k) from lit_add 28 k, show (38 : Int32) + nI k = nI (38 + k) from lit_add 38 k, show (48 : Int32) + nI k = nI (48 + k) from lit_add 48 k, show (58 : Int32) + nI k = nI (58 + k) from lit_add 58 k, show (68 : Int32) + nI k = nI (68 + k) from lit_add 68 k, show (78 : Int32) + nI k = nI (78 + k) from lit_add 78 k]
    rw [nc (k := 18 + k) (by omega), nc (k := 28 + k) (by omega), nc (k := 38 + k) (by omega), nc (k := 48 + k) (by omega), nc (k := 58 + k) (by omega), nc (k := 68 + k) (by omega), nc (k := 78 + k) (by omega)]
    refine ⟨vpn (by omega) (by omega), vpn (by omega) (by omega), vpn (by omega) (by omega), vpn (by omega) (by omega), vpn (by omega) (by omega), vpn (by omega) (by omega), vpn (by omega) (by omega), rfl, rfl, rfl, ih _ ⟨fun i hi => ?_, ((((((h.2.put (by omega)).put (by omega)).put (by omega)).put (by omega)).put (by omega)).put (by omega)).put (by omega)⟩⟩
    by_cases q : i = k
    · subst q
      refine ⟨?_, ?_, ?_, ?_, ?_, ?_, x2_same _ _ _ _⟩
      · rw [x2_i _ _ (by omega), x2_i _ _ (by omega), x2_i _ _ (by omega), x2_i _ _ (by omega), x2_i _ _ (by omega), x2_i _ _ (by omega), x2_same]
      · rw [x2_i _ _ (by omega), x2_i _ _ (by omega), x2_i _ _ (by omega), x2_i _ _ (by omega), x2_i _ _ (by omega), x2_same]
      · rw [x2_i _ _ (by omega), x2_i _ _ (by omega), x2_i _ _ (by omega), x2_i _ _ (by omega), x2_same]
      · rw [x2_i _ _ (by omega), x2_i _ _ (by omega), x2_i _ _ (by omega), x2_same]
      · rw [x2_i _ _ (by omega), x2_i _ _ (by omega), x2_same]
      · rw [x2_i _ _ (by omega), x2_same]
    · have o : ∀ j, (∀ a, (a = 18 ∨ a = 28 ∨ a = 38 ∨ a = 48 ∨ a = 58 ∨ a = 68 ∨ a = 78) → ¬ j = a + k) → (x2 (x2 (x2 (x2 (x2 (x2 (x2 u 683 (18 + k) (E 0 k)) 683 (28 + k) (-1)) 683 (38 + k) (-1)) 683 (48 + k) 0) 683 (58 + k) (E 1 k)) 683 (68 + k) (E 2 k)) 683 (78 + k) (E 3 k)) 683 j = u 683 j := fun j hj => by
        rw [x2_i _ _ (hj 78 (by omega)), x2_i _ _ (hj 68 (by omega)), x2_i _ _ (hj 58 (by omega)), x2_i _ _ (hj 48 (by omega)), x2_i _ _ (hj 38 (by omega)), x2_i _ _ (hj 28 (by omega)), x2_i _ _ (hj 18 (by omega))]
      rw [o (18 + i) (fun a ha => by omega), o (28 + i) (fun a ha => by omega), o (38 + i) (fun a ha => by omega), o (48 + i) (fun a ha => by omega), o (58 + i) (fun a ha => by omega), o (68 + i) (fun a ha => by omega), o (78 + i) (fun a ha => by omega)]
      exact h.1 i (by omega)
theorem R_ld_376 {u0 : xU} (hr : xRf r) (kk : ∀ u, (∀ i, i < 3 → u 696 i = 0) → xSm (fun b => b = 696) u0 u → P (some (.int (u 655 46))) u w r) :
    xEv g (d + 1) mX12_land 376 [some (.ref 655), some (.int (nI 0))] [] 698 u0 w r 698 P := by
  refine xlp (N := 3) (Q := fun k u => (∀ i, i < k → u 696 i = 0) ∧ xSm (fun b => b = 696) u0 u) (G := fun k u => xEv g (d + 1) mX12_land 376 [some (.ref 655), some (.int (nI k))] [] 698 u w r 698 P) ?_ ?_ ⟨fun b hb => absurd hb (Nat.not_lt_zero _), xSm.rf⟩
  · intro u h
    exact TX12_land_376 hr (brT (nI_le (a := 3) (Nat.le_refl _) (by omega)) (kk u h.1 h.2))
  · intro k u hk h ih
    refine TX12_land_376 hr (brF (nI_ge (b := 3) (by omega) (by omega)) ⟨vpn (by omega) (by omega), ?_⟩)
    rw [nc (by omega), nI_one]
    refine ih _ ⟨fun i hi => ?_, h.2.put rfl⟩
    by_cases q : i = k
    · rw [q, x2_same]
    · rw [x2_i _ _ q]; exact h.1 i (by omega)
abbrev fRla : Nat → Nat → Prop := fun b i => (657 ≤ b ∧ b ≤ 662) ∨ (665 ≤ b ∧ b ≤ 682) ∨ b = 696 ∨ (b = 683 ∧ i < 91) ∨ (b = 655 ∧ ((1 ≤ i ∧ i ≤ 56) ∨ (63 ≤ i ∧ i ≤ 64) ∨ i = 68 ∨ i = 73))
def rlU (u : xU) (s : Int32) : xU := x2 (x2 (x2 (x2 (x2 (x2 (x2 (x2 u 655 49 (u 655 43)) 655 50 (u 655 44)) 655 51 (u 655 45)) 655 52 (u 655 47)) 655 53 (u 655 48)) 655 21 (u 655 20)) 655 56 (u 655 54)) 655 18 s
theorem rlU_fr (u : xU) (s : Int32) : xSn (fun b i => b = 655 ∧ (i = 49 ∨ i = 50 ∨ i = 51 ∨ i = 52 ∨ i = 53 ∨ i = 21 ∨ i = 56 ∨ i = 18)) u (rlU u s) := by
  unfold rlU
  exact ((((((((xSn.rf).put (by omega)).put (by omega)).put (by omega)).put (by omega)).put (by omega)).put (by omega)).put (by omega)).put (by omega)
theorem rlU_at (u : xU) (s : Int32) : rlU u s 655 49 = u 655 43 ∧ rlU u s 655 50 = u 655 44 ∧ rlU u s 655 51 = u 655 45 ∧ rlU u s 655 52 = u 655 47 ∧ rlU u s 655 53 = u 655 48 ∧ rlU u s 655 21 = u 655 20 ∧ rlU u s 655 56 = u 655 54 ∧ rlU u s 655 18 = s :=
  ⟨rfl, rfl, rfl, rfl, rfl, rfl, rfl, rfl⟩
theorem R_land {u : xU} {N : Nat} {T : Nat → Int32} (hr : xRf r) (ok : tpOk N T) (hT : rTp N T u)
    (kf : ¬ (pAll N T).1.2.1 = 0 → ∀ u' w', u' 655 2 = nI (pAll N T).1.2.1 → u' 655 3 = (pAll N T).1.2.2 → u' 655 1 = 0 → xSn fRal u u' → wSn fRw w w' → P (some (.int (-1))) u' w' r)
    (kk : (pAll N T).1.2.1 = 0 → oD N T (pAll N T).2 → ∀ u' w', u' 655 2 = nI (pAll N T).1.2.1 → u' 655 3 = (pAll N T).1.2.2 → u' 655 1 = 0 → rbgn (pAll N T).2 u' → xSn fRla u u' → wSn fRw w w' → P (some (.int (nI ((pAll N T).2.1 2)))) u' w' r) :
    xCall g (d + 12) mX12_land [.ref 655] 698 u w r 698 P := by
  refine CX12_land (R_readAll (d := d) hr ok hT (fun u1 w1 y1 y2 y9 y3 y4 y5 y6 => ⟨rfl, rfl, ?_⟩))
  rw [y1, f9_le y9]
  by_cases q : (pAll N T).1.2.1 = 0
  · obtain ⟨hO, hD⟩ := y3 q
    have kk' := kk q hO
    generalize (pAll N T).2 = D at hO hD kk'
    obtain ⟨-, ⟨o1, o2, o3, o4⟩, ⟨o5, o6⟩, ow0, ow1, -⟩ := hO
    obtain ⟨d1, d2, d3, d4, d5, d6, d7, d8, d9, e1, e2, e3, e4⟩ := hD
    have b54 : u1 655 54 = 0 ↔ D.1 4 = 0 := by rw [d8]; exact eq_nI (b := 0) (by omega) (by omega)
    have s17 : (if u1 655 54 = 0 then (0 : Int32) else u1 655 17) = nI D.2.2.2.2.length := by
      by_cases z : D.1 4 = 0
      · rw [if_pos (b54.2 z), (ow0 z).2]; rfl
      · rw [if_neg (fun y => z (b54.1 y))]
        exact (e4 (by omega)).1
    have n270 : D.2.2.2.2.length ≤ 270 := by
      by_cases z : D.1 4 = 0
      · rw [(ow0 z).2]; exact Nat.zero_le _
      · exact (ow1 (by omega)).2.2.1
    refine brT q ⟨?_, ?_⟩
    · rw [d8]
      by_cases z : D.1 4 = 0
      · rw [z]; exact Or.inl rfl
      · rw [show D.1 4 = 1 by omega]; exact Or.inr rfl
    · rw [s17]
      have fU := rlU_fr u1 (nI D.2.2.2.2.length)
      obtain ⟨a49, a50, a51, a52, a53, a21, a56, a18⟩ := rlU_at u1 (nI D.2.2.2.2.length)
      change xEv g (d + 12) mX12_land 90 _ _ 698 (rlU u1 (nI D.2.2.2.2.length)) w1 r 698 P
      generalize rlU u1 (nI D.2.2.2.2.length) = u2 at fU a49 a50 a51 a52 a53 a21 a56 a18
      refine R_ld_90 (d := d + 11) (n := D.2.2.2.2.length) hr (by omega) a18 (fun u3 c3 f3 => ?_)
      refine R_ld_130 (d := d + 11) hr (fun u4 c4 f4 => ?_)
      refine R_ld_180 (d := d + 11) hr (fun u5 c5 f5 => ?_)
      have g25 : xSn (fun b i => (b = 660 ∨ b = 661) ∨ (b = 668 ∨ b = 669 ∨ b = 670) ∨ (b = 683 ∧ i < 91)) u2 u5 := (f3.n (fun b i z => Or.inl z)).tr ((f4.n (fun b i z => Or.inr (Or.inl z))).tr (f5.to (fun b i z => Or.inr (Or.inr z))))
      refine R_ld_201 (d := d + 11) (nB := D.1 1) hr o2 ((g25 _ _ (by omega)).trans (a51.trans d6.1)) (fun u6 c6 f6 => ?_)
      have e46 : u6 655 46 = nI (D.1 2) := (f6 _ _ (by omega)).trans ((g25 _ _ (by omega)).trans ((fU _ _ (by omega)).trans d7.1))
      rw [e46]
      have f7 : xSn (fun b i => b = 683 ∧ i = 88) u6 (x2 u6 683 88 (nI (D.1 2))) := (xSn.rf).put ⟨rfl, rfl⟩
      have e7 : (x2 u6 683 88 (nI (D.1 2))) 683 88 = nI (D.1 2) := x2_same _ _ _ _
      generalize x2 u6 683 88 (nI (D.1 2)) = u7 at f7 e7
      have g27 : xSn (fun b i => ((b = 660 ∨ b = 661) ∨ (b = 668 ∨ b = 669 ∨ b = 670) ∨ (b = 683 ∧ i < 91)) ∨ (b = 675 ∨ b = 676 ∨ b = 677 ∨ b = 678)) u2 u7 := (g25.to (fun b i z => Or.inl z)).tr ((f6.to (fun b i z => by omega)).tr (f7.to (fun b i z => by omega)))
      have hLt : rLt D.2.2.2.1 (D.1 2) u7 := (d7.kept fU (fun b i z => by omega)).kept g27 (fun b i z => by omega)
      refine R_ld_311 (d := d + 11) hr o3 hLt (fun u8 c8 f8 => ?_)
      have f9 : xSn (fun b i => b = 655 ∧ (i = 63 ∨ i = 64 ∨ i = 73 ∨ i = 68)) u8 (x2 (x2 (x2 (x2 u8 655 63 (0 : Int32)) 655 64 (0 : Int32)) 655 73 (0 : Int32)) 655 68 (0 : Int32)) := ((((xSn.rf).put (by omega)).put (by omega)).put (by omega)).put (by omega)
      have e9 : (x2 (x2 (x2 (x2 u8 655 63 (0 : Int32)) 655 64 (0 : Int32)) 655 73 (0 : Int32)) 655 68 (0 : Int32)) 655 63 = 0 ∧ (x2 (x2 (x2 (x2 u8 655 63 (0 : Int32)) 655 64 (0 : Int32)) 655 73 (0 : Int32)) 655 68 (0 : Int32)) 655 64 = 0 ∧ (x2 (x2 (x2 (x2 u8 655 63 (0 : Int32)) 655 64 (0 : Int32)) 655 73 (0 : Int32)) 655 68 (0 : Int32)) 655 73 = 0 ∧ (x2 (x2 (x2 (x2 u8 655 63 (0 : Int32)) 655 64 (0 : Int32)) 655 73 (0 : Int32)) 655 68 (0 : Int32)) 655 68 = 0 := ⟨rfl, rfl, rfl, rfl⟩
      generalize x2 (x2 (x2 (x2 u8 655 63 (0 : Int32)) 655 64 (0 : Int32)) 655 73 (0 : Int32)) 655 68 (0 : Int32) = u9 at f9 e9
      refine R_ld_376 (d := d + 11) hr (fun u10 c10 f10 => ?_)
      have g810 : xSn (fun b i => (b = 655 ∧ (i = 63 ∨ i = 64 ∨ i = 73 ∨ i = 68)) ∨ b = 696) u8 u10 := (f9.to (fun b i z => Or.inl z)).tr (f10.n (fun b i z => Or.inr z))
      have g710 : xSn (fun b i => (b = 655 ∧ (i = 63 ∨ i = 64 ∨ i = 73 ∨ i = 68)) ∨ b = 696 ∨ (b = 683 ∧ 18 ≤ i ∧ i < 88)) u7 u10 := (f8.to (fun b i z => Or.inr (Or.inr z))).tr (g810.to (fun b i z => by omega))
      have g610 : xSn (fun b i => (b = 655 ∧ (i = 63 ∨ i = 64 ∨ i = 73 ∨ i = 68)) ∨ b = 696 ∨ (b = 683 ∧ 18 ≤ i ∧ i < 89)) u6 u10 := (f7.to (fun b i z => by omega)).tr (g710.to (fun b i z => by omega))
      have g410 : xSn (fun b i => (b = 655 ∧ (i = 63 ∨ i = 64 ∨ i = 73 ∨ i = 68)) ∨ b = 696 ∨ b = 683 ∨ (675 ≤ b ∧ b ≤ 678)) u4 u10 := (f5.to (fun b i z => by omega)).tr ((f6.to (fun b i z => by omega)).tr (g610.to (fun b i z => by omega)))
      have g310 : xSn (fun b i => (b = 655 ∧ (i = 63 ∨ i = 64 ∨ i = 73 ∨ i = 68)) ∨ b = 696 ∨ b = 683 ∨ (675 ≤ b ∧ b ≤ 678) ∨ (668 ≤ b ∧ b ≤ 670)) u3 u10 := (f4.n (fun b i z => by omega)).tr (g410.to (fun b i z => by omega))
      have g210 : xSn (fun b i => (b = 655 ∧ (i = 63 ∨ i = 64 ∨ i = 73 ∨ i = 68)) ∨ b = 696 ∨ (b = 683 ∧ i < 91) ∨ (675 ≤ b ∧ b ≤ 678) ∨ (668 ≤ b ∧ b ≤ 670) ∨ (660 ≤ b ∧ b ≤ 661)) u2 u10 := (g27.to (fun b i z => by omega)).tr (g710.to (fun b i z => by omega))
      have e46' : u10 655 46 = nI (D.1 2) := by rw [g610 655 46 (by omega)]; exact e46
      rw [e46']
      have e25 : ∀ b i, ¬ b = 655 → ¬ b = 660 → ¬ b = 661 → ¬ (668 ≤ b ∧ b ≤ 670) → ¬ b = 683 → u5 b i = u1 b i := fun b i h1 h2 h3 h4 h5 => by
        rw [g25 b i (by omega), fU b i (by omega)]
      refine kk' u10 w1 ?_ ?_ ?_ ⟨⟨?_, ?_, ?_, fun z => ⟨?_, ?_⟩, fun z => ⟨?_, ?_⟩, ?_, ?_, ?_⟩, fun k hk => ?_, fun b hb => ?_, fun k hk => ?_, ⟨fun b hb => ?_, fun i hi => ?_, ?_, ?_, ?_⟩, ⟨?_, ?_, ?_, ?_⟩, c10⟩ ?_ y6
      · rw [g210 655 2 (by omega), fU 655 2 (by omega)]; exact y1
      · rw [g210 655 3 (by omega), fU 655 3 (by omega)]; exact y2
      · rw [g210 655 1 (by omega), fU 655 1 (by omega)]; exact y4
      · rw [g210 655 49 (by omega), a49]; exact d4
      · rw [g210 655 50 (by omega), a50]; exact d5.1
      · rw [g210 655 51 (by omega), a51]; exact d6.1
      · rw [g210 655 52 (by omega), a52]; exact (e1 z).1
      · rw [g210 655 53 (by omega), a53]; exact (e1 z).2
      · rw [g210 655 52 (by omega), a52]; exact (e2 z).1
      · rw [g210 655 53 (by omega), a53]; exact (e2 z).2
      · rw [g210 655 21 (by omega), a21]; exact e3
      · rw [g210 655 56 (by omega), a56]; exact d8
      · rw [g210 655 18 (by omega)]; exact a18
      · obtain ⟨x1, x2', x3⟩ := c4 k (by omega)
        rw [g410 668 k (by omega), g410 669 k (by omega), g410 670 k (by omega), x1, x2', x3, f3 665 k (by omega), f3 666 k (by omega), f3 667 k (by omega), fU 665 k (by omega), fU 666 k (by omega), fU 667 k (by omega)]
        exact d5.2 k hk
      · obtain ⟨⟨x1, x2', x3, x4⟩, -⟩ := c6 b (by omega)
        rw [g610 675 b (by omega), g610 676 b (by omega), g610 677 b (by omega), g610 678 b (by omega), x1, x2', x3, x4, e25 671 b (by omega) (by omega) (by omega) (by omega) (by omega), e25 672 b (by omega) (by omega) (by omega) (by omega) (by omega), e25 673 b (by omega) (by omega) (by omega) (by omega) (by omega), e25 674 b (by omega) (by omega) (by omega) (by omega) (by omega)]
        exact d6.2 b hb
      · obtain ⟨x1, x2'⟩ := c3 k hk
        have z1 : D.1 4 = 1 := by
          by_cases z : D.1 4 = 0
          · rw [(ow0 z).2] at hk; exact absurd hk (Nat.not_lt_zero _)
          · omega
        rw [g310 660 k (by omega), g310 661 k (by omega), x1, x2', fU 658 k (by omega), fU 659 k (by omega)]
        exact (e4 z1).2 k hk
      · obtain ⟨-, x1, x2'⟩ := c6 b hb
        refine ⟨?_, ?_, ?_⟩
        · rw [g610 683 b (by omega), f6 683 b (by omega)]; exact c5 b (by omega)
        · rw [g610 683 (6 + b) (by omega), x1, e25 671 b (by omega) (by omega) (by omega) (by omega) (by omega)]
          by_cases z : b < D.1 1
          · rw [if_pos z, if_pos z]; exact (d6.2 b z).1
          · rw [if_neg z, if_neg z]
        · intro _; rw [g610 683 (12 + b) (by omega)]; exact x2'
      · rw [g810 683 (18 + i) (by omega), g810 683 (28 + i) (by omega), g810 683 (38 + i) (by omega), g810 683 (48 + i) (by omega), g810 683 (58 + i) (by omega), g810 683 (68 + i) (by omega), g810 683 (78 + i) (by omega)]
        exact c8 i hi
      · rw [g710 683 88 (by omega)]; exact e7
      · rw [g610 683 89 (by omega), f6 683 89 (by omega)]; exact c5 89 (by omega)
      · rw [g610 683 90 (by omega), f6 683 90 (by omega)]; exact c5 90 (by omega)
      · rw [f10 655 63 (by omega)]; exact e9.1
      · rw [f10 655 64 (by omega)]; exact e9.2.1
      · rw [f10 655 73 (by omega)]; exact e9.2.2.1
      · rw [f10 655 68 (by omega)]; exact e9.2.2.2
      · exact ((y5.to (fun b i z => by omega)).tr (fU.to (fun b i z => by omega))).tr (g210.to (fun b i z => by omega))
  · exact brF q (kf q u1 w1 y1 y2 y4 y5 y6)
end RLAND
