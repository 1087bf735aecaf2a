/-! ROADS of the reference -/
/-- one loop: from k to N, keeping Q -/
theorem xlp {N : Nat} {Q : Nat → xU → Prop} {G : Nat → xU → Prop} (e : ∀ u, Q N u → G N u) (s : ∀ k u, k < N → Q k u → (∀ u', Q (k + 1) u' → G (k + 1) u') → G k u) {u : xU} (h : Q 0 u) : G 0 u := by
  have : ∀ n k, k + n = N → ∀ u, Q k u → G k u := by
    intro n
    induction n with
    | zero => intro k hk u q; have : k = N := by omega
              subst this; exact e u q
    | succ n ih => intro k hk u q; exact s k u (by omega) q (fun u' q' => ih (k + 1) (by omega) u' q')
  exact this N 0 (Nat.zero_add N) u h
/-- one loop that changes no memory -/
theorem xlq {N : Nat} {G : Nat → Prop} (e : G N) (s : ∀ k, k < N → G (k + 1) → G k) : G 0 := by
  have : ∀ n k, k + n = N → G k := by
    intro n
    induction n with
    | zero => intro k hk; have : k = N := by omega
              subst this; exact e
    | succ n ih => intro k hk; exact s k (by omega) (ih (k + 1) (by omega))
  exact this N 0 (Nat.zero_add N)
theorem lit_mul (n k : Nat) : (OfNat.ofNat n : Int32) * nI k = nI (n * k) := nI_mul n k
theorem m7 (k : Nat) : (7 : Int32) * nI k = nI (7 * k) := nI_mul 7 k
theorem a6 (k : Nat) : (6 : Int32) + nI k = nI (6 + k) := nI_add 6 k
theorem a12 (k : Nat) : (12 : Int32) + nI k = nI (12 + k) := nI_add 12 k
theorem a18 (k : Nat) : (18 : Int32) + nI k = nI (18 + k) := nI_add 18 k
theorem a28 (k : Nat) : (28 : Int32) + nI k = nI (28 + k) := nI_add 28 k
theorem a38 (k : Nat) : (38 : Int32) + nI k = nI (38 + k) := nI_add 38 k
theorem a48 (k : Nat) : (48 : Int32) + nI k = nI (48 + k) := nI_add 48 k
theorem a58 (k : Nat) : (58 : Int32) + nI k = nI (58 + k) := nI_add 58 k
theorem a68 (k : Nat) : (68 : Int32) + nI k = nI (68 + k) := nI_add 68 k
theorem a78 (k : Nat) : (78 : Int32) + nI k = nI (78 + k) := nI_add 78 k
theorem xb_iff {p q : Prop} [Decidable p] [Decidable q] (h : p ↔ q) : xb p = xb q := by
  by_cases z : p
  · rw [xb_pos z, xb_pos (h.mp z)]
  · rw [xb_neg z, xb_neg (fun y => z (h.mpr y))]
theorem mod8 : ∀ k, k < 49 → ((nI k - nI k / 8 * 8 = 0) ↔ k % 8 = 0) := by decide +kernel
/-- one entry of a row -/
def up (σ : Nat → Int32) (k : Nat) (x : Int32) : Nat → Int32 := fun j => if j = k then x else σ j
theorem up_s (σ : Nat → Int32) (k : Nat) (x : Int32) : up σ k x k = x := if_pos rfl
theorem up_n {σ : Nat → Int32} {k j : Nat} {x : Int32} (h : j ≠ k) : up σ k x j = σ j := if_neg h
theorem x2_row (u : xU) (a k : Nat) (x : Int32) : x2 u a k x a = up (u a) k x := by
  funext j
  unfold x2 up
  by_cases q : j = k
  · rw [if_pos ⟨rfl, q⟩, if_pos q]
  · rw [if_neg (fun z => q z.2), if_neg q]
theorem x2_row' (u : xU) {a b : Nat} (k : Nat) (x : Int32) (h : b ≠ a) : x2 u a k x b = u b := by
  funext j
  exact x2_a _ _ h
/-- the land's numbers -/
def lV (L : xU) : Nat := (L 0 0).toNatClampNeg
def lW (L : xU) : Nat := (L 0 1).toNatClampNeg
def lB (L : xU) : Nat := (L 0 2).toNatClampNeg
/-- the land in the reference -/
def rL (u : xU) (L : xU) : Prop := (u 655 49 = nI (lV L) ∧ u 655 50 = nI (lW L) ∧ u 655 51 = nI (lB L)) ∧ u 668 = L 1 ∧ u 669 = L 2 ∧ u 670 = L 3 ∧ u 675 = L 4 ∧ u 676 = L 5 ∧ u 677 = L 6 ∧ u 678 = L 7 ∧ u 660 = L 8 ∧ u 661 = L 9 ∧ u 655 52 = L 0 3 ∧ u 655 53 = L 0 4 ∧ u 655 18 = L 0 6 ∧ u 655 56 = L 0 7
/-- where the reference's land lies not -/
abbrev fRm (b : Nat) : Prop := b ∈ [663, 664, 684, 685, 686, 683, 687, 688, 689, 690]
theorem rL.kept {u u' : xU} {L : xU} (h : rL u L) (F : Nat → Prop) (hs : xSm F u u') (h1 : ¬ F 655) (h2 : ∀ b, 660 ≤ b → b < 662 → ¬ F b) (h3 : ∀ b, 668 ≤ b → b < 679 → ¬ F b) : rL u' L := by
  obtain ⟨⟨a1, a2, a3⟩, b1, b2, b3, b4, b5, b6, b7, b8, b9, c1, c2, c3, c4⟩ := h
  have e : ∀ b, ¬ F b → u' b = u b := fun b hb => funext fun i => hs b i hb
  rw [rL, e 655 h1, e 660 (h2 _ (by omega) (by omega)), e 661 (h2 _ (by omega) (by omega)), e 668 (h3 _ (by omega) (by omega)), e 669 (h3 _ (by omega) (by omega)), e 670 (h3 _ (by omega) (by omega)), e 675 (h3 _ (by omega) (by omega)), e 676 (h3 _ (by omega) (by omega)), e 677 (h3 _ (by omega) (by omega)), e 678 (h3 _ (by omega) (by omega))]
  exact ⟨⟨a1, a2, a3⟩, b1, b2, b3, b4, b5, b6, b7, b8, b9, c1, c2, c3, c4⟩
/-- far of the reference, as words -/
def qF (u : xU) (F : Nat → Nat → Int32) : Prop := ∀ a b, a < 7 → b < 7 → u 685 (7 * a + b) = F a b
theorem qF.put {u : xU} {F : Nat → Nat → Int32} (h : qF u F) {v k : Nat} (hv : v < 7) (hk : k < 7) (x : Int32) : qF (x2 u 685 (7 * v + k) x) (x2 F v k x) := by
  intro a b ha hb
  unfold x2
  by_cases q : a = v ∧ b = k
  · rw [if_pos q, if_pos (by omega)]
  · rw [if_neg q, if_neg (by omega)]
    exact h a b ha hb
/-- what is joined to nothing stays so, and steps over villages do nothing there -/
def gIso (nv : Nat) (F : Nat → Nat → Int32) : Prop := ∀ a b, nv ≤ a ∨ nv ≤ b → a ≠ b → F a b = 1000
theorem gShort_out {F : Nat → Nat → Int32} (h : gOk F) {nv : Nat} (hi : gIso nv F) {k a b : Nat} (hk : k < nv) (hab : nv ≤ a ∨ nv ≤ b) : gShort k F a b = F a b := by
  rw [ti_eq, gShort_int h]
  have p0 := h.1 a b
  have p1 := h.1 a k
  have p2 := h.1 k b
  rcases hab with q | q
  · have := hi a k (Or.inl q) (by omega)
    rw [this, k_toInt]
    omega
  · have := hi k b (Or.inr q) (by omega)
    rw [this, k_toInt]
    omega
theorem gShort_iso {F : Nat → Nat → Int32} (h : gOk F) {nv : Nat} (hi : gIso nv F) {k : Nat} (hk : k < nv) : gIso nv (gShort k F) := fun a b hab hne => (gShort_out h hi hk hab).trans (hi a b hab hne)
theorem gAll_nv {F : Nat → Nat → Int32} (h : gOk F) {nv : Nat} (hi : gIso nv F) {k : Nat} (hk : k < nv) : xfold nv (fun a F => xfold nv (fun b F => gCell k a b F) F) F = gShort k F := by
  rw [gAll_eq h]
  funext x y
  by_cases q : x < nv ∧ y < nv
  · rw [if_pos q]
  · rw [if_neg q, gShort_out h hi hk (by omega)]
abbrev fFr : Nat → Prop := fun b => b = 685
section RROADS
variable {g : xGT} {d : Nat} {w : xW} {r : xQ}
theorem R_truth {u : xU} (i : Int32) : xCall g d mX12_truth [.int i] 698 u w r 698 (xPr (xb (¬ i = 0)) u w r) := CX12_truth ⟨rfl, rfl, rfl, rfl⟩
theorem xb_xb (p : Prop) [Decidable p] : xb (¬ xb p = 0) = xb p := by
  by_cases h : p
  · rw [xb_pos h, xb_pos (by decide)]
  · rw [xb_neg h, xb_neg (by decide)]
theorem R_truthb {u : xU} (p : Prop) [Decidable p] : xCall g d mX12_truth [.int (xb p)] 698 u w r 698 (xPr (xb p) u w r) := by
  have := R_truth (g := g) (d := d) (u := u) (w := w) (r := r) (xb p)
  rw [xb_xb] at this
  exact this
theorem R_isIn {u : xU} (i a b : Int32) : xCall g d mX12_isIn [.int i, .int a, .int b] 698 u w r 698 (xPr (xb (¬ (i < a) ∧ ¬ (b < i))) u w r) := CX12_isIn ⟨rfl, rfl, rfl, rfl⟩
theorem R_isClosed (hr : xRf r) {u : xU} {k : Nat} (hk : k < 32) : xCall g d mX12_isClosed [.ref 655, .int (nI k)] 698 u w r 698 (xPr (xb (¬ gOpen (u 684 89) k)) u w r) := by
  have e : xb (((u 684 89 >>> (nI k &&& 31)) &&& 1) = 1) = xb (¬ gOpen (u 684 89) k) := by
    refine xb_iff ?_
    have t0 : gOpen (u 684 89) k ↔ bt (u 684 89) k = false := test_0 hk (u 684 89)
    rw [test_1 hk, t0]
    cases bt (u 684 89) k <;> simp
  exact CX12_isClosed hr ⟨by rw [e], rfl, rfl, rfl⟩
theorem R_layFar (hr : xRf r) {u L : xU} (hL : rL u L) (hG : gLandW L (lV L) (lW L)) : xCall g (d + 1) mX12_layFar [.ref 655] 698 u w r 698 (xVd (fun u' => qF u' (gDist L (u 684 89) (lV L) (lW L)) ∧ xSm fFr u u') w r) := by
  refine CX12_layFar ?_
  refine xlp (N := 49) (Q := fun k u' => (∀ j, j < k → u' 685 j = if j % 8 = 0 then 0 else 1000) ∧ xSm fFr u u') (G := fun k u => xEv g (d + 1) mX12_layFar 2 [some (.ref 655), some (.int (nI k)), none, none, none] [] 698 u w r 698 _) ?_ ?_ ⟨fun j hj => by omega, xSm.rf⟩
  · intro u1 ⟨h1, h2⟩
    refine TX12_layFar_2 hr (brT (nI_le (a := 49) (Nat.le_refl _) (by omega)) ?_)
    have hL1 := hL.kept _ h2 (by omega) (by omega) (by omega)
    have ec : u1 684 89 = u 684 89 := h2 _ _ (by omega)
    refine xlp (N := lW L) (Q := fun k u' => qF u' (gWay L (u 684 89) gF0 k) ∧ xSm fFr u u') (G := fun k u => xEv g (d + 1) mX12_layFar 36 [some (.ref 655), some (.int (nI k)), none, none, none] [] 698 u w r 698 _) ?_ ?_ ⟨fun a b ha hb => ?_, h2⟩
    · intro u2 ⟨q1, q2⟩
      have hL2 := hL.kept _ q2 (by omega) (by omega) (by omega)
      have hw := hG.2.1
      have hv := hG.1
      refine TX12_layFar_36 hr (brT (by rw [hL2.1.2.1]; exact nI_le (Nat.le_refl _) (by omega)) ?_)
      refine xlp (N := lV L) (Q := fun k u' => qF u' (gFar k (gWay L (u 684 89) gF0 (lW L))) ∧ xSm fFr u u') (G := fun k u => xEv g (d + 1) mX12_layFar 117 [some (.ref 655), some (.int (nI k)), none, none, none] [] 698 u w r 698 _) ?_ ?_ ⟨q1, q2⟩
      · intro u3 ⟨f1, f2⟩
        have hL3 := hL.kept _ f2 (by omega) (by omega) (by omega)
        exact TX12_layFar_117 (brT (by rw [hL3.1.1]; exact nI_le (Nat.le_refl _) (by omega)) ⟨rfl, ⟨f1, f2⟩, rfl, rfl⟩)
      · intro k u3 hk ⟨f1, f2⟩ kk
        have hL3 := hL.kept _ f2 (by omega) (by omega) (by omega)
        refine TX12_layFar_117 (brF (by rw [hL3.1.1]; exact nI_ge (by omega) (by omega)) ?_)
        have iso : ∀ j, j ≤ k → gIso (lV L) (gFar j (gWay L (u 684 89) gF0 (lW L))) := by
          intro j
          induction j with
          | zero => intro _; exact gWay_iso hG
          | succ j ih => intro hj; exact gShort_iso (gFar_ok (gWay_ok hG) j) (ih (by omega)) (by omega)
        refine xlp (N := lV L) (Q := fun a u' => qF u' (xfold a (fun a F => xfold (lV L) (fun b F => gCell k a b F) F) (gFar k (gWay L (u 684 89) gF0 (lW L)))) ∧ xSm fFr u u') (G := fun a u => xEv g (d + 1) mX12_layFar 127 [some (.ref 655), some (.int (nI k)), some (.int (nI a)), none, none] [] 698 u w r 698 _) ?_ ?_ ⟨f1, f2⟩
        · intro u4 ⟨g1, g2⟩
          have hL4 := hL.kept _ g2 (by omega) (by omega) (by omega)
          refine TX12_layFar_127 (brT (by rw [hL4.1.1]; exact nI_le (Nat.le_refl _) (by omega)) ?_)
          rw [nI_one]
          refine kk u4 ⟨?_, g2⟩
          rw [gAll_nv (gFar_ok (gWay_ok hG) k) (iso k (Nat.le_refl _)) hk] at g1
          exact g1
        · intro a u4 ha ⟨g1, g2⟩ kk2
          have hL4 := hL.kept _ g2 (by omega) (by omega) (by omega)
          refine TX12_layFar_127 (brF (by rw [hL4.1.1]; exact nI_ge (by omega) (by omega)) ?_)
          generalize hX : xfold a (fun a F => xfold (lV L) (fun b F => gCell k a b F) F) (gFar k (gWay L (u 684 89) gF0 (lW L))) = X at g1
          refine xlp (N := lV L) (Q := fun b u' => qF u' (xfold b (fun b F => gCell k a b F) X) ∧ xSm fFr u u') (G := fun b u => xEv g (d + 1) mX12_layFar 137 [some (.ref 655), some (.int (nI k)), some (.int (nI a)), some (.int (nI b)), none] [] 698 u w r 698 _) ?_ ?_ ⟨g1, g2⟩
          · intro u5 ⟨e1, e2⟩
            have hL5 := hL.kept _ e2 (by omega) (by omega) (by omega)
            refine TX12_layFar_137 hr (brT (by rw [hL5.1.1]; exact nI_le (Nat.le_refl _) (by omega)) ?_)
            rw [nI_one]
            refine kk2 u5 ⟨?_, e2⟩
            rw [xfold_s, hX]
            exact e1
          · intro b u5 hb ⟨e1, e2⟩ kk3
            have hL5 := hL.kept _ e2 (by omega) (by omega) (by omega)
            refine TX12_layFar_137 hr (brF (by rw [hL5.1.1]; exact nI_ge (by omega) (by omega)) ?_)
            simp (disch := omega) only [m7, nI_add, nI_one, nc]
            refine ⟨vpn (by omega) (by omega), vpn (by omega) (by omega), vpn (by omega) (by omega), ?_⟩
            rw [e1 a b (by omega) (by omega), e1 a k (by omega) (by omega), e1 k b (by omega) (by omega)]
            generalize hY : xfold b (fun b F => gCell k a b F) X = Y at e1 ⊢
            refine ⟨fun q => TX12_layFar_199 ?_, fun q => TX12_layFar_199 ?_⟩ <;> rw [nI_one] <;> refine kk3 _ ⟨?_, ?_⟩
            · rw [xfold_s, hY]
              have : gCell k a b Y = Y := by
                have e : gShort k Y a b = Y a b := if_neg (Int32.not_lt.mpr q)
                unfold gCell
                rw [e]
                funext x y
                unfold x2
                by_cases z : x = a ∧ y = b
                · rw [if_pos z, z.1, z.2]
                · rw [if_neg z]
              rw [this]
              exact e1
            · exact e2
            · rw [xfold_s, hY]
              have e : gShort k Y a b = Y a k + Y k b := if_pos (Int32.not_le.mp q)
              unfold gCell
              rw [e]
              exact e1.put (by omega) (by omega) _
            · exact e2.put rfl
    · intro k u2 hk ⟨q1, q2⟩ kk
      have hL2 := hL.kept _ q2 (by omega) (by omega) (by omega)
      have hw := hG.2.1
      have hv := hG.1
      obtain ⟨a, b, ha, hb, hab, e1, e2, e3, e4⟩ := hG.2.2 k hk
      refine TX12_layFar_36 hr (brF (by rw [hL2.1.2.1]; exact nI_ge (by omega) (by omega)) ?_)
      refine xPr.use (R_isClosed hr (by omega)) ⟨_, rfl, rfl, rfl, rfl, ?_⟩
      have ec2 : u2 684 89 = u 684 89 := q2 _ _ (by omega)
      rw [hL2.2.1, hL2.2.2.1, hL2.2.2.2.1, nc (by omega), e1, e2, ec2, xb_eq0, Classical.not_not]
      simp (disch := omega) only [m7, nI_add, nI_one, nc]
      have ew : gWay L (u 684 89) gF0 (k + 1) = if gOpen (u 684 89) k then x2 (x2 (gWay L (u 684 89) gF0 k) a b (L 3 k)) b a (L 3 k) else gWay L (u 684 89) gF0 k := by
        show (if gOpen (u 684 89) k then _ else _) = _
        rw [e1, e2, nc (by omega), nc (by omega)]
        rfl
      by_cases ho : gOpen (u 684 89) k
      · refine brT ho ⟨vpn (by omega) (by omega), vpn (by omega) (by omega), vpn (by omega) (by omega), TX12_layFar_109 ?_⟩
        rw [nI_one]
        refine kk _ ⟨?_, (q2.put rfl).put rfl⟩
        rw [ew, if_pos ho]
        exact (q1.put (by omega) (by omega) _).put (by omega) (by omega) _
      · refine brF ho (TX12_layFar_109 ?_)
        rw [nI_one]
        refine kk _ ⟨?_, q2⟩
        rw [ew, if_neg ho]
        exact q1
    · rw [h1 _ (by omega)]
      unfold gWay gF0
      rw [xfold]
      by_cases q : a = b
      · rw [if_pos (by omega), if_pos q]
      · rw [if_neg (by omega), if_neg q]
  · intro k u1 hk ⟨h1, h2⟩ kk
    refine TX12_layFar_2 hr (brF (nI_ge (b := 49) (by omega) (by omega)) ⟨by decide, vpn (by omega) (by omega), ?_⟩)
    rw [nI_one, nc (by omega)]
    refine kk _ ⟨fun j hj => ?_, h2.put rfl⟩
    have e : (if nI k - nI k / 8 * 8 = 0 then (0 : Int32) else 1000) = if k % 8 = 0 then 0 else 1000 := by
      by_cases q : k % 8 = 0
      · rw [if_pos ((mod8 k hk).mpr q), if_pos q]
      · rw [if_neg (fun z => q ((mod8 k hk).mp z)), if_neg q]
    by_cases q : j = k
    · subst q; rw [x2_same, e]
    · rw [x2_i _ _ q]; exact h1 j (by omega)
end RROADS
