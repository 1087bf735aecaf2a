/-! QUESTIONS: trace, lies -/
theorem rN1.keepG {L : xU} {n e : Nat} {u u' : xU} {σ : Nat → Int32} (h : rN1 L n e u σ) (e655 : ∀ i, i ∈ [49, 50, 51, 52, 53, 18, 56] → u' 655 i = u 655 i) (eb : ∀ b, ((660 ≤ b ∧ b < 662) ∨ (668 ≤ b ∧ b < 679) ∨ b = 683) → u' b = u b) (h91 : ∀ j, 91 ≤ j → u' 684 j = σ j) : rN1 L n e u' σ := by
  obtain ⟨a1, a2, a3, a4⟩ := h
  refine ⟨?_, (eb 683 (by omega)).trans a2, a3, fun j hj => by rw [h91 j hj, eb 683 (by omega), a2]⟩
  obtain ⟨⟨a1, a2, a3⟩, b1, b2, b3, b4, b5, b6, b7, b8, b9, c1, c2, c3, c4⟩ := a1
  rw [rL, e655 49 (by decide), e655 50 (by decide), e655 51 (by decide), e655 52 (by decide), e655 53 (by decide), e655 18 (by decide), e655 56 (by decide), eb 660 (by omega), eb 661 (by omega), eb 668 (by omega), eb 669 (by omega), eb 670 (by omega), eb 675 (by omega), eb 676 (by omega), eb 677 (by omega), eb 678 (by omega)]
  exact ⟨⟨a1, a2, a3⟩, b1, b2, b3, b4, b5, b6, b7, b8, b9, c1, c2, c3, c4⟩
theorem tq_st {L : xU} {c : Int32} (hW : lWok L) (hB : lBk L) : ∀ m e (σ : Nat → Int32) (k : Nat) (A : Nat → Int32), e + m ≤ 300 → gSt L c 1 e σ → ∃ e', gSt L c 1 e' (tq L c m σ k A).1 := by
  intro m
  induction m with
  | zero => intro e σ k A _ h; exact ⟨e, h⟩
  | succ m ih =>
    intro e σ k A he h
    rw [tq_s]
    split
    · split
      · exact ih (e + 1) _ _ _ (by omega) (fDay_st hW hB h (by omega))
      · exact ih (e + 1) _ _ _ (by omega) (fDay_st hW hB h (by omega))
    · exact ⟨e, h⟩
theorem tE_came {L : xU} {n e v t : Nat} {σ : Nat → Int32} (hK : lOkk L) (hS : gSt L (σ 89) n e σ) (hv : v < lV L) (ht : t < lV L) : (tE L e σ v t).1 38 = -1 ↔ (tE L e σ v t).1 38 < 0 := by
  have he := hS.2.2.1.2
  obtain ⟨e', h⟩ := tq_st hK.1 hK.2.2.1 (300 - e) e (tL v t σ) 0 (fun _ => 0) (by omega) (tL_st' hK.2.2.1.1 hS hv ht rsm.rf)
  exact h.came (l := 0) (by omega)
def aTrA (L : xU) (e : Nat) (σ : Nat → Int32) (i j : Int32) : Int32 := if (inN i (lV L) ∧ inN j (lV L)) ∧ ¬ i = j then (tE L e σ i.toNatClampNeg j.toNatClampNeg).1 38 else -1
def aTrM (L : xU) (e : Nat) (σ : Nat → Int32) (i j : Int32) : Nat := if aTrA L e σ i j = -1 then 0 else (tE L e σ i.toNatClampNeg j.toNatClampNeg).2.1
def aTrY (L : xU) (e : Nat) (σ : Nat → Int32) (i j : Int32) : Nat → Int32 := (tE L e σ i.toNatClampNeg j.toNatClampNeg).2.2
theorem aTrM_le {L : xU} {n e : Nat} {σ : Nat → Int32} {i j : Int32} (h : ∀ v t, v < lV L → t < lV L → tEnd L (tE L e σ v t)) (hv7 : lV L ≤ 7) : aTrM L e σ i j ≤ 20 := by
  unfold aTrM aTrA
  by_cases q : (inN i (lV L) ∧ inN j (lV L)) ∧ ¬ i = j
  · rw [if_pos q]
    obtain ⟨a, ha, rfl⟩ := inN.get q.1.1 (by omega)
    obtain ⟨b, hb, rfl⟩ := inN.get q.1.2 (by omega)
    rw [nc (by omega), nc (by omega)]
    have := (h a b ha hb).1
    split <;> omega
  · rw [if_neg q, if_pos rfl]; omega
/-- what lies there -/
def cLy (u : xU) (m : Nat) (Y : Nat → Int32) : Prop := u 8 9 = nI m ∧ ∀ i, i < m → u 654 i = Y i
def rLy (u : xU) (m : Nat) (Y : Nat → Int32) : Prop := u 655 68 = nI m ∧ ∀ i, i < m → u 690 i = Y i
def aLies (m : Nat) (Y : Nat → Int32) (i : Int32) : Int32 := if inN i m then Y i.toNatClampNeg else -1
abbrev fTq (l : Nat) : Nat → Prop := fun b => fLk l b ∨ b = 8 ∨ b = 654
abbrev fRt : Nat → Nat → Prop := fun b i => fRx b i ∨ b = 690 ∨ (b = 655 ∧ i = 68)
section TRACQ
variable {g : xGT} {d : Nat} {w : xW} {r : xQ} {L : xU} {c : Int32} {l n e : Nat} {σ : Nat → Int32}
theorem kN.kept {u u' : xU} (hR : kR r l) (h : kN L l n e u σ) {F : Nat → Prop} (f : xSm F u u') (hF : ∀ b, (l ≤ b ∧ b ≤ l + 13) ∨ (55 ≤ b ∧ b < 79) ∨ (105 ≤ b ∧ b ≤ 116) → ¬ F b) : kN L l n e u' σ := by
  obtain ⟨h1, ⟨T, h2⟩, h3⟩ := h
  exact ⟨h1.kept f (fun b b1 b2 => hF b (by omega)) (fun b b1 b2 => hF b (by omega)), ⟨T, h2.kept f (fun b b1 b2 => hF b (by omega))⟩, h3⟩
theorem K_trace {u : xU} (hK : lOkk L) (hR : kR r l) (hN : kN L l n e u σ) (i j : Int32) : xCall g (d + 6) mX11_trace [.ref 8, .int i, .int j] 698 u w r 698 (xIn (aTrA L e σ i j) (fun u' => cLy u' (aTrM L e σ i j) (aTrY L e σ i j) ∧ xSm (fTq l) u u') w r) := by
  have hv7 := hK.1.1
  obtain ⟨hr, h_l, q_l, hm, ht, hl⟩ := id hR
  have f1 : xSm (fun b => b = 8) u (x2 u 8 9 0) := (xSm.rf (F := fun b => b = 8)).put rfl
  have N1 : kN L l n e (x2 u 8 9 0) σ := by
    refine hN.kept hR f1 (fun b hb => ?_)
    have h8 := xKK_ge h_l.k0
    have : l ≠ 8 := fun z => by rw [z] at h_l; have := h_l.k0.symm.trans kk8; cases this
    omega
  refine CX11_trace hr (xPr.use (K_areTwoVillages h_l ht N1.1.1 i j) ⟨_, rfl, rfl, rfl, rfl, ?_⟩)
  rw [xb_eq0]
  have f1' : xSm (fTq l) u (x2 u 8 9 0) := f1.to (fun b hb => Or.inr (Or.inl hb))
  by_cases q : (inN i (lV L) ∧ inN j (lV L)) ∧ ¬ i = j
  · have eA : aTrA L e σ i j = (tE L e σ i.toNatClampNeg j.toNatClampNeg).1 38 := if_pos q
    refine brF (fun z => z q) ?_
    unfold aTrM aTrY
    rw [eA]
    obtain ⟨v, hv, rfl⟩ := inN.get q.1.1 (by omega)
    obtain ⟨o, ho, rfl⟩ := inN.get q.1.2 (by omega)
    rw [nc (by omega), nc (by omega)]
    refine xIn.use (K_follow hK hR N1 hv ho) (fun u2 ⟨h1, h2, f2⟩ => ⟨_, rfl, rfl, rfl, fun z => ⟨rfl, ⟨?_, ?_⟩, rfl, rfl⟩, fun z => ⟨rfl, ⟨?_, ?_⟩, rfl, rfl⟩⟩)
    · rw [if_pos z]
      have h8 := xKK_ge h_l.k0
      have n8 : l ≠ 8 := fun y => by rw [y] at h_l; have := h_l.k0.symm.trans kk8; cases this
      exact ⟨by rw [f2 8 9 (by omega), x2_same]; rfl, fun i hi => by omega⟩
    · exact f1'.tr (f2.to (fun b hb => Or.inl (fFo_lk hb)))
    · rw [if_neg z]
      refine ⟨by rw [x2_same]; exact h1.1, fun i hi => ?_⟩
      have := h2.1
      rw [x2_a _ _ (by omega), xcp_eq (by omega)]
      exact h1.2.1 i hi
    · have f3 : xSm (fTq l) u2 (xcp u2 93 654 300) := (xSm.rf (F := fTq l)).cp (Or.inr (Or.inr rfl))
      exact ((f1'.tr (f2.to (fun b hb => Or.inl (fFo_lk hb)))).tr f3).put (Or.inr (Or.inl rfl))
  · have eA : aTrA L e σ i j = -1 := if_neg q
    have eM : aTrM L e σ i j = 0 := if_pos eA
    refine brT q ⟨by rw [eA], ⟨?_, f1'⟩, rfl, rfl⟩
    rw [eM]
    exact ⟨x2_same _ _ _ _, fun i hi => by omega⟩
theorem R_trace {u : xU} (hr : xRf r) (hK : lOkk L) (hN : rN1 L n e u σ) (i j : Int32) : xCall g (d + 10) mX12_trace [.ref 655, .int i, .int j] 698 u w r 698 (xIn (aTrA L e σ i j) (fun u' => rLy u' (aTrM L e σ i j) (aTrY L e σ i j) ∧ xSn fRt u u' ∧ rN1 L n e u' σ) w r) := by
  have hv7 := hK.1.1
  have hS := hN.2.2.1
  have f1 : xSn fRt u (x2 u 655 68 0) := (xSn.rf (F := fRt)).put (Or.inr (Or.inr ⟨rfl, rfl⟩))
  have N1 : rN1 L n e (x2 u 655 68 0) σ := hN.keepG (fun i hi => x2_i _ _ (fun z => by subst z; revert hi; decide)) (fun b hb => x2_row' u 68 0 (by omega)) (fun j hj => by rw [x2_a _ _ (by omega), hN.2.2.2 j hj, hN.2.1])
  refine CX12_trace hr (xPr.use (R_isVillage N1.1 hv7 i) ⟨_, rfl, rfl, rfl, rfl, ?_⟩)
  have eA0 : ¬ ((inN i (lV L) ∧ inN j (lV L)) ∧ ¬ i = j) → aTrA L e σ i j = -1 := fun q => if_neg q
  have l0 : ¬ ((inN i (lV L) ∧ inN j (lV L)) ∧ ¬ i = j) → rLy (x2 u 655 68 0) (aTrM L e σ i j) (aTrY L e σ i j) := fun q => by
    have eM : aTrM L e σ i j = 0 := if_pos (eA0 q)
    rw [eM]
    exact ⟨x2_same _ _ _ _, fun i hi => by omega⟩
  rw [xb_eq0]
  refine ⟨fun q => ⟨by rw [eA0 (fun z => q z.1.1)], ⟨l0 (fun z => q z.1.1), f1, N1⟩, rfl, rfl⟩, fun q => xPr.use (R_isVillage N1.1 hv7 j) ⟨_, rfl, rfl, rfl, rfl, ?_⟩⟩
  rw [Classical.not_not] at q
  rw [xb_eq0]
  refine ⟨fun q2 => ?_, fun q2 => ?_⟩
  · have no : ¬ ((inN i (lV L) ∧ inN j (lV L)) ∧ ¬ i = j) := fun z => q2.elim (fun y => y z.1.2) (fun y => z.2 y)
    exact ⟨by rw [eA0 no], ⟨l0 no, f1, N1⟩, rfl, rfl⟩
  · have in2 : inN j (lV L) := Classical.not_not.mp (fun z => q2 (Or.inl z))
    have yes : (inN i (lV L) ∧ inN j (lV L)) ∧ ¬ i = j := ⟨⟨q, in2⟩, fun z => q2 (Or.inr z)⟩
    have eA : aTrA L e σ i j = (tE L e σ i.toNatClampNeg j.toNatClampNeg).1 38 := if_pos yes
    unfold aTrM aTrY
    rw [eA]
    obtain ⟨v, hv, rfl⟩ := inN.get q (by omega)
    obtain ⟨o, ho, rfl⟩ := inN.get in2 (by omega)
    rw [nc (by omega), nc (by omega)]
    have cm := tE_came (e := e) hK hS hv ho
    refine xVd.use (R_layTrace hr hK N1 hv ho) (fun u2 ⟨h1, h2, h3, ⟨f2, N2⟩, _⟩ => ⟨rfl, rfl, rfl, ?_⟩)
    rw [h1]
    have f12 : xSn fRt u u2 := f1.tr (f2.to (fun b i h => Or.inl h))
    have k7 := h3.1
    refine ⟨fun z => ?_, fun z => ⟨?_, ⟨?_, f12, N2⟩, rfl, rfl⟩⟩
    · have nz : ¬ (tE L e σ v o).1 38 = -1 := fun y => by have := cm.mp y; rw [ti_lt] at this; rw [ti_le] at z; omega
      rw [if_neg nz]
      refine xlp (N := (tE L e σ v o).2.1) (Q := fun k u' => (∀ i, i < k → u' 690 i = (tE L e σ v o).2.2 i) ∧ xSm (fun b => b = 690) u2 u') (G := fun k u' => xEv g (d + 10) mX12_trace 48 [some (.ref 655), none, none, some (.int (nI k))] [] 698 u' w r 698 _) ?_ ?_ ⟨fun i hi => by omega, xSm.rf⟩
      · intro u3 ⟨t3, f3⟩
        refine TX12_trace_48 hr (brT (by rw [f3 655 61 (by omega), h2.1]; exact nI_le (Nat.le_refl _) (by omega)) ⟨?_, ⟨⟨?_, fun i hi => ?_⟩, ?_, ?_⟩, rfl, rfl⟩)
        · rw [f3 684 38 (by omega), h1]
        · rw [x2_same, f3 655 61 (by omega)]; exact h2.1
        · rw [x2_a _ _ (by omega)]; exact t3 i hi
        · exact (f12.tr (f3.n (fun b i h => Or.inr (Or.inl h)))).put (Or.inr (Or.inr ⟨rfl, rfl⟩))
        · exact N2.keepG (fun i hi => by rw [x2_i _ _ (fun z => by subst z; revert hi; decide), f3 _ _ (by omega)]) (fun b hb => by rw [x2_row' _ _ _ (show b ≠ 655 by omega)]; exact funext fun i => f3 b i (by omega)) (fun j hj => by rw [x2_a _ _ (by omega), f3 _ _ (by omega), N2.2.2.2 j hj, N2.2.1])
      · intro k u3 hk ⟨t3, f3⟩ kk
        refine TX12_trace_48 hr (brF (by rw [f3 655 61 (by omega), h2.1]; exact nI_ge hk (by omega)) ⟨vpn (by omega) (by omega), ?_⟩)
        rw [nI_one, nc (by omega)]
        refine kk _ ⟨fun i hi => ?_, f3.put rfl⟩
        by_cases y : i = k
        · subst y; rw [x2_same, f3 _ _ (by omega)]; exact h2.2 i hk
        · rw [x2_i _ _ y]; exact t3 i (by omega)
    · have : (tE L e σ v o).1 38 < 0 := Int32.not_le.mp z
      rw [cm.mpr this]
    · have : (tE L e σ v o).1 38 < 0 := Int32.not_le.mp z
      rw [if_pos (cm.mpr this)]
      exact ⟨by rw [f2 655 68 (by omega), x2_same]; rfl, fun i hi => by omega⟩
theorem K_lies {u : xU} {m : Nat} {Y : Nat → Int32} (hr : xRf r) (h : cLy u m Y) (hm : m ≤ 20) (i : Int32) : xCall g (d + 1) mX11_lies [.ref 8, .int i] 698 u w r 698 (xPr (aLies m Y i) u w r) := by
  refine CX11_lies hr (xPr.use (K_isOneOf _ _) ⟨_, rfl, rfl, rfl, rfl, ?_⟩)
  rw [h.1]
  unfold aLies
  by_cases q : inN i m
  · have z : ¬ xb (¬ i < 0 ∧ ¬ nI m ≤ i) = 0 := by rw [xb_eq0]; exact fun y => y q
    rw [if_pos q, if_neg z]
    obtain ⟨k, hk, rfl⟩ := inN.get q (by omega)
    rw [nc (by omega), h.2 k hk]
    exact ⟨fun _ => vpn (by omega) (by omega), rfl, rfl, rfl, rfl⟩
  · have z : xb (¬ i < 0 ∧ ¬ nI m ≤ i) = 0 := by rw [xb_eq0]; exact q
    rw [if_neg q, if_pos z]
    exact ⟨fun y => absurd z y, rfl, rfl, rfl, rfl⟩
theorem R_lies {u : xU} {m : Nat} {Y : Nat → Int32} (hr : xRf r) (h : rLy u m Y) (hm : m ≤ 20) (i : Int32) : xCall g (d + 1) mX12_lies [.ref 655, .int i] 698 u w r 698 (xPr (aLies m Y i) u w r) := by
  refine CX12_lies hr (xPr.use (R_isIn _ _ _) ⟨_, rfl, rfl, rfl, rfl, ?_⟩)
  rw [h.1, xb_iff (inN_ref (show m < 1000 by omega))]
  unfold aLies
  by_cases q : inN i m
  · have z : ¬ xb (inN i m) = 0 := by rw [xb_eq0]; exact fun y => y q
    rw [if_pos q, if_neg z]
    obtain ⟨k, hk, rfl⟩ := inN.get q (by omega)
    rw [nc (by omega), h.2 k hk]
    exact ⟨fun _ => vpn (by omega) (by omega), rfl, rfl, rfl, rfl⟩
  · have z : xb (inN i m) = 0 := by rw [xb_eq0]; exact q
    rw [if_neg q, if_pos z]
    exact ⟨fun y => absurd z y, rfl, rfl, rfl, rfl⟩
end TRACQ
