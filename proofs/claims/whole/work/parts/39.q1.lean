/-! QUESTIONS: comes, late, worth, stuck, buried -/
/-- one of n -/
abbrev inN (i : Int32) (n : Nat) : Prop := ¬ i < 0 ∧ ¬ nI n ≤ i
theorem inN.get {i : Int32} {n : Nat} (h : inN i n) (hn : n < 2147483648) : ∃ k, k < n ∧ i = nI k := vp_nI (vp_of h.1 h.2 hn)
theorem inN.mk {k n : Nat} (h : k < n) (hn : n < 2147483648) : inN (nI k) n := ⟨nI_nn (by omega), nI_ge (by omega) (by omega)⟩
theorem inN_ref {i : Int32} {n : Nat} (hn : n < 1000) : (¬ i < 0 ∧ ¬ nI n - 1 < i) ↔ inN i n := by
  have e : (nI n - 1).toInt = (n : Int) - 1 := by
    have h1 : (1 : Int32).toInt = 1 := rfl
    rw [ti_sub (by rw [ti_nI (by omega), h1]; omega) (by rw [ti_nI (by omega), h1]; omega), ti_nI (by omega), h1]
  refine and_congr_right (fun h => ?_)
  rw [ti_lt, ti_le, e, ti_nI (by omega)]
  omega
/-- references as they lie when a land is told at l -/
def kR (r : xQ) (l : Nat) : Prop := xRf r ∧ xLd l ∧ xLr l r ∧ r 52 1 = some l ∧ r 8 10 = some l ∧ l + 14 < 52
/-- the class at rest -/
def kN (L : xU) (l n e : Nat) (u : xU) (σ : Nat → Int32) : Prop := kE u l L (σ 89) ∧ (∃ T, kSt L n u 105 σ T) ∧ gSt L (σ 89) n e σ
theorem or_sh {p : Prop} [Decidable p] {k : Nat} (hk : k < 32) (s : Int32) : s ||| (xb p <<< (nI k &&& 31)) = if p then s ||| ((1 : Int32) <<< (nI k &&& 31)) else s := by
  by_cases h : p
  · rw [xb_pos h, if_pos h]
  · rw [xb_neg h, if_neg h, bt_sh0 hk]
    refine b_ext (fun i hi => ?_)
    rw [b_or, b_0, Bool.or_false]
def inT (σ : Nat → Int32) (l : Nat) : Bool := decide (¬ σ (38 + l) < 0 ∧ ¬ σ (68 + l) < σ (38 + l))
def fEnd (L : xU) (n e : Nat) (σ : Nat → Int32) : Nat → Int32 := fRun L (σ 89) n (300 - e) σ
def aComes (L : xU) (n e : Nat) (σ : Nat → Int32) (i : Int32) : Int32 := if inN i n then fEnd L n e σ (38 + i.toNatClampNeg) else -1
def aLate (L : xU) (n e : Nat) (σ : Nat → Int32) : Int32 := xset n (fun l => !inT (fEnd L n e σ) l)
def aWorthK (L : xU) (n e : Nat) (σ : Nat → Int32) (k : Nat) : Int32 := xfold k (fun l s => if inT (fEnd L n e σ) l = true then s + fEnd L n e σ (78 + l) else s) 0
def aStuckP (L : xU) (n e : Nat) (σ : Nat → Int32) (l : Nat) : Bool := decide (¬ σ (18 + l) < 0 ∧ (fEnd L n e σ (18 + l) = σ (18 + l) ∧ fEnd L n e σ (48 + l) = σ (48 + l)))
def aBuried (L : xU) (e : Nat) (σ : Nat → Int32) (i : Int32) : Int32 := if inN i (lB L) then (if σ i.toNatClampNeg = 3 then σ 90 else bD L (σ 89) (300 - e) σ i.toNatClampNeg) else -1
theorem gSt.came {L : xU} {c : Int32} {n e : Nat} {σ : Nat → Int32} (h : gSt L c n e σ) {l : Nat} (hl : l < n) : σ (38 + l) = -1 ↔ σ (38 + l) < 0 := by
  obtain ⟨-, l2⟩ := h.2.2.2.2.1 l hl
  rcases l2 with ⟨-, q, -⟩ | ⟨b, -, -, -, q, -⟩ | ⟨-, -, x, hx, q⟩
  · rw [q]; exact ⟨fun _ => m1_neg, fun _ => rfl⟩
  · rw [q]; exact ⟨fun _ => m1_neg, fun _ => rfl⟩
  · rw [q]; exact ⟨fun z => absurd z (nI_m1 (by omega)), fun z => absurd z (nI_nn (by omega))⟩
section Q1
variable {g : xGT} {d : Nat} {w : xW} {r : xQ} {L : xU} {l n e : Nat} {σ : Nat → Int32}
theorem kN.out {u : xU} {P : xPost} (hK : lOkk L) (hR : kR r l) (hN : kN L l n e u σ) (kk : ∀ (u' : xU) (σ' T : Nat → Int32), kSt L n u' 80 σ' T → (∀ j, j < 91 → j ≠ 90 → σ' j = fEnd L n e σ j) → gSt L (σ 89) n 300 (fEnd L n e σ) → (∀ b, b < lB L → ¬ σ b = 3 → (σ' b = 3 → T b = bD L (σ 89) (300 - e) σ b) ∧ (¬ σ' b = 3 → bD L (σ 89) (300 - e) σ b = -1)) → kSt L n u' 105 σ (fun b => u (105 + 3) b) → xSm (fLk l) u u' → P (some (.ref 80)) u' w r) :
    xCall g (d + 5) mX3_runOut [.ref 79, .ref 105] 698 u w r 698 P := by
  obtain ⟨hr, h_l, q_l, hm, ht, hl⟩ := hR
  obtain ⟨hE, ⟨T, hk⟩, hS⟩ := hN
  have he := hS.2.2.1.2
  refine K_runOut hr h_l q_l hm hl hK (m := 300 - e) (by omega) hE hk hS (fun u' ⟨σ', T', o1, o2, o3⟩ f => kk u' σ' T' o1 o2 ?_ (fun b hb h3 => (o3 b hb).2 h3) ?_ f)
  · have := fRun_st hK.1 hK.2.2.1 (300 - e) e σ (by omega) hS
    rw [show e + (300 - e) = 300 by omega] at this
    exact this
  · have : kSt L n u 105 σ (fun b => u (105 + 3) b) := by
      obtain ⟨a, b1, b2, b3⟩ := hk
      exact ⟨a, b1, fun b hb => ⟨(b2 b hb).1, (b2 b hb).2.1, fun _ => rfl, (b2 b hb).2.2.2⟩, b3⟩
    exact this.kept f (by omega)
theorem K_comes {u : xU} (hK : lOkk L) (hR : kR r l) (hN : kN L l n e u σ) (i : Int32) : xCall g (d + 6) mX11_comes [.ref 8, .int i] 698 u w r 698 (xIn (aComes L n e σ i) (xSm (fLk l) u) w r) := by
  have n10 := hN.2.2.1.2
  obtain ⟨T, hk⟩ := hN.2.1
  refine CX11_comes hR.1 (xPr.use (K_isOneOf _ _) ⟨_, rfl, rfl, rfl, rfl, ?_⟩)
  rw [hk.1.2.2, hN.2.2.1.1, xb_eq0]
  unfold aComes
  refine ⟨fun q => ⟨by rw [if_neg q], xSm.rf, rfl, rfl⟩, fun q => ?_⟩
  rw [Classical.not_not] at q
  rw [if_pos q]
  obtain ⟨k, hk', rfl⟩ := inN.get q (by omega)
  refine hN.out hK hR (fun u' σ' T o1 o2 oS _ _ f => ⟨rfl, rfl, rfl, vpn (by omega) (by omega), ?_, f, rfl, rfl⟩)
  rw [nc (by omega), (o1.2.2.2 k hk').1.2.2.1, o2 _ (by omega) (by omega)]
theorem K_isInTime {u : xU} {T σ' : Nat → Int32} (hr : xRf r) (n10 : n ≤ 10) (o1 : kSt L n u 80 σ' T) (o2 : ∀ j, j < 91 → j ≠ 90 → σ' j = fEnd L n e σ j) (oS : gSt L (σ 89) n 300 (fEnd L n e σ)) {k : Nat} (hk : k < n) : xCall g d mX9_isInTime [.ref 80, .int (nI k)] 698 u w r 698 (xPr (xb (inT (fEnd L n e σ) k = true)) u w r) := by
  refine CX9_isInTime st80 (sr80 hr) ⟨vpn (by omega) (by omega), ?_, rfl, rfl, rfl⟩
  rw [nc (by omega)]
  have e1 := (o1.2.2.2 k hk).1.2.2.1
  have e2 := (o1.2.2.2 k hk).2.2.1
  rw [o2 _ (by omega) (by omega)] at e1 e2
  rw [e1, e2]
  congr 2
  refine xb_iff ?_
  unfold inT
  rw [decide_eq_true_iff, oS.came hk]
theorem K_late {u : xU} (hK : lOkk L) (hR : kR r l) (hN : kN L l n e u σ) : xCall g (d + 6) mX11_late [.ref 8] 698 u w r 698 (xIn (aLate L n e σ) (xSm (fLk l) u) w r) := by
  have n10 := hN.2.2.1.2
  refine CX11_late hR.1 (hN.out hK hR (fun u' σ' T o1 o2 oS _ _ f => ⟨rfl, rfl, rfl, ?_⟩))
  refine xlq (N := n) (G := fun k => xEv g (d + 6) mX11_late 16 [none, some (.ref 80), some (.int (xset k (fun l => !inT (fEnd L n e σ) l))), some (.int (nI k))] [] 698 u' w r 698 _) ?_ ?_
  · exact TX11_late_16 (brT (by rw [o1.1.2.2, o2 _ (by omega) (by omega), oS.1.1]; exact nI_le (Nat.le_refl _) (by omega)) ⟨rfl, f, rfl, rfl⟩)
  · intro k hk kk
    refine TX11_late_16 (brF (by rw [o1.1.2.2, o2 _ (by omega) (by omega), oS.1.1]; exact nI_ge (by omega) (by omega)) ?_)
    refine xPr.use (K_isInTime hR.1 n10 o1 o2 oS hk) ⟨_, rfl, rfl, rfl, rfl, ?_⟩
    rw [xb_eq0]
    rw [xset_s] at kk
    refine ⟨fun q => TX11_late_38 ?_, fun q => TX11_late_38 ?_⟩
    · rw [if_pos (show (!inT (fEnd L n e σ) k) = true by simpa using q)] at kk
      rw [nI_one]; exact kk
    · rw [if_neg (show ¬ (!inT (fEnd L n e σ) k) = true by simpa using q)] at kk
      rw [nI_one]; exact kk
theorem K_worth {u : xU} (hK : lOkk L) (hR : kR r l) (hN : kN L l n e u σ) : xCall g (d + 6) mX11_worth [.ref 8] 698 u w r 698 (xIn (aWorthK L n e σ n) (xSm (fLk l) u) w r) := by
  have n10 := hN.2.2.1.2
  refine CX11_worth hR.1 (hN.out hK hR (fun u' σ' T o1 o2 oS _ _ f => ⟨rfl, rfl, rfl, ?_⟩))
  refine xlq (N := n) (G := fun k => xEv g (d + 6) mX11_worth 16 [none, some (.ref 80), some (.int (aWorthK L n e σ k)), some (.int (nI k))] [] 698 u' w r 698 _) ?_ ?_
  · exact TX11_worth_16 hR.1 (brT (by rw [o1.1.2.2, o2 _ (by omega) (by omega), oS.1.1]; exact nI_le (Nat.le_refl _) (by omega)) ⟨rfl, f, rfl, rfl⟩)
  · intro k hk kk
    refine TX11_worth_16 hR.1 (brF (by rw [o1.1.2.2, o2 _ (by omega) (by omega), oS.1.1]; exact nI_ge (by omega) (by omega)) ?_)
    refine xPr.use (K_isInTime hR.1 n10 o1 o2 oS hk) ⟨_, rfl, rfl, rfl, rfl, ?_⟩
    rw [xb_eq0]
    have ek : aWorthK L n e σ (k + 1) = if inT (fEnd L n e σ) k = true then aWorthK L n e σ k + fEnd L n e σ (78 + k) else aWorthK L n e σ k := rfl
    rw [ek] at kk
    refine ⟨fun q => TX11_worth_41 ?_, fun q => ⟨vpn (by omega) (by omega), TX11_worth_41 ?_⟩⟩
    · rw [if_neg q] at kk
      rw [nI_one]; exact kk
    · rw [if_pos (Classical.not_not.mp q)] at kk
      rw [nI_one, nc (by omega), (o1.2.2.2 k hk).2.2.2, o2 _ (by omega) (by omega)]; exact kk
theorem K_stuck {u : xU} (hK : lOkk L) (hR : kR r l) (hN : kN L l n e u σ) : xCall g (d + 6) mX11_stuck [.ref 8] 698 u w r 698 (xIn (xset n (aStuckP L n e σ)) (xSm (fLk l) u) w r) := by
  have n10 := hN.2.2.1.2
  have he := hN.2.2.2.2.1.2
  refine CX11_stuck hR.1 (hN.out hK hR (fun u' σ' T o1 o2 oS _ ok f => ⟨rfl, rfl, rfl, ?_⟩))
  refine xlq (N := n) (G := fun k => xEv g (d + 6) mX11_stuck 16 [some (.ref 8), some (.ref 80), some (.int (xset k (aStuckP L n e σ))), some (.int (nI k)), none] [] 698 u' w r 698 _) ?_ ?_
  · exact TX11_stuck_16 hR.1 (brT (by rw [ok.1.2.2, hN.2.2.1.1]; exact nI_le (Nat.le_refl _) (by omega)) ⟨rfl, f, rfl, rfl⟩)
  · intro k hk kk
    refine TX11_stuck_16 hR.1 (brF (by rw [ok.1.2.2, hN.2.2.1.1]; exact nI_ge (by omega) (by omega)) ⟨vpn (by omega) (by omega), ?_⟩)
    rw [xset_s] at kk
    obtain ⟨⟨a1, a2, a3, a4⟩, -⟩ := o1.2.2.2 k hk
    obtain ⟨⟨c1, c2, c3, c4⟩, -⟩ := ok.2.2.2 k hk
    rw [o2 _ (by omega) (by omega)] at a1 a2 a3 a4
    rw [nc (by omega), c1, a3, a4, c4, xb_eq0, Classical.not_not]
    have ei := stuck_iff (m := 300 - e) hK.1 hK.2.2.1 (by omega) hN.2.2 hk
    have eb : (¬ σ (18 + k) = -1 ∧ (fEnd L n e σ (38 + k) = -1 ∧ fEnd L n e σ (48 + k) = σ (48 + k))) ↔ aStuckP L n e σ k = true := by
      unfold aStuckP
      rw [decide_eq_true_iff]
      exact ei
    rw [eb]
    refine ⟨fun q => TX11_stuck_86 ?_, fun q => TX11_stuck_86 ?_⟩
    · rw [if_pos q] at kk; rw [nI_one]; exact kk
    · rw [if_neg q] at kk; rw [nI_one]; exact kk
theorem K_buried {u : xU} (hK : lOkk L) (hR : kR r l) (hN : kN L l n e u σ) (i : Int32) : xCall g (d + 6) mX11_buried [.ref 8, .int i] 698 u w r 698 (xIn (aBuried L e σ i) (xSm (fLk l) u) w r) := by
  have hb6 := hK.2.2.1.1
  obtain ⟨T, hk⟩ := hN.2.1
  refine CX11_buried hR.1 hR.2.1 hR.2.2.2.2.1 (xPr.use (K_isOneOf _ _) ⟨_, rfl, rfl, rfl, rfl, ?_⟩)
  rw [hN.1.1.1.2.2, xb_eq0]
  unfold aBuried
  refine ⟨fun q => ⟨by rw [if_neg q], xSm.rf, rfl, rfl⟩, fun q => ?_⟩
  rw [Classical.not_not] at q
  rw [if_pos q]
  obtain ⟨b, hb, rfl⟩ := inN.get q (by omega)
  rw [nc (by omega), hk.2.1 b (by omega), hk.1.1]
  refine ⟨vpn (by omega) (by omega), fun q3 => ⟨by rw [if_pos q3], xSm.rf, rfl, rfl⟩, fun q3 => ?_⟩
  rw [if_neg q3]
  refine hN.out hK hR (fun u' σ' T o1 o2 oS oB _ f => ⟨rfl, rfl, rfl, ?_, f, rfl, rfl⟩)
  obtain ⟨z1, z2⟩ := oB b hb q3
  rw [o1.2.1 b (by omega)]
  by_cases y : σ' b = 3
  · rw [if_pos y, (o1.2.2.1 b hb).2.2.1 y, z1 y]
  · rw [if_neg y, z2 y]
/-! the reference -/
theorem rN1.keep {u u' : xU} (h : rN1 L n e u σ) (f : xSn fRx u u') (h91 : ∀ j, 91 ≤ j → u' 684 j = σ j) : rN1 L n e u' σ := by
  obtain ⟨a1, a2, a3, a4⟩ := h
  have e683 : u' 683 = u 683 := funext fun i => f _ _ (by omega)
  refine ⟨?_, e683.trans a2, a3, fun j hj => by rw [h91 j hj, e683, a2]⟩
  obtain ⟨⟨a1, a2, a3⟩, b1, b2, b3, b4, b5, b6, b7, b8, b9, c1, c2, c3, c4⟩ := a1
  have e : ∀ b, b < 680 → b ≠ 663 → b ≠ 664 → b ≠ 655 → u' b = u b := fun b h1 h2 h3 h4 => funext fun i => f b i (by omega)
  have g : ∀ i, i ≠ 61 → u' 655 i = u 655 i := fun i hi => f _ _ (by omega)
  rw [rL, g 49 (by omega), g 50 (by omega), g 51 (by omega), g 52 (by omega), g 53 (by omega), g 18 (by omega), g 56 (by omega), e 660 (by omega) (by omega) (by omega) (by omega), e 661 (by omega) (by omega) (by omega) (by omega), e 668 (by omega) (by omega) (by omega) (by omega), e 669 (by omega) (by omega) (by omega) (by omega), e 670 (by omega) (by omega) (by omega) (by omega), e 675 (by omega) (by omega) (by omega) (by omega), e 676 (by omega) (by omega) (by omega) (by omega), e 677 (by omega) (by omega) (by omega) (by omega), e 678 (by omega) (by omega) (by omega) (by omega)]
  exact ⟨⟨a1, a2, a3⟩, b1, b2, b3, b4, b5, b6, b7, b8, b9, c1, c2, c3, c4⟩
/-- behind a question the reference is as it was -/
def rA (L : xU) (n e : Nat) (σ : Nat → Int32) (u u' : xU) : Prop := xSn fRx u u' ∧ rN1 L n e u' σ
theorem rN1.end {u : xU} {P : xPost} (hr : xRf r) (hK : lOkk L) (hN : rN1 L n e u σ) (kk : ∀ u' : xU, u' 684 = fEnd L n e σ → u' 683 = σ → gSt L (σ 89) n 300 (fEnd L n e σ) → rA L n e σ u u' → P none u' w r) :
    xCall g (d + 10) mX12_goToEnd [.ref 655] 698 u w r 698 P := by
  have hS := hN.2.2.1
  have he := hS.2.2.1.2
  have SE := fRun_st hK.1 hK.2.2.1 (300 - e) e σ (by omega) hS
  rw [show e + (300 - e) = 300 by omega] at SE
  refine R_goToEnd hr hK hN (m := 300 - e) (by omega) (fun u' h1 h2 f => kk u' h1 h2 SE ⟨f, hN.keep f (fun j hj => ?_)⟩)
  rw [h1]
  exact fRun_fr hK.1 hK.2.2.1 (300 - e) e σ (by omega) hS j (by omega)
theorem rA.rf {u : xU} (hN : rN1 L n e u σ) : rA L n e σ u u := ⟨xSn.rf, hN⟩
theorem R_isPosted {u : xU} (hr : xRf r) (hN : rN1 L n e u σ) (i : Int32) : xCall g (d + 1) mX12_isPosted [.ref 655, .int i] 698 u w r 698 (xPr (xb (inN i n)) u w r) := by
  have n10 := hN.2.2.1.1.2
  refine CX12_isPosted hr (xPr.use (R_isIn _ _ _) ⟨_, rfl, rfl, rfl, rfl, xb01 _, ?_, rfl, rfl, rfl⟩)
  rw [hN.2.1, hN.2.2.1.1.1, xb_iff (inN_ref (by omega))]
theorem R_isBier {u : xU} (hL : rL u L) (hb6 : lB L ≤ 6) (i : Int32) : xCall g (d + 1) mX12_isBier [.ref 655, .int i] 698 u w r 698 (xPr (xb (inN i (lB L))) u w r) := by
  refine CX12_isBier (xPr.use (R_isIn _ _ _) ⟨_, rfl, rfl, rfl, rfl, xb01 _, ?_, rfl, rfl, rfl⟩)
  rw [hL.1.2.2, xb_iff (inN_ref (by omega))]
theorem R_isVillage {u : xU} (hL : rL u L) (hv7 : lV L ≤ 7) (i : Int32) : xCall g (d + 1) mX12_isVillage [.ref 655, .int i] 698 u w r 698 (xPr (xb (inN i (lV L))) u w r) := by
  refine CX12_isVillage (xPr.use (R_isIn _ _ _) ⟨_, rfl, rfl, rfl, rfl, xb01 _, ?_, rfl, rfl, rfl⟩)
  rw [hL.1.1, xb_iff (inN_ref (by omega))]
theorem R_comes {u : xU} (hr : xRf r) (hK : lOkk L) (hN : rN1 L n e u σ) (i : Int32) : xCall g (d + 11) mX12_comes [.ref 655, .int i] 698 u w r 698 (xIn (aComes L n e σ i) (rA L n e σ u) w r) := by
  have n10 := hN.2.2.1.1.2
  refine CX12_comes hr (xPr.use (R_isPosted hr hN i) ⟨_, rfl, rfl, rfl, rfl, ?_⟩)
  rw [xb_eq0]
  unfold aComes
  refine ⟨fun q => ⟨by rw [if_neg q], rA.rf hN, rfl, rfl⟩, fun q => ?_⟩
  rw [Classical.not_not] at q
  rw [if_pos q]
  obtain ⟨k, hk, rfl⟩ := inN.get q (by omega)
  refine hN.end hr hK (fun u' h1 h2 SE f => ⟨rfl, rfl, rfl, ?_⟩)
  simp (disch := omega) only [a38, nc]
  exact ⟨vpn (by omega) (by omega), by rw [h1], f, rfl, rfl⟩
theorem R_isInTime {u : xU} (hr : xRf r) {k : Nat} (hk : k < 10) : xCall g d mX12_isInTime [.ref 655, .int (nI k)] 698 u w r 698 (xPr (xb (inT (u 684) k = true)) u w r) := by
  refine CX12_isInTime hr ?_
  simp (disch := omega) only [a38, a68, nc]
  refine ⟨vpn (by omega) (by omega), fun _ => vpn (by omega) (by omega), ?_, rfl, rfl, rfl⟩
  congr 2
  refine xb_iff ?_
  unfold inT
  rw [decide_eq_true_iff]
theorem R_late {u : xU} (hr : xRf r) (hK : lOkk L) (hN : rN1 L n e u σ) : xCall g (d + 11) mX12_late [.ref 655] 698 u w r 698 (xIn (aLate L n e σ) (rA L n e σ u) w r) := by
  have n10 := hN.2.2.1.1.2
  refine CX12_late (hN.end hr hK (fun u' h1 h2 SE f => ⟨rfl, rfl, rfl, ?_⟩))
  refine xlq (N := n) (G := fun k => xEv g (d + 11) mX12_late 8 [some (.ref 655), some (.int (xset k (fun l => !inT (fEnd L n e σ) l))), some (.int (nI k))] [] 698 u' w r 698 _) ?_ ?_
  · exact TX12_late_8 hr (brT (by rw [h1, SE.1.1]; exact nI_le (Nat.le_refl _) (by omega)) ⟨rfl, f, rfl, rfl⟩)
  · intro k hk kk
    refine TX12_late_8 hr (brF (by rw [h1, SE.1.1]; exact nI_ge (by omega) (by omega)) ?_)
    refine xPr.use (R_isInTime hr (by omega)) ⟨_, rfl, rfl, rfl, rfl, xPr.use (R_truthb _) ⟨_, rfl, rfl, rfl, rfl, ?_⟩⟩
    rw [or_sh (by omega), nI_one]
    rw [xset_s] at kk
    rw [h1]
    by_cases q : inT (fEnd L n e σ) k = true
    · rw [if_neg (by rw [xb_eq0, Classical.not_not]; exact q)]
      rw [if_neg (by rw [q]; decide)] at kk
      exact kk
    · rw [if_pos (by rw [xb_eq0]; exact q)]
      rw [if_pos (by simpa using q)] at kk
      exact kk
theorem R_worth {u : xU} (hr : xRf r) (hK : lOkk L) (hN : rN1 L n e u σ) : xCall g (d + 11) mX12_worth [.ref 655] 698 u w r 698 (xIn (aWorthK L n e σ n) (rA L n e σ u) w r) := by
  have n10 := hN.2.2.1.1.2
  refine CX12_worth (hN.end hr hK (fun u' h1 h2 SE f => ⟨rfl, rfl, rfl, ?_⟩))
  refine xlq (N := n) (G := fun k => xEv g (d + 11) mX12_worth 8 [some (.ref 655), some (.int (aWorthK L n e σ k)), some (.int (nI k))] [] 698 u' w r 698 _) ?_ ?_
  · exact TX12_worth_8 hr (brT (by rw [h1, SE.1.1]; exact nI_le (Nat.le_refl _) (by omega)) ⟨rfl, f, rfl, rfl⟩)
  · intro k hk kk
    refine TX12_worth_8 hr (brF (by rw [h1, SE.1.1]; exact nI_ge (by omega) (by omega)) ?_)
    refine xPr.use (R_isInTime hr (by omega)) ⟨_, rfl, rfl, rfl, rfl, ?_⟩
    simp (disch := omega) only [a78, nc]
    refine ⟨fun _ => vpn (by omega) (by omega), ?_⟩
    have ek : aWorthK L n e σ (k + 1) = if inT (fEnd L n e σ) k = true then aWorthK L n e σ k + fEnd L n e σ (78 + k) else aWorthK L n e σ k := rfl
    rw [ek] at kk
    rw [h1, nI_one]
    by_cases q : inT (fEnd L n e σ) k = true
    · rw [if_neg (by rw [xb_eq0, Classical.not_not]; exact q)]
      rw [if_pos q] at kk
      exact kk
    · rw [if_pos (by rw [xb_eq0]; exact q), Int32.add_zero]
      rw [if_neg q] at kk
      exact kk
theorem R_stuck {u : xU} (hr : xRf r) (hK : lOkk L) (hN : rN1 L n e u σ) : xCall g (d + 11) mX12_stuck [.ref 655] 698 u w r 698 (xIn (xset n (aStuckP L n e σ)) (rA L n e σ u) w r) := by
  have n10 := hN.2.2.1.1.2
  refine CX12_stuck (hN.end hr hK (fun u' h1 h2 SE f => ⟨rfl, rfl, rfl, ?_⟩))
  refine xlq (N := n) (G := fun k => xEv g (d + 11) mX12_stuck 8 [some (.ref 655), some (.int (xset k (aStuckP L n e σ))), some (.int (nI k))] [] 698 u' w r 698 _) ?_ ?_
  · exact TX12_stuck_8 hr (brT (by rw [h1, SE.1.1]; exact nI_le (Nat.le_refl _) (by omega)) ⟨rfl, f, rfl, rfl⟩)
  · intro k hk kk
    refine TX12_stuck_8 hr (brF (by rw [h1, SE.1.1]; exact nI_ge (by omega) (by omega)) ?_)
    simp (disch := omega) only [a18, a48, nc]
    refine ⟨vpn (by omega) (by omega), fun _ _ => vpn (by omega) (by omega), xPr.use (R_truthb _) ⟨_, rfl, rfl, rfl, rfl, ?_⟩⟩
    rw [or_sh (by omega), nI_one, h1, h2]
    rw [xset_s] at kk
    by_cases q : aStuckP L n e σ k = true
    · rw [if_pos (of_decide_eq_true q)]
      rw [if_pos q] at kk
      exact kk
    · rw [if_neg (fun z => q (decide_eq_true z))]
      rw [if_neg q] at kk
      exact kk
theorem R_buried_loop {P : xPost} {c : Int32} (hr : xRf r) (hK : lOkk L) {b : Nat} (hb : b < lB L) : ∀ (m e n : Nat) (τ : Nat → Int32) (u : xU), e + m = 300 → rE u L c → u 684 = τ → gSt L c n e τ →
    (∀ u' : xU, xSm fDy u u' → (∀ j, 91 ≤ j → u' 684 j = τ j) → P (some (.int (bD L c m τ b))) u' w r) →
    xEv g (d + 5) mX12_buried 32 [some (.ref 655), some (.int (nI b))] [] 698 u w r 698 P := by
  have hW := hK.1
  have hB := hK.2.2.1
  have hb6 := hB.1
  intro m
  induction m with
  | zero =>
    intro e n τ u he hE hτ hS kk
    refine TX12_buried_32 hr (brT ?_ (kk u xSm.rf (fun j _ => by rw [hτ])))
    rw [hτ, hS.2.2.1.1]
    exact nI_le (a := 300) (by omega) (by omega)
  | succ m ih =>
    intro e n τ u he hE hτ hS kk
    subst hτ
    have S1 := fOne_st hW hB hS
    refine TX12_buried_32 hr (brF ?_ ?_)
    · rw [hS.2.2.1.1]
      exact nI_ge (b := 300) (by omega) (by omega)
    · refine xVd.use (R_stepOne hr hE hK hS) (fun u1 ⟨h1, f1⟩ => ⟨rfl, rfl, rfl, vpn (by omega) (by omega), ?_⟩)
      rw [nc (by omega), h1]
      have k1 := fOne_fr hW hB hS
      rw [bD] at kk
      refine ⟨fun q => ?_, fun q => ?_⟩
      · rw [if_pos q] at kk
        rw [S1.2.2.1.1, ← hS.2.2.1.1]
        exact kk u1 f1 (fun j hj => by rw [h1]; exact k1 j (by omega))
      · rw [if_neg q] at kk
        have E1 : rE u1 L c := hE.kn (f1.n fDy_h) (by rw [h1]; exact S1.2.1)
        refine xVd.use (R_stepFour hr E1 hK (by rw [h1]; exact S1)) (fun u2 ⟨h2, f2⟩ => ⟨rfl, rfl, rfl, ?_⟩)
        rw [h1] at h2
        have S2 := fFour_st hW hB S1 (by omega)
        have f2' : xSm fDy u1 u2 := f2.to (fun b hb => Or.inr (Or.inr hb))
        refine ih (e + 1) n _ u2 (by omega) (E1.kn (f2'.n fDy_h) (by rw [h2]; exact S2.2.1)) h2 S2 (fun u3 f3 h3 => kk u3 ((f1.tr f2').tr f3) (fun j hj => ?_))
        rw [h3 j hj, fFour_fr hB j (by omega), k1 j (by omega)]
theorem fDy_x : ∀ b i, fDy b → fRx b i := fun b i h => by unfold fRx; unfold fDy at h; omega
theorem R_buried {u : xU} (hr : xRf r) (hK : lOkk L) (hN : rN1 L n e u σ) (i : Int32) : xCall g (d + 6) mX12_buried [.ref 655, .int i] 698 u w r 698 (xIn (aBuried L e σ i) (rA L n e σ u) w r) := by
  have hb6 := hK.2.2.1.1
  have hS := hN.2.2.1
  have he := hS.2.2.1.2
  refine CX12_buried hr (xPr.use (R_isBier hN.1 hb6 i) ⟨_, rfl, rfl, rfl, rfl, ?_⟩)
  rw [xb_eq0]
  unfold aBuried
  refine ⟨fun q => ⟨by rw [if_neg q], rA.rf hN, rfl, rfl⟩, fun q => ?_⟩
  rw [Classical.not_not] at q
  rw [if_pos q]
  obtain ⟨b, hb, rfl⟩ := inN.get q (by omega)
  refine R_loaded hr hK hN (fun u1 h1 h2 h3 f1 => ⟨rfl, rfl, rfl, vpn (by omega) (by omega), ?_⟩)
  rw [nc (by omega), h1]
  refine ⟨fun q3 => ⟨by rw [if_pos q3], ⟨f1, hN.keep f1 (fun j _ => by rw [h1])⟩, rfl, rfl⟩, fun q3 => ?_⟩
  rw [if_neg q3]
  refine R_buried_loop hr hK hb (300 - e) e n σ u1 (by omega) h3 h1 hS (fun u2 f2 h91 => ⟨rfl, ⟨f1.tr (f2.n fDy_x), hN.keep (f1.tr (f2.n fDy_x)) h91⟩, rfl, rfl⟩)
end Q1
