/-! WHAT WAS TOLD: had, untell, later; both sides -/
def loOk (L : xU) (h t : Nat) (Z : xU) : Prop := h ≤ 30 ∧ t ≤ 100000 ∧ ∀ i, i < h → (∃ b, b < lB L ∧ Z 0 i = nI b) ∧ (Z 1 i = 0 ∨ Z 1 i = 1) ∧ (Z 3 i = -1 ∨ ∃ x, x ≤ 100000 ∧ Z 3 i = nI x)
def cLo (u : xU) (h t : Nat) (Z : xU) : Prop := u 611 4 = nI h ∧ u 611 5 = nI t ∧ ∀ i, i < h → u 612 i = Z 0 i ∧ u 613 i = Z 1 i ∧ u 614 i = Z 2 i ∧ u 615 i = Z 3 i
def rLo (u : xU) (h t : Nat) (Z : xU) : Prop := u 655 73 = nI h ∧ u 655 74 = nI t ∧ ∀ i, i < h → u 691 i = Z 0 i ∧ u 694 i = Z 1 i ∧ u 692 i = Z 2 i ∧ u 693 i = Z 3 i
def loPut (Z : xU) (h : Nat) (i is t : Int32) : xU := fun a j => if j = h then (if a = 0 then i else if a = 1 then is else if a = 2 then t else -1) else Z a j
theorem loPut_0 (Z : xU) (h : Nat) (i is t : Int32) : loPut Z h i is t 0 h = i := by unfold loPut; rw [if_pos rfl]; rfl
theorem loPut_1 (Z : xU) (h : Nat) (i is t : Int32) : loPut Z h i is t 1 h = is := by unfold loPut; rw [if_pos rfl]; rfl
theorem loPut_2 (Z : xU) (h : Nat) (i is t : Int32) : loPut Z h i is t 2 h = t := by unfold loPut; rw [if_pos rfl]; rfl
theorem loPut_3 (Z : xU) (h : Nat) (i is t : Int32) : loPut Z h i is t 3 h = -1 := by unfold loPut; rw [if_pos rfl]; rfl
theorem loPut_n (Z : xU) {h j : Nat} (i is t : Int32) (a : Nat) (hj : j ≠ h) : loPut Z h i is t a j = Z a j := by unfold loPut; rw [if_neg hj]
abbrev hadC (L : xU) (h : Nat) (i : Int32) : Prop := inN i (lB L) ∧ h < 30
def aHad (L : xU) (h : Nat) (i : Int32) : Int32 := if hadC L h i then nI h else -1
def nHadH (L : xU) (h : Nat) (i : Int32) : Nat := if hadC L h i then h + 1 else h
def nHadZ (L : xU) (h t : Nat) (Z : xU) (i is : Int32) : xU := if hadC L h i then loPut Z h i is (nI t) else Z
abbrev untC (h : Nat) (Z : xU) (i : Int32) : Prop := inN i h ∧ Z 3 i.toNatClampNeg = -1
def nUntZ (h t : Nat) (Z : xU) (i : Int32) : xU := if untC h Z i then x2 Z 3 i.toNatClampNeg (nI t) else Z
abbrev latC (t : Nat) (i : Int32) : Prop := ¬ i < 0 ∧ (¬ (1000 : Int32) < i ∧ t + i.toNatClampNeg ≤ 100000)
def aLat (t : Nat) (i : Int32) : Int32 := if latC t i then nI (t + i.toNatClampNeg) else -1
def nLat (t : Nat) (i : Int32) : Nat := if latC t i then t + i.toNatClampNeg else t
theorem latC_iff {t : Nat} (ht : t ≤ 100000) (i : Int32) : ¬ (i < 0 ∨ ((1000 : Int32) < i ∨ ¬ (nI t + i ≤ 100000))) ↔ latC t i := by
  unfold latC
  by_cases h0 : i < 0
  · exact ⟨fun z => absurd (Or.inl h0) z, fun z => absurd h0 z.1⟩
  · by_cases h1 : (1000 : Int32) < i
    · exact ⟨fun z => absurd (Or.inr (Or.inl h1)) z, fun z => absurd h1 z.2.1⟩
    · have e : i.toNatClampNeg = i.toInt.toNat := rfl
      have a0 := ge0 h0
      have a1 : i.toInt ≤ 1000 := by rw [ti_lt, k_toInt] at h1; omega
      have ei : i = nI i.toNatClampNeg := by rw [ti_eq, ti_nI (by omega), e]; omega
      have le : (nI t + i ≤ 100000) ↔ t + i.toNatClampNeg ≤ 100000 := by
        have : nI t + i = nI (t + i.toNatClampNeg) := by
          conv => lhs; rw [ei]
          rw [nI_add]
        rw [this, show (100000 : Int32) = nI 100000 from rfl, le_nI (by omega) (by omega)]
      rw [le]
      exact ⟨fun z => ⟨h0, h1, Classical.not_not.mp (fun y => z (Or.inr (Or.inr y)))⟩, fun z y => y.elim h0 (fun y => y.elim h1 (fun y => y z.2.2))⟩
theorem latC_add {t : Nat} {i : Int32} (h : latC t i) : nI t + i = nI (t + i.toNatClampNeg) := by
  have e : i.toNatClampNeg = i.toInt.toNat := rfl
  have a0 := ge0 h.1
  have a1 : i.toInt ≤ 1000 := by have := h.2.1; rw [ti_lt, k_toInt] at this; omega
  have ei : i = nI i.toNatClampNeg := by rw [ti_eq, ti_nI (by omega), e]; omega
  conv => lhs; rw [ei]
  rw [nI_add]
section LORE
variable {g : xGT} {d : Nat} {w : xW} {r : xQ} {L : xU} {l : Nat}
abbrev fLo : Nat → Prop := fun b => 611 ≤ b ∧ b < 616
abbrev fRl : Nat → Nat → Prop := fun b i => (691 ≤ b ∧ b < 695) ∨ (b = 655 ∧ (i = 73 ∨ i = 74))
theorem K_had {u : xU} {h t : Nat} {Z : xU} (hR : kR r l) (hL : kL u l L) (hb6 : lB L ≤ 6) (hlo : cLo u h t Z) (h30 : h ≤ 30) (i is : Int32) (his : is = 0 ∨ is = 1) :
    xCall g (d + 2) mX11_had [.ref 8, .int i, .int is] 698 u w r 698 (xIn (aHad L h i) (fun u' => cLo u' (nHadH L h i) t (nHadZ L h t Z i is) ∧ xSm fLo u u') w r) := by
  obtain ⟨hr, h_l, q_l, hm, ht, hl⟩ := hR
  obtain ⟨l1, l2, l3⟩ := hlo
  refine CX11_had hr h_l ht (xPr.use (K_isOneOf _ _) ⟨_, rfl, rfl, rfl, rfl, ?_⟩)
  rw [hL.1.2.2, l1, xb_eq0]
  have hc : (¬ (¬ i < 0 ∧ ¬ nI (lB L) ≤ i) ∨ ¬ nI h < 30) ↔ ¬ hadC L h i := by
    rw [show (30 : Int32) = nI 30 from rfl, lt_nI (by omega) (by omega)]
    unfold hadC inN
    exact ⟨fun z y => z.elim (fun z => z y.1) (fun z => z y.2), fun z => Classical.byContradiction (fun y => z ⟨Classical.not_not.mp (fun x => y (Or.inl x)), Classical.not_not.mp (fun x => y (Or.inr x))⟩)⟩
  rw [hc]
  unfold aHad nHadH nHadZ
  refine ⟨fun q => ⟨by rw [if_neg q], ?_, rfl, rfl⟩, fun q => ?_⟩
  · rw [if_neg q, if_neg q]; exact ⟨⟨l1, l2, l3⟩, xSm.rf⟩
  · rw [Classical.not_not] at q
    rw [if_pos q, if_pos q, if_pos q]
    refine CX4_tell hr (xPr.use (K_isOneOf _ _) ⟨_, rfl, rfl, rfl, rfl, ?_⟩)
    rw [l1]
    have i1 : ¬ xb (¬ (nI h < 0) ∧ ¬ ((30 : Int32) ≤ nI h)) = 0 := by
      rw [xb_eq0, Classical.not_not]
      exact ⟨nI_nn (by omega), nI_ge (b := 30) q.2 (by omega)⟩
    refine brF i1 ⟨vpn q.2 (by omega), his, _, rfl, rfl, rfl, rfl, ⟨⟨?_, ?_, fun j hj => ?_⟩, ?_⟩, rfl, rfl⟩
    · rw [x2_same, nI_one]
    · rw [x2_i _ _ (show 5 ≠ 4 by omega), x2_a _ _ (by omega), x2_a _ _ (by omega), x2_a _ _ (by omega), x2_a _ _ (by omega), l2]
    · rw [nc (by omega), l2]
      by_cases y : j = h
      · subst y
        rw [loPut_0, loPut_1, loPut_2, loPut_3]
        refine ⟨?_, ?_, ?_, ?_⟩
        · rw [x2_a _ _ (by omega), x2_a _ _ (by omega), x2_a _ _ (by omega), x2_a _ _ (by omega), x2_same]
        · rw [x2_a _ _ (by omega), x2_a _ _ (by omega), x2_a _ _ (by omega), x2_same]
        · rw [x2_a _ _ (by omega), x2_a _ _ (by omega), x2_same]
        · rw [x2_a _ _ (by omega), x2_same]
      · rw [loPut_n _ _ _ _ _ y, loPut_n _ _ _ _ _ y, loPut_n _ _ _ _ _ y, loPut_n _ _ _ _ _ y]
        have o : ∀ a, (a = 612 ∨ a = 613 ∨ a = 614 ∨ a = 615) → (x2 (x2 (x2 (x2 (x2 u 612 h i) 613 h is) 614 h (nI t)) 615 h (-1)) 611 4 (nI h + 1)) a j = u a j := fun a ha => by
          rw [x2_ne _ _ (by omega), x2_ne _ _ (by omega), x2_ne _ _ (by omega), x2_ne _ _ (by omega), x2_ne _ _ (by omega)]
        rw [o 612 (by omega), o 613 (by omega), o 614 (by omega), o 615 (by omega)]
        exact l3 j (by omega)
    · exact ((((xSm.rf.put ⟨by omega, by omega⟩).put ⟨by omega, by omega⟩).put ⟨by omega, by omega⟩).put ⟨by omega, by omega⟩).put ⟨by omega, by omega⟩
theorem R_had {u : xU} {h t : Nat} {Z : xU} (hr : xRf r) (hL : rL u L) (hb6 : lB L ≤ 6) (hlo : rLo u h t Z) (h30 : h ≤ 30) (i is : Int32) (his : is = 0 ∨ is = 1) :
    xCall g (d + 2) mX12_had [.ref 655, .int i, .int is] 698 u w r 698 (xIn (aHad L h i) (fun u' => rLo u' (nHadH L h i) t (nHadZ L h t Z i is) ∧ xSn fRl u u') w r) := by
  obtain ⟨l1, l2, l3⟩ := hlo
  refine CX12_had hr (xPr.use (R_isBier hL hb6 i) ⟨_, rfl, rfl, rfl, rfl, ?_⟩)
  rw [l1, xb_eq0]
  have hc : (¬ inN i (lB L) ∨ nI h = 30) ↔ ¬ hadC L h i := by
    rw [show (30 : Int32) = nI 30 from rfl, eq_nI (by omega) (by omega)]
    unfold hadC
    exact ⟨fun z y => z.elim (fun z => z y.1) (fun z => by omega), fun z => Classical.byContradiction (fun y => z ⟨Classical.not_not.mp (fun x => y (Or.inl x)), by have : ¬ h = 30 := fun x => y (Or.inr x); omega⟩)⟩
  rw [hc]
  unfold aHad nHadH nHadZ
  refine ⟨fun q => ⟨by rw [if_neg q], ?_, rfl, rfl⟩, fun q => ?_⟩
  · rw [if_neg q, if_neg q]; exact ⟨⟨l1, l2, l3⟩, xSn.rf⟩
  · rw [Classical.not_not] at q
    rw [if_pos q, if_pos q, if_pos q]
    refine ⟨vpn q.2 (by omega), his, ?_, ⟨⟨?_, ?_, fun j hj => ?_⟩, ?_⟩, rfl, rfl⟩
    · rw [Int32.add_sub_cancel]
    · rw [x2_same, nI_one]
    · rw [x2_i _ _ (show 74 ≠ 73 by omega), x2_a _ _ (by omega), x2_a _ _ (by omega), x2_a _ _ (by omega), x2_a _ _ (by omega), l2]
    · rw [nc (by omega), l2]
      by_cases y : j = h
      · subst y
        rw [loPut_0, loPut_1, loPut_2, loPut_3]
        refine ⟨?_, ?_, ?_, ?_⟩
        · rw [x2_a _ _ (by omega), x2_a _ _ (by omega), x2_a _ _ (by omega), x2_a _ _ (by omega), x2_same]
        · rw [x2_a _ _ (by omega), x2_a _ _ (by omega), x2_a _ _ (by omega), x2_same]
        · rw [x2_a _ _ (by omega), x2_a _ _ (by omega), x2_same]
        · rw [x2_a _ _ (by omega), x2_same]
      · rw [loPut_n _ _ _ _ _ y, loPut_n _ _ _ _ _ y, loPut_n _ _ _ _ _ y, loPut_n _ _ _ _ _ y]
        have o : ∀ a, (a = 691 ∨ a = 692 ∨ a = 693 ∨ a = 694) → (x2 (x2 (x2 (x2 (x2 u 691 h i) 694 h is) 692 h (nI t)) 693 h (-1)) 655 73 (nI h + 1)) a j = u a j := fun a ha => by
          rw [x2_ne _ _ (by omega), x2_ne _ _ (by omega), x2_ne _ _ (by omega), x2_ne _ _ (by omega), x2_ne _ _ (by omega)]
        rw [o 691 (by omega), o 694 (by omega), o 692 (by omega), o 693 (by omega)]
        exact l3 j (by omega)
    · exact ((((xSn.rf.put (Or.inl ⟨by omega, by omega⟩)).put (Or.inl ⟨by omega, by omega⟩)).put (Or.inl ⟨by omega, by omega⟩)).put (Or.inl ⟨by omega, by omega⟩)).put (Or.inr ⟨rfl, Or.inl rfl⟩)
theorem K_untell {u : xU} {h t : Nat} {Z : xU} (hr : xRf r) (hlo : cLo u h t Z) (h30 : h ≤ 30) (i : Int32) :
    xCall g (d + 2) mX11_untell [.ref 8, .int i] 698 u w r 698 (xIn (xb (untC h Z i)) (fun u' => cLo u' h t (nUntZ h t Z i) ∧ xSm fLo u u') w r) := by
  obtain ⟨l1, l2, l3⟩ := hlo
  refine CX11_untell hr (CX4_forget hr (xPr.use (K_isOneOf _ _) ⟨_, rfl, rfl, rfl, rfl, ?_⟩))
  rw [l1, xb_eq0]
  refine ⟨fun q => ?_, ?_⟩
  · rw [Classical.not_not] at q
    obtain ⟨k, hk, rfl⟩ := inN.get (show inN i h from q) (by omega)
    exact vpn (by omega) (by omega)
  · by_cases q : inN i h
    · have : untC h Z i ↔ Z 3 i.toNatClampNeg = -1 := ⟨fun z => z.2, fun z => ⟨q, z⟩⟩
      have eZ : nUntZ h t Z i = if Z 3 i.toNatClampNeg = -1 then x2 Z 3 i.toNatClampNeg (nI t) else Z := by
        unfold nUntZ
        simp only [this]
      rw [xb_iff this, eZ]
      obtain ⟨k, hk, rfl⟩ := inN.get q (by omega)
      rw [nc (by omega), (l3 k hk).2.2.2]
      refine ⟨fun z => ⟨_, rfl, rfl, rfl, Or.inl rfl, ?_⟩, fun z => ⟨vpn (by omega) (by omega), _, rfl, rfl, rfl, Or.inr rfl, ?_⟩⟩
      · have nz : ¬ Z 3 k = -1 := z.elim (fun y => absurd q y) id
        rw [xb_neg nz, if_neg nz]
        exact ⟨rfl, ⟨⟨l1, l2, l3⟩, xSm.rf⟩, rfl, rfl⟩
      · have nz : Z 3 k = -1 := Classical.not_not.mp (fun y => z (Or.inr y))
        rw [xb_pos nz, if_pos nz]
        refine ⟨rfl, ⟨⟨by rw [x2_a _ _ (by omega)]; exact l1, by rw [x2_a _ _ (by omega)]; exact l2, fun j hj => ?_⟩, xSm.rf.put ⟨by omega, by omega⟩⟩, rfl, rfl⟩
        rw [x2_a _ _ (show 612 ≠ 615 by omega), x2_a _ _ (show 613 ≠ 615 by omega), x2_a _ _ (show 614 ≠ 615 by omega), x2_a _ _ (show 0 ≠ 3 by omega), x2_a _ _ (show 1 ≠ 3 by omega), x2_a _ _ (show 2 ≠ 3 by omega)]
        refine ⟨(l3 j hj).1, (l3 j hj).2.1, (l3 j hj).2.2.1, ?_⟩
        by_cases y : j = k
        · subst y; rw [x2_same, x2_same, l2]
        · rw [x2_i _ _ y, x2_i _ _ y]; exact (l3 j hj).2.2.2
    · refine brT (Or.inl q) ⟨_, rfl, rfl, rfl, Or.inl rfl, ?_⟩
      rw [xb_neg (fun z => q z.1)]
      unfold nUntZ
      rw [if_neg (fun z => q z.1)]
      exact ⟨rfl, ⟨⟨l1, l2, l3⟩, xSm.rf⟩, rfl, rfl⟩
theorem R_untell {u : xU} {h t : Nat} {Z : xU} (hr : xRf r) (hok : loOk L h t Z) (hlo : rLo u h t Z) (i : Int32) :
    xCall g (d + 2) mX12_untell [.ref 655, .int i] 698 u w r 698 (xIn (xb (untC h Z i)) (fun u' => rLo u' h t (nUntZ h t Z i) ∧ xSn fRl u u') w r) := by
  obtain ⟨l1, l2, l3⟩ := hlo
  have h30 := hok.1
  refine CX12_untell hr (xPr.use (R_isIn _ _ _) ⟨_, rfl, rfl, rfl, rfl, ?_⟩)
  rw [l1, xb_iff (inN_ref (show h < 1000 by omega)), xb_eq0]
  refine ⟨fun q => ?_, ?_⟩
  · rw [Classical.not_not] at q
    obtain ⟨k, hk, rfl⟩ := inN.get q (by omega)
    exact vpn (by omega) (by omega)
  · by_cases q : inN i h
    · have : untC h Z i ↔ Z 3 i.toNatClampNeg = -1 := ⟨fun z => z.2, fun z => ⟨q, z⟩⟩
      have eZ : nUntZ h t Z i = if Z 3 i.toNatClampNeg = -1 then x2 Z 3 i.toNatClampNeg (nI t) else Z := by
        unfold nUntZ
        simp only [this]
      rw [xb_iff this, eZ]
      obtain ⟨k, hk, rfl⟩ := inN.get q (by omega)
      have neg : Z 3 k < 0 ↔ Z 3 k = -1 := by
        rcases (hok.2.2 k hk).2.2 with y | ⟨x, x1, y⟩
        · rw [y]; exact ⟨fun _ => rfl, fun _ => m1_neg⟩
        · rw [y]; exact ⟨fun z => absurd z (nI_nn (by omega)), fun z => absurd z (nI_m1 (by omega))⟩
      rw [nc (by omega), (l3 k hk).2.2.2, neg]
      refine ⟨fun z => ?_, fun z => ⟨vpn (by omega) (by omega), ?_⟩⟩
      · have nz : ¬ Z 3 k = -1 := z.elim (fun y => absurd q y) id
        rw [xb_neg nz, if_neg nz]
        exact ⟨rfl, ⟨⟨l1, l2, l3⟩, xSn.rf⟩, rfl, rfl⟩
      · have nz : Z 3 k = -1 := Classical.not_not.mp (fun y => z (Or.inr y))
        rw [xb_pos nz, if_pos nz]
        refine ⟨rfl, ⟨⟨by rw [x2_a _ _ (by omega)]; exact l1, by rw [x2_a _ _ (by omega)]; exact l2, fun j hj => ?_⟩, xSn.rf.put (Or.inl ⟨by omega, by omega⟩)⟩, rfl, rfl⟩
        rw [x2_a _ _ (show 691 ≠ 693 by omega), x2_a _ _ (show 694 ≠ 693 by omega), x2_a _ _ (show 692 ≠ 693 by omega), x2_a _ _ (show 0 ≠ 3 by omega), x2_a _ _ (show 1 ≠ 3 by omega), x2_a _ _ (show 2 ≠ 3 by omega)]
        refine ⟨(l3 j hj).1, (l3 j hj).2.1, (l3 j hj).2.2.1, ?_⟩
        by_cases y : j = k
        · subst y; rw [x2_same, x2_same, l2]
        · rw [x2_i _ _ y, x2_i _ _ y]; exact (l3 j hj).2.2.2
    · refine brT (Or.inl q) ?_
      rw [xb_neg (fun z => q z.1)]
      unfold nUntZ
      rw [if_neg (fun z => q z.1)]
      exact ⟨rfl, ⟨⟨l1, l2, l3⟩, xSn.rf⟩, rfl, rfl⟩
theorem K_later {u : xU} {h t : Nat} {Z : xU} (hr : xRf r) (hlo : cLo u h t Z) (ht : t ≤ 100000) (i : Int32) :
    xCall g d mX11_later [.ref 8, .int i] 698 u w r 698 (xIn (aLat t i) (fun u' => cLo u' h (nLat t i) Z ∧ xSm fLo u u') w r) := by
  obtain ⟨l1, l2, l3⟩ := hlo
  refine CX11_later hr ?_
  rw [l2]
  have hc := latC_iff ht i
  unfold aLat nLat
  refine ⟨fun q => ?_, fun q => ?_⟩
  · have nq : ¬ latC t i := fun z => hc.mpr z q
    rw [if_neg nq, if_neg nq]
    exact ⟨rfl, ⟨⟨l1, l2, l3⟩, xSm.rf⟩, rfl, rfl⟩
  · have q' := hc.mp q
    rw [if_pos q', if_pos q', latC_add q']
    exact ⟨rfl, ⟨⟨by rw [x2_i _ _ (show 4 ≠ 5 by omega)]; exact l1, x2_same _ _ _ _, fun j hj => by rw [x2_a _ _ (show 612 ≠ 611 by omega), x2_a _ _ (show 613 ≠ 611 by omega), x2_a _ _ (show 614 ≠ 611 by omega), x2_a _ _ (show 615 ≠ 611 by omega)]; exact l3 j hj⟩, xSm.rf.put ⟨by omega, by omega⟩⟩, rfl, rfl⟩
theorem R_later {u : xU} {h t : Nat} {Z : xU} (hlo : rLo u h t Z) (ht : t ≤ 100000) (i : Int32) :
    xCall g d mX12_later [.ref 655, .int i] 698 u w r 698 (xIn (aLat t i) (fun u' => rLo u' h (nLat t i) Z ∧ xSn fRl u u') w r) := by
  obtain ⟨l1, l2, l3⟩ := hlo
  refine CX12_later ?_
  rw [l2]
  have hc := latC_iff ht i
  unfold aLat nLat
  refine ⟨fun q => ?_, fun q => ?_⟩
  · have nq : ¬ latC t i := fun z => hc.mpr z q
    rw [if_neg nq, if_neg nq]
    exact ⟨rfl, ⟨⟨l1, l2, l3⟩, xSn.rf⟩, rfl, rfl⟩
  · have q' := hc.mp q
    rw [if_pos q', if_pos q', latC_add q']
    exact ⟨rfl, ⟨⟨by rw [x2_i _ _ (show 73 ≠ 74 by omega)]; exact l1, x2_same _ _ _ _, fun j hj => by rw [x2_a _ _ (show 691 ≠ 655 by omega), x2_a _ _ (show 694 ≠ 655 by omega), x2_a _ _ (show 692 ≠ 655 by omega), x2_a _ _ (show 693 ≠ 655 by omega)]; exact l3 j hj⟩, xSn.rf.put (Or.inr ⟨rfl, Or.inr rfl⟩)⟩, rfl, rfl⟩
end LORE
theorem loOk.had {L : xU} {h t : Nat} {Z : xU} (hok : loOk L h t Z) (hb6 : lB L ≤ 6) (i is : Int32) (his : is = 0 ∨ is = 1) : loOk L (nHadH L h i) t (nHadZ L h t Z i is) := by
  unfold nHadH nHadZ
  by_cases q : hadC L h i
  · rw [if_pos q, if_pos q]
    refine ⟨by have := q.2; omega, hok.2.1, fun j hj => ?_⟩
    by_cases y : j = h
    · subst y
      rw [loPut_0, loPut_1, loPut_3]
      exact ⟨inN.get q.1 (by omega), his, Or.inl rfl⟩
    · rw [loPut_n _ _ _ _ _ y, loPut_n _ _ _ _ _ y, loPut_n _ _ _ _ _ y]
      exact hok.2.2 j (by omega)
  · rw [if_neg q, if_neg q]; exact hok
theorem loOk.unt {L : xU} {h t : Nat} {Z : xU} (hok : loOk L h t Z) (i : Int32) : loOk L h t (nUntZ h t Z i) := by
  unfold nUntZ
  by_cases q : untC h Z i
  · rw [if_pos q]
    refine ⟨hok.1, hok.2.1, fun j hj => ?_⟩
    obtain ⟨a, b, c⟩ := hok.2.2 j hj
    rw [x2_a _ _ (show 0 ≠ 3 by omega), x2_a _ _ (show 1 ≠ 3 by omega)]
    refine ⟨a, b, ?_⟩
    unfold x2
    by_cases y : 3 = 3 ∧ j = i.toNatClampNeg
    · rw [if_pos y]; exact Or.inr ⟨t, hok.2.1, rfl⟩
    · rw [if_neg y]; exact c
  · rw [if_neg q]; exact hok
theorem loOk.lat {L : xU} {h t : Nat} {Z : xU} (hok : loOk L h t Z) (i : Int32) : loOk L h (nLat t i) Z := by
  unfold nLat
  by_cases q : latC t i
  · rw [if_pos q]; exact ⟨hok.1, q.2.2, hok.2.2⟩
  · rw [if_neg q]; exact hok
