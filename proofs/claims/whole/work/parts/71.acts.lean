/-! ACTS: the class -/
abbrev fAc (l : Nat) : Nat → Prop := fun x => fGo x ∨ fRg x ∨ x = l + 14
/-- behind an act that is done, or not -/
def cAct (L : xU) (l o a : Nat) (RS : Nat → Nat → Int32) (p : Prop) (n e : Nat) (σ : Nat → Int32) (u u' : xU) : Prop := (p → kN L l n e u' σ ∧ cRg L u' (rgO o a) (rgA a) 0 (rgS RS a σ)) ∧ (¬ p → u' = u) ∧ xSm (fAc l) u u'
theorem cAct.no {L : xU} {l o a : Nat} {RS : Nat → Nat → Int32} {p : Prop} {n e : Nat} {σ : Nat → Int32} {u : xU} (h : ¬ p) : cAct L l o a RS p n e σ u u := ⟨fun q => absurd q h, fun _ => rfl, xSm.rf⟩
def nDay (L : xU) (n : Nat) (σ : Nat → Int32) : Nat → Int32 := fDay L (σ 89) n σ
abbrev poC (L : xU) (n : Nat) (i j : Int32) : Prop := n < 10 ∧ ((inN i (lV L) ∧ inN j (lV L)) ∧ ¬ i = j)
abbrev handC (L : xU) (n : Nat) (σ : Nat → Int32) (i j : Int32) : Prop := (inN i n ∧ inN j (lB L)) ∧ (¬ σ (18 + i.toNatClampNeg) = -1 ∧ (σ j.toNatClampNeg = 1 ∧ σ (6 + j.toNatClampNeg) = σ (18 + i.toNatClampNeg)) ∧ ¬ nI (fIn n σ j.toNatClampNeg) = L 7 j.toNatClampNeg)
abbrev takeC (n : Nat) (σ : Nat → Int32) (i : Int32) : Prop := inN i n ∧ (¬ σ (28 + i.toNatClampNeg) < 0 ∧ σ (σ (28 + i.toNatClampNeg)).toNatClampNeg = 1)
def nTake (σ : Nat → Int32) (i : Int32) : Nat → Int32 := up (up σ (28 + i.toNatClampNeg) (-1)) (18 + i.toNatClampNeg) (σ (6 + (σ (28 + i.toNatClampNeg)).toNatClampNeg))
def nClose (σ : Nat → Int32) (i : Int32) : Nat → Int32 := up σ 89 (σ 89 ^^^ ((1 : Int32) <<< (i &&& 31)))
theorem take_own {L : xU} {n e : Nat} {σ : Nat → Int32} (h : rXn L n e σ) (hB6 : lB L ≤ 6) {l : Nat} (hl : l < n) : (σ (28 + l) = -1) ∨ ∃ b v, b < lB L ∧ v < lV L ∧ σ (28 + l) = nI b ∧ σ (6 + b) = nI v ∧ σ (38 + l) = -1 := by
  obtain ⟨-, l2⟩ := h.1.2.2.2.2.1 l hl
  rcases l2 with ⟨q, -⟩ | ⟨b, hb, q1, q2, q3, -⟩ | ⟨q, -⟩
  · exact Or.inl q
  · obtain ⟨⟨v, hv, ev⟩, -⟩ := (h.1.2.2.2.1 b (by omega)).1 hb
    exact Or.inr ⟨b, v, hb, hv, q1, ev, q3⟩
  · exact Or.inl q
/-- rows behind acts may be -/
theorem rXn.hand {L : xU} {n e : Nat} {σ : Nat → Int32} (hB : lBk L) (h : rXn L n e σ) {l b : Nat} (hl : l < n) (hb : b < lB L) (h18 : ¬ σ (18 + l) = -1) (hst : σ b = 1) (hroom : ¬ nI (fIn n σ b) = L 7 b) : rXn L n e (fPut l (nI b) σ) := by
  obtain ⟨-, l2⟩ := h.1.2.2.2.2.1 l hl
  have hb6 := hB.1
  rcases l2 with ⟨q1, q2, v, hv, q3⟩ | ⟨b', hb', q1, q2, q3, q4⟩ | ⟨q1, q2, -⟩
  · have := h.lay hB hl hv q2 (b := nI b) (Or.inr ⟨b, hb, rfl, hst, Or.inr hroom⟩)
    unfold fLay at this
    rw [if_neg (nI_nn (by omega))] at this
    exact this
  · exact absurd q4 h18
  · exact absurd q2 h18
theorem rXn.take {L : xU} {n e : Nat} {σ : Nat → Int32} (hB : lBk L) (h : rXn L n e σ) {l : Nat} (hl : l < n) (h28 : ¬ σ (28 + l) < 0) : rXn L n e (nTake σ (nI l)) := by
  have hb6 := hB.1
  have n10 := h.1.1.2
  rcases take_own h hb6 hl with q | ⟨b, v, hb, hv, q1, q2, q3⟩
  · rw [q] at h28; exact absurd m1_neg h28
  · have := h.lay hB hl hv q3 (b := -1) (Or.inl rfl)
    unfold fLay at this
    rw [if_pos m1_neg] at this
    unfold nTake
    rw [nc (by omega), q1, nc (by omega), q2]
    exact this
section ACTS
variable {g : xGT} {d : Nat} {w : xW} {r : xQ} {L : xU} {l n e : Nat} {σ : Nat → Int32} {o a b : Nat} {RS : Nat → Nat → Int32}
/-- behind an act: keeping it -/
theorem K_keepAct {u u1 : xU} {P : xPost} {p : Prop} {n' e' : Nat} {σ' : Nat → Int32} (hK : lOkk L) (hR : kR r l) (hp : p) (ho : o ≤ 1000) (hab : a + b ≤ 40) (hg : cRg L u o a b RS) (hN : kN L l n' e' u1 σ') (hX : rXn L n' e' σ') (f : xSm (fun x => fGo x ∨ x = l + 14) u u1) (kk : ∀ u', cAct L l o a RS p n' e' σ' u u' → (∀ i, u' 105 i = u1 105 i) → P none u' w r) :
    xCall g (d + 2) mX6_keep [.ref 117, .ref 105] 698 u1 w r 698 P := by
  have hb6 := hK.2.2.1.1
  have hl := hR.2.2.2.2.2
  obtain ⟨T, hk⟩ := hN.2.1
  refine xVd.use (K_keep hR.1 hb6 ho hab (hg.kept f (by omega)) ⟨n', e', T, hX, hk⟩) (fun u2 ⟨g2, f2⟩ => kk u2 ⟨fun _ => ⟨hN.kept hR f2 (fun b hb => by omega), g2⟩, fun q => absurd hp q, ?_⟩ (fun i => f2 _ _ (by omega)))
  exact (f.to (fun x hx => hx.elim Or.inl (fun y => Or.inr (Or.inr y)))).tr (f2.to (fun x hx => Or.inr (Or.inl hx)))
theorem K_day {u : xU} (hK : lOkk L) (hR : kR r l) (hN : kN L l n e u σ) (hX : rXn L n e σ) (ho : o ≤ 1000) (hab : a + b ≤ 40) (hg : cRg L u o a b RS) :
    xCall g (d + 5) mX11_day [.ref 8] 698 u w r 698 (xIn (if e < 300 then (fTwo n (fOne L (σ 89) σ)).1 else -1) (cAct L l o a RS (e < 300) n (e + 1) (nDay L n σ) u) w r) := by
  have hb6 := hK.2.2.1.1
  obtain ⟨hr, h_l, q_l, hm, ht, hl⟩ := id hR
  obtain ⟨T, hk⟩ := hN.2.1
  have hS := hN.2.2
  refine CX11_day hr ?_
  rw [hk.1.1, hS.2.2.1.1, show (300 : Int32) = nI 300 from rfl, lt_nI (by have := hS.2.2.1.2; omega) (by omega)]
  refine ⟨fun q => ?_, fun q => ⟨by rw [if_neg q], cAct.no q, rfl, rfl⟩⟩
  rw [if_pos q]
  refine xIn.use (K_goBy hr st105 (sr105 hr) h_l q_l hm hl (by omega) hN.1 hK hk hS) (fun u1 ⟨⟨T1, k1, _⟩, f1⟩ => ⟨_, rfl, rfl, rfl, ?_⟩)
  have e89 : nDay L n σ 89 = σ 89 := fDay_fr hK.1 hK.2.2.1 hS 89 (by omega)
  have X1 : rXn L n (e + 1) (nDay L n σ) := hX.day hK q
  have N1 : kN L l n (e + 1) u1 (nDay L n σ) := by
    refine ⟨?_, ⟨T1, k1⟩, X1.1⟩
    rw [e89]
    exact hN.1.kept f1 (by omega) (by omega)
  exact K_keepAct (d := d + 2) hK hR q ho hab hg N1 X1 (f1.to (fun x hx => by unfold fGo; omega)) (fun u2 h _ => ⟨rfl, rfl, rfl, rfl, h, rfl, rfl⟩)
theorem K_post {u : xU} (hK : lOkk L) (hR : kR r l) (hN : kN L l n e u σ) (hX : rXn L n e σ) (ho : o ≤ 1000) (hab : a + b ≤ 40) (hg : cRg L u o a b RS) (i j : Int32) :
    xCall g (d + 3) mX11_post [.ref 8, .int i, .int j] 698 u w r 698 (xIn (if poC L n i j then nI n else -1) (cAct L l o a RS (poC L n i j) (n + 1) e (fAdd n i j 200 1 σ) u) w r) := by
  have hb6 := hK.2.2.1.1
  have hv7 := hK.1.1
  obtain ⟨hr, h_l, q_l, hm, ht, hl⟩ := id hR
  obtain ⟨T, hk⟩ := hN.2.1
  have hS := hN.2.2
  have n10 := hS.1.2
  refine CX11_post hr ?_
  rw [hk.1.2.2, hS.1.1, show (10 : Int32) = nI 10 from rfl, le_nI (by omega) (by omega)]
  refine ⟨fun q => ?_, fun q => xPr.use (K_areTwoVillages h_l ht hN.1.1 i j) ⟨_, rfl, rfl, rfl, rfl, ?_⟩⟩
  · have no : ¬ poC L n i j := fun z => by have := z.1; omega
    exact ⟨by rw [if_neg no], cAct.no no, rfl, rfl⟩
  · rw [xb_eq0]
    refine ⟨fun q2 => ?_, fun q2 => ?_⟩
    · have no : ¬ poC L n i j := fun z => q2 z.2
      exact ⟨by rw [if_neg no], cAct.no no, rfl, rfl⟩
    · rw [Classical.not_not] at q2
      have yes : poC L n i j := ⟨by omega, q2⟩
      rw [if_pos yes]
      obtain ⟨v, hv, rfl⟩ := inN.get q2.1.1 (by omega)
      obtain ⟨t, htt, rfl⟩ := inN.get q2.1.2 (by omega)
      refine xIn.use (K_addLetter (d := d + 1) st105 (sr105 hr) hb6 yes.1 hk hS.1.1 (nI v) (nI t) 200 1) (fun u1 ⟨k1, f1⟩ => ⟨_, rfl, rfl, rfl, ?_⟩)
      have X1 : rXn L (n + 1) e (fAdd n (nI v) (nI t) 200 1 σ) := hX.add hb6 yes.1 hv htt 200 (x := 1) (by omega)
      have e89 : fAdd n (nI v) (nI t) 200 1 σ 89 = σ 89 := fAdd_o (by omega)
      have N1 : kN L l (n + 1) e u1 (fAdd n (nI v) (nI t) 200 1 σ) := by
        refine ⟨?_, ⟨T, k1⟩, X1.1⟩
        rw [e89]
        exact hN.1.kept f1 (by omega) (by omega)
      exact K_keepAct (d := d) hK hR yes ho hab hg N1 X1 (f1.to (fun x hx => Or.inl (Or.inr hx))) (fun u2 h _ => ⟨rfl, rfl, rfl, rfl, h, rfl, rfl⟩)
theorem K_hand {u : xU} (hK : lOkk L) (hR : kR r l) (hN : kN L l n e u σ) (hX : rXn L n e σ) (ho : o ≤ 1000) (hab : a + b ≤ 40) (hg : cRg L u o a b RS) (i j : Int32) :
    xCall g (d + 3) mX11_hand [.ref 8, .int i, .int j] 698 u w r 698 (xIn (xb (handC L n σ i j)) (cAct L l o a RS (handC L n σ i j) n e (fPut i.toNatClampNeg j σ) u) w r) := by
  have hb6 := hK.2.2.1.1
  have hv7 := hK.1.1
  obtain ⟨hr, h_l, q_l, hm, ht, hl⟩ := id hR
  obtain ⟨T, hk⟩ := hN.2.1
  have hS := hN.2.2
  have n10 := hS.1.2
  refine CX11_hand hr h_l q_l ht (xPr.use (K_isOneOf _ _) ⟨_, rfl, rfl, rfl, rfl, ?_⟩)
  rw [hk.1.2.2, hS.1.1, xb_eq0]
  have no : ¬ handC L n σ i j → xIn (xb (handC L n σ i j)) (cAct L l o a RS (handC L n σ i j) n e (fPut i.toNatClampNeg j σ) u) w r (some (.int 0)) u w r := fun h => ⟨by rw [xb_neg h], cAct.no h, rfl, rfl⟩
  refine ⟨fun q => no (fun z => q z.1.1), fun q => xPr.use (K_isOneOf _ _) ⟨_, rfl, rfl, rfl, rfl, ?_⟩⟩
  rw [Classical.not_not] at q
  rw [hN.1.1.1.2.2, xb_eq0]
  refine ⟨fun q2 => no (fun z => q2 z.1.2), fun q2 => ?_⟩
  rw [Classical.not_not] at q2
  obtain ⟨m, hmn, rfl⟩ := inN.get (show inN i n from q) (by omega)
  obtain ⟨c, hc, rfl⟩ := inN.get (show inN j (lB L) from q2) (by omega)
  obtain ⟨⟨k1, k2, k3, k4⟩, -⟩ := hk.2.2.2 m hmn
  obtain ⟨b1, b2, b3, b4⟩ := hk.2.2.1 c hc
  unfold handC at no ⊢
  simp (disch := omega) only [nc] at no ⊢
  rw [k1]
  refine ⟨vpn (by omega) (by omega), fun q3 => no (fun z => z.2.1 q3), fun q3 => ?_⟩
  refine xPr.use (K_stands st105 (sr105 hr) hk hc hb6) ⟨_, rfl, rfl, rfl, rfl, fun _ => vpn (by omega) (by omega), ?_⟩
  have e1 : ((if σ c = 1 then σ (6 + c) else -1) = σ (18 + m)) ↔ (σ c = 1 ∧ σ (6 + c) = σ (18 + m)) := by
    by_cases y : σ c = 1
    · rw [if_pos y]; exact ⟨fun z => ⟨y, z⟩, fun z => z.2⟩
    · rw [if_neg y]; exact ⟨fun z => absurd z.symm q3, fun z => absurd z.1 y⟩
  have e2 : nI (fIn n σ c) < L 7 c ↔ ¬ nI (fIn n σ c) = L 7 c := by
    rw [← room_iff hK.2.2.1 hc (hS.2.2.2.2.2 c hc), Int32.not_le]
  rw [b4, (hN.1.1.2.2.1 c hc).2.2.2, e1, e2]
  refine ⟨fun q4 => no (fun z => q4.elim (fun y => y z.2.2.1) (fun y => y z.2.2.2)), fun q4 => ?_⟩
  have y1 : σ c = 1 ∧ σ (6 + c) = σ (18 + m) := Classical.not_not.mp (fun y => q4 (Or.inl y))
  have y2 : ¬ nI (fIn n σ c) = L 7 c := Classical.not_not.mp (fun y => q4 (Or.inr y))
  have yes : (inN (nI m) n ∧ inN (nI c) (lB L)) ∧ (¬ σ (18 + m) = -1 ∧ (σ c = 1 ∧ σ (6 + c) = σ (18 + m)) ∧ ¬ nI (fIn n σ c) = L 7 c) := ⟨⟨q, q2⟩, q3, y1, y2⟩
  rw [xb_pos yes]
  refine xVd.use (K_putInBier (d := d + 1) st105 (sr105 hr) hb6 n10 hk hmn hc (hS.own hmn)) (fun u1 ⟨k5, f1⟩ => ⟨rfl, rfl, rfl, ?_⟩)
  have X1 : rXn L n e (fPut m (nI c) σ) := hX.hand hK.2.2.1 hmn hc q3 y1.1 y2
  have e89 : fPut m (nI c) σ 89 = σ 89 := by
    unfold fPut
    split
    · rfl
    · rw [up_n (by omega), up_n (by omega), up_n (by omega)]
  have N1 : kN L l n e u1 (fPut m (nI c) σ) := by
    refine ⟨?_, ⟨T, k5⟩, X1.1⟩
    rw [e89]
    exact hN.1.kept f1 (by omega) (by omega)
  exact K_keepAct (d := d) hK hR yes ho hab hg N1 X1 (f1.to (fun x hx => Or.inl (Or.inr hx))) (fun u2 h _ => ⟨rfl, rfl, rfl, rfl, h, rfl, rfl⟩)
theorem K_take {u : xU} (hK : lOkk L) (hR : kR r l) (hN : kN L l n e u σ) (hX : rXn L n e σ) (ho : o ≤ 1000) (hab : a + b ≤ 40) (hg : cRg L u o a b RS) (i : Int32) :
    xCall g (d + 3) mX11_take [.ref 8, .int i] 698 u w r 698 (xIn (if takeC n σ i then σ (28 + i.toNatClampNeg) else -1) (cAct L l o a RS (takeC n σ i) n e (nTake σ i) u) w r) := by
  have hb6 := hK.2.2.1.1
  have hv7 := hK.1.1
  obtain ⟨hr, h_l, q_l, hm, ht, hl⟩ := id hR
  obtain ⟨T, hk⟩ := hN.2.1
  have hS := hN.2.2
  have n10 := hS.1.2
  refine CX11_take hr (xPr.use (K_isOneOf _ _) ⟨_, rfl, rfl, rfl, rfl, ?_⟩)
  rw [hk.1.2.2, hS.1.1, xb_eq0]
  have no : ¬ takeC n σ i → xIn (if takeC n σ i then σ (28 + i.toNatClampNeg) else -1) (cAct L l o a RS (takeC n σ i) n e (nTake σ i) u) w r (some (.int (-1))) u w r := fun h => ⟨by rw [if_neg h], cAct.no h, rfl, rfl⟩
  refine ⟨fun q => no (fun z => q z.1), fun q => ?_⟩
  rw [Classical.not_not] at q
  obtain ⟨m, hmn, rfl⟩ := inN.get (show inN i n from q) (by omega)
  obtain ⟨⟨k1, k2, k3, k4⟩, -⟩ := hk.2.2.2 m hmn
  unfold takeC at no ⊢
  simp (disch := omega) only [nc] at no ⊢
  rw [k2]
  refine ⟨vpn (by omega) (by omega), ?_⟩
  rcases take_own hX hb6 hmn with y | ⟨c, v, hc, hv, y1, y2, y3⟩
  · rw [y] at no ⊢
    exact xPr.use (K_standsIn_none st105 (sr105 hr)) ⟨_, rfl, rfl, rfl, rfl, brT rfl (no (fun z => z.2.1 m1_neg))⟩
  · rw [y1] at no ⊢
    rw [nc (by omega)] at no ⊢
    refine xPr.use (K_stands st105 (sr105 hr) hk hc hb6) ⟨_, rfl, rfl, rfl, rfl, fun q2 => no (fun z => ?_), fun q2 => ?_⟩
    · rw [if_pos z.2.2, y2] at q2; exact nI_m1 (by omega) q2
    · have s1 : σ c = 1 := Classical.byContradiction (fun z => q2 (if_neg z))
      have yes : inN (nI m) n ∧ (¬ nI c < 0 ∧ σ c = 1) := ⟨q, nI_nn (by omega), s1⟩
      rw [if_pos s1, if_pos yes]
      have X1 : rXn L n e (nTake σ (nI m)) := hX.take hK.2.2.1 hmn (by rw [y1]; exact nI_nn (by omega))
      have er : nTake σ (nI m) = up (up σ (28 + m) (-1)) (18 + m) (σ (6 + c)) := by
        unfold nTake
        rw [nc (by omega), y1, nc (by omega)]
      refine xVd.use (K_putInPile (d := d + 1) st105 (sr105 hr) hb6 n10 hk hmn (hS.own hmn) (σ (6 + c))) (fun u1 ⟨k5, f1⟩ => ⟨rfl, rfl, rfl, ?_⟩)
      rw [← er] at k5
      have e89 : nTake σ (nI m) 89 = σ 89 := by rw [er, up_n (by omega), up_n (by omega)]
      have N1 : kN L l n e u1 (nTake σ (nI m)) := by
        refine ⟨?_, ⟨T, k5⟩, X1.1⟩
        rw [e89]
        exact hN.1.kept f1 (by omega) (by omega)
      exact K_keepAct (d := d) hK hR yes ho hab hg N1 X1 (f1.to (fun x hx => Or.inl (Or.inr hx))) (fun u2 h _ => ⟨rfl, rfl, rfl, rfl, h, rfl, rfl⟩)
theorem K_close {u : xU} (hK : lOkk L) (hR : kR r l) (hN : kN L l n e u σ) (hX : rXn L n e σ) (ho : o ≤ 1000) (hab : a + b ≤ 40) (hg : cRg L u o a b RS) (i : Int32) :
    xCall g (d + 3) mX11_close [.ref 8, .int i] 698 u w r 698 (xIn (if inN i (lW L) then (((nClose σ i 89) >>> (i &&& 31)) &&& 1) else -1) (cAct L l o a RS (inN i (lW L)) n e (nClose σ i) u) w r) := by
  have hb6 := hK.2.2.1.1
  have hw12 := hK.1.2.1
  obtain ⟨hr, h_l, q_l, hm, ht, hl⟩ := id hR
  obtain ⟨T, hk⟩ := hN.2.1
  have hS := hN.2.2
  have n10 := hS.1.2
  refine CX11_close hr h_l ht (xPr.use (K_isOneOf _ _) ⟨_, rfl, rfl, rfl, rfl, ?_⟩)
  rw [hN.1.1.1.2.1, xb_eq0]
  refine ⟨fun q => ⟨by rw [if_neg q], cAct.no q, rfl, rfl⟩, fun q => ?_⟩
  rw [Classical.not_not] at q
  rw [if_pos (show inN i (lW L) from q)]
  rw [hk.1.2.1]
  generalize hx : σ 89 ^^^ ((1 : Int32) <<< (i &&& 31)) = x
  have er : nClose σ i = up σ 89 x := by unfold nClose; rw [hx]
  rw [er]
  have f0 : xSm (fun y => y = 105) u (x2 u 105 1 x) := (xSm.rf (F := fun y => y = 105)).put rfl
  have k0 : kSt L n (x2 u 105 1 x) 105 (up σ 89 x) T := by
    obtain ⟨⟨a1, a2, a3⟩, b1, b2, b3⟩ := hk
    have ef : ∀ b, fIn n (up σ 89 x) b = fIn n σ b := fun b => cn_congr (fun i hi => by rw [up_n (by omega)])
    refine ⟨⟨?_, ?_, ?_⟩, fun b hb => ?_, fun b hb => ?_, fun m hm => ?_⟩
    · rw [x2_i _ _ (show 0 ≠ 1 by omega), up_n (by omega)]; exact a1
    · rw [x2_same, up_s]
    · rw [x2_i _ _ (show 2 ≠ 1 by omega), up_n (by omega)]; exact a3
    · rw [x2_a _ _ (by omega), up_n (by omega)]; exact b1 b hb
    · rw [x2_a _ _ (by omega), x2_a _ _ (by omega), x2_a _ _ (by omega), up_n (by omega), up_n (by omega), up_n (by omega), ef]; exact b2 b hb
    · rw [x2_a _ _ (by omega), x2_a _ _ (by omega), x2_a _ _ (by omega), x2_a _ _ (by omega), x2_a _ _ (by omega), x2_a _ _ (by omega), x2_a _ _ (by omega), up_n (by omega), up_n (by omega), up_n (by omega), up_n (by omega), up_n (by omega), up_n (by omega), up_n (by omega)]; exact b3 m hm
  have L0 : kL (x2 u 105 1 x) l L := hN.1.1.kept f0 (by omega)
  refine xVd.use (K_lay (d := d) hr h_l q_l (by omega) hK.1 L0.2.1) (fun u1 ⟨h1, f1⟩ => ⟨rfl, rfl, rfl, ?_⟩)
  have X1 : rXn L n e (up σ 89 x) := hX.close hb6 x
  have N1 : kN L l n e u1 (up σ 89 x) := by
    refine ⟨?_, ⟨T, k0.kept f1 (by omega)⟩, X1.1⟩
    rw [up_s]
    exact ⟨L0.kept f1 (by omega), h1⟩
  refine K_keepAct (d := d) hK hR (show inN i (lW L) from q) ho hab hg N1 X1 ((f0.to (fun x hx => Or.inl (Or.inr (by omega)))).tr (f1.to (fun x hx => Or.inl (Or.inl hx)))) (fun u2 h h105 => ⟨rfl, rfl, rfl, ?_, h, rfl, rfl⟩)
  rw [h105, f1 _ _ (by omega), x2_same, up_s]
end ACTS
