/-! BOXES: image, back; both sides -/
def cBx (L u : xU) (BF : Nat → Bool) (BR : Nat → Nat → Int32) : Prop := ∀ i, i < 3 → u 653 i = (if BF i = true then 1 else 0) ∧ (BF i = true → cRow L u (617 + 12 * i) (BR i))
def rBx (u : xU) (BF : Nat → Bool) (BR : Nat → Nat → Int32) : Prop := ∀ i, i < 3 → u 696 i = (if BF i = true then 1 else 0) ∧ (BF i = true → ∀ j, j < 91 → u 697 (92 * i + j) = BR i j)
abbrev fBx : Nat → Prop := fun x => 617 ≤ x ∧ x < 654
abbrev fRb : Nat → Nat → Prop := fun b _ => b = 696 ∨ b = 697
theorem cBx.kept {L u u' : xU} {BF : Nat → Bool} {BR : Nat → Nat → Int32} (h : cBx L u BF BR) {F : Nat → Prop} (f : xSm F u u') (hF : ∀ x, 617 ≤ x → x < 654 → ¬ F x) : cBx L u' BF BR := by
  intro i hi
  obtain ⟨h1, h2⟩ := h i hi
  exact ⟨(f _ _ (hF 653 (by omega) (by omega))).trans h1, fun q => (h2 q).kept f (fun x x1 x2 => hF x (by omega) (by omega))⟩
theorem rBx.kept {u u' : xU} {BF : Nat → Bool} {BR : Nat → Nat → Int32} (h : rBx u BF BR) {F : Nat → Nat → Prop} (f : xSn F u u') (h1 : ∀ i, ¬ F 696 i) (h2 : ∀ i, ¬ F 697 i) : rBx u' BF BR := by
  intro i hi
  obtain ⟨a1, a2⟩ := h i hi
  exact ⟨(f _ _ (h1 _)).trans a1, fun q j hj => (f _ _ (h2 _)).trans (a2 q j hj)⟩
def iF (BF : Nat → Bool) (m : Nat) : Nat → Bool := fun k => if k = m then true else BF k
def iR (BR : Nat → Nat → Int32) (m : Nat) (σ : Nat → Int32) : Nat → Nat → Int32 := fun k => if k = m then σ else BR k
theorem iF_same {BF : Nat → Bool} {m : Nat} : iF BF m m = true := if_pos rfl
theorem iF_ne {BF : Nat → Bool} {m k : Nat} (h : ¬ k = m) : iF BF m k = BF k := if_neg h
theorem iR_same {BR : Nat → Nat → Int32} {m : Nat} {σ : Nat → Int32} : iR BR m σ m = σ := if_pos rfl
theorem iR_ne {BR : Nat → Nat → Int32} {m k : Nat} {σ : Nat → Int32} (h : ¬ k = m) : iR BR m σ k = BR k := if_neg h
def nImF (BF : Nat → Bool) (i : Int32) : Nat → Bool := if inN i 3 then iF BF i.toNatClampNeg else BF
def nImR (BR : Nat → Nat → Int32) (i : Int32) (σ : Nat → Int32) : Nat → Nat → Int32 := if inN i 3 then iR BR i.toNatClampNeg σ else BR
def aImage (σ : Nat → Int32) (i : Int32) : Int32 := if inN i 3 then σ 90 else -1
abbrev backC (BF : Nat → Bool) (i : Int32) : Prop := inN i 3 ∧ BF i.toNatClampNeg = true
theorem bx_st {i : Nat} (hi : i < 3) : xSt (617 + 12 * i) := stAll _ (srow616 _ hi)
theorem bx_sr {r : xQ} (hr : xRf r) {i : Nat} (hi : i < 3) : xSr (617 + 12 * i) r := hr.2.1 _ (srow616 _ hi)
section BOXES
variable {g : xGT} {d : Nat} {w : xW} {r : xQ} {L : xU} {l n e : Nat} {σ : Nat → Int32} {BF : Nat → Bool} {BR : Nat → Nat → Int32}
theorem K_image {u : xU} (hr : xRf r) (hB6 : lB L ≤ 6) (h105 : cRow L u 105 σ) (hb : cBx L u BF BR) (i : Int32) :
    xCall g (d + 2) mX11_image [.ref 8, .int i] 698 u w r 698 (xIn (aImage σ i) (fun u' => cBx L u' (nImF BF i) (nImR BR i σ) ∧ xSm fBx u u') w r) := by
  refine CX11_image hr (xPr.use (K_isOneOf _ _) ⟨_, rfl, rfl, rfl, rfl, ?_⟩)
  rw [xb_eq0, show (3 : Int32) = nI 3 from rfl]
  unfold aImage nImF nImR
  refine ⟨fun q => ⟨by rw [if_neg q], ?_, rfl, rfl⟩, fun q => ?_⟩
  · rw [if_neg q, if_neg q]; exact ⟨hb, xSm.rf⟩
  · rw [Classical.not_not] at q
    rw [if_pos (show inN i 3 from q), if_pos (show inN i 3 from q), if_pos (show inN i 3 from q)]
    obtain ⟨m, hm, rfl⟩ := inN.get (show inN i 3 from q) (by omega)
    rw [nc (by omega)]
    refine ⟨vpn (by omega) (by omega), ?_⟩
    refine xVd.use (K_copyFrom (d := d) (bx_st hm) (bx_sr hr hm) st105 (sr105 hr) (Or.inr (by omega))) (fun u1 ⟨c1, f1⟩ => ⟨rfl, rfl, rfl, ?_, ⟨fun k hk => ?_, ?_⟩, rfl, rfl⟩)
    · obtain ⟨n, e, T, x1, k1⟩ := h105
      rw [f1 105 0 (by omega), k1.1.1]
    · have f2 : xSm (fun x => x = 653) u1 (x2 u1 653 m 1) := (xSm.rf (F := fun x => x = 653)).put rfl
      by_cases y : k = m
      · subst y
        rw [x2_same, iF_same, iR_same]
        exact ⟨rfl, fun _ => (h105.copy hB6 c1).kept f2 (by omega)⟩
      · rw [x2_i _ _ y, iF_ne y, iR_ne y, f1 653 k (by omega)]
        exact ⟨(hb k hk).1, fun z => (((hb k hk).2 z).kept f1 (by omega)).kept f2 (by omega)⟩
    · exact (f1.to (fun x hx => by omega)).put (by omega)
theorem R_isBox {u : xU} (i : Int32) : xCall g d mX12_isBox [.int i] 698 u w r 698 (xPr (xb (inN i 3)) u w r) := CX12_isBox ⟨rfl, rfl, rfl, rfl⟩
theorem R_image {u : xU} (hr : xRf r) (h683 : u 683 = σ) (hb : rBx u BF BR) (i : Int32) :
    xCall g (d + 1) mX12_image [.ref 655, .int i] 698 u w r 698 (xIn (aImage σ i) (fun u' => rBx u' (nImF BF i) (nImR BR i σ) ∧ xSn fRb u u') w r) := by
  refine CX12_image hr (xPr.use (R_isBox _) ⟨_, rfl, rfl, rfl, rfl, ?_⟩)
  rw [xb_eq0]
  unfold aImage nImF nImR
  refine ⟨fun q => ⟨by rw [if_neg q], ?_, rfl, rfl⟩, fun q => ?_⟩
  · rw [if_neg q, if_neg q]; exact ⟨hb, xSn.rf⟩
  · rw [Classical.not_not] at q
    rw [if_pos q, if_pos q, if_pos q]
    obtain ⟨m, hm, rfl⟩ := inN.get q (by omega)
    rw [nc (by omega)]
    refine ⟨vpn (by omega) (by omega), ?_⟩
    refine xlp (N := 91) (Q := fun k u' => (∀ j, j < k → u' 697 (92 * m + j) = σ j) ∧ (∀ j, (j < 92 * m ∨ 92 * m + 91 ≤ j) → u' 697 j = u 697 j) ∧ xSm (fun b => b = 697) (x2 u 696 m 1) u') (G := fun k u' => xEv g (d + 1) mX12_image 18 [some (.ref 655), some (.int (nI m)), some (.int (nI k))] [] 698 u' w r 698 _) ?_ ?_ ⟨fun j hj => by omega, fun j _ => x2_a _ _ (by omega), xSm.rf⟩
    · intro u1 ⟨h1, h2, f1⟩
      refine TX12_image_18 hr (brT (nI_le (a := 91) (Nat.le_refl _) (by omega)) ⟨?_, ⟨fun k hk => ?_, ?_⟩, rfl, rfl⟩)
      · rw [f1 683 90 (by omega), x2_a _ _ (by omega), h683]
      · rw [f1 696 k (by omega)]
        by_cases y : k = m
        · subst y
          rw [x2_same, iF_same, iR_same]
          exact ⟨rfl, fun _ j hj => h1 j hj⟩
        · rw [x2_i _ _ y, iF_ne y, iR_ne y]
          exact ⟨(hb k hk).1, fun z j hj => (h2 _ (by omega)).trans ((hb k hk).2 z j hj)⟩
      · exact ((xSn.rf (F := fRb)).put (Or.inl rfl)).tr (f1.n (fun b i h => Or.inr h))
    · intro k u1 hk ⟨h1, h2, f1⟩ kk
      refine TX12_image_18 hr (brF (nI_ge (b := 91) (by omega) (by omega)) ?_)
      simp (disch := omega) only [m92, nI_add, nc]
      refine ⟨vpn (by omega) (by omega), vpn (by omega) (by omega), ?_⟩
      rw [nI_one, f1 683 k (by omega), x2_a _ _ (by omega), h683]
      refine kk _ ⟨fun j hj => ?_, fun j hj => ?_, f1.put rfl⟩
      · by_cases y : j = k
        · subst y; rw [x2_same]
        · rw [x2_i _ _ (by omega)]; exact h1 j (by omega)
      · rw [x2_i _ _ (by omega)]; exact h2 j hj
theorem K_begin {u : xU} (hr : xRf r) (hB6 : lB L ≤ 6) (h105 : cRow L u 105 σ) :
    xCall g (d + 2) mX6_begin [.ref 117, .ref 105] 698 u w r 698 (xVd (fun u' => cRg L u' 0 0 0 (fun _ => σ) ∧ xSm fRg u u') w r) := by
  refine CX6_begin hr ?_
  have f0 : xSm (fun x => x = 117) u (x2 (x2 (x2 u 117 1 0) 117 2 0) 117 3 0) := (((xSm.rf (F := fun x => x = 117)).put rfl).put rfl).put rfl
  refine xVd.use (K_copyFrom (d := d) (rgP_st 0) (rgP_sr hr 0) st105 (sr105 hr) (Or.inr (by show 105 + 11 < 119 + 12 * (0 % 41); omega))) (fun u1 ⟨c1, f1⟩ => ⟨rfl, rfl, rfl, rfl, ⟨⟨⟨?_, ?_, ?_⟩, fun i hi => ?_⟩, ?_⟩, rfl, rfl⟩)
  · rw [f1 117 1 (fun z => absurd z.1 (by show ¬ 119 + 12 * (0 % 41) ≤ 117; omega)), x2_i _ _ (show 1 ≠ 3 by omega), x2_i _ _ (show 1 ≠ 2 by omega), x2_same]; rfl
  · rw [f1 117 2 (fun z => absurd z.1 (by show ¬ 119 + 12 * (0 % 41) ≤ 117; omega)), x2_i _ _ (show 2 ≠ 3 by omega), x2_same]; rfl
  · rw [f1 117 3 (fun z => absurd z.1 (by show ¬ 119 + 12 * (0 % 41) ≤ 117; omega)), x2_same]; rfl
  · have : i = 0 := by omega
    subst this
    exact (h105.kept f0 (by omega)).copy hB6 c1
  · exact (f0.to (fun x hx => by omega)).tr (f1.to (fun x hx => by
      have a1 : 119 + 12 * (0 % 41) ≤ x := hx.1
      have a2 : x ≤ 119 + 12 * (0 % 41) + 11 := hx.2
      omega))
abbrev fBk : Nat → Prop := fun x => fGo x ∨ fRg x
theorem K_back {u : xU} (hK : lOkk L) (hR : kR r l) (hL : kL u l L) (hb : cBx L u BF BR) (i : Int32) :
    xCall g (d + 4) mX11_back [.ref 8, .int i] 698 u w r 698 (xIn (if backC BF i then BR i.toNatClampNeg 90 else -1) (fun u' => (backC BF i → (∃ n e, rXn L n e (BR i.toNatClampNeg) ∧ kN L l n e u' (BR i.toNatClampNeg)) ∧ cRg L u' 0 0 0 (fun _ => BR i.toNatClampNeg)) ∧ (¬ backC BF i → u' = u) ∧ xSm fBk u u') w r) := by
  have hb6 := hK.2.2.1.1
  obtain ⟨hr, h_l, q_l, hm, ht, hl⟩ := id hR
  refine CX11_back hr (xPr.use (K_isOneOf _ _) ⟨_, rfl, rfl, rfl, rfl, ?_⟩)
  rw [xb_eq0, show (3 : Int32) = nI 3 from rfl]
  have no : ¬ backC BF i → xIn (if backC BF i then BR i.toNatClampNeg 90 else -1) (fun u' => (backC BF i → (∃ n e, rXn L n e (BR i.toNatClampNeg) ∧ kN L l n e u' (BR i.toNatClampNeg)) ∧ cRg L u' 0 0 0 (fun _ => BR i.toNatClampNeg)) ∧ (¬ backC BF i → u' = u) ∧ xSm fBk u u') w r (some (.int (-1))) u w r := fun h => ⟨by rw [if_neg h], ⟨fun z => absurd z h, fun _ => rfl, xSm.rf⟩, rfl, rfl⟩
  by_cases q : inN i 3
  · obtain ⟨m, hm3, rfl⟩ := inN.get q (by omega)
    unfold backC at no ⊢
    simp (disch := omega) only [nc] at no ⊢
    have hf := (hb m hm3).1
    refine ⟨fun _ => vpn (by omega) (by omega), fun y => no (fun z => ?_), fun y => ⟨vpn (by omega) (by omega), ?_⟩⟩
    · rcases y with y | y
      · exact y q
      · rw [hf, if_pos z.2] at y; exact absurd y (by decide)
    · have bt' : BF m = true := Classical.byContradiction (fun z => y (Or.inr (by rw [hf, if_neg z])))
      have yes : inN (nI m) 3 ∧ BF m = true := ⟨q, bt'⟩
      rw [if_pos yes]
      refine xVd.use (K_goOnFrom (d := d) hK hR hL (bx_st hm3) (bx_sr hr hm3) (by omega) ((hb m hm3).2 bt')) (fun u1 ⟨⟨n1, e1, x1, N1⟩, f1⟩ => ⟨rfl, rfl, rfl, ?_⟩)
      obtain ⟨T1, k1⟩ := N1.2.1
      refine xVd.use (K_begin (d := d + 1) hr hb6 ⟨n1, e1, T1, x1, k1⟩) (fun u2 ⟨g2, f2⟩ => ⟨rfl, rfl, rfl, ?_, ⟨fun _ => ⟨⟨n1, e1, x1, N1.kept hR f2 (fun b hb => by omega)⟩, g2⟩, fun z => absurd yes z, ?_⟩, rfl, rfl⟩)
      · rw [f2 105 0 (by omega), k1.1.1]
      · exact (f1.to (fun x hx => Or.inl hx)).tr (f2.to (fun x hx => Or.inr hx))
  · exact ⟨fun z => absurd q z, fun _ => no (fun z => q z.1), fun z => absurd (Or.inl q) z⟩
theorem R_back {u : xU} (hr : xRf r) (hK : lOkk L) (hN : rN1 L n e u σ) (hb : rBx u BF BR) (i : Int32) :
    xCall g (d + 1) mX12_back [.ref 655, .int i] 698 u w r 698 (xIn (if backC BF i then BR i.toNatClampNeg 90 else -1) (fun u' => (backC BF i → (∀ n' e', rXn L n' e' (BR i.toNatClampNeg) → rN1 L n' e' u' (mix (BR i.toNatClampNeg) σ)) ∧ ∀ RS, rRg u' 0 0 RS) ∧ (¬ backC BF i → u' = u) ∧ xSn fRa u u') w r) := by
  have hb6 := hK.2.2.1.1
  refine CX12_back hr (xPr.use (R_isBox _) ⟨_, rfl, rfl, rfl, rfl, ?_⟩)
  rw [xb_eq0]
  have no : ¬ backC BF i → xIn (if backC BF i then BR i.toNatClampNeg 90 else -1) (fun u' => (backC BF i → (∀ n' e', rXn L n' e' (BR i.toNatClampNeg) → rN1 L n' e' u' (mix (BR i.toNatClampNeg) σ)) ∧ ∀ RS, rRg u' 0 0 RS) ∧ (¬ backC BF i → u' = u) ∧ xSn fRa u u') w r (some (.int (-1))) u w r := fun h => ⟨by rw [if_neg h], ⟨fun z => absurd z h, fun _ => rfl, xSn.rf⟩, rfl, rfl⟩
  by_cases q : inN i 3
  · obtain ⟨m, hm3, rfl⟩ := inN.get q (by omega)
    unfold backC at no ⊢
    simp (disch := omega) only [nc] at no ⊢
    have hf := (hb m hm3).1
    refine ⟨fun _ => vpn (by omega) (by omega), fun y => no (fun z => ?_), fun y => ?_⟩
    · rcases y with y | y
      · exact y q
      · rw [hf, if_pos z.2] at y; exact absurd y (by decide)
    · have bt' : BF m = true := Classical.byContradiction (fun z => y (Or.inr (by rw [hf, if_neg z])))
      have yes : inN (nI m) 3 ∧ BF m = true := ⟨q, bt'⟩
      rw [if_pos yes]
      refine xlp (N := 91) (Q := fun k u' => (∀ j, j < k → u' 683 j = BR m j) ∧ (∀ j, k ≤ j → u' 683 j = σ j) ∧ xSm (fun b => b = 683) u u') (G := fun k u' => xEv g (d + 1) mX12_back 20 [some (.ref 655), some (.int (nI m)), some (.int (nI k))] [] 698 u' w r 698 _) ?_ ?_ ⟨fun j hj => by omega, fun j _ => by rw [hN.2.1], xSm.rf⟩
      · intro u1 ⟨h1, h2, f1⟩
        have fa : xSn fRa u (x2 (x2 u1 655 63 0) 655 64 0) := ((f1.n (G := fRa) (fun b i h => Or.inr (Or.inl h))).put (Or.inr (Or.inr (Or.inr ⟨rfl, Or.inl rfl⟩)))).put (Or.inr (Or.inr (Or.inr ⟨rfl, Or.inr rfl⟩)))
        refine TX12_back_20 hr (brT (nI_le (a := 91) (Nat.le_refl _) (by omega)) ⟨?_, ⟨fun _ => ⟨fun n' e' hX => ?_, fun RS => ⟨⟨?_, ?_⟩, fun i j hj => ⟨fun hi => by omega, fun hi hi2 => by omega⟩⟩⟩, fun z => absurd yes z, fa⟩, rfl, rfl⟩)
        · rw [h1 90 (by omega)]
        · refine hN.row hb6 (hX.cg hb6 (fun j hj => mix_lo _ _ hj)) (funext fun j => ?_) (fun j hj => ?_) fa
          · rw [x2_a _ _ (by omega), x2_a _ _ (by omega)]
            by_cases z : j < 91
            · rw [h1 j z, mix_lo _ _ z]
            · rw [h2 j (by omega), mix_hi _ _ (by omega)]
          · rw [x2_a _ _ (by omega), x2_a _ _ (by omega), f1 _ _ (by omega), hN.2.2.2 j hj, hN.2.1, mix_hi _ _ hj]
        · rw [x2_i _ _ (by omega), x2_same]; rfl
        · rw [x2_same]; rfl
      · intro k u1 hk ⟨h1, h2, f1⟩ kk
        refine TX12_back_20 hr (brF (nI_ge (b := 91) (by omega) (by omega)) ?_)
        simp (disch := omega) only [m92, nI_add, nc]
        refine ⟨vpn (by omega) (by omega), vpn (by omega) (by omega), ?_⟩
        rw [nI_one, f1 697 _ (by omega), (hb m hm3).2 bt' k hk]
        refine kk _ ⟨fun j hj => ?_, fun j hj => ?_, f1.put rfl⟩
        · by_cases y : j = k
          · subst y; rw [x2_same]
          · rw [x2_i _ _ y]; exact h1 j (by omega)
        · rw [x2_i _ _ (by omega)]; exact h2 j (by omega)
  · exact ⟨fun z => absurd q z, fun _ => no (fun z => q z.1), fun z => absurd (Or.inl q) z⟩
end BOXES
