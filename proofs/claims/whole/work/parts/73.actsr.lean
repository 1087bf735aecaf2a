/-! ACTS: the reference -/
def mix (ρ σ : Nat → Int32) : Nat → Int32 := fun j => if j < 91 then ρ j else σ j
theorem mix_lo (ρ σ : Nat → Int32) {j : Nat} (h : j < 91) : mix ρ σ j = ρ j := if_pos h
theorem mix_hi (ρ σ : Nat → Int32) {j : Nat} (h : 91 ≤ j) : mix ρ σ j = σ j := if_neg (by omega)
section ACTSR
variable {g : xGT} {d : Nat} {w : xW} {r : xQ} {L : xU} {l n e : Nat} {σ : Nat → Int32} {a b : Nat} {RS : Nat → Nat → Int32}
theorem R_post {u : xU} (hr : xRf r) (hK : lOkk L) (hN : rN1 L n e u σ) (hX : rXn L n e σ) (hag : ∀ j, j < 91 → RS a j = σ j) (hab : a + b ≤ 40) (hg : rRg u a b RS) (i j : Int32) :
    xCall g (d + 3) mX12_post [.ref 655, .int i, .int j] 698 u w r 698 (xIn (if poC L n i j then nI n else -1) (rAct L a RS (poC L n i j) n e σ (n + 1) e (fAdd n i j 200 1 σ) u) w r) := by
  have hb6 := hK.2.2.1.1
  have hv7 := hK.1.1
  have hS := hN.2.2.1
  have n10 := hS.1.2
  refine CX12_post hr (xPr.use (R_isVillage hN.1 hv7 i) ⟨_, rfl, rfl, rfl, rfl, ?_⟩)
  rw [xb_eq0]
  have no : ¬ poC L n i j → xIn (if poC L n i j then nI n else -1) (rAct L a RS (poC L n i j) n e σ (n + 1) e (fAdd n i j 200 1 σ) u) w r (some (.int (-1))) u w r := fun h => ⟨by rw [if_neg h], rAct.no h (rA.rf hN), rfl, rfl⟩
  refine ⟨fun q => no (fun z => q z.2.1.1), fun q => xPr.use (R_isVillage hN.1 hv7 j) ⟨_, rfl, rfl, rfl, rfl, ?_⟩⟩
  rw [Classical.not_not] at q
  rw [xb_eq0, hN.2.1, hS.1.1, show (10 : Int32) = nI 10 from rfl, eq_nI (by omega) (by omega)]
  refine ⟨fun q2 => no (fun z => ?_), fun q2 => ?_⟩
  · rcases q2 with y | y | y
    · exact y z.2.1.2
    · exact z.2.2 y
    · have := z.1; omega
  · have h1 : inN j (lV L) := Classical.not_not.mp (fun y => q2 (Or.inl y))
    have h2 : ¬ i = j := fun y => q2 (Or.inr (Or.inl y))
    have h3 : ¬ n = 10 := fun y => q2 (Or.inr (Or.inr y))
    have yes : poC L n i j := ⟨by omega, ⟨q, h1⟩, h2⟩
    rw [if_pos yes]
    refine R_act hr hN.2.1 hag hab hg (fun u1 g1 f1 => ⟨rfl, rfl, rfl, ?_⟩)
    have e683 : u1 683 = σ := by rw [← hN.2.1]; exact funext fun j => f1 _ _ (by omega)
    rw [e683, hS.1.1]
    refine CX12_layLetter hr ?_
    simp (disch := omega) only [a18, a28, a38, a48, a58, a68, a78, nc]
    have v : ∀ m, m < 82 → vp_in (nI (m + n)) 92 := fun m hm => vpn (by omega) (by omega)
    refine ⟨v _ (by omega), v _ (by omega), v _ (by omega), v _ (by omega), v _ (by omega), v _ (by omega), v _ (by omega), trivial, trivial, trivial, ?_⟩
    generalize hU : x2 (x2 (x2 (x2 (x2 (x2 (x2 u1 683 (18 + n) i) 683 (28 + n) (-1)) 683 (38 + n) (-1)) 683 (48 + n) 0) 683 (58 + n) j) 683 (68 + n) 200) 683 (78 + n) 1 = U
    have fU : xSm (fun b => b = 683) u1 U := by
      rw [← hU]
      exact (((((((xSm.rf (F := fun b => b = 683)).put rfl).put rfl).put rfl).put rfl).put rfl).put rfl).put rfl
    have rU : U 683 = up (up (up (up (up (up (up σ (18 + n) i) (28 + n) (-1)) (38 + n) (-1)) (48 + n) 0) (58 + n) j) (68 + n) 200) (78 + n) 1 := by
      rw [← hU, x2_row, x2_row, x2_row, x2_row, x2_row, x2_row, x2_row, e683]
    have e88 : U 683 88 = nI n := by
      rw [rU, up_n (by omega), up_n (by omega), up_n (by omega), up_n (by omega), up_n (by omega), up_n (by omega), up_n (by omega)]; exact hS.1.1
    rw [e88, nI_one]
    have row : (x2 U 683 88 (nI (n + 1))) 683 = fAdd n i j 200 1 σ := by
      rw [x2_row, rU]
      unfold fAdd
      rw [up_comm (a := 48 + n) (b := 58 + n) _ _ (by omega), up_comm (a := 48 + n) (b := 68 + n) _ _ (by omega), up_comm (a := 48 + n) (b := 78 + n) _ _ (by omega)]
    obtain ⟨v', hv', ei⟩ := inN.get q (by omega)
    obtain ⟨t', ht', ej⟩ := inN.get h1 (by omega)
    have X1 : rXn L (n + 1) e (fAdd n i j 200 1 σ) := by
      rw [ei, ej]
      exact hX.add hb6 (by omega) hv' ht' 200 (x := 1) (by omega)
    have f12 : xSn fRa u (x2 U 683 88 (nI (n + 1))) := ((f1.to fR7_a).tr (fU.n (fun b i h => Or.inr (Or.inl h)))).put (Or.inr (Or.inl rfl))
    refine ⟨?_, ⟨fun _ => ⟨hN.row hb6 X1 row (fun m hm => ?_) f12, fun τ => ?_⟩, fun z => absurd yes z, f12⟩, rfl, rfl⟩
    · rw [show nI (n + 1) - 1 = nI n from nI_sub (a := n + 1) (b := 1) (by omega)]
    · rw [x2_a _ _ (by omega), fU _ _ (by omega), f1 _ _ (by omega), hN.2.2.2 m hm, hN.2.1, fAdd_o (by omega)]
    · exact (g1 τ).kept (F := fun b i => b = 683) ((fU.n (fun b i h => h)).put rfl) (by omega) (by omega) (fun i => by omega)
theorem R_hand {u : xU} (hr : xRf r) (hK : lOkk L) (hN : rN1 L n e u σ) (hX : rXn L n e σ) (hag : ∀ j, j < 91 → RS a j = σ j) (hab : a + b ≤ 40) (hg : rRg u a b RS) (i j : Int32) :
    xCall g (d + 5) mX12_hand [.ref 655, .int i, .int j] 698 u w r 698 (xIn (xb (handC L n σ i j)) (rAct L a RS (handC L n σ i j) n e σ n e (fPut i.toNatClampNeg j σ) u) w r) := by
  have hb6 := hK.2.2.1.1
  have hv7 := hK.1.1
  have hS := hN.2.2.1
  have n10 := hS.1.2
  refine CX12_hand hr (xPr.use (R_isPosted hr hN i) ⟨_, rfl, rfl, rfl, rfl, ?_⟩)
  rw [xb_eq0]
  have no : ∀ u', rA L n e σ u u' → ¬ handC L n σ i j → xIn (xb (handC L n σ i j)) (rAct L a RS (handC L n σ i j) n e σ n e (fPut i.toNatClampNeg j σ) u) w r (some (.int 0)) u' w r := fun u' hA h => ⟨by rw [xb_neg h], rAct.no h hA, rfl, rfl⟩
  refine ⟨fun q => no u (rA.rf hN) (fun z => q z.1.1), fun q => xPr.use (R_isBier hN.1 hb6 j) ⟨_, rfl, rfl, rfl, rfl, ?_⟩⟩
  rw [Classical.not_not] at q
  rw [xb_eq0]
  obtain ⟨m, hmn, rfl⟩ := inN.get q (by omega)
  simp (disch := omega) only [a18, nc] at no ⊢
  rw [hN.2.1]
  have v18 : vp_in (nI (18 + m)) 92 := vpn (by omega) (by omega)
  have e18 : 0 ≤ σ (18 + m) ↔ ¬ σ (18 + m) = -1 := by
    obtain ⟨-, l2⟩ := hS.2.2.2.2.1 m hmn
    rcases l2 with ⟨-, -, v, hv, y⟩ | ⟨b, -, -, -, -, y⟩ | ⟨-, y, -⟩
    · rw [y]; exact ⟨fun _ => nI_m1 (by omega), fun _ => nI_pos' (by omega)⟩
    · rw [y]; exact ⟨fun z => absurd z (by decide), fun z => absurd rfl z⟩
    · rw [y]; exact ⟨fun z => absurd z (by decide), fun z => absurd rfl z⟩
  rw [e18]
  refine ⟨fun _ => v18, fun q2 => no u (rA.rf hN) (fun z => ?_), fun q2 => ?_⟩
  · rcases q2 with y | y
    · exact y z.1.2
    · have z2 := z.2.1
      rw [nc (by omega)] at z2
      exact y z2
  · have q2' : inN j (lB L) := Classical.not_not.mp (fun y => q2 (Or.inl y))
    have q3 : ¬ σ (18 + m) = -1 := fun y => q2 (Or.inr (fun z => z y))
    obtain ⟨c, hc, rfl⟩ := inN.get q2' (by omega)
    unfold handC at no ⊢
    simp (disch := omega) only [nc] at no ⊢
    refine R_loaded (d := d + 2) hr hK hN (fun u1 h1 h2 h3 f1 => ⟨rfl, rfl, rfl, v18, ?_⟩)
    have hA : rA L n e σ u u1 := ⟨f1, hN.keep f1 (fun j _ => by rw [h1])⟩
    rw [h1]
    refine xPr.use (R_standsAt hr (by omega) _) ⟨_, rfl, rfl, rfl, rfl, ?_⟩
    rw [h1, xb_eq0]
    refine ⟨fun q4 => no u1 hA (fun z => q4 z.2.2.1), fun q4 => ?_⟩
    rw [Classical.not_not] at q4
    refine xPr.use (R_lettersIn hr (by rw [h1]; exact hS.1.1) n10 c) ⟨_, rfl, rfl, rfl, rfl, vpn (by omega) (by omega), ?_⟩
    have e678 : u1 678 = L 7 := h3.1.2.2.2.2.2.2.2.1
    rw [h1, e678]
    refine ⟨fun q5 => no u1 hA (fun z => z.2.2.2 q5), fun q5 => ?_⟩
    have yes : (inN (nI m) n ∧ inN (nI c) (lB L)) ∧ (¬ σ (18 + m) = -1 ∧ (σ c = 1 ∧ σ (6 + c) = σ (18 + m)) ∧ ¬ nI (fIn n σ c) = L 7 c) := ⟨⟨q, q2'⟩, q3, q4, q5⟩
    rw [xb_pos yes]
    have g1 : rRg u1 a b RS := hg.kept f1 (by unfold fRx; omega) (by unfold fRx; omega) (fun i => by unfold fRx; omega)
    refine R_act hr hA.2.2.1 hag hab g1 (fun u2 g2 f2 => ⟨rfl, rfl, rfl, ?_⟩)
    have e684 : u2 684 = σ := by rw [← h1]; exact funext fun k => f2 _ _ (by omega)
    have hok2 : hOk u2 := by
      obtain ⟨mm, m1, m2⟩ := h2
      exact ⟨mm, m1, (f2 655 61 (by omega)).trans m2⟩
    refine xVd.use (R_putInto hr hok2 (show m < 10 by omega)) (fun u3 ⟨h5, f3, _⟩ => ⟨rfl, rfl, rfl, ?_⟩)
    rw [e684] at h5
    have o683 : u3 683 = σ := by
      rw [← hN.2.1]
      funext k
      rw [f3 683 k (by unfold fDh; omega), f2 683 k (by omega), f1 683 k (by unfold fRx; omega)]
    have hi : ∀ k, 91 ≤ k → fPut m (nI c) σ k = σ k := fun k hk => by
      unfold fPut
      split
      · rfl
      · rw [up_n (by omega), up_n (by omega), up_n (by omega)]
    refine R_keep hr h5 (fun k hk => by rw [o683]; exact (hi k hk).symm) (fun u4 h6 f4 => ⟨rfl, rfl, rfl, rfl, ?_, rfl, rfl⟩)
    have fa : xSn fRa u u4 := (((f1.to (fun b i h => Or.inl h)).tr (f2.to fR7_a)).tr (f3.to (fun b i h => Or.inl (by unfold fDh at h; unfold fRx; omega)))).tr (f4.n (fun b i h => Or.inr (Or.inl h)))
    refine ⟨fun _ => ⟨hN.row hb6 (hX.hand hK.2.2.1 hmn hc q3 q4.1 q5) h6 (fun k hk => by rw [f4 _ _ (by omega), h5]) fa, fun τ => ?_⟩, fun z => absurd yes z, fa⟩
    exact ((g2 τ).kept f3 (by unfold fDh; omega) (by unfold fDh; omega) (fun i => by unfold fDh; omega)).kept (f4.n (G := fun b i => b = 683) (fun b i h => h)) (by omega) (by omega) (fun i => by omega)
theorem R_take {u : xU} (hr : xRf r) (hK : lOkk L) (hN : rN1 L n e u σ) (hX : rXn L n e σ) (hag : ∀ j, j < 91 → RS a j = σ j) (hab : a + b ≤ 40) (hg : rRg u a b RS) (i : Int32) :
    xCall g (d + 2) mX12_take [.ref 655, .int i] 698 u w r 698 (xIn (if takeC n σ i then σ (28 + i.toNatClampNeg) else -1) (rAct L a RS (takeC n σ i) n e σ n e (nTake σ i) u) w r) := by
  have hb6 := hK.2.2.1.1
  have hv7 := hK.1.1
  have hS := hN.2.2.1
  have n10 := hS.1.2
  refine CX12_take hr (xPr.use (R_isPosted hr hN i) ⟨_, rfl, rfl, rfl, rfl, ?_⟩)
  rw [xb_eq0]
  have no : ¬ takeC n σ i → xIn (if takeC n σ i then σ (28 + i.toNatClampNeg) else -1) (rAct L a RS (takeC n σ i) n e σ n e (nTake σ i) u) w r (some (.int (-1))) u w r := fun h => ⟨by rw [if_neg h], rAct.no h (rA.rf hN), rfl, rfl⟩
  by_cases q : inN i n
  · obtain ⟨m, hmn, rfl⟩ := inN.get q (by omega)
    unfold takeC at no ⊢
    simp (disch := omega) only [a28, a18, nc] at no ⊢
    rw [hN.2.1]
    refine ⟨fun _ => vpn (by omega) (by omega), fun _ q2 => ?_, fun q2 => no (fun z => ?_), fun q2 => ?_⟩
    · rcases take_own hX hb6 hmn with y | ⟨c, v, hc, hv, y1, y2, y3⟩
      · rw [y] at q2; exact absurd m1_neg q2
      · rw [y1]; exact vpn (by omega) (by omega)
    · rcases q2 with y | y | y
      · exact y q
      · exact z.2.1 y
      · exact y z.2.2
    · have q3 : ¬ σ (28 + m) < 0 := fun y => q2 (Or.inr (Or.inl y))
      have q4 : σ (σ (28 + m)).toNatClampNeg = 1 := Classical.not_not.mp (fun y => q2 (Or.inr (Or.inr y)))
      have yes : inN (nI m) n ∧ (¬ σ (28 + m) < 0 ∧ σ (σ (28 + m)).toNatClampNeg = 1) := ⟨q, q3, q4⟩
      rw [if_pos yes]
      refine R_act hr hN.2.1 hag hab hg (fun u1 g1 f1 => ⟨rfl, rfl, rfl, ?_⟩)
      have e683 : u1 683 = σ := by rw [← hN.2.1]; exact funext fun j => f1 _ _ (by omega)
      rcases take_own hX hb6 hmn with y | ⟨c, v, hc, hv, y1, y2, y3⟩
      · rw [y] at q3; exact absurd m1_neg q3
      · rw [e683, y1]
        simp (disch := omega) only [a6, nc]
        refine ⟨vpn (by omega) (by omega), vpn (by omega) (by omega), vpn (by omega) (by omega), rfl, ?_, rfl, rfl⟩
        have row : (x2 (x2 u1 683 (28 + m) (-1)) 683 (18 + m) (x2 u1 683 (28 + m) (-1) 683 (6 + c))) 683 = nTake σ (nI m) := by
          rw [x2_row, x2_i _ _ (show 6 + c ≠ 28 + m by omega), x2_row, e683]
          unfold nTake
          rw [nc (by omega), y1, nc (by omega)]
        have f12 : xSn fRa u (x2 (x2 u1 683 (28 + m) (-1)) 683 (18 + m) (x2 u1 683 (28 + m) (-1) 683 (6 + c))) := ((f1.to fR7_a).put (Or.inr (Or.inl rfl))).put (Or.inr (Or.inl rfl))
        refine ⟨fun _ => ⟨hN.row hb6 (hX.take hK.2.2.1 hmn (by rw [y1]; exact nI_nn (by omega))) row (fun k hk => ?_) f12, fun τ => ?_⟩, fun z => absurd (by rw [y1, nc (by omega)] at yes; exact yes) z, f12⟩
        · unfold nTake
          rw [nc (by omega), x2_a _ _ (by omega), x2_a _ _ (by omega), f1 _ _ (by omega), hN.2.2.2 k hk, hN.2.1, up_n (by omega), up_n (by omega)]
        · exact (g1 τ).kept (F := fun b i => b = 683) (((xSn.rf (F := fun b i => b = 683)).put rfl).put rfl) (by omega) (by omega) (fun i => by omega)
  · exact ⟨fun z => absurd q z, fun z => absurd q z, fun _ => no (fun z => q z.1), fun z => absurd (Or.inl q) z⟩
theorem R_close {u : xU} (hr : xRf r) (hK : lOkk L) (hN : rN1 L n e u σ) (hX : rXn L n e σ) (hag : ∀ j, j < 91 → RS a j = σ j) (hab : a + b ≤ 40) (hg : rRg u a b RS) (i : Int32) :
    xCall g (d + 1) mX12_close [.ref 655, .int i] 698 u w r 698 (xIn (if inN i (lW L) then (((nClose σ i 89) >>> (i &&& 31)) &&& 1) else -1) (rAct L a RS (inN i (lW L)) n e σ n e (nClose σ i) u) w r) := by
  have hb6 := hK.2.2.1.1
  have hw12 := hK.1.2.1
  have hS := hN.2.2.1
  refine CX12_close hr (xPr.use (R_isIn _ _ _) ⟨_, rfl, rfl, rfl, rfl, ?_⟩)
  rw [hN.1.1.2.1, xb_iff (inN_ref (show lW L < 1000 by omega)), xb_eq0]
  refine ⟨fun q => ⟨by rw [if_neg q], rAct.no q (rA.rf hN), rfl, rfl⟩, fun q => ?_⟩
  rw [Classical.not_not] at q
  rw [if_pos q]
  refine R_act hr hN.2.1 hag hab hg (fun u1 g1 f1 => ⟨rfl, rfl, rfl, ?_⟩)
  have e683 : u1 683 = σ := by rw [← hN.2.1]; exact funext fun j => f1 _ _ (by omega)
  rw [e683]
  generalize hx : σ 89 ^^^ ((1 : Int32) <<< (i &&& 31)) = x
  have er : nClose σ i = up σ 89 x := by unfold nClose; rw [hx]
  rw [er, up_s]
  have row : (x2 u1 683 89 x) 683 = up σ 89 x := by rw [x2_row, e683]
  have f12 : xSn fRa u (x2 u1 683 89 x) := (f1.to fR7_a).put (Or.inr (Or.inl rfl))
  refine ⟨rfl, ⟨fun _ => ⟨hN.row hb6 (hX.close hb6 x) row (fun k hk => ?_) f12, fun τ => ?_⟩, fun z => absurd q z, f12⟩, rfl, rfl⟩
  · rw [x2_a _ _ (by omega), f1 _ _ (by omega), hN.2.2.2 k hk, hN.2.1, up_n (by omega)]
  · exact (g1 τ).kept (F := fun b i => b = 683) ((xSn.rf (F := fun b i => b = 683)).put rfl) (by omega) (by omega) (fun i => by omega)
/-- a kept row and the present one change places -/
theorem R_exchange {u : xU} {P : xPost} {c : Nat} (hr : xRf r) (hc : c < 40) (kk : ∀ u' : xU, (∀ j, j < 91 → u' 687 (92 * c + j) = u 683 j ∧ u' 683 j = u 687 (92 * c + j)) → (∀ j, (j < 92 * c ∨ 92 * c + 91 ≤ j) → u' 687 j = u 687 j) → (∀ j, 91 ≤ j → u' 683 j = u 683 j) → xSm (fun b => b = 687 ∨ b = 683) u u' → P none u' w r) :
    xCall g d mX12_exchange [.ref 655, .int (nI (92 * c))] 698 u w r 698 P := by
  refine CX12_exchange ?_
  refine xlp (N := 91) (Q := fun k u' => (∀ j, j < k → u' 687 (92 * c + j) = u 683 j ∧ u' 683 j = u 687 (92 * c + j)) ∧ (∀ j, (j < 92 * c ∨ 92 * c + k ≤ j) → u' 687 j = u 687 j) ∧ (∀ j, k ≤ j → u' 683 j = u 683 j) ∧ xSm (fun b => b = 687 ∨ b = 683) u u') (G := fun k u' => xEv g d mX12_exchange 2 [some (.ref 655), some (.int (nI (92 * c))), some (.int (nI k)), none] [] 698 u' w r 698 _) ?_ ?_ ⟨fun j hj => by omega, fun j _ => rfl, fun j _ => rfl, xSm.rf⟩
  · intro u1 ⟨h1, h2, h3, f1⟩
    exact TX12_exchange_2 hr (brT (nI_le (a := 91) (Nat.le_refl _) (by omega)) (kk u1 h1 h2 h3 f1))
  · intro k u1 hk ⟨h1, h2, h3, f1⟩ kk2
    refine TX12_exchange_2 hr (brF (nI_ge (b := 91) (by omega) (by omega)) ?_)
    simp (disch := omega) only [nI_add, nc]
    refine ⟨vpn (by omega) (by omega), vpn (by omega) (by omega), ?_⟩
    rw [nI_one]
    refine kk2 _ ⟨fun j hj => ?_, fun j hj => ?_, fun j hj => ?_, (f1.put (Or.inl rfl)).put (Or.inr rfl)⟩
    · by_cases q : j = k
      · subst q
        rw [x2_a _ _ (show 687 ≠ 683 by omega), x2_same, x2_same]
        exact ⟨h3 j (Nat.le_refl _), h2 _ (by omega)⟩
      · rw [x2_a _ _ (show 687 ≠ 683 by omega), x2_i _ _ (show 92 * c + j ≠ 92 * c + k by omega), x2_i _ _ q, x2_a _ _ (show 683 ≠ 687 by omega)]
        exact h1 j (by omega)
    · rw [x2_a _ _ (show 687 ≠ 683 by omega), x2_i _ _ (by omega)]; exact h2 j (by omega)
    · rw [x2_i _ _ (by omega), x2_a _ _ (show 683 ≠ 687 by omega)]; exact h3 j (by omega)
theorem R_undo {u : xU} (hr : xRf r) (hK : lOkk L) (hN : rN1 L n e u σ) (hag : ∀ j, j < 91 → RS a j = σ j) (hab : a + b ≤ 40) (hg : rRg u a b RS) :
    xCall g (d + 1) mX12_undo [.ref 655] 698 u w r 698 (fun rv u' w' r' => w = w' ∧ r = r' ∧ ((a = 0 ∧ rv = some (.int 0) ∧ u' = u) ∨ (0 < a ∧ rv = some (.int 1) ∧ rRg u' (a - 1) (b + 1) RS ∧ (∀ n' e', rXn L n' e' (RS (a - 1)) → rN1 L n' e' u' (mix (RS (a - 1)) σ)) ∧ xSn fRa u u'))) := by
  have hb6 := hK.2.2.1.1
  obtain ⟨⟨g1, g2⟩, g3⟩ := id hg
  refine CX12_undo ?_
  rw [g1, g2, show (0 : Int32) = nI 0 from rfl, eq_nI (by omega) (by omega)]
  refine ⟨fun q => ⟨rfl, rfl, Or.inl ⟨q, rfl, rfl⟩⟩, fun q => ?_⟩
  rw [show nI a - 1 = nI (a - 1) from nI_sub (a := a) (b := 1) (by omega), m92, nI_one]
  have f0 : xSn fR7 u (x2 (x2 u 655 63 (nI (a - 1))) 655 64 (nI (b + 1))) := ((xSn.rf (F := fR7)).put (Or.inr ⟨rfl, Or.inl rfl⟩)).put (Or.inr ⟨rfl, Or.inr rfl⟩)
  have o687 : ∀ j, x2 (x2 u 655 63 (nI (a - 1))) 655 64 (nI (b + 1)) 687 j = u 687 j := fun j => by rw [x2_a _ _ (by omega), x2_a _ _ (by omega)]
  have o683 : ∀ j, x2 (x2 u 655 63 (nI (a - 1))) 655 64 (nI (b + 1)) 683 j = σ j := fun j => by rw [x2_a _ _ (by omega), x2_a _ _ (by omega), hN.2.1]
  have o63 : x2 (x2 u 655 63 (nI (a - 1))) 655 64 (nI (b + 1)) 655 63 = nI (a - 1) := by rw [x2_i _ _ (by omega), x2_same]
  have o64 : x2 (x2 u 655 63 (nI (a - 1))) 655 64 (nI (b + 1)) 655 64 = nI (b + 1) := x2_same _ _ _ _
  generalize x2 (x2 u 655 63 (nI (a - 1))) 655 64 (nI (b + 1)) = U at f0 o687 o683 o63 o64 ⊢
  refine R_exchange hr (c := a - 1) (by omega) (fun u1 y1 y2 y3 f1 => ⟨rfl, rfl, rfl, rfl, rfl, Or.inr ⟨by omega, rfl, ⟨⟨?_, ?_⟩, fun i j hj => ⟨fun hi => ?_, fun hi hi2 => ?_⟩⟩, fun n' e' hX => ?_, ?_⟩⟩)
  · rw [f1 _ _ (by omega)]; exact o63
  · rw [f1 _ _ (by omega)]; exact o64
  · rw [y2 _ (by omega), o687]; exact (g3 i j hj).1 (by omega)
  · by_cases z : i = a
    · subst z
      rw [(y1 j hj).1, o683, hag j hj]
    · rw [y2 _ (by omega), o687]; exact (g3 i j hj).2 (by omega) (by omega)
  · have fa : xSn fRa u u1 := (f0.to fR7_a).tr (f1.n (fun b i h => h.elim (fun h => Or.inr (Or.inr (Or.inl h))) (fun h => Or.inr (Or.inl h))))
    refine hN.row hb6 (hX.cg hb6 (fun j hj => mix_lo _ _ hj)) (funext fun j => ?_) (fun j hj => ?_) fa
    · by_cases z : j < 91
      · rw [(y1 j z).2, o687, mix_lo _ _ z]; exact (g3 (a - 1) j z).1 (by omega)
      · rw [y3 j (by omega), o683, mix_hi _ _ (by omega)]
    · rw [f1 _ _ (by omega), f0 _ _ (by omega), hN.2.2.2 j hj, hN.2.1, mix_hi _ _ hj]
  · exact (f0.to fR7_a).tr (f1.n (fun b i h => h.elim (fun h => Or.inr (Or.inr (Or.inl h))) (fun h => Or.inr (Or.inl h))))
theorem R_redo {u : xU} (hr : xRf r) (hK : lOkk L) (hN : rN1 L n e u σ) (hag : ∀ j, j < 91 → RS a j = σ j) (hab : a + b ≤ 40) (hg : rRg u a b RS) :
    xCall g (d + 1) mX12_redo [.ref 655] 698 u w r 698 (fun rv u' w' r' => w = w' ∧ r = r' ∧ ((b = 0 ∧ rv = some (.int 0) ∧ u' = u) ∨ (0 < b ∧ rv = some (.int 1) ∧ rRg u' (a + 1) (b - 1) RS ∧ (∀ n' e', rXn L n' e' (RS (a + 1)) → rN1 L n' e' u' (mix (RS (a + 1)) σ)) ∧ xSn fRa u u'))) := by
  have hb6 := hK.2.2.1.1
  obtain ⟨⟨g1, g2⟩, g3⟩ := id hg
  refine CX12_redo ?_
  rw [g1, g2, show (0 : Int32) = nI 0 from rfl, eq_nI (by omega) (by omega)]
  refine ⟨fun q => ⟨rfl, rfl, Or.inl ⟨q, rfl, rfl⟩⟩, fun q => ?_⟩
  rw [m92]
  refine R_exchange hr (c := a) (by omega) (fun u1 y1 y2 y3 f1 => ⟨rfl, rfl, rfl, rfl, rfl, Or.inr ⟨by omega, rfl, ⟨⟨?_, ?_⟩, fun i j hj => ⟨fun hi => ?_, fun hi hi2 => ?_⟩⟩, fun n' e' hX => ?_, ?_⟩⟩)
  · rw [x2_i _ _ (by omega), x2_same, f1 _ _ (by omega), g1, nI_one]
  · rw [x2_same, f1 _ _ (by omega), g2, show nI b - 1 = nI (b - 1) from nI_sub (a := b) (b := 1) (by omega)]
  · rw [x2_a _ _ (by omega), x2_a _ _ (by omega)]
    by_cases z : i = a
    · subst z
      rw [(y1 j hj).1, hN.2.1, hag j hj]
    · rw [y2 _ (by omega)]; exact (g3 i j hj).1 (by omega)
  · rw [x2_a _ _ (by omega), x2_a _ _ (by omega), y2 _ (by omega)]; exact (g3 i j hj).2 (by omega) (by omega)
  · have fa : xSn fRa u (x2 (x2 u1 655 63 (u1 655 63 + 1)) 655 64 (u1 655 64 - 1)) := ((f1.n (G := fRa) (fun b i h => h.elim (fun h => Or.inr (Or.inr (Or.inl h))) (fun h => Or.inr (Or.inl h)))).put (Or.inr (Or.inr (Or.inr ⟨rfl, Or.inl rfl⟩)))).put (Or.inr (Or.inr (Or.inr ⟨rfl, Or.inr rfl⟩)))
    refine hN.row hb6 (hX.cg hb6 (fun j hj => mix_lo _ _ hj)) (funext fun j => ?_) (fun j hj => ?_) fa
    · rw [x2_a _ _ (by omega), x2_a _ _ (by omega)]
      by_cases z : j < 91
      · rw [(y1 j z).2, mix_lo _ _ z]
        have := (g3 (a + 1) j z).2 (by omega) (by omega)
        rw [Nat.add_sub_cancel] at this
        exact this
      · rw [y3 j (by omega), hN.2.1, mix_hi _ _ (by omega)]
    · rw [x2_a _ _ (by omega), x2_a _ _ (by omega), f1 _ _ (by omega), hN.2.2.2 j hj, hN.2.1, mix_hi _ _ hj]
  · exact ((f1.n (G := fRa) (fun b i h => h.elim (fun h => Or.inr (Or.inr (Or.inl h))) (fun h => Or.inr (Or.inl h)))).put (Or.inr (Or.inr (Or.inr ⟨rfl, Or.inl rfl⟩)))).put (Or.inr (Or.inr (Or.inr ⟨rfl, Or.inr rfl⟩)))
end ACTSR
