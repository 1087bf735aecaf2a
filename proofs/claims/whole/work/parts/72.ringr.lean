/-! THE REFERENCE's kept rows -/
def rRg (u : xU) (a b : Nat) (RS : Nat → Nat → Int32) : Prop := (u 655 63 = nI a ∧ u 655 64 = nI b) ∧ ∀ i j, j < 91 → (i < a → u 687 (92 * i + j) = RS i j) ∧ (a < i → i ≤ a + b → u 687 (92 * (i - 1) + j) = RS i j)
theorem rRg.kept {u u' : xU} {a b : Nat} {RS : Nat → Nat → Int32} (h : rRg u a b RS) {F : Nat → Nat → Prop} (f : xSn F u u') (h1 : ¬ F 655 63) (h2 : ¬ F 655 64) (h3 : ∀ i, ¬ F 687 i) : rRg u' a b RS := by
  obtain ⟨⟨a1, a2⟩, a3⟩ := h
  refine ⟨⟨(f _ _ h1).trans a1, (f _ _ h2).trans a2⟩, fun i j hj => ?_⟩
  rw [f 687 (92 * i + j) (h3 _), f 687 (92 * (i - 1) + j) (h3 _)]
  exact a3 i j hj
abbrev fR7 : Nat → Nat → Prop := fun b i => b = 687 ∨ (b = 655 ∧ (i = 63 ∨ i = 64))
abbrev fRa : Nat → Nat → Prop := fun b i => fRx b i ∨ b = 683 ∨ b = 687 ∨ (b = 655 ∧ (i = 63 ∨ i = 64))
theorem m92 (k : Nat) : (92 : Int32) * nI k = nI (92 * k) := nI_mul 92 k
theorem a92 (k : Nat) : (92 : Int32) + nI k = nI (92 + k) := nI_add 92 k
theorem up_comm {σ : Nat → Int32} {a b : Nat} (x y : Int32) (h : a ≠ b) : up (up σ a x) b y = up (up σ b y) a x := by
  funext j
  unfold up
  by_cases h1 : j = b
  · rw [if_pos h1, if_neg (by omega), if_pos h1]
  · rw [if_neg h1]
    by_cases h2 : j = a
    · rw [if_pos h2, if_pos h2]
    · rw [if_neg h2, if_neg h2, if_neg h1]
section RINGR
variable {g : xGT} {d : Nat} {w : xW} {r : xQ} {L : xU} {l n e : Nat} {σ : Nat → Int32} {a b : Nat} {RS : Nat → Nat → Int32}
/-- the present row behind c others -/
theorem R_act_49 {u : xU} {P : xPost} {c : Nat} (hr : xRf r) (hc : c < 40) (h63 : u 655 63 = nI c) (h683 : u 683 = σ)
    (kk : ∀ u' : xU, (∀ j, j < 91 → u' 687 (92 * c + j) = σ j) → (∀ j, (j < 92 * c ∨ 92 * c + 91 ≤ j) → u' 687 j = u 687 j) → u' 655 63 = nI (c + 1) → u' 655 64 = 0 → xSn fR7 u u' → P none u' w r) :
    xEv g d mX12_act 49 [some (.ref 655), none] [] 698 u w r 698 P := by
  refine TX12_act_49 ?_
  refine xlp (N := 91) (Q := fun k u' => (∀ j, j < k → u' 687 (92 * c + j) = σ j) ∧ (∀ j, (j < 92 * c ∨ 92 * c + k ≤ j) → u' 687 j = u 687 j) ∧ xSm (fun b => b = 687) u u') (G := fun k u' => xEv g d mX12_act 51 [some (.ref 655), some (.int (nI k))] [] 698 u' w r 698 _) ?_ ?_ ⟨fun j hj => by omega, fun j _ => rfl, xSm.rf⟩
  · intro u1 ⟨h1, h2, f1⟩
    refine TX12_act_51 hr (brT (nI_le (a := 91) (Nat.le_refl _) (by omega)) (kk _ (fun j hj => ?_) (fun j hj => ?_) ?_ ?_ ?_))
    · rw [x2_a _ _ (by omega), x2_a _ _ (by omega)]; exact h1 j hj
    · rw [x2_a _ _ (by omega), x2_a _ _ (by omega)]; exact h2 j hj
    · rw [x2_i _ _ (show 63 ≠ 64 by omega), x2_same, f1 _ _ (by omega), h63, nI_one]
    · rw [x2_same]
    · exact ((f1.n (fun b i h => Or.inl h)).put (Or.inr ⟨rfl, Or.inl rfl⟩)).put (Or.inr ⟨rfl, Or.inr rfl⟩)
  · intro k u1 hk ⟨h1, h2, f1⟩ kk2
    refine TX12_act_51 hr (brF (nI_ge (b := 91) (by omega) (by omega)) ?_)
    rw [f1 655 63 (by omega), h63]
    simp (disch := omega) only [m92, nI_add, nc]
    refine ⟨vpn (by omega) (by omega), vpn (by omega) (by omega), ?_⟩
    rw [nI_one, f1 683 k (by omega), h683]
    refine kk2 _ ⟨fun j hj => ?_, fun j hj => ?_, f1.put rfl⟩
    · by_cases q : j = k
      · subst q; rw [x2_same]
      · rw [x2_i _ _ (by omega)]; exact h1 j (by omega)
    · rw [x2_i _ _ (by omega)]; exact h2 j (by omega)
theorem R_act {u : xU} {P : xPost} (hr : xRf r) (h683 : u 683 = σ) (hag : ∀ j, j < 91 → RS a j = σ j) (hab : a + b ≤ 40) (hg : rRg u a b RS)
    (kk : ∀ u' : xU, (∀ τ, rRg u' (rgA a) 0 (rgS RS a τ)) → xSn fR7 u u' → P none u' w r) :
    xCall g d mX12_act [.ref 655] 698 u w r 698 P := by
  obtain ⟨⟨g1, g2⟩, g3⟩ := hg
  refine CX12_act ?_
  rw [g1, show (40 : Int32) = nI 40 from rfl, eq_nI (by omega) (by omega)]
  refine ⟨fun q => ?_, fun q => ?_⟩
  · subst q
    refine xlp (N := 3588) (Q := fun k u' => (∀ j, j < k → u' 687 j = u 687 (92 + j)) ∧ (∀ j, k ≤ j → u' 687 j = u 687 j) ∧ xSm (fun b => b = 687) u u') (G := fun k u' => xEv g d mX12_act 11 [some (.ref 655), some (.int (nI k))] [] 698 u' w r 698 _) ?_ ?_ ⟨fun j hj => by omega, fun j _ => rfl, xSm.rf⟩
    · intro u1 ⟨h1, h2, f1⟩
      refine TX12_act_11 hr (brT (nI_le (a := 3588) (Nat.le_refl _) (by omega)) ?_)
      rw [f1 655 63 (by omega), g1, show nI 40 - 1 = nI 39 from nI_sub (a := 40) (b := 1) (by omega)]
      refine R_act_49 hr (c := 39) (σ := σ) (by omega) (x2_same _ _ _ _) (by rw [x2_row' _ _ _ (by omega)]; rw [← h683]; exact funext fun i => f1 _ _ (by omega)) (fun u2 y1 y2 y3 y4 f2 => kk u2 (fun τ => ⟨⟨?_, ?_⟩, fun i j hj => ⟨fun hi => ?_, fun hi hi2 => ?_⟩⟩) ?_)
      · unfold rgA; rw [if_pos rfl]; exact y3
      · exact y4
      · unfold rgA at hi
        rw [if_pos rfl] at hi
        unfold rgS
        rw [if_pos rfl]
        show u2 687 (92 * i + j) = (if i < 40 then RS (i + 1) else τ) j
        rw [if_pos hi]
        by_cases z : i = 39
        · subst z
          rw [y1 j hj, hag j hj]
        · rw [y2 (92 * i + j) (by omega), x2_a _ _ (by omega), h1 (92 * i + j) (by omega), show 92 + (92 * i + j) = 92 * (i + 1) + j by omega]
          exact (g3 (i + 1) j hj).1 (by omega)
      · omega
      · exact ((f1.n (fun b i h => Or.inl h)).put (Or.inr ⟨rfl, Or.inl rfl⟩)).tr f2
    · intro k u1 hk ⟨h1, h2, f1⟩ kk2
      refine TX12_act_11 hr (brF (nI_ge (b := 3588) (by omega) (by omega)) ?_)
      simp (disch := omega) only [a92, nc]
      refine ⟨vpn (by omega) (by omega), vpn (by omega) (by omega), ?_⟩
      rw [nI_one]
      refine kk2 _ ⟨fun j hj => ?_, fun j hj => ?_, f1.put rfl⟩
      · by_cases q : j = k
        · subst q; rw [x2_same]; exact h2 _ (by omega)
        · rw [x2_i _ _ q]; exact h1 j (by omega)
      · rw [x2_i _ _ (by omega)]; exact h2 j (by omega)
  · refine R_act_49 hr (c := a) (σ := σ) (by omega) g1 h683 (fun u2 y1 y2 y3 y4 f2 => kk u2 (fun τ => ⟨⟨?_, y4⟩, fun i j hj => ⟨fun hi => ?_, fun hi hi2 => ?_⟩⟩) f2)
    · unfold rgA; rw [if_neg q]; exact y3
    · unfold rgA at hi
      rw [if_neg q] at hi
      unfold rgS
      rw [if_neg q]
      show u2 687 (92 * i + j) = (if i ≤ a then RS i else τ) j
      rw [if_pos (by omega)]
      by_cases z : i = a
      · subst z; rw [y1 j hj, hag j hj]
      · rw [y2 (92 * i + j) (by omega)]
        exact (g3 i j hj).1 (by omega)
    · omega
/-- behind an act of the reference that is done, or not -/
def rAct (L : xU) (a : Nat) (RS : Nat → Nat → Int32) (p : Prop) (n0 e0 : Nat) (σ0 : Nat → Int32) (n e : Nat) (σ : Nat → Int32) (u u' : xU) : Prop := (p → rN1 L n e u' σ ∧ ∀ τ, rRg u' (rgA a) 0 (rgS RS a τ)) ∧ (¬ p → rA L n0 e0 σ0 u u') ∧ xSn fRa u u'
theorem rAct.no {p : Prop} {n0 e0 : Nat} {σ0 : Nat → Int32} {u u' : xU} (hn : ¬ p) (h : rA L n0 e0 σ0 u u') : rAct L a RS p n0 e0 σ0 n e σ u u' := ⟨fun q => absurd q hn, fun _ => h, h.1.to (fun b i h => Or.inl h)⟩
theorem rN1.f7 {u u' : xU} (h : rN1 L n e u σ) (f : xSn fR7 u u') : rN1 L n e u' σ :=
  h.keepG (fun i hi => f _ _ (fun z => by
    rcases z with z | ⟨-, z | z⟩
    · omega
    · subst z; revert hi; decide
    · subst z; revert hi; decide)) (fun b hb => funext fun i => f b i (by omega)) (fun j hj => by rw [f _ _ (by omega), h.2.2.2 j hj, h.2.1])
theorem fR7_a : ∀ b i, fR7 b i → fRa b i := fun b i h => h.elim (fun h => Or.inr (Or.inr (Or.inl h))) (fun h => Or.inr (Or.inr (Or.inr h)))
/-- the rows of air become now's -/
theorem R_keep {u : xU} {τ : Nat → Int32} {P : xPost} (hr : xRf r) (h684 : u 684 = τ) (h91 : ∀ j, 91 ≤ j → u 683 j = τ j) (kk : ∀ u' : xU, u' 683 = τ → xSm (fun b => b = 683) u u' → P none u' w r) :
    xCall g d mX12_keep [.ref 655] 698 u w r 698 P := by
  refine CX12_keep ?_
  refine xlp (N := 91) (Q := fun k u' => (∀ j, (j < k ∨ 91 ≤ j) → u' 683 j = τ j) ∧ xSm (fun b => b = 683) u u') (G := fun k u' => xEv g d mX12_keep 2 [some (.ref 655), some (.int (nI k))] [] 698 u' w r 698 _) ?_ ?_ ⟨fun j hj => h91 j (by omega), xSm.rf⟩
  · intro u1 ⟨h1, f1⟩
    exact TX12_keep_2 hr (brT (nI_le (a := 91) (Nat.le_refl _) (by omega)) (kk u1 (funext fun j => h1 j (by omega)) f1))
  · intro k u1 hk ⟨h1, f1⟩ kk2
    refine TX12_keep_2 hr (brF (nI_ge (b := 91) (by omega) (by omega)) ⟨vpn (by omega) (by omega), ?_⟩)
    rw [nI_one, nc (by omega), f1 684 k (by omega), h684]
    refine kk2 _ ⟨fun j hj => ?_, f1.put rfl⟩
    by_cases q : j = k
    · subst q; rw [x2_same]
    · rw [x2_i _ _ q]; exact h1 j (by omega)
/-- a new row of now -/
theorem rN1.row {u u' : xU} {n' e' : Nat} {σ' : Nat → Int32} (hB6 : lB L ≤ 6) (h : rN1 L n e u σ) (hX : rXn L n' e' σ') (h683 : u' 683 = σ') (h91 : ∀ j, 91 ≤ j → u' 684 j = σ' j) (f : xSn fRa u u') : rN1 L n' e' u' σ' := by
  refine ⟨?_, h683, hX.1, fun j hj => by rw [h91 j hj, h683]⟩
  obtain ⟨⟨⟨a1, a2, a3⟩, b1, b2, b3, b4, b5, b6, b7, b8, b9, c1, c2, c3, c4⟩, -, -, -⟩ := h
  have e655 : ∀ i, i ∈ [49, 50, 51, 52, 53, 18, 56] → u' 655 i = u 655 i := fun i hi => f _ _ (fun z => by
    simp only [List.mem_cons, List.not_mem_nil, or_false] at hi
    unfold fRa fRx at z
    omega)
  have eb : ∀ b, ((660 ≤ b ∧ b < 662) ∨ (668 ≤ b ∧ b < 679)) → u' b = u b := fun b hb => funext fun i => f b i (by unfold fRa fRx; omega)
  rw [rL, e655 49 (by decide), e655 50 (by decide), e655 51 (by decide), e655 52 (by decide), e655 53 (by decide), e655 18 (by decide), e655 56 (by decide), eb 660 (by omega), eb 661 (by omega), eb 668 (by omega), eb 669 (by omega), eb 670 (by omega), eb 675 (by omega), eb 676 (by omega), eb 677 (by omega), eb 678 (by omega)]
  exact ⟨⟨a1, a2, a3⟩, b1, b2, b3, b4, b5, b6, b7, b8, b9, c1, c2, c3, c4⟩
theorem R_day {u : xU} (hr : xRf r) (hK : lOkk L) (hN : rN1 L n e u σ) (hX : rXn L n e σ) (hag : ∀ j, j < 91 → RS a j = σ j) (hab : a + b ≤ 40) (hg : rRg u a b RS) :
    xCall g (d + 9) mX12_day [.ref 655] 698 u w r 698 (xIn (if e < 300 then (fTwo n (fOne L (σ 89) σ)).1 else -1) (rAct L a RS (e < 300) n e σ n (e + 1) (nDay L n σ) u) w r) := by
  have hb6 := hK.2.2.1.1
  have hS := hN.2.2.1
  refine CX12_day hr ?_
  rw [hN.2.1, hS.2.2.1.1, show (300 : Int32) = nI 300 from rfl, lt_nI (by have := hS.2.2.1.2; omega) (by omega)]
  refine ⟨fun q => ?_, fun q => ⟨by rw [if_neg q], rAct.no q (rA.rf hN), rfl, rfl⟩⟩
  rw [if_pos q]
  refine R_act hr hN.2.1 hag hab hg (fun u1 g1 f1 => ⟨rfl, rfl, rfl, ?_⟩)
  have N1 := hN.f7 f1
  refine R_loaded (d := d + 6) hr hK N1 (fun u2 h1 h2 h3 f2 => ⟨rfl, rfl, rfl, ?_⟩)
  refine xIn.use (R_goDay (d := d) (n := n) (e := e) hr h3 hK h2 (by rw [h1]; exact hS)) (fun u3 ⟨h4, f3, _⟩ => ⟨_, rfl, rfl, rfl, ?_⟩)
  rw [h1] at h4
  have fr := fDay_fr hK.1 hK.2.2.1 hS
  have o683 : u3 683 = σ := by
    rw [← N1.2.1]
    funext j
    rw [f3 683 j (by unfold fDh; omega), f2 683 j (by unfold fRx; omega)]
  refine R_keep hr h4 (fun j hj => by rw [o683]; exact (fr j (by omega)).symm) (fun u4 h5 f4 => ⟨rfl, rfl, rfl, ?_, ⟨fun _ => ⟨?_, fun τ => ?_⟩, fun z => absurd q z, ?_⟩, rfl, rfl⟩)
  · rw [h1]
  · have fa : xSn fRa u u4 := (((f1.to fR7_a).tr (f2.to (fun b i h => Or.inl h))).tr (f3.to (fun b i h => Or.inl (by unfold fDh at h; unfold fRx; omega)))).tr (f4.n (fun b i h => Or.inr (Or.inl h)))
    exact hN.row hb6 (hX.day hK q) h5 (fun j hj => by rw [f4 _ _ (by omega), h4]; rfl) fa
  · exact (((g1 τ).kept f2 (by unfold fRx; omega) (by unfold fRx; omega) (fun i => by unfold fRx; omega)).kept f3 (by unfold fDh; omega) (by unfold fDh; omega) (fun i => by unfold fDh; omega)).kept (f4.n (G := fun b i => b = 683) (fun b i h => h)) (by omega) (by omega) (fun i => by omega)
  · exact (((f1.to fR7_a).tr (f2.to (fun b i h => Or.inl h))).tr (f3.to (fun b i h => Or.inl (by unfold fDh at h; unfold fRx; omega)))).tr (f4.n (fun b i h => Or.inr (Or.inl h)))
end RINGR
