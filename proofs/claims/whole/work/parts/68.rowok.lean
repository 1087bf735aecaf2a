/-! ROWS THAT MAY BE: what is always so of where all is -/
/-- neither started nor buried: no day is kept -/
def sWh (L : xU) (σ : Nat → Int32) : Prop := ∀ b, b < lB L → (σ b = 0 ∨ σ b = 3) → σ (12 + b) = -1
def rXn (L : xU) (n e : Nat) (σ : Nat → Int32) : Prop := gSt L (σ 89) n e σ ∧ sWo n σ ∧ sWh L σ
def rX (L : xU) (σ : Nat → Int32) : Prop := ∃ n e, rXn L n e σ
theorem fCome_wh {L : xU} {c : Int32} {b v n : Nat} {σ : Nat → Int32} (hB6 : lB L ≤ 6) (hn : σ 88 = nI n) (hn10 : n ≤ 10) (hb : b < lB L) (h : sWh L σ) : sWh L (fCome L c b v σ) := by
  intro b' hb' hst
  have fr := fCome_fr L c (v := v) (show b < 6 by omega) σ hn hn10
  by_cases q : b' = b
  · subst q
    unfold fCome at hst ⊢
    rw [hn, nc (by omega)] at hst ⊢
    split
    · rw [fBury_at _ _ _ n hn10, if_neg (by omega), if_neg (by omega), up_s]
    · next hc =>
      rw [if_neg hc, up_n (by omega), up_n (by omega), up_s] at hst
      rcases hst with y | y <;> exact absurd y (by decide)
  · rw [fr b' (by omega)] at hst
    rw [fr (12 + b') (by omega)]
    exact h b' hb' hst
theorem fOne_wh {L : xU} {c : Int32} {n e : Nat} {σ : Nat → Int32} (hW : lWok L) (hB : lBk L) (hS : gSt L c n e σ) (h : sWh L σ) : sWh L (fOne L c σ) := by
  have key : ∀ k, k ≤ lB L → sWh L (xfold k (fOneB L c) σ) := by
    intro k
    induction k with
    | zero => intro _; exact h
    | succ k ih =>
      intro hk
      have ih' := ih (by omega)
      have Sk := fOneK_st hW hB hS (show k ≤ lB L by omega)
      rw [xfold_s]
      generalize xfold k (fOneB L c) σ = τ at ih' Sk ⊢
      unfold fOneB
      split
      · exact fCome_wh hB.1 Sk.1.1 Sk.1.2 (by omega) ih'
      · split
        · exact fCome_wh hB.1 Sk.1.1 Sk.1.2 (by omega) ih'
        · exact ih'
  exact key (lB L) (Nat.le_refl _)
theorem fFour_wh {L : xU} {c : Int32} {σ : Nat → Int32} (hB6 : lB L ≤ 6) (h : sWh L σ) : sWh L (fFour L c σ) := by
  have key : ∀ k, k ≤ lB L → sWh L (xfold k (fFourB L c) σ) := by
    intro k
    induction k with
    | zero => intro _; exact h
    | succ k ih =>
      intro hk
      have ih' := ih (by omega)
      rw [xfold_s]
      generalize xfold k (fFourB L c) σ = τ at ih' ⊢
      intro b hb hst
      by_cases q : b = k
      · subst q
        unfold fFourB at hst ⊢
        split
        · next hc =>
          rw [if_pos hc, up_n (by omega), up_n (by omega), up_s] at hst
          rcases hst with y | y <;> exact absurd y (by decide)
        · next hc =>
          rw [if_neg hc] at hst
          exact ih' b hb hst
      · rw [fFourB_fr L c k τ b (by omega)] at hst
        rw [fFourB_fr L c k τ (12 + b) (by omega)]
        exact ih' b hb hst
  have kk := key (lB L) (Nat.le_refl _)
  intro b hb hst
  unfold fFour at hst ⊢
  rw [up_n (by omega)] at hst ⊢
  exact kk b hb hst
theorem sWh.cg {L : xU} {σ τ : Nat → Int32} (hB6 : lB L ≤ 6) (h : sWh L σ) (e : ∀ j, j < 18 → τ j = σ j) : sWh L τ := by
  intro b hb hst
  rw [e b (by omega)] at hst
  rw [e (12 + b) (by omega)]
  exact h b hb hst
theorem sWo.cg {n : Nat} {σ τ : Nat → Int32} (h : sWo n σ) (e : ∀ l, l < n → τ (78 + l) = σ (78 + l)) : sWo n τ := by
  intro l hl
  rw [e l hl]
  exact h l hl
theorem rXn.day {L : xU} {n e : Nat} {σ : Nat → Int32} (hK : lOkk L) (h : rXn L n e σ) (he : e < 300) : rXn L n (e + 1) (fDay L (σ 89) n σ) := by
  obtain ⟨hS, hw, hh⟩ := h
  have hW := hK.1
  have hB := hK.2.2.1
  have hb6 := hB.1
  have fr := fDay_fr hW hB hS
  have n10 := hS.1.2
  have e89 : fDay L (σ 89) n σ 89 = σ 89 := fr 89 (by omega)
  have SD := fDay_st hW hB hS he
  refine ⟨by rw [e89]; exact SD, hw.cg (fun l hl => fr (78 + l) (by omega)), ?_⟩
  have S1 := fOne_st hW hB hS
  have S2 := fTwo_st hB S1
  unfold fDay
  refine fFour_wh hb6 ((fOne_wh hW hB hS hh).cg hb6 (fun j hj => ?_))
  rw [fThree_fr hW hB S2 j (by omega), fTwo_fr n10 j (by omega)]
theorem rXn.add {L : xU} {k e v g : Nat} {σ : Nat → Int32} (hB6 : lB L ≤ 6) (h : rXn L k e σ) (hk : k < 10) (hv : v < lV L) (hg : g < lV L) (ls : Int32) {x : Nat} (hx : x ≤ 9) : rXn L (k + 1) e (fAdd k (nI v) (nI g) ls (nI x) σ) := by
  obtain ⟨hS, hw, hh⟩ := h
  have e89 : fAdd k (nI v) (nI g) ls (nI x) σ 89 = σ 89 := fAdd_o (by omega)
  refine ⟨by rw [e89]; exact fAdd_st hB6 hk hS hv hg, fun l hl => ?_, hh.cg hB6 (fun j hj => fAdd_o (by omega))⟩
  by_cases q : l = k
  · subst q; exact ⟨x, hx, fAdd_78 hk⟩
  · rw [fAdd_o (by omega)]; exact hw l (by omega)
theorem rXn.lay {L : xU} {n e l v : Nat} {b : Int32} {σ : Nat → Int32} (hB : lBk L) (h : rXn L n e σ) (hl : l < n) (hv : v < lV L) (hcame : σ (38 + l) = -1) (hb : b = -1 ∨ ∃ k, k < lB L ∧ b = nI k ∧ σ k = 1 ∧ (σ (28 + l) = nI k ∨ ¬ nI (fIn n σ k) = L 7 k)) : rXn L n e (fLay l v b σ) := by
  obtain ⟨hS, hw, hh⟩ := h
  have fr := fLay_fr l v b σ
  have n10 := hS.1.2
  have e89 : fLay l v b σ 89 = σ 89 := fr 89 (by omega)
  exact ⟨by rw [e89]; exact fLay_st hB hS hl hv hcame hb, hw.cg (fun i hi => fr (78 + i) (by omega)), hh.cg hB.1 (fun j hj => fr j (by omega))⟩
theorem gSt.cgx {L : xU} {c c' : Int32} {n e : Nat} {σ τ : Nat → Int32} (hB6 : lB L ≤ 6) (h : gSt L c n e σ) (h89 : τ 89 = c') (ee : ∀ j, j < 91 → j ≠ 89 → τ j = σ j) : gSt L c' n e τ := by
  obtain ⟨⟨a1, a2⟩, a3, ⟨a4, a5⟩, a6, a7, a8⟩ := h
  refine ⟨⟨(ee 88 (by omega) (by omega)).trans a1, a2⟩, h89, ⟨(ee 90 (by omega) (by omega)).trans a4, a5⟩, fun b hb => (a6 b hb).cg (ee b (by omega) (by omega)) (ee (6 + b) (by omega) (by omega)), fun l hl => ?_, fun b hb => ?_⟩
  · obtain ⟨b1, b2⟩ := a7 l hl
    unfold sL1
    rw [ee (58 + l) (by omega) (by omega), ee (28 + l) (by omega) (by omega), ee (38 + l) (by omega) (by omega), ee (18 + l) (by omega) (by omega)]
    refine ⟨b1, ?_⟩
    rcases b2 with q | ⟨b, hb, q1, q2, q3⟩ | q
    · exact Or.inl q
    · exact Or.inr (Or.inl ⟨b, hb, q1, by rw [ee b (by omega) (by omega)]; exact q2, q3⟩)
    · exact Or.inr (Or.inr q)
  · have : fIn n τ b = fIn n σ b := cn_congr (fun i hi => by rw [ee (28 + i) (by omega) (by omega)])
    rw [this]; exact a8 b hb
theorem rXn.close {L : xU} {n e : Nat} {σ : Nat → Int32} (hB6 : lB L ≤ 6) (h : rXn L n e σ) (x : Int32) : rXn L n e (up σ 89 x) := by
  obtain ⟨hS, hw, hh⟩ := h
  have n10 := hS.1.2
  exact ⟨hS.cgx hB6 rfl (fun j _ hj => up_n hj), hw.cg (fun i hi => up_n (by omega)), hh.cg hB6 (fun j hj => up_n (by omega))⟩
theorem rXn.cg {L : xU} {n e : Nat} {σ τ : Nat → Int32} (hB6 : lB L ≤ 6) (h : rXn L n e σ) (ee : ∀ j, j < 91 → τ j = σ j) : rXn L n e τ := by
  obtain ⟨hS, hw, hh⟩ := h
  have n10 := hS.1.2
  exact ⟨hS.cgx hB6 (by rw [ee 89 (by omega)]) (fun j hj _ => ee j hj), hw.cg (fun i hi => ee _ (by omega)), hh.cg hB6 (fun j hj => ee j (by omega))⟩
