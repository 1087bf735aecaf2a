/-! A LETTER ALONE: all days, and the biers into which it was handed -/
abbrev tTr : Type := (Nat → Int32) × Nat × (Nat → Int32)
def tq (L : xU) (c : Int32) : Nat → (Nat → Int32) → Nat → (Nat → Int32) → tTr
  | 0, σ, k, A => (σ, k, A)
  | m + 1, σ, k, A => if σ 38 = -1 then (if fDay L c 1 σ 48 = σ 48 then tq L c m (fDay L c 1 σ) k A else tq L c m (fDay L c 1 σ) (k + 1) (up A k (fDay L c 1 σ 28))) else (σ, k, A)
theorem tq_s (L : xU) (c : Int32) (m : Nat) (σ : Nat → Int32) (k : Nat) (A : Nat → Int32) : tq L c (m + 1) σ k A = if σ 38 = -1 then (if fDay L c 1 σ 48 = σ 48 then tq L c m (fDay L c 1 σ) k A else tq L c m (fDay L c 1 σ) (k + 1) (up A k (fDay L c 1 σ 28))) else (σ, k, A) := rfl
theorem tq_home {L : xU} {c : Int32} {m : Nat} {σ : Nat → Int32} {k : Nat} {A : Nat → Int32} (h : ¬ σ 38 = -1) : tq L c m σ k A = (σ, k, A) := by
  cases m with
  | zero => rfl
  | succ m => rw [tq_s, if_neg h]
/-- what is asked of the end: the day, the biers -/
def tEq (p q : tTr) : Prop := q.1 38 = p.1 38 ∧ q.2 = p.2
/-- where all is settled nothing more comes -/
theorem tq_set {L : xU} {c : Int32} (hW : lWok L) (hB : lBk L) : ∀ m e (σ : Nat → Int32) (k : Nat) (A : Nat → Int32), e + m ≤ 300 → gSt L c 1 e σ → fSet L c 1 σ → tEq (σ, k, A) (tq L c m σ k A) := by
  intro m
  induction m with
  | zero => intro e σ k A _ _ _; exact ⟨rfl, rfl⟩
  | succ m ih =>
    intro e σ k A he hS h
    rw [tq_s]
    by_cases q : σ 38 = -1
    · rw [if_pos q]
      have ed := h.day hW hB hS
      rw [if_pos (by rw [ed, up_n (by omega)])]
      have S' := fDay_st hW hB hS (by omega)
      have h' : fSet L c 1 (fDay L c 1 σ) := by rw [ed]; exact h.next hB hS _
      have := ih (e + 1) (fDay L c 1 σ) k A (by omega) S' h'
      refine ⟨this.1.trans ?_, this.2⟩
      show fDay L c 1 σ 38 = σ 38
      rw [ed, up_n (by omega)]
    · rw [if_neg q]; exact ⟨rfl, rfl⟩
/-- rows alike but for a letter's last day and worth -/
def rEq (σ τ : Nat → Int32) : Prop := rsm (fun j => j = 68 ∨ j = 78) σ τ
theorem rEq.u1 {σ τ : Nat → Int32} (h : rEq σ τ) (k : Nat) (x : Int32) : rEq (up σ k x) (up τ k x) := fun j hj => by
  unfold up
  split
  · rfl
  · exact h j hj
theorem rEq.b {σ τ : Nat → Int32} (h : rEq σ τ) : bEq σ τ := fun j hj => h j (by omega)
theorem fBuryK_r {b n : Nat} {v : Int32} {σ τ : Nat → Int32} (hn : n ≤ 10) (h : rEq σ τ) : rEq (fBuryK n b v σ) (fBuryK n b v τ) := by
  intro j hj
  rw [fBury_at b v σ n hn j, fBury_at b v τ n hn j, h j hj]
  have e : (18 ≤ j ∧ j < 18 + n ∧ τ (j + 10) = nI b) ↔ (18 ≤ j ∧ j < 18 + n ∧ σ (j + 10) = nI b) := by
    refine and_congr_right (fun h1 => and_congr_right (fun h2 => ?_))
    rw [h (j + 10) (by omega)]
  simp only [e]
theorem fCome_r {L : xU} {c : Int32} {b v n : Nat} {σ τ : Nat → Int32} (h : rEq σ τ) (hn : σ 88 = nI n) (hn10 : n ≤ 10) : rEq (fCome L c b v σ) (fCome L c b v τ) := by
  have h88 : τ 88 = nI n := (h 88 (by omega)).trans hn
  have ew : fWt L c τ b v = fWt L c σ b v := by unfold fWt; rw [h 90 (by omega)]
  unfold fCome
  rw [hn, h88, nc (by omega), ew, h 90 (by omega)]
  split
  · exact fBuryK_r hn10 (((((h.u1 _ _).u1 _ _).u1 _ _).u1 _ _).u1 _ _)
  · exact ((h.u1 _ _).u1 _ _).u1 _ _
theorem fOne_r {L : xU} {c : Int32} {e e' : Nat} {σ τ : Nat → Int32} (hW : lWok L) (hB : lBk L) (h : rEq σ τ) (hS : gSt L c 1 e σ) (hS' : gSt L c 1 e' τ) : rEq (fOne L c σ) (fOne L c τ) := by
  have hb6 := hB.1
  have key : ∀ k, k ≤ lB L → rEq (xfold k (fOneB L c) σ) (xfold k (fOneB L c) τ) := by
    intro k
    induction k with
    | zero => intro _; exact h
    | succ k ih =>
      intro hk
      have ih' := ih (by omega)
      have Sk := fOneK_st hW hB hS (show k ≤ lB L by omega)
      rw [xfold_s, xfold_s]
      generalize xfold k (fOneB L c) σ = σ1 at ih' Sk ⊢
      generalize xfold k (fOneB L c) τ = τ1 at ih' ⊢
      unfold fOneB
      rw [ih' k (by omega), ih' 90 (by omega), ih' (12 + k) (by omega), ih' (6 + k) (by omega)]
      split
      · exact fCome_r ih' Sk.1.1 Sk.1.2
      · split
        · exact fCome_r ih' Sk.1.1 Sk.1.2
        · exact ih'
  exact key (lB L) (Nat.le_refl _)
theorem gSt.own6 {L : xU} {c : Int32} {n e : Nat} {σ : Nat → Int32} (hB : lBk L) (h : gSt L c n e σ) {l : Nat} (hl : l < n) : σ (28 + l) = -1 ∨ ∃ b, b < 6 ∧ σ (28 + l) = nI b := by
  rcases h.own hl with q | ⟨b, hb, q⟩
  · exact Or.inl q
  · exact Or.inr ⟨b, by have := hB.1; omega, q⟩
theorem fVil_r {L : xU} {c : Int32} {e : Nat} {σ τ : Nat → Int32} (hB : lBk L) (h : rEq σ τ) (hS : gSt L c 1 e σ) : fVil τ 0 = fVil σ 0 :=
  fVil_cg (h 38 (by omega)) (h 28 (by omega)) (h 18 (by omega)) (hS.own6 hB (by omega)) (fun j hj => h j (by omega))
theorem fTwo_r {L : xU} {c : Int32} {e : Nat} {σ τ : Nat → Int32} (hB : lBk L) (h : rEq σ τ) (hS : gSt L c 1 e σ) : rEq (fTwo 1 σ).2 (fTwo 1 τ).2 := by
  rw [fTwo_one, fTwo_one]
  unfold fTwoL
  have e1 : fVil (0, τ).2 0 = fVil (0, σ).2 0 := fVil_r hB h hS
  have e2 : (0, τ).2 (58 + 0) = (0, σ).2 (58 + 0) := h 58 (by omega)
  rw [e1, e2]
  split
  · exact h
  · show rEq (up (up (up σ 38 (σ 90)) 18 (-1)) 28 (-1)) (up (up (up τ 38 (τ 90)) 18 (-1)) 28 (-1))
    rw [h 90 (by omega)]
    exact ((h.u1 _ _).u1 _ _).u1 _ _
theorem fLay_r {v : Nat} {x : Int32} {σ τ : Nat → Int32} (h : rEq σ τ) : rEq (fLay 0 v x σ) (fLay 0 v x τ) := by
  unfold fLay
  split
  · exact (h.u1 _ _).u1 _ _
  · unfold fPut
    rw [h (28 + 0) (by omega), h (48 + 0) (by omega)]
    split
    · exact h
    · exact ((h.u1 _ _).u1 _ _).u1 _ _
theorem fThree_r {L : xU} {c : Int32} {e e' : Nat} {σ τ : Nat → Int32} (hW : lWok L) (hB : lBk L) (h : rEq σ τ) (hS : gSt L c 1 e σ) (hS' : gSt L c 1 e' τ) : rEq (fThree L c 1 σ) (fThree L c 1 τ) := by
  have hb6 := hB.1
  rw [fThree_one hW hB hS, fThree_one hW hB hS', fVil_r hB h hS]
  split
  · exact h
  · unfold fHand
    have eb : fBest L c 1 0 (fVil σ 0).toNatClampNeg τ = fBest L c 1 0 (fVil σ 0).toNatClampNeg σ :=
      fBest_cg (h _ (by omega)) (h _ (by omega)) (fun b hb => ⟨h b (by omega), h (6 + b) (by omega)⟩) (fun b hb _ _ => cn_congr (fun i hi => by rw [h (28 + i) (by omega)])) (hS.own (by omega)) hb6
    rw [eb]
    exact fLay_r h
theorem fFour_r {L : xU} {c : Int32} {σ τ : Nat → Int32} (hB : lBk L) (h : rEq σ τ) : rEq (fFour L c σ) (fFour L c τ) := by
  have hb6 := hB.1
  have key : ∀ k, k ≤ lB L → rEq (xfold k (fFourB L c) σ) (xfold k (fFourB L c) τ) := by
    intro k
    induction k with
    | zero => intro _; exact h
    | succ k ih =>
      intro hk
      have ih' := ih (by omega)
      rw [xfold_s, xfold_s]
      generalize xfold k (fFourB L c) σ = σ1 at ih' ⊢
      generalize xfold k (fFourB L c) τ = τ1 at ih' ⊢
      have et : fTo L c τ1 k = fTo L c σ1 k := by unfold fTo; rw [ih' (6 + k) (by omega)]
      unfold fFourB
      rw [et, ih' k (by omega), ih' 90 (by omega), ih' (12 + k) (by omega), ih' (6 + k) (by omega)]
      split
      · exact ((ih'.u1 _ _).u1 _ _).u1 _ _
      · exact ih'
  have kk := key (lB L) (Nat.le_refl _)
  have e90 : fFourK L c τ 90 = fFourK L c σ 90 := kk 90 (by omega)
  unfold fFour
  rw [e90]
  exact rEq.u1 kk _ _
theorem fDay_r {L : xU} {c : Int32} {e e' : Nat} {σ τ : Nat → Int32} (hW : lWok L) (hB : lBk L) (h : rEq σ τ) (hS : gSt L c 1 e σ) (hS' : gSt L c 1 e' τ) : rEq (fDay L c 1 σ) (fDay L c 1 τ) := by
  have S1 := fOne_st hW hB hS
  have S1' := fOne_st hW hB hS'
  have r1 := fOne_r hW hB h hS hS'
  have r2 := fTwo_r hB r1 S1
  have r3 := fThree_r hW hB r2 (fTwo_st hB S1) (fTwo_st hB S1')
  exact fFour_r hB r3
theorem tq_r {L : xU} {c : Int32} (hW : lWok L) (hB : lBk L) : ∀ m e (σ τ : Nat → Int32) (k : Nat) (A : Nat → Int32), e + m ≤ 300 → gSt L c 1 e σ → gSt L c 1 e τ → rEq σ τ → tEq (tq L c m σ k A) (tq L c m τ k A) := by
  intro m
  induction m with
  | zero => intro e σ τ k A _ _ _ h; exact ⟨h 38 (by omega), rfl⟩
  | succ m ih =>
    intro e σ τ k A he hS hS' h
    have hd := fDay_r hW hB h hS hS'
    rw [tq_s, tq_s, h 38 (by omega), h 48 (by omega), hd 48 (by omega), hd 28 (by omega)]
    split
    · split
      · exact ih (e + 1) _ _ k A (by omega) (fDay_st hW hB hS (by omega)) (fDay_st hW hB hS' (by omega)) hd
      · exact ih (e + 1) _ _ _ _ (by omega) (fDay_st hW hB hS (by omega)) (fDay_st hW hB hS' (by omega)) hd
    · exact ⟨h 38 (by omega), rfl⟩
/-- the letter alone, at the start -/
def tL (v g : Nat) (σ : Nat → Int32) : Nat → Int32 := up (up (up (up (up (up σ 88 1) 18 (nI v)) 28 (-1)) 38 (-1)) 48 0) 58 (nI g)
theorem tL_o {v g : Nat} {σ : Nat → Int32} {j : Nat} (h : j ≠ 88 ∧ j ≠ 18 ∧ j ≠ 28 ∧ j ≠ 38 ∧ j ≠ 48 ∧ j ≠ 58) : tL v g σ j = σ j := by
  unfold tL
  rw [up_n h.2.2.2.2.2, up_n h.2.2.2.2.1, up_n h.2.2.2.1, up_n h.2.2.1, up_n h.2.1, up_n h.1]
theorem tL_88 (v g : Nat) (σ : Nat → Int32) : tL v g σ 88 = nI 1 := by unfold tL; rw [up_n (by omega), up_n (by omega), up_n (by omega), up_n (by omega), up_n (by omega), up_s]; rfl
theorem tL_18 (v g : Nat) (σ : Nat → Int32) : tL v g σ 18 = nI v := by unfold tL; rw [up_n (by omega), up_n (by omega), up_n (by omega), up_n (by omega), up_s]
theorem tL_28 (v g : Nat) (σ : Nat → Int32) : tL v g σ 28 = -1 := by unfold tL; rw [up_n (by omega), up_n (by omega), up_n (by omega), up_s]
theorem tL_38 (v g : Nat) (σ : Nat → Int32) : tL v g σ 38 = -1 := by unfold tL; rw [up_n (by omega), up_n (by omega), up_s]
theorem tL_48 (v g : Nat) (σ : Nat → Int32) : tL v g σ 48 = 0 := by unfold tL; rw [up_n (by omega), up_s]
theorem tL_58 (v g : Nat) (σ : Nat → Int32) : tL v g σ 58 = nI g := by unfold tL; rw [up_s]
theorem tL_st' {L : xU} {c : Int32} {n e v g : Nat} {σ τ : Nat → Int32} (hB6 : lB L ≤ 6) (hS : gSt L c n e σ) (hv : v < lV L) (hg : g < lV L) (h : rEq (tL v g σ) τ) : gSt L c 1 e τ := by
  have o : ∀ j, j ≠ 88 ∧ j ≠ 18 ∧ j ≠ 28 ∧ j ≠ 38 ∧ j ≠ 48 ∧ j ≠ 58 ∧ j ≠ 68 ∧ j ≠ 78 → τ j = σ j := fun j hj => (h j (by omega)).trans (tL_o ⟨hj.1, hj.2.1, hj.2.2.1, hj.2.2.2.1, hj.2.2.2.2.1, hj.2.2.2.2.2.1⟩)
  have e28 : τ 28 = -1 := (h 28 (by omega)).trans (tL_28 v g σ)
  refine ⟨⟨(h 88 (by omega)).trans (tL_88 v g σ), by omega⟩, (o 89 (by omega)).trans hS.2.1, ⟨(o 90 (by omega)).trans hS.2.2.1.1, hS.2.2.1.2⟩, fun b hb => (hS.2.2.2.1 b hb).cg (o b (by omega)) (o (6 + b) (by omega)), fun l hl => ?_, fun b hb => ?_⟩
  · have : l = 0 := by omega
    subst this
    exact ⟨⟨g, hg, (h 58 (by omega)).trans (tL_58 v g σ)⟩, Or.inl ⟨e28, (h 38 (by omega)).trans (tL_38 v g σ), v, hv, (h 18 (by omega)).trans (tL_18 v g σ)⟩⟩
  · have : fIn 1 τ b = 0 := by
      unfold fIn
      rw [cn_s]
      rw [if_neg (fun z => by
        have := of_decide_eq_true z
        rw [show 28 + 0 = 28 from rfl, e28] at this
        exact nI_m1 (by omega) this.symm)]
      rfl
    omega
