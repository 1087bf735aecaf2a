/-! A LETTER ALONE, as rows: how often it is handed on at most -/
/-- one step on the way home -/
theorem lP_step {L : xU} {c : Int32} {v h o : Nat} (hv : v < 2147483648) (hn : lNx L c v h = nI o) : ∀ i, lP L c v h (i + 1) = lP L c o h i := by
  intro i
  induction i with
  | zero =>
    show (if nI v < 0 then -1 else lNx L c (nI v).toNatClampNeg h) = nI o
    rw [if_neg (nI_nn hv), nc hv, hn]
  | succ i ih =>
    show (if lP L c v h (i + 1) < 0 then -1 else lNx L c (lP L c v h (i + 1)).toNatClampNeg h) = _
    rw [ih]
    rfl
/-- leaving what isn't the nearest changes no nearness -/
theorem lM_next {L : xU} (hW : lWok L) {c : Int32} {v h o t : Nat} (hv : v < lV L) (ho : o < lV L) (hn : lNx L c v h = nI o) (hlt : lM L c v h t < lF L c v t) : lM L c o h t = lM L c v h t := by
  have hv7 := hW.1
  have mv := lMk_is hW c hv h t 7
  have mo := lMk_is hW c ho h t 7
  have st := lP_step (L := L) (c := c) (v := v) (h := h) (o := o) (by omega) hn
  have ms := mo.step v
  have e := mv.one ms (fun x => ⟨fun ⟨x1, i, i1, i2⟩ => ?_, fun q => ?_⟩)
  · have e' : lM L c v h t = if lF L c v t < lM L c o h t then lF L c v t else lM L c o h t := e
    by_cases q : lF L c v t < lM L c o h t
    · rw [if_pos q] at e'
      rw [e', ti_lt] at hlt
      omega
    · rw [if_neg q] at e'; exact e'.symm
  · cases i with
    | zero =>
      right
      exact nI_inv (by omega) (by omega) (show nI x = nI v from i2.symm)
    | succ i =>
      left
      rw [st] at i2
      exact ⟨x1, i, by omega, i2⟩
  · rcases q with ⟨x1, i, i1, i2⟩ | q
    · refine ⟨x1, i + 1, ?_, by rw [st]; exact i2⟩
      rcases Nat.lt_or_ge i 6 with z | z
      · omega
      · have : i = 6 := by omega
        subst this
        have := lP_end hW c hv h
        rw [st, i2] at this
        exact absurd this (nI_m1 (by omega))
    · subst q
      exact ⟨hv, 0, by omega, rfl⟩
/-- a nearness below 1000 is some village's -/
theorem lM_at {L : xU} (hW : lWok L) {c : Int32} {v h t : Nat} (hv : v < lV L) (hlt : (lM L c v h t).toInt < 1000) : ∃ x, x < lV L ∧ lF L c x t = lM L c v h t := by
  obtain ⟨-, -, m3⟩ := lMk_is hW c hv h t 7
  have e : lMk L c v h t 7 = lM L c v h t := rfl
  rw [e] at m3
  rcases m3 with q | ⟨x, ⟨x1, -⟩, x2⟩
  · omega
  · exact ⟨x, x1, ti_eq.mpr x2.symm⟩
/-- how many villages are nearer than x -/
def tK (L : xU) (c : Int32) (g : Nat) (x : Int32) : Nat := cn (lV L) (fun j => decide ((lF L c j g).toInt < x.toInt))
theorem tK_le (L : xU) (c : Int32) (g : Nat) (x : Int32) : tK L c g x ≤ lV L := cn_le _ _
theorem tK_mono {L : xU} {c : Int32} {g : Nat} {x y : Int32} (h : x.toInt ≤ y.toInt) : tK L c g x ≤ tK L c g y := cn_mono (fun j _ hj => decide_eq_true (by have := of_decide_eq_true hj; omega))
theorem tK_lt {L : xU} (hW : lWok L) {c : Int32} {v h g : Nat} {y : Int32} (hv : v < lV L) (hy : y.toInt ≤ 1000) (hlt : (lM L c v h g).toInt < y.toInt) : tK L c g (lM L c v h g) < tK L c g y := by
  obtain ⟨x, x1, x2⟩ := lM_at hW (c := c) (h := h) (t := g) hv (by omega)
  refine cn_lt (fun j _ hj => decide_eq_true (by have := of_decide_eq_true hj; omega)) ⟨x, x1, decide_eq_true (by rw [x2]; exact hlt), decide_eq_false (by rw [x2]; omega)⟩
/-- how near letter 0 comes as it is -/
def tPhi (L : xU) (c : Int32) (g : Nat) (σ : Nat → Int32) : Int32 := if σ 28 = -1 then lF L c (σ 18).toNatClampNeg g else fNear L c σ (σ 28).toNatClampNeg g
def tI2 (L : xU) (c : Int32) (g k : Nat) (σ : Nat → Int32) : Prop := σ 58 = nI g ∧ σ 48 = nI k ∧ k ≤ 7 ∧ (σ 38 = -1 → k + tK L c g (tPhi L c g σ) ≤ 7)
/-- what the search for the best gives -/
theorem fBestK_near (L : xU) (c : Int32) (n l v : Nat) (σ : Nat → Int32) : ∀ k, fBestK L c n l v σ k = fBest0 L c l v σ ∨ ∃ b, b < k ∧ (fBestK L c n l v σ k).1 = nI b ∧ ¬ nI b = σ (28 + l) ∧ σ (6 + b) = nI v ∧ σ b = 1 ∧ (fBestK L c n l v σ k).2 = fNear L c σ b (σ (58 + l)).toNatClampNeg ∧ (fBestK L c n l v σ k).2.toInt < (fBest0 L c l v σ).2.toInt := by
  intro k
  induction k with
  | zero => exact Or.inl rfl
  | succ k ih =>
    rw [fBestK_s]
    generalize fBestK L c n l v σ k = p at ih ⊢
    generalize fBest0 L c l v σ = p0 at ih ⊢
    generalize hF : fNear L c σ k (σ (58 + l)).toNatClampNeg = F
    by_cases q : ((σ k = 1 ∧ σ (6 + k) = nI v) ∧ ¬ nI k = σ (28 + l)) ∧ ¬ nI (fIn n σ k) = L 7 k ∧ F < p.2
    · rw [if_pos q]
      refine Or.inr ⟨k, Nat.lt_succ_self k, rfl, q.1.2, q.1.1.2, q.1.1.1, hF.symm, ?_⟩
      have h1 := ti_lt.mp q.2.2
      show F.toInt < p0.2.toInt
      rcases ih with h | ⟨b, -, -, -, -, -, -, h⟩
      · rw [← h]; exact h1
      · omega
    · rw [if_neg q]
      rcases ih with h | ⟨b, b1, b2⟩
      · exact Or.inl h
      · exact Or.inr ⟨b, Nat.lt_succ_of_lt b1, b2⟩
/-- a step of another bier leaves letter and bier -/
theorem fOneB_out {L : xU} {c : Int32} {n e k : Nat} {σ : Nat → Int32} (hW : lWok L) (hB : lBk L) (hS : gSt L c n e σ) (hk : k < lB L) (h : ¬ σ 28 = nI k) : fOneB L c k σ 28 = σ 28 ∧ fOneB L c k σ 18 = σ 18 ∧ ∀ b, b < 6 → b ≠ k → fOneB L c k σ b = σ b ∧ fOneB L c k σ (6 + b) = σ (6 + b) := by
  have hb6 := hB.1
  have n10 := hS.1.2
  have hc : ∀ v, fCome L c k v σ 28 = σ 28 ∧ fCome L c k v σ 18 = σ 18 ∧ ∀ b, b < 6 → b ≠ k → fCome L c k v σ b = σ b ∧ fCome L c k v σ (6 + b) = σ (6 + b) := by
    intro v
    refine ⟨?_, ?_, fun b hb hne => ⟨fCome_fr L c (by omega) σ hS.1.1 n10 b (by omega), fCome_fr L c (by omega) σ hS.1.1 n10 (6 + b) (by omega)⟩⟩
    · unfold fCome
      split
      · rw [hS.1.1, nc (by omega)]
        rw [(fBuryK_in (l := 0) n10 (by omega) (by
          rw [up_n (by omega), up_n (by omega), up_n (by omega), up_n (by omega), up_n (by omega)]; exact h)).1]
        rw [up_n (by omega), up_n (by omega), up_n (by omega), up_n (by omega), up_n (by omega)]
      · rw [up_n (by omega), up_n (by omega), up_n (by omega)]
    · unfold fCome
      split
      · rw [hS.1.1, nc (by omega)]
        rw [(fBuryK_in (l := 0) n10 (by omega) (by
          rw [up_n (by omega), up_n (by omega), up_n (by omega), up_n (by omega), up_n (by omega)]; exact h)).2]
        rw [up_n (by omega), up_n (by omega), up_n (by omega), up_n (by omega), up_n (by omega)]
      · rw [up_n (by omega), up_n (by omega), up_n (by omega)]
  unfold fOneB
  split
  · exact hc _
  · split
    · exact hc _
    · exact ⟨rfl, rfl, fun b _ _ => ⟨rfl, rfl⟩⟩
/-- arriving with letter 0 aboard -/
theorem fOne_in {L : xU} {c : Int32} {e b : Nat} {σ : Nat → Int32} (hW : lWok L) (hB : lBk L) (hS : gSt L c 1 e σ) (hb : b < lB L) (h28 : σ 28 = nI b) (hst : σ b = 1 ∨ σ b = 2) :
    (fOne L c σ 28 = nI b ∧ fOne L c σ (6 + b) = σ (6 + b)) ∨ (fOne L c σ 28 = -1 ∧ fOne L c σ 18 = σ (6 + b) ∧ σ (6 + b) = L 5 b) := by
  have hb6 := hB.1
  have hv7 := hW.1
  have key : ∀ k, k ≤ lB L → (k ≤ b ∧ xfold k (fOneB L c) σ 28 = nI b ∧ xfold k (fOneB L c) σ b = σ b ∧ xfold k (fOneB L c) σ (6 + b) = σ (6 + b)) ∨ (b < k ∧ ((xfold k (fOneB L c) σ 28 = nI b ∧ xfold k (fOneB L c) σ (6 + b) = σ (6 + b)) ∨ (xfold k (fOneB L c) σ 28 = -1 ∧ xfold k (fOneB L c) σ 18 = σ (6 + b) ∧ σ (6 + b) = L 5 b))) := by
    intro k
    induction k with
    | zero => intro _; exact Or.inl ⟨by omega, h28, rfl, rfl⟩
    | succ k ih =>
      intro hk
      have Sk := fOneK_st hW hB hS (show k ≤ lB L by omega)
      have ih' := ih (by omega)
      rw [xfold_s]
      generalize xfold k (fOneB L c) σ = τ at ih' Sk ⊢
      rcases ih' with ⟨i0, i1, i2, i3⟩ | ⟨i0, i1⟩
      · by_cases q : k = b
        · subst q
          right
          refine ⟨Nat.lt_succ_self _, ?_⟩
          obtain ⟨⟨p, hp, ep⟩, -⟩ := (Sk.2.2.2.1 k (by omega)).1 hb
          unfold fOneB
          rw [if_neg (fun z => by
            rw [i2] at z
            rcases hst with y | y <;> rw [y] at z <;> exact absurd z.1 (by decide))]
          split
          · rw [ep, nc (by omega)]
            unfold fCome
            split
            · next hh =>
              right
              rw [Sk.1.1, nc (by omega)]
              have fb := fBury_at k (nI p) (up (up (up (up (up τ k 1) (6 + k) (nI p)) (12 + k) (τ 90 + fWt L c τ k p)) k 3) (12 + k) (-1)) 1 (by omega)
              have e28 : (up (up (up (up (up τ k 1) (6 + k) (nI p)) (12 + k) (τ 90 + fWt L c τ k p)) k 3) (12 + k) (-1)) 28 = nI k := by
                rw [up_n (by omega), up_n (by omega), up_n (by omega), up_n (by omega), up_n (by omega)]; exact i1
              refine ⟨?_, ?_, by rw [← i3, ep]; exact hh⟩
              · rw [fb 28, if_pos ⟨by omega, by omega, e28⟩]
              · rw [fb 18, if_neg (by omega), if_pos ⟨by omega, by omega, e28⟩, ← i3, ep]
            · left
              rw [up_n (by omega), up_n (by omega), up_n (by omega), up_n (by omega), up_s]
              exact ⟨i1, by rw [← i3, ep]⟩
          · left
            exact ⟨i1, i3⟩
        · left
          obtain ⟨o1, o2, o3⟩ := fOneB_out hW hB Sk (k := k) (by omega) (by rw [i1]; exact fun z => q (nI_inv (by omega) (by omega) z).symm)
          obtain ⟨o4, o5⟩ := o3 b (by omega) (fun z => q z.symm)
          exact ⟨by omega, o1.trans i1, o4.trans i2, o5.trans i3⟩
      · right
        refine ⟨by omega, ?_⟩
        obtain ⟨o1, o2, o3⟩ := fOneB_out hW hB Sk (k := k) (by omega) (by
          rcases i1 with ⟨y, -⟩ | ⟨y, -⟩
          · rw [y]; exact fun z => absurd (nI_inv (by omega) (by omega) z) (by omega)
          · rw [y]; exact fun z => nI_m1 (by omega) z.symm)
        obtain ⟨o4, o5⟩ := o3 b (by omega) (by omega)
        rcases i1 with ⟨y1, y2⟩ | ⟨y1, y2, y3⟩
        · exact Or.inl ⟨o1.trans y1, o5.trans y2⟩
        · exact Or.inr ⟨o1.trans y1, o2.trans y2, y3⟩
  rcases key (lB L) (Nat.le_refl _) with ⟨q, -⟩ | ⟨-, q⟩
  · omega
  · exact q
/-- departing: what a bier's own words become -/
theorem fFourK_at {L : xU} {c : Int32} {σ : Nat → Int32} (hB6 : lB L ≤ 6) {b : Nat} (hb : b < lB L) : ∀ k, k ≤ lB L → ∀ j, (j = b ∨ j = 6 + b ∨ j = 12 + b) → xfold k (fFourB L c) σ j = if b < k then fFourB L c b σ j else σ j := by
  have cg : ∀ τ : Nat → Int32, (∀ j, (j = b ∨ j = 6 + b ∨ j = 12 + b ∨ j = 90) → τ j = σ j) → ∀ j, (j = b ∨ j = 6 + b ∨ j = 12 + b) → fFourB L c b τ j = fFourB L c b σ j := by
    intro τ h j hj
    have et : fTo L c τ b = fTo L c σ b := by unfold fTo; rw [h (6 + b) (by omega)]
    unfold fFourB
    rw [et, h b (by omega), h 90 (by omega), h (12 + b) (by omega), h (6 + b) (by omega)]
    split
    · unfold up
      split
      · rfl
      · split
        · rfl
        · split
          · rfl
          · exact h j (by omega)
    · exact h j (by omega)
  intro k
  induction k with
  | zero => intro _ j _; rw [if_neg (by omega)]; rfl
  | succ k ih =>
    intro hk j hj
    have ih' := ih (by omega)
    have f90 : xfold k (fFourB L c) σ 90 = σ 90 := by
      have : ∀ m, m ≤ k → xfold m (fFourB L c) σ 90 = σ 90 := by
        intro m
        induction m with
        | zero => intro _; rfl
        | succ m im => intro hm; rw [xfold_s, fFourB_fr L c m _ 90 (by omega), im (by omega)]
      exact this k (Nat.le_refl _)
    rw [xfold_s]
    generalize xfold k (fFourB L c) σ = τ at ih' f90 ⊢
    by_cases q : b = k
    · subst q
      rw [if_pos (Nat.lt_succ_self _)]
      refine cg τ (fun i hi => ?_) j hj
      by_cases z : i = 90
      · rw [z]; exact f90
      · rw [ih' i (by omega), if_neg (Nat.lt_irrefl _)]
    · rw [fFourB_fr L c k τ j (by omega), ih' j hj]
      by_cases z : b < k
      · rw [if_pos z, if_pos (by omega)]
      · rw [if_neg z, if_neg (by omega)]
