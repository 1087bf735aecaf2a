/-! WATCHING, as rows: when each bier first stands in each village -/
def wNoB (σ : Nat → Int32) (b : Nat) (W : Nat → Nat → Int32) : Nat → Nat → Int32 := if (σ b = 1 ∨ σ b = 3) ∧ W b (σ (6 + b)).toNatClampNeg = -1 then x2 W b (σ (6 + b)).toNatClampNeg (σ 90) else W
def wNo (σ : Nat → Int32) (k : Nat) (W : Nat → Nat → Int32) : Nat → Nat → Int32 := xfold k (wNoB σ) W
theorem wNo_s (σ : Nat → Int32) (k : Nat) (W : Nat → Nat → Int32) : wNo σ (k + 1) W = wNoB σ k (wNo σ k W) := rfl
def wt (L : xU) (c : Int32) : Nat → (Nat → Int32) → (Nat → Nat → Int32) → Nat → Nat → Int32
  | 0, _, W => W
  | m + 1, σ, W => wt L c m (fFour L c (fOne L c σ)) (wNo (fOne L c σ) (lB L) W)
theorem wt_s (L : xU) (c : Int32) (m : Nat) (σ : Nat → Int32) (W : Nat → Nat → Int32) : wt L c (m + 1) σ W = wt L c m (fFour L c (fOne L c σ)) (wNo (fOne L c σ) (lB L) W) := rfl
/-- what one pass does -/
theorem wNo_at (σ : Nat → Int32) (W : Nat → Nat → Int32) : ∀ k b v, wNo σ k W b v = if b < k ∧ (σ b = 1 ∨ σ b = 3) ∧ v = (σ (6 + b)).toNatClampNeg ∧ W b v = -1 then σ 90 else W b v := by
  intro k
  induction k with
  | zero => intro b v; rw [if_neg (fun z => absurd z.1 (Nat.not_lt_zero _))]; rfl
  | succ k ih =>
    intro b v
    rw [wNo_s]
    have ik := ih k (σ (6 + k)).toNatClampNeg
    rw [if_neg (fun z => absurd z.1 (Nat.lt_irrefl _))] at ik
    have ib := ih b v
    generalize wNo σ k W = U at ik ib ⊢
    unfold wNoB
    rw [ik]
    by_cases q : b = k
    · subst q
      rw [if_neg (fun z => absurd z.1 (Nat.lt_irrefl _))] at ib
      by_cases h : (σ b = 1 ∨ σ b = 3) ∧ W b (σ (6 + b)).toNatClampNeg = -1
      · rw [if_pos h]
        by_cases z : v = (σ (6 + b)).toNatClampNeg
        · subst z
          rw [x2_same, if_pos ⟨Nat.lt_succ_self _, h.1, rfl, h.2⟩]
        · rw [x2_i _ _ z, ib, if_neg (fun y => z y.2.2.1)]
      · rw [if_neg h, ib, if_neg (fun y => h ⟨y.2.1, by rw [← y.2.2.1]; exact y.2.2.2⟩)]
    · have e : (b < k + 1 ∧ (σ b = 1 ∨ σ b = 3) ∧ v = (σ (6 + b)).toNatClampNeg ∧ W b v = -1) ↔ (b < k ∧ (σ b = 1 ∨ σ b = 3) ∧ v = (σ (6 + b)).toNatClampNeg ∧ W b v = -1) := ⟨fun z => ⟨by omega, z.2⟩, fun z => ⟨by omega, z.2⟩⟩
      simp only [e]
      rw [← ib]
      by_cases h : (σ k = 1 ∨ σ k = 3) ∧ W k (σ (6 + k)).toNatClampNeg = -1
      · rw [if_pos h, x2_a _ _ q]
      · rw [if_neg h]
/-- nothing more is noted -/
def wFix (L : xU) (σ : Nat → Int32) (W : Nat → Nat → Int32) : Prop := ∀ b, b < lB L → (σ b = 1 ∨ σ b = 3) → ¬ W b (σ (6 + b)).toNatClampNeg = -1
theorem wFix_one {L : xU} {σ : Nat → Int32} {W : Nat → Nat → Int32} (hd : ¬ σ 90 = -1) : wFix L σ (wNo σ (lB L) W) := by
  intro b hb h
  rw [wNo_at]
  split
  · exact hd
  · next hc => exact fun z => hc ⟨hb, h, rfl, z⟩
theorem wFix_no {L : xU} {σ : Nat → Int32} {W : Nat → Nat → Int32} (h : wFix L σ W) : wNo σ (lB L) W = W := by
  refine xfold_id _ (fun k hk => ?_)
  unfold wNoB
  rw [if_neg (fun z => h k hk z.1 z.2)]
theorem wt_still {L : xU} {c : Int32} (hB6 : lB L ≤ 6) : ∀ m (σ : Nat → Int32) (W : Nat → Nat → Int32), fStill L c σ = true → wFix L σ W → wt L c m σ W = W := by
  intro m
  induction m with
  | zero => intro σ W _ _; rfl
  | succ m ih =>
    intro σ W h hf
    rw [wt_s, fStill_one h, wFix_no hf, fStill_four h]
    refine ih _ W (fStill_cg hB6 (fun j hj => up_n (by omega)) h) (fun b hb => ?_)
    rw [up_n (show b ≠ 90 by omega), up_n (show 6 + b ≠ 90 by omega)]
    exact hf b hb
/-- days noted are days before the last -/
def wOk (W : Nat → Nat → Int32) : Prop := ∀ b v, W b v = -1 ∨ ∃ x, x < 300 ∧ W b v = nI x
theorem wNo_ok {σ : Nat → Int32} {e : Nat} {W : Nat → Nat → Int32} (h : wOk W) (hd : σ 90 = nI e) (he : e < 300) (k : Nat) : wOk (wNo σ k W) := by
  intro b v
  rw [wNo_at]
  split
  · exact Or.inr ⟨e, he, hd⟩
  · exact h b v
theorem wt_ok {L : xU} {c : Int32} (hW : lWok L) (hB : lBk L) : ∀ m n e (σ : Nat → Int32) (W : Nat → Nat → Int32), e + m = 300 → gSt L c n e σ → wOk W → wOk (wt L c m σ W) := by
  intro m
  induction m with
  | zero => intro n e σ W _ _ h; exact h
  | succ m ih =>
    intro n e σ W he hS h
    have S1 := fOne_st hW hB hS
    rw [wt_s]
    exact ih n (e + 1) _ _ (by omega) (fFour_st hW hB S1 (by omega)) (wNo_ok h S1.2.2.1.1 (by omega) _)
def wE (L : xU) (e : Nat) (σ : Nat → Int32) : Nat → Nat → Int32 := wt L (σ 89) (300 - e) σ (fun _ _ => -1)
theorem wE_ok {L : xU} {n e : Nat} {σ : Nat → Int32} (hW : lWok L) (hB : lBk L) (hS : gSt L (σ 89) n e σ) : wOk (wE L e σ) :=
  wt_ok hW hB (300 - e) n e σ _ (by have := hS.2.2.1.2; omega) hS (fun _ _ => Or.inl rfl)
/-- a standing bier stands on -/
theorem fOne_1 {L : xU} {c : Int32} {n e b : Nat} {σ : Nat → Int32} (hW : lWok L) (hB : lBk L) (hS : gSt L c n e σ) (hb : b < lB L) (h1 : σ b = 1) : fOne L c σ b = 1 ∧ fOne L c σ (6 + b) = σ (6 + b) := by
  have hb6 := hB.1
  have : ∀ k, k ≤ lB L → xfold k (fOneB L c) σ b = 1 ∧ xfold k (fOneB L c) σ (6 + b) = σ (6 + b) := by
    intro k
    induction k with
    | zero => intro _; exact ⟨h1, rfl⟩
    | succ k ih =>
      intro hk
      obtain ⟨i1, i2⟩ := ih (by omega)
      have S1 := fOneK_st hW hB hS (show k ≤ lB L by omega)
      rw [xfold_s]
      generalize xfold k (fOneB L c) σ = σ1 at i1 i2 S1 ⊢
      by_cases q : k = b
      · subst q
        unfold fOneB
        rw [if_neg (fun z => absurd (i1.symm.trans z.1) (by decide)), if_neg (fun z => absurd (i1.symm.trans z.1) (by decide))]
        exact ⟨i1, i2⟩
      · unfold fOneB
        split
        · rw [fCome_fr L c (by omega) _ S1.1.1 S1.1.2 b (by omega), fCome_fr L c (by omega) _ S1.1.1 S1.1.2 (6 + b) (by omega)]; exact ⟨i1, i2⟩
        · split
          · rw [fCome_fr L c (by omega) _ S1.1.1 S1.1.2 b (by omega), fCome_fr L c (by omega) _ S1.1.1 S1.1.2 (6 + b) (by omega)]; exact ⟨i1, i2⟩
          · exact ⟨i1, i2⟩
  exact this (lB L) (Nat.le_refl _)
/-- the reference notes those that stand at the start first of all: that changes nothing -/
def wIn (L : xU) (σ : Nat → Int32) : Nat → Nat → Int32 := fun b v => if b < lB L ∧ σ b = 1 ∧ v = (σ (6 + b)).toNatClampNeg then σ 90 else -1
theorem wNo_in {L : xU} {c : Int32} {n e : Nat} {σ : Nat → Int32} (hW : lWok L) (hB : lBk L) (hS : gSt L c n e σ) : wNo (fOne L c σ) (lB L) (wIn L σ) = wNo (fOne L c σ) (lB L) (fun _ _ => -1) := by
  have S1 := fOne_st hW hB hS
  have e90 : fOne L c σ 90 = σ 90 := S1.2.2.1.1.trans hS.2.2.1.1.symm
  funext b v
  rw [wNo_at, wNo_at]
  unfold wIn
  by_cases h : b < lB L ∧ σ b = 1 ∧ v = (σ (6 + b)).toNatClampNeg
  · obtain ⟨z1, z2⟩ := fOne_1 hW hB hS h.1 h.2.1
    rw [if_pos h, if_neg (fun z => by
      have := z.2.2.2
      rw [hS.2.2.1.1] at this
      exact nI_m1 (by have := hS.2.2.1.2; omega) this), if_pos ⟨h.1, Or.inl z1, by rw [z2]; exact h.2.2, rfl⟩, e90]
  · rw [if_neg h]
