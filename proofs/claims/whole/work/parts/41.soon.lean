/-! NEWS SPREADING, as rows: -1 where none has come -/
/-- those who carry lay down -/
def sLayB (σ : Nat → Int32) (cy : Int32) (b : Nat) (T : Nat → Int32) : Nat → Int32 := if bt cy b = true ∧ (σ b = 1 ∨ σ b = 3) ∧ T (σ (6 + b)).toNatClampNeg = -1 then up T (σ (6 + b)).toNatClampNeg (σ 90) else T
def sLay (σ : Nat → Int32) (cy : Int32) (k : Nat) (T : Nat → Int32) : Nat → Int32 := xfold k (sLayB σ cy) T
def sTakP (σ T : Nat → Int32) (b : Nat) : Bool := decide (σ b = 1 ∧ ¬ T (σ (6 + b)).toNatClampNeg = -1)
def sTak (σ T : Nat → Int32) (k : Nat) (cy : Int32) : Int32 := xfold k (fun b s => if sTakP σ T b = true then s ||| ((1 : Int32) <<< (nI b &&& 31)) else s) cy
def sp (L : xU) (c : Int32) : Nat → (Nat → Int32) → (Nat → Int32) → Int32 → (Nat → Int32)
  | 0, _, T, _ => T
  | m + 1, σ, T, cy => sp L c m (fFour L c (fOne L c σ)) (sLay (fOne L c σ) cy (lB L) T) (sTak (fOne L c σ) (sLay (fOne L c σ) cy (lB L) T) (lB L) cy)
theorem sp_s (L : xU) (c : Int32) (m : Nat) (σ T : Nat → Int32) (cy : Int32) : sp L c (m + 1) σ T cy = sp L c m (fFour L c (fOne L c σ)) (sLay (fOne L c σ) cy (lB L) T) (sTak (fOne L c σ) (sLay (fOne L c σ) cy (lB L) T) (lB L) cy) := rfl
theorem sLay_s (σ : Nat → Int32) (cy : Int32) (k : Nat) (T : Nat → Int32) : sLay σ cy (k + 1) T = sLayB σ cy k (sLay σ cy k T) := rfl
theorem sTak_s (σ T : Nat → Int32) (k : Nat) (cy : Int32) : sTak σ T (k + 1) cy = if sTakP σ T k = true then sTak σ T k cy ||| ((1 : Int32) <<< (nI k &&& 31)) else sTak σ T k cy := rfl
theorem sLay_keep {σ : Nat → Int32} {cy : Int32} {x : Nat} {T : Nat → Int32} (hd : ¬ σ 90 = -1) {v : Nat} (h : ¬ T v = -1) : ∀ k, ¬ sLay σ cy k T v = -1 := by
  intro k
  induction k with
  | zero => exact h
  | succ k ih =>
    rw [sLay_s]
    generalize sLay σ cy k T = U at ih ⊢
    unfold sLayB
    split
    · unfold up
      split
      · exact hd
      · exact ih
    · exact ih
theorem sLay_set {σ : Nat → Int32} {cy : Int32} {T : Nat → Int32} (hd : ¬ σ 90 = -1) {b : Nat} (h1 : bt cy b = true) (h2 : σ b = 1 ∨ σ b = 3) : ∀ k, b < k → ¬ sLay σ cy k T (σ (6 + b)).toNatClampNeg = -1 := by
  intro k
  induction k with
  | zero => intro h; omega
  | succ k ih =>
    intro h
    by_cases q : b = k
    · subst q
      rw [sLay_s]
      generalize sLay σ cy b T = U at ih ⊢
      unfold sLayB
      by_cases z : U (σ (6 + b)).toNatClampNeg = -1
      · rw [if_pos ⟨h1, h2, z⟩, up_s]; exact hd
      · rw [if_neg (fun y => z y.2.2)]; exact z
    · have i := ih (by omega)
      rw [sLay_s]
      generalize sLay σ cy k T = U at i ⊢
      unfold sLayB
      split
      · unfold up
        split
        · exact hd
        · exact i
      · exact i
theorem bt_sTak {σ T : Nat → Int32} {cy : Int32} {i : Nat} (hi : i < 32) : ∀ k, k ≤ 32 → bt (sTak σ T k cy) i = (bt cy i || (decide (i < k) && sTakP σ T i)) := by
  intro k
  induction k with
  | zero => intro _; rw [decide_eq_false (by omega), Bool.false_and, Bool.or_false]; rfl
  | succ k ih =>
    intro hk
    rw [sTak_s]
    have i1 := ih (by omega)
    by_cases q : sTakP σ T k = true
    · rw [if_pos q, b_or, i1, bt_sh (by omega) hi]
      by_cases z : i = k
      · subst z; simp [q]
      · have : (decide (i < k + 1)) = decide (i < k) := by
          by_cases y : i < k
          · rw [decide_eq_true y, decide_eq_true (by omega)]
          · rw [decide_eq_false y, decide_eq_false (by omega)]
        rw [decide_eq_false z, Bool.or_false, this]
    · rw [if_neg q, i1]
      by_cases z : i = k
      · subst z; simp [q]
      · have : (decide (i < k + 1)) = decide (i < k) := by
          by_cases y : i < k
          · rw [decide_eq_true y, decide_eq_true (by omega)]
          · rw [decide_eq_false y, decide_eq_false (by omega)]
        rw [this]
/-- behind a day: nothing more to do while none moves -/
def sFix (L : xU) (σ T : Nat → Int32) (cy : Int32) : Prop := ∀ b, b < lB L → (bt cy b = true → (σ b = 1 ∨ σ b = 3) → ¬ T (σ (6 + b)).toNatClampNeg = -1) ∧ (σ b = 1 → ¬ T (σ (6 + b)).toNatClampNeg = -1 → bt cy b = true)
theorem sFix_one {L : xU} {σ T : Nat → Int32} {cy : Int32} (hB6 : lB L ≤ 6) (hd : ¬ σ 90 = -1) : sFix L σ (sLay σ cy (lB L) T) (sTak σ (sLay σ cy (lB L) T) (lB L) cy) := by
  intro b hb
  rw [bt_sTak (by omega) _ (by omega), decide_eq_true hb, Bool.true_and]
  refine ⟨fun h1 h2 => ?_, fun h1 h2 => ?_⟩
  · rcases Bool.or_eq_true _ _ ▸ h1 with q | q
    · exact sLay_set hd q h2 (lB L) hb
    · exact (of_decide_eq_true q).2
  · rw [Bool.or_eq_true]
    exact Or.inr (decide_eq_true ⟨h1, h2⟩)
theorem sFix_lay {L : xU} {σ T : Nat → Int32} {cy : Int32} (h : sFix L σ T cy) : sLay σ cy (lB L) T = T := by
  refine xfold_id _ (fun k hk => ?_)
  unfold sLayB
  rw [if_neg (fun z => (h k hk).1 z.1 z.2.1 z.2.2)]
theorem sFix_tak {L : xU} {σ T : Nat → Int32} {cy : Int32} (hB6 : lB L ≤ 6) (h : sFix L σ T cy) : sTak σ T (lB L) cy = cy := by
  refine b_ext (fun i hi => ?_)
  rw [bt_sTak hi _ (by omega)]
  by_cases q : i < lB L
  · rw [decide_eq_true q, Bool.true_and]
    cases hc : bt cy i
    · rw [Bool.false_or]
      cases hp : sTakP σ T i
      · rfl
      · have := of_decide_eq_true hp
        rw [(h i q).2 this.1 this.2] at hc
        exact hc
    · rfl
  · rw [decide_eq_false q, Bool.false_and, Bool.or_false]
theorem sp_still {L : xU} {c : Int32} (hB6 : lB L ≤ 6) : ∀ m (σ T : Nat → Int32) (cy : Int32), fStill L c σ = true → sFix L σ T cy → sp L c m σ T cy = T := by
  intro m
  induction m with
  | zero => intro σ T cy _ _; rfl
  | succ m ih =>
    intro σ T cy h hf
    rw [sp_s, fStill_one h, sFix_lay hf, sFix_tak hB6 hf, fStill_four h]
    refine ih _ T cy (fStill_cg hB6 (fun j hj => up_n (by omega)) h) (fun b hb => ?_)
    rw [up_n (show b ≠ 90 by omega), up_n (show 6 + b ≠ 90 by omega)]
    exact hf b hb
/-- what the days noted are -/
def sOk (x0 : Nat) (s : Nat) (T : Nat → Int32) : Prop := T s = nI x0 ∧ ∀ v, T v = -1 ∨ ∃ x, x0 ≤ x ∧ x ≤ 300 ∧ T v = nI x ∧ (v ≠ s → x < 300)
theorem sLay_ok {σ : Nat → Int32} {cy : Int32} {x0 s e : Nat} {T : Nat → Int32} (h : sOk x0 s T) (hd : σ 90 = nI e) (h1 : x0 ≤ e) (h2 : e < 300) : ∀ k, sOk x0 s (sLay σ cy k T) := by
  intro k
  induction k with
  | zero => exact h
  | succ k ih =>
    rw [sLay_s]
    generalize sLay σ cy k T = U at ih ⊢
    obtain ⟨i1, i2⟩ := ih
    unfold sLayB
    split
    · next hc =>
      refine ⟨?_, fun v => ?_⟩
      · rw [up_n (fun z => by
          have := hc.2.2
          rw [← z, i1] at this
          exact nI_m1 (by omega) this)]
        exact i1
      · unfold up
        split
        · exact Or.inr ⟨e, h1, by omega, hd, fun _ => h2⟩
        · exact i2 v
    · exact ⟨i1, i2⟩
theorem sp_ok {L : xU} {c : Int32} (hW : lWok L) (hB : lBk L) {x0 s : Nat} : ∀ m n e (σ T : Nat → Int32) (cy : Int32), e + m = 300 → x0 ≤ e → gSt L c n e σ → sOk x0 s T → sOk x0 s (sp L c m σ T cy) := by
  intro m
  induction m with
  | zero => intro n e σ T cy _ _ _ h; exact h
  | succ m ih =>
    intro n e σ T cy he hx hS h
    have S1 := fOne_st hW hB hS
    rw [sp_s]
    exact ih n (e + 1) _ _ _ (by omega) (by omega) (fFour_st hW hB S1 (by omega)) (sLay_ok h S1.2.2.1.1 hx (by omega) _)
/-- where the news starts -/
def sp0 (s : Nat) (x : Int32) : Nat → Int32 := fun v => if v = s then x else -1
def spE (L : xU) (e : Nat) (σ : Nat → Int32) (s : Nat) : Nat → Int32 := sp L (σ 89) (300 - e) σ (sp0 s (σ 90)) 0
theorem sp0_ok {s e : Nat} {x : Int32} (h : x = nI e) (he : e ≤ 300) : sOk e s (sp0 s x) := by
  refine ⟨by unfold sp0; rw [if_pos rfl, h], fun v => ?_⟩
  unfold sp0
  by_cases q : v = s
  · rw [if_pos q]; exact Or.inr ⟨e, Nat.le_refl _, he, h, fun z => absurd q z⟩
  · rw [if_neg q]; exact Or.inl rfl
theorem spE_ok {L : xU} {n e s : Nat} {σ : Nat → Int32} (hW : lWok L) (hB : lBk L) (hS : gSt L (σ 89) n e σ) : sOk e s (spE L e σ s) :=
  sp_ok hW hB (300 - e) n e σ _ 0 (by have := hS.2.2.1.2; omega) (Nat.le_refl _) hS (sp0_ok hS.2.2.1.1 hS.2.2.1.2)
