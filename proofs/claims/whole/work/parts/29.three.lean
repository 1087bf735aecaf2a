/-! HANDING ON village by village is handing on letter by letter -/
theorem fLay_cg {l v : Nat} {b : Int32} {σ τ : Nat → Int32} (h1 : τ (18 + l) = σ (18 + l)) (h2 : τ (28 + l) = σ (28 + l)) (h3 : τ (48 + l) = σ (48 + l)) {j : Nat} (hj : j = 18 + l ∨ j = 28 + l ∨ j = 48 + l) : fLay l v b τ j = fLay l v b σ j := by
  have e : τ j = σ j := by rcases hj with rfl | rfl | rfl <;> assumption
  unfold fLay fPut
  by_cases hb : b < 0
  · rw [if_pos hb, if_pos hb]
    unfold up
    rw [e]
  · rw [if_neg hb, if_neg hb, h2, h3]
    by_cases hc : σ (28 + l) = b
    · rw [if_pos hc, if_pos hc, e]
    · rw [if_neg hc, if_neg hc]
      unfold up
      rw [e]
theorem fLay_comm {l v l' v' : Nat} {b b' : Int32} {σ : Nat → Int32} (hl : l < 10) (hl' : l' < 10) (hne : l ≠ l') : fLay l v b (fLay l' v' b' σ) = fLay l' v' b' (fLay l v b σ) := by
  funext j
  have f := fLay_fr l v b σ
  have f' := fLay_fr l' v' b' σ
  by_cases hj : j = 18 + l ∨ j = 28 + l ∨ j = 48 + l
  · rw [fLay_cg (f' _ (by omega)) (f' _ (by omega)) (f' _ (by omega)) hj]
    exact (fLay_fr l' v' b' _ j (by omega)).symm
  · rw [fLay_fr l v b _ j hj]
    by_cases hj' : j = 18 + l' ∨ j = 28 + l' ∨ j = 48 + l'
    · exact (fLay_cg (f _ (by omega)) (f _ (by omega)) (f _ (by omega)) hj').symm
    · rw [f' _ hj', fLay_fr l' v' b' _ j hj', f _ hj]
theorem fVil_in {L : xU} {c : Int32} {n e : Nat} {σ : Nat → Int32} (hB : lBk L) (h : gSt L c n e σ) {l b v : Nat} (hl : l < n) (hb : b < lB L) (h1 : σ (28 + l) = nI b) (h2 : σ b = 1) (h3 : σ (6 + b) = nI v) : fVil σ l = nI v := by
  have hb6 := hB.1
  obtain ⟨-, l2⟩ := h.2.2.2.2.1 l hl
  rcases l2 with ⟨q1, -⟩ | ⟨b', q1, q2, q3, q4, q5⟩ | ⟨q1, -⟩
  · rw [h1] at q1; exact absurd q1 (nI_m1 (by omega))
  · unfold fVil
    rw [q4, if_pos m1_neg, h1, if_pos (Int32.not_lt.mp (nI_nn (by omega))), nc (by omega), if_pos h2, h3]
  · rw [h1] at q1; exact absurd q1 (nI_m1 (by omega))
/-- what a letter's own bier is, where the letter can be handed on -/
theorem fVil_own {L : xU} {c : Int32} {n e : Nat} {σ : Nat → Int32} (hW : lWok L) (hB : lBk L) (h : gSt L c n e σ) {l v : Nat} (hl : l < n) (hv : v < lV L) (hvil : fVil σ l = nI v) : σ (38 + l) = -1 ∧ (σ (28 + l) = -1 ∨ ∃ b, b < lB L ∧ σ (28 + l) = nI b ∧ σ b = 1 ∧ σ (6 + b) = nI v) := by
  have hv7 := hW.1
  rcases fVil_or hB h hl with q | ⟨v', h1, h2, h3, h4⟩
  · rw [q] at hvil; exact absurd hvil.symm (nI_m1 (by omega))
  · rw [hvil] at h2
    have : v = v' := (nI_eq (by omega) (by omega)).mp h2
    subst this
    refine ⟨h3, ?_⟩
    rcases h4 with ⟨h5, -⟩ | ⟨b, h5, h6, h7, h8, -⟩
    · exact Or.inl h5
    · exact Or.inr ⟨b, h5, h6, h7, h8⟩
theorem fBest_or {L : xU} {c : Int32} {n e : Nat} {σ : Nat → Int32} (hW : lWok L) (hB : lBk L) (h : gSt L c n e σ) {l v : Nat} (hl : l < n) (hv : v < lV L) (hvil : fVil σ l = nI v) : fBest L c n l v σ = -1 ∨ ∃ b, b < lB L ∧ fBest L c n l v σ = nI b ∧ σ b = 1 ∧ σ (6 + b) = nI v ∧ (σ (28 + l) = nI b ∨ ¬ nI (fIn n σ b) = L 7 b) :=
  fBestK_or hB (fVil_own hW hB h hl hv hvil).2 (lB L) (Nat.le_refl _)
theorem fVil_lay {L : xU} {c : Int32} {n e : Nat} {σ : Nat → Int32} (hW : lWok L) (hB : lBk L) (h : gSt L c n e σ) {l v : Nat} (hl : l < n) (hv : v < lV L) (hvil : fVil σ l = nI v) {l' : Nat} (hl' : l' < n) : fVil (fHand L c n l v σ) l' = fVil σ l' := by
  have hb6 := hB.1
  have hv7 := hW.1
  have n10 := h.1.2
  have fr := fLay_fr l v (fBest L c n l v σ) σ
  obtain ⟨hcame, own⟩ := fVil_own hW hB h hl hv hvil
  by_cases q : l' = l
  · subst q
    rw [hvil]
    rcases fBest_or hW hB h hl hv hvil with q | ⟨b, q1, q2, q3, q4, -⟩
    · unfold fVil fHand
      rw [q]
      unfold fLay
      rw [if_pos m1_neg, up_n (show 38 + l' ≠ 18 + l' by omega), up_n (show 38 + l' ≠ 28 + l' by omega), hcame, if_pos m1_neg, up_n (show 28 + l' ≠ 18 + l' by omega), up_s, if_neg (by decide), up_s]
    · have e28 : fHand L c n l' v σ (28 + l') = nI b := by
        unfold fHand
        rw [q2]
        unfold fLay fPut
        rw [if_neg (nI_nn (by omega))]
        by_cases z : σ (28 + l') = nI b
        · rw [if_pos z]; exact z
        · rw [if_neg z, up_n (by omega), up_n (by omega), up_s]
      refine fVil_in hB (fHand_st hB h hl' hv hvil hW) hl' q1 e28 ?_ ?_
      · rw [show fHand L c n l' v σ b = σ b from fr _ (by omega)]; exact q3
      · rw [show fHand L c n l' v σ (6 + b) = σ (6 + b) from fr _ (by omega)]; exact q4
  · unfold fVil
    rw [show fHand L c n l v σ (38 + l') = σ (38 + l') from fr _ (by omega), show fHand L c n l v σ (28 + l') = σ (28 + l') from fr _ (by omega), show fHand L c n l v σ (18 + l') = σ (18 + l') from fr _ (by omega)]
    obtain ⟨-, l2⟩ := h.2.2.2.2.1 l' hl'
    rcases l2 with ⟨q1, -⟩ | ⟨b', q1, q2, q3, q4, q5⟩ | ⟨q1, -⟩
    · rw [q1, if_neg (show ¬ (0 : Int32) ≤ -1 by decide), if_neg (show ¬ (0 : Int32) ≤ -1 by decide)]
    · rw [q2, nc (by omega), show fHand L c n l v σ b' = σ b' from fr _ (by omega), show fHand L c n l v σ (6 + b') = σ (6 + b') from fr _ (by omega)]
    · rw [q1, if_neg (show ¬ (0 : Int32) ≤ -1 by decide), if_neg (show ¬ (0 : Int32) ≤ -1 by decide)]
/-- the best bier depends on little -/
theorem fBest_cg {L : xU} {c : Int32} {n l v : Nat} {σ τ : Nat → Int32} (h28 : τ (28 + l) = σ (28 + l)) (h58 : τ (58 + l) = σ (58 + l)) (hb : ∀ b, b < lB L → τ b = σ b ∧ τ (6 + b) = σ (6 + b)) (hi : ∀ b, b < lB L → σ b = 1 → σ (6 + b) = nI v → fIn n τ b = fIn n σ b) (own : σ (28 + l) = -1 ∨ ∃ b, b < lB L ∧ σ (28 + l) = nI b) (hB6 : lB L ≤ 6) : fBest L c n l v τ = fBest L c n l v σ := by
  have near : ∀ b, b < lB L → fNear L c τ b (σ (58 + l)).toNatClampNeg = fNear L c σ b (σ (58 + l)).toNatClampNeg := fun b h => by unfold fNear; rw [(hb b h).2]
  have e0 : fBest0 L c l v τ = fBest0 L c l v σ := by
    unfold fBest0
    rw [h28, h58]
    rcases own with q | ⟨b, q1, q2⟩
    · rw [if_pos (Or.inl (by rw [q]; exact m1_neg)), if_pos (Or.inl (by rw [q]; exact m1_neg))]
    · rw [q2, nc (by omega), near b q1]
  unfold fBest fBestK
  rw [e0]
  congr 1
  refine xfold_congr (fun b p hb' => ?_)
  obtain ⟨b1, b2⟩ := hb b hb'
  rw [b1, b2, h28, h58, near b hb']
  by_cases q : σ b = 1 ∧ σ (6 + b) = nI v
  · rw [hi b hb' q.1 q.2]
  · rw [if_neg (fun z => q z.1.1), if_neg (fun z => q z.1.1)]
section THREE
variable {L : xU} {c : Int32} {n e : Nat} {wv : Nat → Nat}
/-- all are in their villages -/
def tI (L : xU) (c : Int32) (n e : Nat) (wv : Nat → Nat) (σ : Nat → Int32) : Prop := gSt L c n e σ ∧ ∀ l, l < n → (wv l < lV L ∧ fVil σ l = nI (wv l)) ∨ (wv l = lV L ∧ fVil σ l = -1)
def tH (L : xU) (c : Int32) (n : Nat) (wv : Nat → Nat) (l : Nat) (σ : Nat → Int32) : Nat → Int32 := fHand L c n l (wv l) σ
theorem tI.vil {σ : Nat → Int32} (h : tI L c n e wv σ) {l : Nat} (hl : l < n) (hw : wv l < lV L) : fVil σ l = nI (wv l) := by
  rcases h.2 l hl with q | q
  · exact q.2
  · omega
theorem tI.step {σ : Nat → Int32} (hW : lWok L) (hB : lBk L) (h : tI L c n e wv σ) {l : Nat} (hl : l < n) (hw : wv l < lV L) : tI L c n e wv (tH L c n wv l σ) := by
  refine ⟨fHand_st hB h.1 hl hw (h.vil hl hw) hW, fun l' hl' => ?_⟩
  have := fVil_lay hW hB h.1 hl hw (h.vil hl hw) hl'
  unfold tH
  rw [this]
  exact h.2 l' hl'
theorem tBest_cg {σ : Nat → Int32} (hW : lWok L) (hB : lBk L) (h : tI L c n e wv σ) {l l' : Nat} (hl : l < n) (hl' : l' < n) (hw : wv l < lV L) (hw' : wv l' < lV L) (hne : wv l ≠ wv l') : fBest L c n l (wv l) (tH L c n wv l' σ) = fBest L c n l (wv l) σ := by
  have hv7 := hW.1
  have hb6 := hB.1
  have n10 := h.1.1.2
  have hll : l ≠ l' := fun q => hne (by rw [q])
  have fr := fLay_fr l' (wv l') (fBest L c n l' (wv l') σ) σ
  have h' := h.step hW hB hl' hw'
  refine fBest_cg (fr _ (by omega)) (fr _ (by omega)) (fun b hb => ⟨fr _ (by omega), fr _ (by omega)⟩) (fun b hb q1 q2 => ?_) ?_ hb6
  · refine cn_congr (fun i hi => ?_)
    by_cases z : i = l'
    · subst z
      have c1 : ¬ σ (28 + i) = nI b := fun y => by
        have := fVil_in hB h.1 hi hb y q1 q2
        rw [h.vil hi hw'] at this
        exact hne ((nI_eq (by omega) (by omega)).mp this).symm
      have c2 : ¬ tH L c n wv i σ (28 + i) = nI b := fun y => by
        have := fVil_in hB h'.1 hi hb y ((fr _ (by omega)).trans q1) ((fr _ (by omega)).trans q2)
        rw [h'.vil hi hw'] at this
        exact hne ((nI_eq (by omega) (by omega)).mp this).symm
      rw [decide_eq_false c1, decide_eq_false c2]
    · rw [show tH L c n wv l' σ (28 + i) = σ (28 + i) from fr _ (by omega)]
  · rcases (fVil_own hW hB h.1 hl hw (h.vil hl hw)).2 with q | ⟨b, q1, q2, -⟩
    · exact Or.inl q
    · exact Or.inr ⟨b, q1, q2⟩
theorem tComm {σ : Nat → Int32} (hW : lWok L) (hB : lBk L) (h : tI L c n e wv σ) {l l' : Nat} (hl : l < n) (hl' : l' < n) (hw : wv l < lV L) (hw' : wv l' < lV L) (hne : wv l ≠ wv l') : tH L c n wv l (tH L c n wv l' σ) = tH L c n wv l' (tH L c n wv l σ) := by
  have n10 := h.1.1.2
  have e1 := tBest_cg hW hB h hl hl' hw hw' hne
  have e2 := tBest_cg hW hB h hl' hl hw' hw (fun q => hne q.symm)
  show fLay l (wv l) (fBest L c n l (wv l) (tH L c n wv l' σ)) (tH L c n wv l' σ) = fLay l' (wv l') (fBest L c n l' (wv l') (tH L c n wv l σ)) (tH L c n wv l σ)
  rw [e1, e2]
  exact fLay_comm (by omega) (by omega) (fun q => hne (by rw [q]))
def tA (L : xU) (c : Int32) (n : Nat) (wv : Nat → Nat) (m k : Nat) (σ : Nat → Int32) : Nat → Int32 := xfold k (fun l σ => if wv l < m then tH L c n wv l σ else σ) σ
def tP (L : xU) (c : Int32) (n : Nat) (wv : Nat → Nat) (m k : Nat) (σ : Nat → Int32) : Nat → Int32 := xfold k (fun l σ => if wv l = m then tH L c n wv l σ else σ) σ
theorem tA_I {σ : Nat → Int32} (hW : lWok L) (hB : lBk L) (h : tI L c n e wv σ) {m k : Nat} (hm : m ≤ lV L) (hk : k ≤ n) : tI L c n e wv (tA L c n wv m k σ) :=
  xfold_inv (I := fun _ τ => tI L c n e wv τ) h (fun j τ hj hτ => by
    by_cases q : wv j < m
    · rw [if_pos q]; exact hτ.step hW hB (by omega) (by omega)
    · rw [if_neg q]; exact hτ)
theorem tP_I {σ : Nat → Int32} (hW : lWok L) (hB : lBk L) (h : tI L c n e wv σ) {m k : Nat} (hm : m < lV L) (hk : k ≤ n) : tI L c n e wv (tP L c n wv m k σ) :=
  xfold_inv (I := fun _ τ => tI L c n e wv τ) h (fun j τ hj hτ => by
    by_cases q : wv j = m
    · rw [if_pos q]; exact hτ.step hW hB (by omega) (by omega)
    · rw [if_neg q]; exact hτ)
theorem tP_comm {σ : Nat → Int32} (hW : lWok L) (hB : lBk L) (h : tI L c n e wv σ) {m l : Nat} (hm : m < lV L) (hl : l < n) (hw : wv l < lV L) (hne : wv l ≠ m) : ∀ k, k ≤ n → tP L c n wv m k (tH L c n wv l σ) = tH L c n wv l (tP L c n wv m k σ) := by
  intro k
  induction k with
  | zero => intro _; rfl
  | succ k ih =>
    intro hk
    show (if wv k = m then tH L c n wv k (tP L c n wv m k (tH L c n wv l σ)) else tP L c n wv m k (tH L c n wv l σ)) = tH L c n wv l (if wv k = m then tH L c n wv k (tP L c n wv m k σ) else tP L c n wv m k σ)
    rw [ih (by omega)]
    by_cases q : wv k = m
    · rw [if_pos q, if_pos q]
      exact tComm hW hB (tP_I hW hB h hm (by omega)) (by omega) hl (by omega) hw (by omega)
    · rw [if_neg q, if_neg q]
theorem tPA {σ : Nat → Int32} (hW : lWok L) (hB : lBk L) (h : tI L c n e wv σ) {m : Nat} (hm : m < lV L) : ∀ k, k ≤ n → tP L c n wv m k (tA L c n wv m k σ) = tA L c n wv (m + 1) k σ := by
  intro k
  induction k with
  | zero => intro _; rfl
  | succ k ih =>
    intro hk
    show (if wv k = m then tH L c n wv k (tP L c n wv m k (if wv k < m then tH L c n wv k (tA L c n wv m k σ) else tA L c n wv m k σ)) else tP L c n wv m k (if wv k < m then tH L c n wv k (tA L c n wv m k σ) else tA L c n wv m k σ)) = if wv k < m + 1 then tH L c n wv k (tA L c n wv (m + 1) k σ) else tA L c n wv (m + 1) k σ
    rw [← ih (by omega)]
    by_cases q : wv k < m
    · rw [if_pos q, if_neg (by omega), if_pos (by omega)]
      exact tP_comm hW hB (tA_I hW hB h (by omega) (by omega)) hm (by omega) (by omega) (by omega) k (by omega)
    · rw [if_neg q]
      by_cases q2 : wv k = m
      · rw [if_pos q2, if_pos (by omega)]
      · rw [if_neg q2, if_neg (by omega)]
theorem tAll {σ : Nat → Int32} (hW : lWok L) (hB : lBk L) (h : tI L c n e wv σ) : ∀ m, m ≤ lV L → xfold m (fun v => tP L c n wv v n) σ = tA L c n wv m n σ := by
  intro m
  induction m with
  | zero =>
    intro _
    show σ = tA L c n wv 0 n σ
    have : ∀ k, tA L c n wv 0 k σ = σ := by
      intro k
      induction k with
      | zero => rfl
      | succ k ih =>
        show (if wv k < 0 then tH L c n wv k (tA L c n wv 0 k σ) else tA L c n wv 0 k σ) = σ
        rw [if_neg (Nat.not_lt_zero _), ih]
    exact (this n).symm
  | succ m ih =>
    intro hm
    rw [xfold_s, ih (by omega)]
    exact tPA hW hB h (by omega) n (Nat.le_refl _)
end THREE
/-- a letter's village, as a number; lV L without one -/
def fWv (L : xU) (σ : Nat → Int32) (l : Nat) : Nat := if fVil σ l < 0 then lV L else (fVil σ l).toNatClampNeg
theorem fWv_I {L : xU} {c : Int32} {n e : Nat} {σ : Nat → Int32} (hW : lWok L) (hB : lBk L) (h : gSt L c n e σ) : tI L c n e (fWv L σ) σ := by
  have hv7 := hW.1
  refine ⟨h, fun l hl => ?_⟩
  unfold fWv
  rcases fVil_or hB h hl with q | ⟨v, h1, h2, -⟩
  · rw [q, if_pos m1_neg]; exact Or.inr ⟨rfl, rfl⟩
  · rw [h2, if_neg (nI_nn (by omega)), nc (by omega)]; exact Or.inl ⟨h1, rfl⟩
/-- the passes, with the villages as they were -/
theorem xfold_0 {α : Type} (f : Nat → α → α) (x : α) : xfold 0 f x = x := rfl
theorem tP_0 (L : xU) (c : Int32) (n : Nat) (wv : Nat → Nat) (m : Nat) (σ : Nat → Int32) : tP L c n wv m 0 σ = σ := rfl
theorem tP_s (L : xU) (c : Int32) (n : Nat) (wv : Nat → Nat) (m k : Nat) (σ : Nat → Int32) : tP L c n wv m (k + 1) σ = if wv k = m then tH L c n wv k (tP L c n wv m k σ) else tP L c n wv m k σ := rfl
theorem tA_s (L : xU) (c : Int32) (n : Nat) (wv : Nat → Nat) (m k : Nat) (σ : Nat → Int32) : tA L c n wv m (k + 1) σ = if wv k < m then tH L c n wv k (tA L c n wv m k σ) else tA L c n wv m k σ := rfl
theorem fThreeV_st {L : xU} {c : Int32} {n e : Nat} {wv : Nat → Nat} {τ : Nat → Int32} (hW : lWok L) (I : tI L c n e wv τ) {v k : Nat} (hv : v < lV L) (hk : k < n) : (if fVil τ k = nI v then fHand L c n k v τ else τ) = if wv k = v then tH L c n wv k τ else τ := by
  have hv7 := hW.1
  rcases I.2 k hk with ⟨q1, q2⟩ | ⟨q1, q2⟩
  · rw [q2]
    by_cases z : wv k = v
    · rw [if_pos (by rw [z]), if_pos z]; unfold tH; rw [z]
    · rw [if_neg (fun y => z ((nI_eq (by omega) (by omega)).mp y)), if_neg z]
  · rw [q2, if_neg (fun z => nI_m1 (by omega) z.symm), if_neg (by omega)]
theorem fThreeVk_eq {L : xU} {c : Int32} {n e : Nat} {wv : Nat → Nat} {σ : Nat → Int32} (hW : lWok L) (hB : lBk L) (h : tI L c n e wv σ) {v : Nat} (hv : v < lV L) : ∀ k, k ≤ n → xfold k (fun l σ => if fVil σ l = nI v then fHand L c n l v σ else σ) σ = tP L c n wv v k σ := by
  intro k
  induction k with
  | zero => intro _; rw [xfold_0, tP_0]
  | succ k ih =>
    intro hk
    rw [xfold_s, ih (by omega), tP_s]
    exact fThreeV_st hW (tP_I hW hB h hv (k := k) (by omega)) hv (by omega)
theorem fThreeV_eq {L : xU} {c : Int32} {n e : Nat} {wv : Nat → Nat} {σ : Nat → Int32} (hW : lWok L) (hB : lBk L) (h : tI L c n e wv σ) {v : Nat} (hv : v < lV L) : fThreeV L c n v σ = tP L c n wv v n σ := fThreeVk_eq hW hB h hv n (Nat.le_refl _)
theorem fThreeK_eq {L : xU} {c : Int32} {n e : Nat} {wv : Nat → Nat} {σ : Nat → Int32} (hW : lWok L) (hB : lBk L) (h : tI L c n e wv σ) (m : Nat) (hm : m ≤ lV L) : xfold m (fThreeV L c n) σ = tA L c n wv m n σ := by
  have : ∀ m, m ≤ lV L → xfold m (fThreeV L c n) σ = xfold m (fun v => tP L c n wv v n) σ ∧ tI L c n e wv (xfold m (fThreeV L c n) σ) := by
    intro m
    induction m with
    | zero => intro _; rw [xfold_0, xfold_0]; exact ⟨rfl, h⟩
    | succ m ih =>
      intro hm
      obtain ⟨i1, i2⟩ := ih (by omega)
      rw [xfold_s, xfold_s, fThreeV_eq hW hB i2 (show m < lV L by omega)]
      exact ⟨by rw [i1], tP_I hW hB i2 (by omega) (Nat.le_refl _)⟩
  rw [(this m hm).1]
  exact tAll hW hB h m hm
theorem fThreeC_s (L : xU) (c : Int32) (n k : Nat) (σ : Nat → Int32) : fThreeC L c n (k + 1) σ = if fVil (fThreeC L c n k σ) k < 0 then fThreeC L c n k σ else fHand L c n k (fVil (fThreeC L c n k σ) k).toNatClampNeg (fThreeC L c n k σ) := rfl
theorem fThreeC_eq {L : xU} {c : Int32} {n e : Nat} {wv : Nat → Nat} {σ : Nat → Int32} (hW : lWok L) (hB : lBk L) (h : tI L c n e wv σ) : ∀ k, k ≤ n → fThreeC L c n k σ = tA L c n wv (lV L) k σ := by
  have hv7 := hW.1
  intro k
  induction k with
  | zero => intro _; rfl
  | succ k ih =>
    intro hk
    rw [fThreeC_s, tA_s, ih (by omega)]
    have I := tA_I hW hB h (m := lV L) (k := k) (Nat.le_refl _) (by omega)
    rcases I.2 k (by omega) with ⟨q1, q2⟩ | ⟨q1, q2⟩
    · rw [q2, if_neg (nI_nn (by omega)), if_pos q1, nc (by omega)]
      rfl
    · rw [q2, if_pos m1_neg, if_neg (by omega)]
theorem fThree_eq {L : xU} {c : Int32} {n e : Nat} {σ : Nat → Int32} (hW : lWok L) (hB : lBk L) (h : gSt L c n e σ) : fThree L c n σ = fThreeC L c n n σ := by
  rw [fThreeC_eq hW hB (fWv_I hW hB h) n (Nat.le_refl _)]
  exact fThreeK_eq hW hB (fWv_I hW hB h) (lV L) (Nat.le_refl _)
theorem fThree_st {L : xU} {c : Int32} {n e : Nat} {σ : Nat → Int32} (hW : lWok L) (hB : lBk L) (h : gSt L c n e σ) : gSt L c n e (fThree L c n σ) := by
  have I := fWv_I hW hB h
  rw [show fThree L c n σ = _ from fThreeK_eq hW hB I (lV L) (Nat.le_refl _)]
  exact (tA_I hW hB I (Nat.le_refl _) (Nat.le_refl _)).1
/-- departing -/
theorem fTo_or {L : xU} (hW : lWok L) (c : Int32) (σ : Nat → Int32) (b : Nat) : fTo L c σ b = -1 ∨ ∃ o, o < lV L ∧ fTo L c σ b = nI o := by
  rcases lNx_or hW c (σ (6 + b)).toNatClampNeg (lH L b) with q | ⟨o, o1, o2, -⟩
  · exact Or.inl q
  · exact Or.inr ⟨o, o1, o2⟩
theorem fFourB_fr (L : xU) (c : Int32) (b : Nat) (σ : Nat → Int32) : rsm (fun j => j = b ∨ j = 6 + b ∨ j = 12 + b) σ (fFourB L c b σ) := by
  intro j hj
  unfold fFourB
  split
  · rw [up_n (by omega), up_n (by omega), up_n (by omega)]
  · rfl
theorem fFourB_st {L : xU} {c : Int32} {n e b : Nat} {σ : Nat → Int32} (hW : lWok L) (hB : lBk L) (h : gSt L c n e σ) (hb : b < lB L) : gSt L c n e (fFourB L c b σ) := by
  have hb6 := hB.1
  have fr := fFourB_fr L c b σ
  obtain ⟨⟨a1, a2⟩, a3, a4, a5, a6, a7⟩ := h
  refine ⟨⟨(fr 88 (by omega)).trans a1, a2⟩, (fr 89 (by omega)).trans a3, ⟨(fr 90 (by omega)).trans a4.1, a4.2⟩, ?_, ?_, ?_⟩
  · intro b' hb'
    by_cases q : b' = b
    · subst q
      unfold fFourB
      split
      · next hc =>
        rcases fTo_or hW c σ b' with z | ⟨o, o1, o2⟩
        · exact absurd (by rw [z]; exact m1_neg) hc.2
        · refine ⟨fun _ => ?_, fun z => absurd hb z⟩
          rw [up_s, up_n (show b' ≠ 6 + b' by omega), up_n (show b' ≠ 12 + b' by omega), up_s]
          exact ⟨⟨o, o1, o2⟩, Or.inr (Or.inr (Or.inl rfl))⟩
      · exact a5 b' hb'
    · exact (a5 b' hb').cg (fr _ (by omega)) (fr _ (by omega))
  · intro l hl
    obtain ⟨l1, l2⟩ := a6 l hl
    refine ⟨by rw [fr _ (by omega)]; exact l1, ?_⟩
    rw [fr (28 + l) (by omega), fr (38 + l) (by omega), fr (18 + l) (by omega)]
    rcases l2 with q | ⟨b', q1, q2, q3, q4, q5⟩ | q
    · exact Or.inl q
    · refine Or.inr (Or.inl ⟨b', q1, q2, ?_, q4, q5⟩)
      by_cases z : b' = b
      · subst z
        unfold fFourB
        split
        · rw [up_n (show b' ≠ 6 + b' by omega), up_n (show b' ≠ 12 + b' by omega), up_s]; exact Or.inr rfl
        · exact q3
      · rw [fr _ (by omega)]; exact q3
    · exact Or.inr (Or.inr q)
  · intro b' hb'
    have : fIn n (fFourB L c b σ) b' = fIn n σ b' := cn_congr (fun i _ => by rw [fr _ (by omega)])
    rw [this]
    exact a7 b' hb'
theorem fFourKk_st {L : xU} {c : Int32} {n e : Nat} {σ : Nat → Int32} (hW : lWok L) (hB : lBk L) (h : gSt L c n e σ) {k : Nat} (hk : k ≤ lB L) : gSt L c n e (xfold k (fFourB L c) σ) :=
  xfold_inv (I := fun _ τ => gSt L c n e τ) h (fun j τ hj hτ => fFourB_st hW hB hτ (by omega))
theorem gSt.day {L : xU} {c : Int32} {n e : Nat} {σ : Nat → Int32} (hB : lBk L) (h : gSt L c n e σ) (he : e < 300) : gSt L c n (e + 1) (up σ 90 (σ 90 + 1)) := by
  have hb6 := hB.1
  obtain ⟨⟨a1, a2⟩, a3, a4, a5, a6, a7⟩ := h
  have fr : ∀ j, j ≠ 90 → up σ 90 (σ 90 + 1) j = σ j := fun j hj => up_n hj
  refine ⟨⟨(fr 88 (by omega)).trans a1, a2⟩, (fr 89 (by omega)).trans a3, ⟨by rw [up_s, a4.1, nI_one], by omega⟩, fun b hb => (a5 b hb).cg (fr _ (by omega)) (fr _ (by omega)), ?_, ?_⟩
  · intro l hl
    obtain ⟨l1, l2⟩ := a6 l hl
    refine ⟨by rw [fr _ (by omega)]; exact l1, ?_⟩
    rw [fr (28 + l) (by omega), fr (38 + l) (by omega), fr (18 + l) (by omega)]
    rcases l2 with q | ⟨b', q1, q2, q3, q4, q5⟩ | q
    · exact Or.inl q
    · exact Or.inr (Or.inl ⟨b', q1, q2, by rw [fr _ (by omega)]; exact q3, q4, q5⟩)
    · exact Or.inr (Or.inr q)
  · intro b' hb'
    have : fIn n (up σ 90 (σ 90 + 1)) b' = fIn n σ b' := cn_congr (fun i hi => by rw [fr _ (by omega)])
    rw [this]
    exact a7 b' hb'
theorem fFour_st {L : xU} {c : Int32} {n e : Nat} {σ : Nat → Int32} (hW : lWok L) (hB : lBk L) (h : gSt L c n e σ) (he : e < 300) : gSt L c n (e + 1) (fFour L c σ) :=
  (fFourKk_st hW hB h (Nat.le_refl _)).day hB he
theorem fDay_st {L : xU} {c : Int32} {n e : Nat} {σ : Nat → Int32} (hW : lWok L) (hB : lBk L) (h : gSt L c n e σ) (he : e < 300) : gSt L c n (e + 1) (fDay L c n σ) :=
  fFour_st hW hB (fThree_st hW hB (fTwo_st hB (fOne_st hW hB h))) he
