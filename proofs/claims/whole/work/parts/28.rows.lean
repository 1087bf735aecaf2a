/-! DAYS, as rows: what a day does to where all is -/
/-- rows are the same outside F -/
def rsm (F : Nat → Prop) (σ τ : Nat → Int32) : Prop := ∀ j, ¬ F j → τ j = σ j
theorem rsm.rf {F : Nat → Prop} {σ : Nat → Int32} : rsm F σ σ := fun _ _ => rfl
theorem rsm.tr {F : Nat → Prop} {σ τ υ : Nat → Int32} (h1 : rsm F σ τ) (h2 : rsm F τ υ) : rsm F σ υ := fun j h => (h2 j h).trans (h1 j h)
theorem rsm.up {F : Nat → Prop} {σ τ : Nat → Int32} (h : rsm F σ τ) {k : Nat} (hk : F k) (x : Int32) : rsm F σ (up τ k x) := fun j hj => by
  rw [up_n (fun q => hj (by rw [q]; exact hk))]; exact h j hj
theorem rsm.to {F G : Nat → Prop} {σ τ : Nat → Int32} (h : rsm F σ τ) (hs : ∀ j, F j → G j) : rsm G σ τ := fun j hj => h j (fun q => hj (hs j q))
/-- bits of a land told: biers -/
def lBk (L : xU) : Prop := lB L ≤ 6 ∧ ∀ b, b < lB L → (∃ v, v < lV L ∧ L 4 b = nI v) ∧ (∃ v, v < lV L ∧ L 5 b = nI v) ∧ ∃ n, 1 ≤ n ∧ n ≤ 9 ∧ L 7 b = nI n
def lH (L : xU) (b : Nat) : Nat := (L 5 b).toNatClampNeg
theorem lBk.home {L : xU} (h : lBk L) (hW : lWok L) {b : Nat} (hb : b < lB L) : lH L b < lV L ∧ L 5 b = nI (lH L b) := by
  obtain ⟨-, ⟨v, hv, e⟩, -⟩ := h.2 b hb
  unfold lH
  have := hW.1
  rw [e, nc (by omega)]
  exact ⟨hv, rfl⟩
/-- a bier comes to its grave: its letters are laid down -/
def fBuryK (n b : Nat) (v : Int32) (σ : Nat → Int32) : Nat → Int32 := xfold n (fun l σ => if σ (28 + l) = nI b then up (up σ (28 + l) (-1)) (18 + l) v else σ) σ
theorem fBuryK_s (n b : Nat) (v : Int32) (σ : Nat → Int32) : fBuryK (n + 1) b v σ = if fBuryK n b v σ (28 + n) = nI b then up (up (fBuryK n b v σ) (28 + n) (-1)) (18 + n) v else fBuryK n b v σ := rfl
theorem fBury_at (b : Nat) (v : Int32) (σ : Nat → Int32) : ∀ n, n ≤ 10 → ∀ j, fBuryK n b v σ j = if 28 ≤ j ∧ j < 28 + n ∧ σ j = nI b then -1 else if 18 ≤ j ∧ j < 18 + n ∧ σ (j + 10) = nI b then v else σ j := by
  intro n
  induction n with
  | zero => intro _ j; rw [if_neg (by omega), if_neg (by omega)]; rfl
  | succ n ih =>
    intro hn j
    have i := ih (by omega)
    have e : fBuryK n b v σ (28 + n) = σ (28 + n) := by rw [i, if_neg (by omega), if_neg (by omega)]
    rw [fBuryK_s, e]
    by_cases hc : σ (28 + n) = nI b
    · rw [if_pos hc]
      by_cases h1 : j = 18 + n
      · subst h1
        rw [up_s, if_neg (by omega), if_pos ⟨by omega, by omega, by rw [show 18 + n + 10 = 28 + n by omega]; exact hc⟩]
      · rw [up_n h1]
        by_cases h2 : j = 28 + n
        · subst h2
          rw [up_s, if_pos ⟨by omega, by omega, hc⟩]
        · rw [up_n h2, i]
          have a1 : (28 ≤ j ∧ j < 28 + (n + 1) ∧ σ j = nI b) ↔ (28 ≤ j ∧ j < 28 + n ∧ σ j = nI b) := ⟨fun q => ⟨q.1, by omega, q.2.2⟩, fun q => ⟨q.1, by omega, q.2.2⟩⟩
          have a2 : (18 ≤ j ∧ j < 18 + (n + 1) ∧ σ (j + 10) = nI b) ↔ (18 ≤ j ∧ j < 18 + n ∧ σ (j + 10) = nI b) := ⟨fun q => ⟨q.1, by omega, q.2.2⟩, fun q => ⟨q.1, by omega, q.2.2⟩⟩
          simp only [a1, a2]
    · rw [if_neg hc, i]
      have a1 : (28 ≤ j ∧ j < 28 + (n + 1) ∧ σ j = nI b) ↔ (28 ≤ j ∧ j < 28 + n ∧ σ j = nI b) := ⟨fun q => ⟨q.1, by
        rcases Nat.lt_or_ge j (28 + n) with y | y
        · exact y
        · have : j = 28 + n := by omega
          rw [this] at q; exact absurd q.2.2 hc, q.2.2⟩, fun q => ⟨q.1, by omega, q.2.2⟩⟩
      have a2 : (18 ≤ j ∧ j < 18 + (n + 1) ∧ σ (j + 10) = nI b) ↔ (18 ≤ j ∧ j < 18 + n ∧ σ (j + 10) = nI b) := ⟨fun q => ⟨q.1, by
        rcases Nat.lt_or_ge j (18 + n) with y | y
        · exact y
        · have : j + 10 = 28 + n := by omega
          rw [this] at q; exact absurd q.2.2 hc, q.2.2⟩, fun q => ⟨q.1, by omega, q.2.2⟩⟩
      simp only [a1, a2]
/-- how long it waits there -/
def fWt (L : xU) (c : Int32) (σ : Nat → Int32) (b v : Nat) : Int32 := fVal L (qRow (σ 90) (L 7 b) (lO L c v) (lF L c v (lH L b)))
/-- a bier comes to a village -/
def fCome (L : xU) (c : Int32) (b v : Nat) (σ : Nat → Int32) : Nat → Int32 :=
  if nI v = L 5 b then fBuryK (σ 88).toNatClampNeg b (nI v) (up (up (up (up (up σ b 1) (6 + b) (nI v)) (12 + b) (σ 90 + fWt L c σ b v)) b 3) (12 + b) (-1))
  else up (up (up σ b 1) (6 + b) (nI v)) (12 + b) (σ 90 + fWt L c σ b v)
def fOneB (L : xU) (c : Int32) (b : Nat) (σ : Nat → Int32) : Nat → Int32 :=
  if σ b = 0 ∧ L 6 b = σ 90 then fCome L c b (L 4 b).toNatClampNeg σ else if σ b = 2 ∧ σ (12 + b) = σ 90 then fCome L c b (σ (6 + b)).toNatClampNeg σ else σ
def fOne (L : xU) (c : Int32) (σ : Nat → Int32) : Nat → Int32 := xfold (lB L) (fOneB L c) σ
/-- the village in which a letter can be handed on, or -1 -/
def fVil (σ : Nat → Int32) (l : Nat) : Int32 := if σ (38 + l) < 0 then (if 0 ≤ σ (28 + l) then (if σ (σ (28 + l)).toNatClampNeg = 1 then σ (6 + (σ (28 + l)).toNatClampNeg) else -1) else σ (18 + l)) else -1
def fTwoL (l : Nat) (p : Int32 × (Nat → Int32)) : Int32 × (Nat → Int32) := if fVil p.2 l < 0 ∨ ¬ fVil p.2 l = p.2 (58 + l) then p else (p.1 + 1, up (up (up p.2 (38 + l) (p.2 90)) (18 + l) (-1)) (28 + l) (-1))
def fTwo (n : Nat) (σ : Nat → Int32) : Int32 × (Nat → Int32) := xfold n fTwoL (0, σ)
/-- how many letters are in a bier -/
def fIn (n : Nat) (σ : Nat → Int32) (b : Nat) : Nat := cn n (fun l => decide (σ (28 + l) = nI b))
def fNear (L : xU) (c : Int32) (σ : Nat → Int32) (b t : Nat) : Int32 := lM L c (σ (6 + b)).toNatClampNeg (lH L b) t
/-- the best bier, and its nearness, among the first k; the letter's own first -/
def fBest0 (L : xU) (c : Int32) (l v : Nat) (σ : Nat → Int32) : Int32 × Int32 :=
  if σ (28 + l) < 0 ∨ lF L c v (σ (58 + l)).toNatClampNeg ≤ fNear L c σ (σ (28 + l)).toNatClampNeg (σ (58 + l)).toNatClampNeg then (-1, lF L c v (σ (58 + l)).toNatClampNeg)
  else (σ (28 + l), fNear L c σ (σ (28 + l)).toNatClampNeg (σ (58 + l)).toNatClampNeg)
def fBestK (L : xU) (c : Int32) (n l v : Nat) (σ : Nat → Int32) (k : Nat) : Int32 × Int32 := xfold k (fun b p =>
  if ((σ b = 1 ∧ σ (6 + b) = nI v) ∧ ¬ nI b = σ (28 + l)) ∧ ¬ nI (fIn n σ b) = L 7 b ∧ fNear L c σ b (σ (58 + l)).toNatClampNeg < p.2 then (nI b, fNear L c σ b (σ (58 + l)).toNatClampNeg) else p) (fBest0 L c l v σ)
def fBest (L : xU) (c : Int32) (n l v : Nat) (σ : Nat → Int32) : Int32 := (fBestK L c n l v σ (lB L)).1
theorem fBestK_s (L : xU) (c : Int32) (n l v : Nat) (σ : Nat → Int32) (k : Nat) : fBestK L c n l v σ (k + 1) = if ((σ k = 1 ∧ σ (6 + k) = nI v) ∧ ¬ nI k = σ (28 + l)) ∧ ¬ nI (fIn n σ k) = L 7 k ∧ fNear L c σ k (σ (58 + l)).toNatClampNeg < (fBestK L c n l v σ k).2 then (nI k, fNear L c σ k (σ (58 + l)).toNatClampNeg) else fBestK L c n l v σ k := rfl
def fPut (l : Nat) (b : Int32) (σ : Nat → Int32) : Nat → Int32 := if σ (28 + l) = b then σ else up (up (up σ (28 + l) b) (18 + l) (-1)) (48 + l) (σ (48 + l) + 1)
def fLay (l v : Nat) (b : Int32) (σ : Nat → Int32) : Nat → Int32 := if b < 0 then up (up σ (28 + l) (-1)) (18 + l) (nI v) else fPut l b σ
def fHand (L : xU) (c : Int32) (n l v : Nat) (σ : Nat → Int32) : Nat → Int32 := fLay l v (fBest L c n l v σ) σ
def fThreeV (L : xU) (c : Int32) (n v : Nat) (σ : Nat → Int32) : Nat → Int32 := xfold n (fun l σ => if fVil σ l = nI v then fHand L c n l v σ else σ) σ
def fThree (L : xU) (c : Int32) (n : Nat) (σ : Nat → Int32) : Nat → Int32 := xfold (lV L) (fThreeV L c n) σ
/-- letter by letter -/
def fThreeC (L : xU) (c : Int32) (n k : Nat) (σ : Nat → Int32) : Nat → Int32 := xfold k (fun l σ => if fVil σ l < 0 then σ else fHand L c n l (fVil σ l).toNatClampNeg σ) σ
def fWin (L : xU) (x : Int32) : Prop := ¬ x < L 0 3 ∧ ¬ L 0 4 < x
theorem fWin_dec (L : xU) (x : Int32) : Nonempty (Decidable (fWin L x)) := ⟨inferInstanceAs (Decidable (_ ∧ _))⟩
/-- where a bier goes next, or -1 -/
def fTo (L : xU) (c : Int32) (σ : Nat → Int32) (b : Nat) : Int32 := lNx L c (σ (6 + b)).toNatClampNeg (lH L b)
def fFourB (L : xU) (c : Int32) (b : Nat) (σ : Nat → Int32) : Nat → Int32 :=
  if ((σ b = 1 ∧ ¬ σ 90 < σ (12 + b)) ∧ ¬ (¬ σ 90 < L 0 3 ∧ ¬ L 0 4 < σ 90)) ∧ ¬ fTo L c σ b < 0 then up (up (up σ b 2) (12 + b) (σ 90 + lD L c (σ (6 + b)).toNatClampNeg (fTo L c σ b).toNatClampNeg)) (6 + b) (fTo L c σ b) else σ
def fFourK (L : xU) (c : Int32) (σ : Nat → Int32) : Nat → Int32 := xfold (lB L) (fFourB L c) σ
def fFour (L : xU) (c : Int32) (σ : Nat → Int32) : Nat → Int32 := up (fFourK L c σ) 90 (fFourK L c σ 90 + 1)
def fDay (L : xU) (c : Int32) (n : Nat) (σ : Nat → Int32) : Nat → Int32 := fFour L c (fThree L c n (fTwo n (fOne L c σ)).2)
/-! what is always so -/
def sB1 (L : xU) (σ : Nat → Int32) (b : Nat) : Prop := (b < lB L → (∃ v, v < lV L ∧ σ (6 + b) = nI v) ∧ (σ b = 0 ∧ σ (6 + b) = L 4 b ∨ σ b = 1 ∨ σ b = 2 ∨ σ b = 3)) ∧ (¬ b < lB L → σ b = 0)
def sL1 (L : xU) (σ : Nat → Int32) (l : Nat) : Prop := (∃ v, v < lV L ∧ σ (58 + l) = nI v) ∧ ((σ (28 + l) = -1 ∧ σ (38 + l) = -1 ∧ ∃ v, v < lV L ∧ σ (18 + l) = nI v) ∨ (∃ b, b < lB L ∧ σ (28 + l) = nI b ∧ (σ b = 1 ∨ σ b = 2) ∧ σ (38 + l) = -1 ∧ σ (18 + l) = -1) ∨ (σ (28 + l) = -1 ∧ σ (18 + l) = -1 ∧ ∃ e, e ≤ 300 ∧ σ (38 + l) = nI e))
def gSt (L : xU) (c : Int32) (n e : Nat) (σ : Nat → Int32) : Prop := (σ 88 = nI n ∧ n ≤ 10) ∧ σ 89 = c ∧ (σ 90 = nI e ∧ e ≤ 300) ∧ (∀ b, b < 6 → sB1 L σ b) ∧ (∀ l, l < n → sL1 L σ l) ∧ ∀ b, b < lB L → fIn n σ b ≤ (L 7 b).toNatClampNeg
theorem sB1.cg {L : xU} {σ τ : Nat → Int32} {b : Nat} (h : sB1 L σ b) (h1 : τ b = σ b) (h2 : τ (6 + b) = σ (6 + b)) : sB1 L τ b := by
  unfold sB1; rw [h1, h2]; exact h
/-- numbers that are not there -/
theorem nI_m1 {k : Nat} (hk : k < 2147483648) : ¬ nI k = -1 := fun q => by
  have := nI_nn hk
  rw [q] at this
  exact this m1_neg
theorem fCome_fr (L : xU) (c : Int32) {b v : Nat} (hb : b < 6) (σ : Nat → Int32) {n : Nat} (hn : σ 88 = nI n) (hn10 : n ≤ 10) : rsm (fun j => j = b ∨ j = 6 + b ∨ j = 12 + b ∨ (18 ≤ j ∧ j < 38)) σ (fCome L c b v σ) := by
  intro j hj
  have e : (up (up (up σ b 1) (6 + b) (nI v)) (12 + b) (σ 90 + fWt L c σ b v)) j = σ j := by rw [up_n (by omega), up_n (by omega), up_n (by omega)]
  unfold fCome
  by_cases hc : nI v = L 5 b
  · rw [if_pos hc, hn, nc (by omega), fBury_at _ _ _ n hn10, if_neg (by omega), if_neg (by omega), up_n (by omega), up_n (by omega), e]
  · rw [if_neg hc, e]
theorem cn_up {n : Nat} {p q : Nat → Bool} (h : ∀ l, l < n → q l = true → p l = true) : cn n q ≤ cn n p := cn_mono h
theorem fCome_st {L : xU} {c : Int32} {n e b v : Nat} {σ : Nat → Int32} (hW : lWok L) (hB : lBk L) (h : gSt L c n e σ) (hb : b < lB L) (hv : v < lV L) : gSt L c n e (fCome L c b v σ) := by
  obtain ⟨⟨a1, a2⟩, a3, a4, a5, a6, a7⟩ := h
  have hbL := hB.1
  have hb6 : b < 6 := by omega
  have fr := fCome_fr L c (v := v) hb6 σ a1 a2
  have hv7 := hW.1
  refine ⟨⟨(fr 88 (by omega)).trans a1, a2⟩, (fr 89 (by omega)).trans a3, ⟨(fr 90 (by omega)).trans a4.1, a4.2⟩, ?_, ?_, ?_⟩
  · intro b' hb'
    by_cases q : b' = b
    · subst q
      refine ⟨fun _ => ?_, fun z => absurd hb z⟩
      unfold fCome
      by_cases hc : nI v = L 5 b'
      · rw [if_pos hc, a1, nc (by omega), fBury_at _ _ _ n a2, fBury_at _ _ _ n a2, if_neg (by omega), if_neg (by omega), if_neg (by omega), if_neg (by omega)]
        rw [up_n (show 6 + b' ≠ 12 + b' by omega), up_n (show 6 + b' ≠ b' by omega), up_n (show 6 + b' ≠ 12 + b' by omega), up_s, up_n (show b' ≠ 12 + b' by omega), up_s]
        exact ⟨⟨v, hv, rfl⟩, Or.inr (Or.inr (Or.inr rfl))⟩
      · rw [if_neg hc, up_n (show 6 + b' ≠ 12 + b' by omega), up_s, up_n (show b' ≠ 12 + b' by omega), up_n (show b' ≠ 6 + b' by omega), up_s]
        exact ⟨⟨v, hv, rfl⟩, Or.inr (Or.inl rfl)⟩
    · exact (a5 b' hb').cg (fr _ (by omega)) (fr _ (by omega))
  · intro l hl
    obtain ⟨l1, l2⟩ := a6 l hl
    refine ⟨by rw [fr (58 + l) (by omega)]; exact l1, ?_⟩
    unfold fCome
    by_cases hc : nI v = L 5 b
    · rw [if_pos hc, a1, nc (by omega)]
      have ev : ∀ j, 18 ≤ j → (up (up (up (up (up σ b 1) (6 + b) (nI v)) (12 + b) (σ 90 + fWt L c σ b v)) b 3) (12 + b) (-1)) j = σ j := fun j hj => by rw [up_n (by omega), up_n (by omega), up_n (by omega), up_n (by omega), up_n (by omega)]
      have f := fun j => fBury_at b (nI v) (up (up (up (up (up σ b 1) (6 + b) (nI v)) (12 + b) (σ 90 + fWt L c σ b v)) b 3) (12 + b) (-1)) n a2 j
      rw [f (28 + l), f (38 + l), f (18 + l), ev (28 + l) (by omega), ev (38 + l) (by omega), ev (18 + l) (by omega), ev (18 + l + 10) (by omega), show 18 + l + 10 = 28 + l by omega]
      rw [if_neg (show ¬ (28 ≤ 38 + l ∧ 38 + l < 28 + n ∧ σ (38 + l) = nI b) by omega), if_neg (show ¬ (18 ≤ 38 + l ∧ 38 + l < 18 + n ∧ _) by omega), if_neg (show ¬ (28 ≤ 18 + l ∧ 18 + l < 28 + n ∧ σ (18 + l) = nI b) by omega), if_neg (show ¬ (18 ≤ 28 + l ∧ 28 + l < 18 + n ∧ _) by omega)]
      by_cases hi : σ (28 + l) = nI b
      · rw [if_pos ⟨by omega, by omega, hi⟩, if_pos ⟨by omega, by omega, hi⟩]
        rcases l2 with ⟨q1, -, -⟩ | ⟨b', -, -, -, q4, -⟩ | ⟨q1, -, -⟩
        · rw [hi] at q1; exact absurd q1 (nI_m1 (by omega))
        · exact Or.inl ⟨rfl, q4, v, hv, rfl⟩
        · rw [hi] at q1; exact absurd q1 (nI_m1 (by omega))
      · rw [if_neg (fun z => hi z.2.2), if_neg (fun z => hi z.2.2)]
        rcases l2 with q | ⟨b', q1, q2, q3, q4, q5⟩ | q
        · exact Or.inl q
        · have hne : b' ≠ b := fun z => hi (by rw [q2, z])
          refine Or.inr (Or.inl ⟨b', q1, q2, ?_, q4, q5⟩)
          rw [f b', if_neg (by omega), if_neg (by omega), up_n (by omega), up_n hne, up_n (by omega), up_n (by omega), up_n hne]
          exact q3
        · exact Or.inr (Or.inr q)
    · rw [if_neg hc]
      have ev : ∀ j, 18 ≤ j → (up (up (up σ b 1) (6 + b) (nI v)) (12 + b) (σ 90 + fWt L c σ b v)) j = σ j := fun j hj => by rw [up_n (by omega), up_n (by omega), up_n (by omega)]
      rw [ev _ (by omega), ev _ (by omega), ev _ (by omega)]
      rcases l2 with q | ⟨b', q1, q2, q3, q4, q5⟩ | q
      · exact Or.inl q
      · refine Or.inr (Or.inl ⟨b', q1, q2, ?_, q4, q5⟩)
        by_cases z : b' = b
        · subst z
          rw [up_n (by omega), up_n (by omega), up_s]; exact Or.inl rfl
        · rw [up_n (by omega), up_n (by omega), up_n z]; exact q3
      · exact Or.inr (Or.inr q)
  · intro b' hb'
    refine Nat.le_trans (cn_up (fun l hl q => ?_)) (a7 b' hb')
    have q := of_decide_eq_true q
    refine decide_eq_true ?_
    unfold fCome at q
    by_cases hc : nI v = L 5 b
    · rw [if_pos hc, a1, nc (by omega), fBury_at _ _ _ n a2] at q
      have ev : ∀ j, 18 ≤ j → (up (up (up (up (up σ b 1) (6 + b) (nI v)) (12 + b) (σ 90 + fWt L c σ b v)) b 3) (12 + b) (-1)) j = σ j := fun j hj => by rw [up_n (by omega), up_n (by omega), up_n (by omega), up_n (by omega), up_n (by omega)]
      rw [ev _ (by omega), ev _ (by omega)] at q
      by_cases hi : σ (28 + l) = nI b
      · rw [if_pos ⟨by omega, by omega, hi⟩] at q
        exact absurd q.symm (nI_m1 (by have := hB.1; omega))
      · rw [if_neg (fun z => hi z.2.2), if_neg (by omega)] at q
        exact q
    · rw [if_neg hc, up_n (by omega), up_n (by omega), up_n (by omega)] at q
      exact q
theorem fOneB_st {L : xU} {c : Int32} {n e b : Nat} {σ : Nat → Int32} (hW : lWok L) (hB : lBk L) (h : gSt L c n e σ) (hb : b < lB L) : gSt L c n e (fOneB L c b σ) := by
  have hv7 := hW.1
  unfold fOneB
  by_cases h1 : σ b = 0 ∧ L 6 b = σ 90
  · rw [if_pos h1]
    obtain ⟨⟨v, hv, e1⟩, -, -⟩ := hB.2 b hb
    rw [e1, nc (by omega)]
    exact fCome_st hW hB h hb hv
  · rw [if_neg h1]
    by_cases h2 : σ b = 2 ∧ σ (12 + b) = σ 90
    · rw [if_pos h2]
      obtain ⟨⟨v, hv, e1⟩, -⟩ := (h.2.2.2.1 b (by have := hB.1; omega)).1 hb
      rw [e1, nc (by omega)]
      exact fCome_st hW hB h hb hv
    · rw [if_neg h2]; exact h
theorem fOneK_st {L : xU} {c : Int32} {n e : Nat} {σ : Nat → Int32} (hW : lWok L) (hB : lBk L) (h : gSt L c n e σ) {k : Nat} (hk : k ≤ lB L) : gSt L c n e (xfold k (fOneB L c) σ) :=
  xfold_inv (I := fun _ τ => gSt L c n e τ) h (fun j τ hj hτ => fOneB_st hW hB hτ (by omega))
theorem fOne_st {L : xU} {c : Int32} {n e : Nat} {σ : Nat → Int32} (hW : lWok L) (hB : lBk L) (h : gSt L c n e σ) : gSt L c n e (fOne L c σ) := fOneK_st hW hB h (Nat.le_refl _)
theorem cn_one' {p q : Nat → Bool} {j : Nat} : ∀ {n : Nat}, j < n → p j = false → q j = true → (∀ i, i < n → i ≠ j → q i = p i) → cn n q = cn n p + 1 := by
  intro n
  induction n with
  | zero => intro h; omega
  | succ n ih =>
    intro h h1 h2 h3
    rw [cn_s, cn_s]
    by_cases z : j = n
    · subst z
      rw [h1, h2, if_pos rfl, if_neg (by decide), cn_congr (fun i hi => h3 i (by omega) (by omega))]
    · rw [ih (by omega) h1 h2 (fun i hi => h3 i (by omega)), h3 n (by omega) (fun y => z y.symm)]
      split <;> omega
/-- what a letter's village is -/
theorem fVil_or {L : xU} {c : Int32} {n e : Nat} {σ : Nat → Int32} (hB : lBk L) (h : gSt L c n e σ) {l : Nat} (hl : l < n) : fVil σ l = -1 ∨ ∃ v, v < lV L ∧ fVil σ l = nI v ∧ σ (38 + l) = -1 ∧ ((σ (28 + l) = -1 ∧ σ (18 + l) = nI v) ∨ ∃ b, b < lB L ∧ σ (28 + l) = nI b ∧ σ b = 1 ∧ σ (6 + b) = nI v ∧ σ (18 + l) = -1) := by
  have hb6 := hB.1
  obtain ⟨-, l2⟩ := h.2.2.2.2.1 l hl
  unfold fVil
  rcases l2 with ⟨q1, q2, v, q3, q4⟩ | ⟨b, q1, q2, q3, q4, q5⟩ | ⟨q1, q2, x, q3, q4⟩
  · rw [q2, if_pos m1_neg, q1, if_neg (by decide)]
    exact Or.inr ⟨v, q3, q4, rfl, Or.inl ⟨rfl, q4⟩⟩
  · rw [q4, if_pos m1_neg, q2, if_pos (Int32.not_lt.mp (nI_nn (by omega))), nc (by omega)]
    rcases q3 with q3 | q3
    · rw [if_pos q3]
      obtain ⟨⟨v, hv, e1⟩, -⟩ := (h.2.2.2.1 b (by omega)).1 q1
      exact Or.inr ⟨v, hv, e1, rfl, Or.inr ⟨b, q1, rfl, q3, e1, q5⟩⟩
    · rw [if_neg (by rw [q3]; decide)]; exact Or.inl rfl
  · rw [q4, if_neg (nI_nn (by omega))]; exact Or.inl rfl
theorem fTwoL_st {L : xU} {c : Int32} {n e l : Nat} {p : Int32 × (Nat → Int32)} (hB : lBk L) (h : gSt L c n e p.2) (hl : l < n) : gSt L c n e (fTwoL l p).2 := by
  unfold fTwoL
  by_cases hc : fVil p.2 l < 0 ∨ ¬ fVil p.2 l = p.2 (58 + l)
  · rw [if_pos hc]; exact h
  · rw [if_neg hc]
    obtain ⟨⟨a1, a2⟩, a3, a4, a5, a6, a7⟩ := h
    show gSt L c n e (up (up (up p.2 (38 + l) (p.2 90)) (18 + l) (-1)) (28 + l) (-1))
    have fr : ∀ j, j ≠ 38 + l → j ≠ 18 + l → j ≠ 28 + l → up (up (up p.2 (38 + l) (p.2 90)) (18 + l) (-1)) (28 + l) (-1) j = p.2 j := fun j h1 h2 h3 => by rw [up_n h3, up_n h2, up_n h1]
    have hb6 := hB.1
    refine ⟨⟨(fr 88 (by omega) (by omega) (by omega)).trans a1, a2⟩, (fr 89 (by omega) (by omega) (by omega)).trans a3, ⟨(fr 90 (by omega) (by omega) (by omega)).trans a4.1, a4.2⟩, ?_, ?_, ?_⟩
    · exact fun b hb => (a5 b hb).cg (fr _ (by omega) (by omega) (by omega)) (fr _ (by omega) (by omega) (by omega))
    · intro l' hl'
      obtain ⟨l1, l2⟩ := a6 l' hl'
      refine ⟨by rw [fr _ (by omega) (by omega) (by omega)]; exact l1, ?_⟩
      by_cases q : l' = l
      · subst q
        rw [up_s, up_n (show 18 + l' ≠ 28 + l' by omega), up_s, up_n (show 38 + l' ≠ 28 + l' by omega), up_n (show 38 + l' ≠ 18 + l' by omega), up_s]
        exact Or.inr (Or.inr ⟨rfl, rfl, e, a4.2, a4.1⟩)
      · rw [fr (28 + l') (by omega) (by omega) (by omega), fr (38 + l') (by omega) (by omega) (by omega), fr (18 + l') (by omega) (by omega) (by omega)]
        rcases l2 with z | ⟨b', q1, q2, q3, q4, q5⟩ | z
        · exact Or.inl z
        · exact Or.inr (Or.inl ⟨b', q1, q2, by rw [fr _ (by omega) (by omega) (by omega)]; exact q3, q4, q5⟩)
        · exact Or.inr (Or.inr z)
    · intro b hb
      refine Nat.le_trans (cn_up (fun l' hl' q => ?_)) (a7 b hb)
      have q := of_decide_eq_true q
      refine decide_eq_true ?_
      by_cases z : l' = l
      · subst z
        rw [up_s] at q
        exact absurd q.symm (nI_m1 (by omega))
      · rw [fr _ (by omega) (by omega) (by omega)] at q
        exact q
theorem fTwoK_st {L : xU} {c : Int32} {n e : Nat} {σ : Nat → Int32} (hB : lBk L) (h : gSt L c n e σ) {k : Nat} (hk : k ≤ n) : gSt L c n e (xfold k fTwoL (0, σ)).2 :=
  xfold_inv (I := fun _ (p : Int32 × (Nat → Int32)) => gSt L c n e p.2) h (fun j p hj hp => fTwoL_st hB hp (by omega))
theorem fTwo_st {L : xU} {c : Int32} {n e : Nat} {σ : Nat → Int32} (hB : lBk L) (h : gSt L c n e σ) : gSt L c n e (fTwo n σ).2 := fTwoK_st hB h (Nat.le_refl _)
/-- what the best bier is -/
theorem fBestK_or {L : xU} {c : Int32} {n l v : Nat} {σ : Nat → Int32} (hB : lBk L) (hown : σ (28 + l) = -1 ∨ ∃ b, b < lB L ∧ σ (28 + l) = nI b ∧ σ b = 1 ∧ σ (6 + b) = nI v) : ∀ k, k ≤ lB L → (fBestK L c n l v σ k).1 = -1 ∨ ∃ b, b < lB L ∧ (fBestK L c n l v σ k).1 = nI b ∧ σ b = 1 ∧ σ (6 + b) = nI v ∧ (σ (28 + l) = nI b ∨ ¬ nI (fIn n σ b) = L 7 b) := by
  have hb6 := hB.1
  intro k
  induction k with
  | zero =>
    intro _
    show (fBest0 L c l v σ).1 = -1 ∨ ∃ b, b < lB L ∧ (fBest0 L c l v σ).1 = nI b ∧ _
    unfold fBest0
    by_cases hc : σ (28 + l) < 0 ∨ lF L c v (σ (58 + l)).toNatClampNeg ≤ fNear L c σ (σ (28 + l)).toNatClampNeg (σ (58 + l)).toNatClampNeg
    · rw [if_pos hc]; exact Or.inl rfl
    · rw [if_neg hc]
      rcases hown with q | ⟨b, h1, h2, h3, h4⟩
      · exact absurd (Or.inl (by rw [q]; exact m1_neg)) hc
      · exact Or.inr ⟨b, h1, h2, h3, h4, Or.inl h2⟩
  | succ k ih =>
    intro hk
    rw [fBestK_s]
    by_cases hc : ((σ k = 1 ∧ σ (6 + k) = nI v) ∧ ¬ nI k = σ (28 + l)) ∧ ¬ nI (fIn n σ k) = L 7 k ∧ fNear L c σ k (σ (58 + l)).toNatClampNeg < (fBestK L c n l v σ k).2
    · rw [if_pos hc]
      exact Or.inr ⟨k, by omega, rfl, hc.1.1.1, hc.1.1.2, Or.inr hc.2.1⟩
    · rw [if_neg hc]
      exact ih (by omega)
theorem fLay_fr (l v : Nat) (b : Int32) (σ : Nat → Int32) : rsm (fun j => j = 18 + l ∨ j = 28 + l ∨ j = 48 + l) σ (fLay l v b σ) := by
  intro j hj
  unfold fLay fPut
  by_cases h1 : b < 0
  · rw [if_pos h1, up_n (by omega), up_n (by omega)]
  · rw [if_neg h1]
    by_cases h2 : σ (28 + l) = b
    · rw [if_pos h2]
    · rw [if_neg h2, up_n (by omega), up_n (by omega), up_n (by omega)]
theorem fLay_st {L : xU} {c : Int32} {n e l v : Nat} {b : Int32} {σ : Nat → Int32} (hB : lBk L) (h : gSt L c n e σ) (hl : l < n) (hv : v < lV L) (hcame : σ (38 + l) = -1) (hb : b = -1 ∨ ∃ k, k < lB L ∧ b = nI k ∧ σ k = 1 ∧ (σ (28 + l) = nI k ∨ ¬ nI (fIn n σ k) = L 7 k)) : gSt L c n e (fLay l v b σ) := by
  have fr := fLay_fr l v b σ
  have hb6 := hB.1
  obtain ⟨⟨a1, a2⟩, a3, a4, a5, a6, a7⟩ := h
  refine ⟨⟨(fr 88 (by omega)).trans a1, a2⟩, (fr 89 (by omega)).trans a3, ⟨(fr 90 (by omega)).trans a4.1, a4.2⟩, ?_, ?_, ?_⟩
  · exact fun b' hb' => (a5 b' hb').cg (fr _ (by omega)) (fr _ (by omega))
  · intro l' hl'
    obtain ⟨l1, l2⟩ := a6 l' hl'
    refine ⟨by rw [fr _ (by omega)]; exact l1, ?_⟩
    by_cases q : l' = l
    · subst q
      rw [fr (38 + l') (by omega), hcame]
      rcases hb with rfl | ⟨k, k1, k2, k3, k4⟩
      · refine Or.inl ⟨?_, rfl, v, hv, ?_⟩
        · unfold fLay; rw [if_pos m1_neg, up_n (by omega), up_s]
        · unfold fLay; rw [if_pos m1_neg, up_s]
      · refine Or.inr (Or.inl ⟨k, k1, ?_, ?_, rfl, ?_⟩)
        · unfold fLay fPut
          rw [k2, if_neg (nI_nn (by omega))]
          by_cases z : σ (28 + l') = nI k
          · rw [if_pos z]; exact z
          · rw [if_neg z, up_n (by omega), up_n (by omega), up_s]
        · rw [fr k (by omega)]; exact Or.inl k3
        · unfold fLay fPut
          rw [k2, if_neg (nI_nn (by omega))]
          by_cases z : σ (28 + l') = nI k
          · rw [if_pos z]
            rcases l2 with ⟨q1, -, -⟩ | ⟨b', -, -, -, -, q5⟩ | ⟨q1, -, -⟩
            · rw [z] at q1; exact absurd q1 (nI_m1 (by omega))
            · exact q5
            · rw [z] at q1; exact absurd q1 (nI_m1 (by omega))
          · rw [if_neg z, up_n (by omega), up_s]
    · rw [fr (28 + l') (by omega), fr (38 + l') (by omega), fr (18 + l') (by omega)]
      rcases l2 with z | ⟨b', q1, q2, q3, q4, q5⟩ | z
      · exact Or.inl z
      · exact Or.inr (Or.inl ⟨b', q1, q2, by rw [fr _ (by omega)]; exact q3, q4, q5⟩)
      · exact Or.inr (Or.inr z)
  · intro b' hb'
    have h7 := a7 b' hb'
    rcases hb with rfl | ⟨k, k1, k2, k3, k4⟩
    · refine Nat.le_trans (cn_up (fun l' hl' q => ?_)) h7
      have q := of_decide_eq_true q
      refine decide_eq_true ?_
      by_cases z : l' = l
      · subst z
        unfold fLay at q
        rw [if_pos m1_neg, up_n (by omega), up_s] at q
        exact absurd q.symm (nI_m1 (by omega))
      · rw [fr _ (by omega)] at q; exact q
    · have e28 : fLay l v b σ (28 + l) = nI k := by
        unfold fLay fPut
        rw [k2, if_neg (nI_nn (by omega))]
        by_cases z : σ (28 + l) = nI k
        · rw [if_pos z]; exact z
        · rw [if_neg z, up_n (by omega), up_n (by omega), up_s]
      by_cases z : b' = k
      · subst z
        rcases k4 with k4 | k4
        · refine Nat.le_trans (cn_up (fun l' hl' q => ?_)) h7
          have q := of_decide_eq_true q
          refine decide_eq_true ?_
          by_cases z : l' = l
          · subst z; exact k4
          · rw [fr _ (by omega)] at q; exact q
        · obtain ⟨-, -, m, m1, m2, m3⟩ := hB.2 b' hb'
          have lt : fIn n σ b' < (L 7 b').toNatClampNeg := by
            rw [m3, nc (by omega)] at h7 ⊢
            rw [m3] at k4
            have : fIn n σ b' ≠ m := fun y => k4 (by rw [y])
            omega
          by_cases z : σ (28 + l) = nI b'
          · refine Nat.le_trans (cn_up (fun l' hl' q => ?_)) h7
            have q := of_decide_eq_true q
            refine decide_eq_true ?_
            by_cases z' : l' = l
            · subst z'; exact z
            · rw [fr _ (by omega)] at q; exact q
          · have : fIn n (fLay l v b σ) b' = fIn n σ b' + 1 := cn_one' hl (by simp [z]) (by simp [e28]) (fun i hi hi2 => by rw [fr _ (by omega)])
            omega
      · refine Nat.le_trans (cn_up (fun l' hl' q => ?_)) h7
        have q := of_decide_eq_true q
        refine decide_eq_true ?_
        by_cases y : l' = l
        · subst y
          rw [e28] at q
          exact absurd ((nI_eq (by omega) (by omega)).mp q).symm z
        · rw [fr _ (by omega)] at q; exact q
theorem fHand_st {L : xU} {c : Int32} {n e l v : Nat} {σ : Nat → Int32} (hB : lBk L) (h : gSt L c n e σ) (hl : l < n) (hv : v < lV L) (hvil : fVil σ l = nI v) (hW : lWok L) : gSt L c n e (fHand L c n l v σ) := by
  have hv7 := hW.1
  rcases fVil_or hB h hl with q | ⟨v', h1, h2, h3, h4⟩
  · rw [q] at hvil; exact absurd hvil.symm (nI_m1 (by omega))
  · rw [hvil] at h2
    have : v = v' := (nI_eq (by omega) (by omega)).mp h2
    subst this
    have own : σ (28 + l) = -1 ∨ ∃ b, b < lB L ∧ σ (28 + l) = nI b ∧ σ b = 1 ∧ σ (6 + b) = nI v := by
      rcases h4 with ⟨h5, -⟩ | ⟨b, h5, h6, h7, h8, -⟩
      · exact Or.inl h5
      · exact Or.inr ⟨b, h5, h6, h7, h8⟩
    refine fLay_st hB h hl hv h3 ?_
    rcases fBestK_or (n := n) (c := c) hB own (lB L) (Nat.le_refl _) with q | ⟨b, q1, q2, q3, q4, q5⟩
    · exact Or.inl q
    · exact Or.inr ⟨b, q1, q2, q3, q5⟩
