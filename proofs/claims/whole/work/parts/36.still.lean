/-! STANDING STILL: where no bier moves any more, a day changes the day alone -/
theorem xfold_id {α : Type} {f : Nat → α → α} {x : α} : ∀ n, (∀ k, k < n → f k x = x) → xfold n f x = x := by
  intro n
  induction n with
  | zero => intro _; rfl
  | succ n ih => intro h; rw [xfold_s, ih (fun k hk => h k (by omega)), h n (by omega)]
theorem fStill_iff (L : xU) (c : Int32) (σ : Nat → Int32) : fStill L c σ = true ↔ ∀ b, b < lB L → (σ b = 3 ∨ (σ b = 1 ∧ fTo L c σ b = -1)) := fStillK_iff L c σ (lB L)
theorem fStill_cg {L : xU} {c : Int32} {σ τ : Nat → Int32} (hB6 : lB L ≤ 6) (e : ∀ j, j < 12 → τ j = σ j) (h : fStill L c σ = true) : fStill L c τ = true := by
  rw [fStill_iff] at h ⊢
  intro b hb
  unfold fTo
  rw [e b (by omega), e (6 + b) (by omega)]
  exact h b hb
theorem fStill_one {L : xU} {c : Int32} {σ : Nat → Int32} (h : fStill L c σ = true) : fOne L c σ = σ := by
  rw [fStill_iff] at h
  refine xfold_id _ (fun k hk => ?_)
  unfold fOneB
  rcases h k hk with q | ⟨q, -⟩
  · rw [if_neg (fun z => absurd (q.symm.trans z.1) (by decide)), if_neg (fun z => absurd (q.symm.trans z.1) (by decide))]
  · rw [if_neg (fun z => absurd (q.symm.trans z.1) (by decide)), if_neg (fun z => absurd (q.symm.trans z.1) (by decide))]
theorem fStill_fourK {L : xU} {c : Int32} {σ : Nat → Int32} (h : fStill L c σ = true) : fFourK L c σ = σ := by
  rw [fStill_iff] at h
  refine xfold_id _ (fun k hk => ?_)
  unfold fFourB
  rcases h k hk with q | ⟨-, q⟩
  · rw [if_neg (fun z => absurd (q.symm.trans z.1.1.1) (by decide))]
  · rw [if_neg (fun z => z.2 (by rw [q]; exact m1_neg))]
theorem fStill_four {L : xU} {c : Int32} {σ : Nat → Int32} (h : fStill L c σ = true) : fFour L c σ = up σ 90 (σ 90 + 1) := by
  unfold fFour
  rw [fStill_fourK h]
/-- where departing leaves all still, none departed -/
theorem fFour_still {L : xU} {c : Int32} {σ : Nat → Int32} (hB6 : lB L ≤ 6) (h : fStill L c (fFour L c σ) = true) : fFourK L c σ = σ := by
  rw [fStill_iff] at h
  refine xfold_id _ (fun k hk => ?_)
  have key : ∀ m, m ≤ lB L → k < m → xfold m (fFourB L c) σ k = xfold (k + 1) (fFourB L c) σ k := by
    intro m
    induction m with
    | zero => intro _ h; omega
    | succ m ih =>
      intro hm hkm
      by_cases q : m = k
      · subst q; rfl
      · rw [xfold_s, fFourB_fr L c m _ k (by omega)]
        exact ih (by omega) (by omega)
  have low : ∀ m, m ≤ k → xfold m (fFourB L c) σ k = σ k ∧ xfold m (fFourB L c) σ (6 + k) = σ (6 + k) ∧ xfold m (fFourB L c) σ (12 + k) = σ (12 + k) ∧ xfold m (fFourB L c) σ 90 = σ 90 := by
    intro m
    induction m with
    | zero => intro _; exact ⟨rfl, rfl, rfl, rfl⟩
    | succ m ih =>
      intro hm
      obtain ⟨i1, i2, i3, i4⟩ := ih (by omega)
      rw [xfold_s, fFourB_fr L c m _ k (by omega), fFourB_fr L c m _ (6 + k) (by omega), fFourB_fr L c m _ (12 + k) (by omega), fFourB_fr L c m _ 90 (by omega)]
      exact ⟨i1, i2, i3, i4⟩
  obtain ⟨l1, l2, l3, l4⟩ := low k (Nat.le_refl _)
  have fin : fFour L c σ k = xfold (k + 1) (fFourB L c) σ k := by
    unfold fFour
    rw [up_n (by omega)]
    exact key (lB L) (Nat.le_refl _) hk
  rw [xfold_s] at fin
  generalize xfold k (fFourB L c) σ = τ at fin l1 l2 l3 l4
  have eT : fTo L c τ k = fTo L c σ k := by unfold fTo; rw [l2]
  unfold fFourB at fin ⊢
  by_cases hc : ((σ k = 1 ∧ ¬ σ 90 < σ (12 + k)) ∧ ¬ (¬ σ 90 < L 0 3 ∧ ¬ L 0 4 < σ 90)) ∧ ¬ fTo L c σ k < 0
  · exfalso
    rw [if_pos (show ((τ k = 1 ∧ ¬ τ 90 < τ (12 + k)) ∧ ¬ (¬ τ 90 < L 0 3 ∧ ¬ L 0 4 < τ 90)) ∧ ¬ fTo L c τ k < 0 by rw [l1, l3, l4, eT]; exact hc), up_n (show k ≠ 6 + k by omega), up_n (show k ≠ 12 + k by omega), up_s] at fin
    rcases h k hk with q | ⟨q, -⟩
    · rw [fin] at q; exact absurd q (by decide)
    · rw [fin] at q; exact absurd q (by decide)
  · rw [if_neg hc]
/-- all is settled -/
def fSet (L : xU) (c : Int32) (n : Nat) (σ : Nat → Int32) : Prop := fStill L c σ = true ∧ ∀ l, l < n → fVil σ l < 0 ∨ (¬ fVil σ l = σ (58 + l) ∧ σ (28 + l) = -1)
theorem fVil_cg {σ τ : Nat → Int32} {l : Nat} (h1 : τ (38 + l) = σ (38 + l)) (h2 : τ (28 + l) = σ (28 + l)) (h3 : τ (18 + l) = σ (18 + l)) (own : σ (28 + l) = -1 ∨ ∃ b, b < 6 ∧ σ (28 + l) = nI b) (hb : ∀ j, j < 12 → τ j = σ j) : fVil τ l = fVil σ l := by
  unfold fVil
  rw [h1, h2, h3]
  rcases own with q | ⟨b, b1, b2⟩
  · rw [q, if_neg (show ¬ (0 : Int32) ≤ -1 by decide), if_neg (show ¬ (0 : Int32) ≤ -1 by decide)]
  · rw [b2, nc (by omega), hb b (by omega), hb (6 + b) (by omega)]
theorem near_still {L : xU} {c : Int32} (hW : lWok L) {v h t : Nat} (hn : lNx L c v h = -1) (hv : v < lV L) : lM L c v h t = lF L c v t := by
  have hv7 := hW.1
  have e1 : lP L c v h 1 < 0 := by
    show (if nI v < 0 then -1 else lNx L c (nI v).toNatClampNeg h) < 0
    rw [if_neg (nI_nn (by omega)), nc (by omega), hn]
    exact m1_neg
  have : lM L c v h t = lMk L c v h t 1 := lMk_end e1 7 (by omega)
  rw [this, lMk_s]
  have e0 : lP L c v h 0 = nI v := rfl
  have ez : lMk L c v h t 0 = 1000 := rfl
  rw [e0, if_neg (nI_nn (by omega)), nc (by omega), ez]
  by_cases q : lF L c v t < 1000
  · rw [if_pos q]
  · rw [if_neg q]
    have := (lF_ok hW c).1 v t
    rw [ti_lt, k_toInt] at q
    rw [ti_eq, k_toInt]
    omega
theorem best_still {L : xU} {c : Int32} {n l v : Nat} {σ : Nat → Int32} (hW : lWok L) (hB : lBk L) (hv : v < lV L) (own : σ (28 + l) = -1 ∨ ∃ b, b < lB L ∧ σ (28 + l) = nI b ∧ σ b = 1 ∧ σ (6 + b) = nI v) (hs : ∀ b, b < lB L → σ b = 1 → fTo L c σ b = -1) : fBest L c n l v σ = -1 := by
  have hv7 := hW.1
  have hb6 := hB.1
  have near : ∀ b, b < lB L → σ b = 1 → σ (6 + b) = nI v → ∀ t, fNear L c σ b t = lF L c v t := by
    intro b hb h1 h2 t
    have := hs b hb h1
    unfold fTo at this
    unfold fNear
    rw [h2, nc (by omega)] at this ⊢
    exact near_still hW this hv
  have : ∀ k, k ≤ lB L → fBestK L c n l v σ k = (-1, lF L c v (σ (58 + l)).toNatClampNeg) := by
    intro k
    induction k with
    | zero =>
      intro _
      show fBest0 L c l v σ = _
      unfold fBest0
      rcases own with q | ⟨b, b1, b2, b3, b4⟩
      · rw [if_pos (Or.inl (by rw [q]; exact m1_neg))]
      · rw [if_pos (Or.inr (by rw [b2, nc (by omega), near b b1 b3 b4]; exact Int32.le_refl _))]
    | succ k ih =>
      intro hk
      rw [fBestK_s, ih (by omega), if_neg]
      rintro ⟨⟨⟨q1, q2⟩, q3⟩, q4, q5⟩
      rw [near k (by omega) q1 q2] at q5
      exact Int32.lt_irrefl q5
  unfold fBest
  rw [this _ (Nat.le_refl _)]
theorem fSet.hs {L : xU} {c : Int32} {n : Nat} {σ : Nat → Int32} (h : fSet L c n σ) : ∀ b, b < lB L → σ b = 1 → fTo L c σ b = -1 := by
  intro b hb h1
  rcases (fStill_iff L c σ).mp h.1 b hb with q | q
  · rw [h1] at q; exact absurd q (by decide)
  · exact q.2
theorem up_same {σ : Nat → Int32} {k : Nat} {x : Int32} (h : σ k = x) : up σ k x = σ := by
  funext j
  unfold up
  by_cases q : j = k
  · rw [if_pos q, q, h]
  · rw [if_neg q]
theorem fSet.day {L : xU} {c : Int32} {n e : Nat} {σ : Nat → Int32} (hW : lWok L) (hB : lBk L) (hS : gSt L c n e σ) (h : fSet L c n σ) : fDay L c n σ = up σ 90 (σ 90 + 1) := by
  have hv7 := hW.1
  have hb6 := hB.1
  unfold fDay
  rw [fStill_one h.1]
  have t2 : (fTwo n σ).2 = σ := by
    have : ∀ k, k ≤ n → xfold k fTwoL (0, σ) = (0, σ) := by
      intro k
      induction k with
      | zero => intro _; rfl
      | succ k ih =>
        intro hk
        rw [xfold_s, ih (by omega)]
        unfold fTwoL
        rcases h.2 k (by omega) with q | q
        · rw [if_pos (Or.inl q)]
        · rw [if_pos (Or.inr q.1)]
    unfold fTwo
    rw [this n (Nat.le_refl _)]
  rw [t2, fThree_eq hW hB hS]
  have t3 : ∀ k, k ≤ n → fThreeC L c n k σ = σ := by
    intro k
    induction k with
    | zero => intro _; rfl
    | succ k ih =>
      intro hk
      rw [fThreeC_s, ih (by omega)]
      rcases fVil_or hB hS (show k < n by omega) with q | ⟨v, hv, q, -, q4⟩
      · rw [q, if_pos m1_neg]
      · have hvil := q
        rw [q, if_neg (nI_nn (by omega)), nc (by omega)]
        rcases h.2 k (by omega) with z | ⟨-, z⟩
        · rw [q] at z; exact absurd z (nI_nn (by omega))
        · unfold fHand
          rw [best_still hW hB hv (Or.inl z) h.hs]
          unfold fLay
          rw [if_pos m1_neg]
          have e18 : σ (18 + k) = nI v := by
            rcases q4 with ⟨-, y⟩ | ⟨b, y1, y2, -⟩
            · exact y
            · rw [z] at y2; exact absurd y2.symm (nI_m1 (by omega))
          rw [up_same z, up_same e18]
  rw [t3 n (Nat.le_refl _)]
  exact fStill_four h.1
theorem fSet.next {L : xU} {c : Int32} {n e : Nat} {σ : Nat → Int32} (hB : lBk L) (hS : gSt L c n e σ) (h : fSet L c n σ) (x : Int32) : fSet L c n (up σ 90 x) := by
  have hb6 := hB.1
  have n10 := hS.1.2
  refine ⟨fStill_cg hb6 (fun j hj => up_n (by omega)) h.1, fun l hl => ?_⟩
  have own : σ (28 + l) = -1 ∨ ∃ b, b < 6 ∧ σ (28 + l) = nI b := (hS.own hl).imp_right (fun ⟨b, b1, b2⟩ => ⟨b, by omega, b2⟩)
  rw [fVil_cg (τ := up σ 90 x) (up_n (by omega)) (up_n (by omega)) (up_n (by omega)) own (fun j hj => up_n (by omega)), up_n (show 58 + l ≠ 90 by omega), up_n (show 28 + l ≠ 90 by omega)]
  exact h.2 l hl
/-- behind step two no letter is where it is to be -/
theorem fTwo_goal {L : xU} {c : Int32} {n e : Nat} {σ : Nat → Int32} (hB : lBk L) (hS : gSt L c n e σ) : ∀ l, l < n → fVil (fTwo n σ).2 l < 0 ∨ ¬ fVil (fTwo n σ).2 l = (fTwo n σ).2 (58 + l) := by
  have hb6 := hB.1
  have n10 := hS.1.2
  have : ∀ k, k ≤ n → ∀ l, l < k → fVil (xfold k fTwoL (0, σ)).2 l < 0 ∨ ¬ fVil (xfold k fTwoL (0, σ)).2 l = (xfold k fTwoL (0, σ)).2 (58 + l) := by
    intro k
    induction k with
    | zero => intro _ l hl; omega
    | succ k ih =>
      intro hk l hl
      have S1 := fTwoK_st hB hS (show k ≤ n by omega)
      rw [xfold_s]
      generalize hp : xfold k fTwoL (0, σ) = p at *
      have fr := fTwoL_fr k p
      by_cases q : l = k
      · subst q
        unfold fTwoL
        by_cases hc : fVil p.2 l < 0 ∨ ¬ fVil p.2 l = p.2 (58 + l)
        · rw [if_pos hc]; exact hc
        · rw [if_neg hc]
          refine Or.inl ?_
          show fVil (up (up (up p.2 (38 + l) (p.2 90)) (18 + l) (-1)) (28 + l) (-1)) l < 0
          unfold fVil
          rw [up_n (show 38 + l ≠ 28 + l by omega), up_n (show 38 + l ≠ 18 + l by omega), up_s, S1.2.2.1.1, if_neg (nI_nn (by have := S1.2.2.1.2; omega))]
          exact m1_neg
      · have own : p.2 (28 + l) = -1 ∨ ∃ b, b < 6 ∧ p.2 (28 + l) = nI b := (S1.own (show l < n by omega)).imp_right (fun ⟨b, b1, b2⟩ => ⟨b, by omega, b2⟩)
        rw [fVil_cg (fr _ (by omega)) (fr _ (by omega)) (fr _ (by omega)) own (fun j hj => fr j (by omega)), fr (58 + l) (by omega)]
        exact ih (by omega) l (by omega)
  exact this n (Nat.le_refl _)
theorem fDay_set {L : xU} {c : Int32} {n e : Nat} {σ : Nat → Int32} (hW : lWok L) (hB : lBk L) (hS : gSt L c n e σ) (h : fStill L c (fDay L c n σ) = true) : fSet L c n (fDay L c n σ) := by
  have hv7 := hW.1
  have hb6 := hB.1
  have n10 := hS.1.2
  have S1 := fOne_st hW hB hS
  have S2 := fTwo_st hB S1
  have S3 := fThree_st hW hB S2
  have goal2 := fTwo_goal hB S1
  unfold fDay at h ⊢
  generalize hσ2 : (fTwo n (fOne L c σ)).2 = σ2 at *
  have k4 := fFour_still hb6 h
  have e4 : fFour L c (fThree L c n σ2) = up (fThree L c n σ2) 90 (fThree L c n σ2 90 + 1) := by
    unfold fFour
    rw [k4]
  rw [e4] at h ⊢
  have still3 : fStill L c (fThree L c n σ2) = true := fStill_cg hb6 (fun j hj => (up_n (by omega)).symm) h
  have I := fWv_I hW hB S2
  generalize hwv : fWv L σ2 = wv at I
  have fr3 := fThree_fr hW hB S2
  have st2 : ∀ b, b < lB L → σ2 b = 1 → fTo L c σ2 b = -1 := by
    intro b hb h1
    rcases (fStill_iff L c _).mp still3 b hb with q | q
    · rw [fr3 b (by omega), h1] at q; exact absurd q (by decide)
    · have := q.2
      unfold fTo at this ⊢
      rw [fr3 (6 + b) (by omega)] at this
      exact this
  have set3 : fSet L c n (fThree L c n σ2) := by
    refine ⟨still3, ?_⟩
    have I3 : tI L c n e wv (fThree L c n σ2) := by
      rw [fThree_eq hW hB S2, fThreeC_eq hW hB I n (Nat.le_refl _)]
      exact tA_I hW hB I (Nat.le_refl _) (Nat.le_refl _)
    have inn : ∀ k, k ≤ n → ∀ l, l < k → wv l < lV L → fThreeC L c n k σ2 (28 + l) = -1 := by
      intro k
      induction k with
      | zero => intro _ l hl; omega
      | succ k ih =>
        intro hk l hl hw
        have Ik : tI L c n e wv (fThreeC L c n k σ2) := by
          rw [fThreeC_eq hW hB I k (by omega)]
          exact tA_I hW hB I (Nat.le_refl _) (by omega)
        have frk : ∀ j, j < 18 → fThreeC L c n k σ2 j = σ2 j := by
          intro j hj
          have : ∀ m, m ≤ k → fThreeC L c n m σ2 j = σ2 j := by
            intro m
            induction m with
            | zero => intro _; rfl
            | succ m ihm =>
              intro hm
              rw [fThreeC_s]
              split
              · exact ihm (by omega)
              · rw [show fHand L c n m (fVil (fThreeC L c n m σ2) m).toNatClampNeg (fThreeC L c n m σ2) j = fThreeC L c n m σ2 j from fLay_fr _ _ _ _ _ (by omega)]
                exact ihm (by omega)
          exact this k (Nat.le_refl _)
        rw [fThreeC_s]
        by_cases q : l = k
        · subst q
          have hvil := Ik.vil (show l < n by omega) hw
          rw [hvil, if_neg (nI_nn (by omega)), nc (by omega)]
          unfold fHand
          rw [best_still hW hB hw (fVil_own hW hB Ik.1 (by omega) hw hvil).2 (fun b hb h1 => by
            have := st2 b hb (by rw [← frk b (by omega)]; exact h1)
            unfold fTo at this ⊢
            rw [frk (6 + b) (by omega)]
            exact this)]
          unfold fLay
          rw [if_pos m1_neg, up_n (by omega), up_s]
        · have i := ih (by omega) l (by omega) hw
          split
          · exact i
          · rw [show fHand L c n k (fVil (fThreeC L c n k σ2) k).toNatClampNeg (fThreeC L c n k σ2) (28 + l) = fThreeC L c n k σ2 (28 + l) from fLay_fr _ _ _ _ _ (by omega)]
            exact i
    intro l hl
    rcases I3.2 l hl with ⟨w1, w2⟩ | ⟨w1, w2⟩
    · refine Or.inr ⟨?_, by rw [fThree_eq hW hB S2]; exact inn n (Nat.le_refl _) l hl w1⟩
      have v2 := I.vil hl w1
      rcases goal2 l hl with z | z
      · rw [v2] at z; exact absurd z (nI_nn (by omega))
      · rw [w2, fr3 (58 + l) (by omega)]
        rw [v2] at z
        exact z
    · rw [w2]; exact Or.inl m1_neg
  exact set3.next hB S3 _
/-- days on end -/
def fRun (L : xU) (c : Int32) (n : Nat) : Nat → (Nat → Int32) → (Nat → Int32)
  | 0, σ => σ
  | m + 1, σ => fRun L c n m (fDay L c n σ)
theorem fRun_set {L : xU} {c : Int32} {n : Nat} (hW : lWok L) (hB : lBk L) : ∀ m e σ, e + m ≤ 300 → gSt L c n e σ → fSet L c n σ → ∀ j, j ≠ 90 → fRun L c n m σ j = σ j := by
  intro m
  induction m with
  | zero => intro e σ _ _ _ j _; rfl
  | succ m ih =>
    intro e σ he hS h j hj
    rw [fRun, h.day hW hB hS, ih (e + 1) _ (by omega) (hS.day hB (by omega)) (h.next hB hS _) j hj, up_n hj]
theorem fRun_st {L : xU} {c : Int32} {n : Nat} (hW : lWok L) (hB : lBk L) : ∀ m e σ, e + m ≤ 300 → gSt L c n e σ → gSt L c n (e + m) (fRun L c n m σ) := by
  intro m
  induction m with
  | zero => intro e σ _ h; exact h
  | succ m ih =>
    intro e σ he h
    have := ih (e + 1) _ (by omega) (fDay_st hW hB h (by omega))
    rw [show e + 1 + m = e + (m + 1) by omega] at this
    exact this
