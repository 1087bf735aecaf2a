/-! LETTERS over days: handed or not -/
theorem fBuryK_in {b : Nat} {v : Int32} {σ : Nat → Int32} {n l : Nat} (hn : n ≤ 10) (hl : l < 10) (h : ¬ σ (28 + l) = nI b) : fBuryK n b v σ (28 + l) = σ (28 + l) ∧ fBuryK n b v σ (18 + l) = σ (18 + l) := by
  rw [fBury_at _ _ _ n hn, fBury_at _ _ _ n hn, if_neg (fun q => h q.2.2), if_neg (by omega), if_neg (by omega), if_neg (fun q => h (by rw [show 28 + l = 18 + l + 10 by omega]; exact q.2.2))]
  exact ⟨rfl, rfl⟩
theorem fOne_out {L : xU} {c : Int32} {n e l : Nat} {σ : Nat → Int32} (hW : lWok L) (hB : lBk L) (hS : gSt L c n e σ) (hl : l < n) (h : σ (28 + l) = -1) : fOne L c σ (28 + l) = -1 ∧ fOne L c σ (18 + l) = σ (18 + l) := by
  have hb6 := hB.1
  have n10 := hS.1.2
  have com : ∀ b v τ, b < 6 → gSt L c n e τ → τ (28 + l) = -1 → fCome L c b v τ (28 + l) = -1 ∧ fCome L c b v τ (18 + l) = τ (18 + l) := by
    intro b v τ hb S h
    unfold fCome
    have ev : ∀ j x, 18 ≤ j → up (up (up τ b 1) (6 + b) (nI v)) (12 + b) x j = τ j := fun j x hj => by rw [up_n (by omega), up_n (by omega), up_n (by omega)]
    split
    · rw [S.1.1, nc (by omega)]
      have ev2 : ∀ j x, 18 ≤ j → up (up (up (up (up τ b 1) (6 + b) (nI v)) (12 + b) x) b 3) (12 + b) (-1) j = τ j := fun j x hj => by rw [up_n (by omega), up_n (by omega), ev j x hj]
      have := fBuryK_in (b := b) (v := nI v) (σ := up (up (up (up (up τ b 1) (6 + b) (nI v)) (12 + b) (τ 90 + fWt L c τ b v)) b 3) (12 + b) (-1)) n10 (show l < 10 by omega) (by rw [ev2 _ _ (by omega), h]; exact fun z => nI_m1 (by omega) z.symm)
      rw [this.1, this.2, ev2 _ _ (by omega), ev2 _ _ (by omega)]
      exact ⟨h, rfl⟩
    · rw [ev _ _ (by omega), ev _ _ (by omega)]
      exact ⟨h, rfl⟩
  have : ∀ k, k ≤ lB L → xfold k (fOneB L c) σ (28 + l) = -1 ∧ xfold k (fOneB L c) σ (18 + l) = σ (18 + l) := by
    intro k
    induction k with
    | zero => intro _; exact ⟨h, rfl⟩
    | succ k ih =>
      intro hk
      obtain ⟨i1, i2⟩ := ih (by omega)
      have S1 := fOneK_st hW hB hS (show k ≤ lB L by omega)
      rw [xfold_s]
      generalize xfold k (fOneB L c) σ = σ1 at i1 i2 S1 ⊢
      unfold fOneB
      split
      · have := com k (L 4 k).toNatClampNeg σ1 (by omega) S1 i1; exact ⟨this.1, this.2.trans i2⟩
      · split
        · have := com k (σ1 (6 + k)).toNatClampNeg σ1 (by omega) S1 i1; exact ⟨this.1, this.2.trans i2⟩
        · exact ⟨i1, i2⟩
  exact this (lB L) (Nat.le_refl _)
/-- step two touches a letter once -/
theorem fTwo_at {L : xU} {c : Int32} {n e : Nat} {σ : Nat → Int32} (hB : lBk L) (hS : gSt L c n e σ) {l : Nat} (hl : l < n) : (fTwo n σ).2 (28 + l) = (if fVil σ l < 0 ∨ ¬ fVil σ l = σ (58 + l) then σ (28 + l) else -1) ∧ (fTwo n σ).2 (18 + l) = (if fVil σ l < 0 ∨ ¬ fVil σ l = σ (58 + l) then σ (18 + l) else -1) ∧ (fTwo n σ).2 (38 + l) = (if fVil σ l < 0 ∨ ¬ fVil σ l = σ (58 + l) then σ (38 + l) else σ 90) := by
  have hb6 := hB.1
  have n10 := hS.1.2
  have own : σ (28 + l) = -1 ∨ ∃ b, b < 6 ∧ σ (28 + l) = nI b := (hS.own hl).imp_right (fun ⟨b, b1, b2⟩ => ⟨b, by omega, b2⟩)
  have lo : ∀ k, k ≤ l → ∀ j, (j < 18 ∨ j = 18 + l ∨ j = 28 + l ∨ j = 38 + l ∨ 48 ≤ j) → (xfold k fTwoL (0, σ)).2 j = σ j := by
    intro k
    induction k with
    | zero => intro _ j _; rfl
    | succ k ih =>
      intro hk j hj
      rw [xfold_s, fTwoL_fr k _ j (by omega)]
      exact ih (by omega) j hj
  have mid : (xfold (l + 1) fTwoL (0, σ)).2 (28 + l) = (if fVil σ l < 0 ∨ ¬ fVil σ l = σ (58 + l) then σ (28 + l) else -1) ∧ (xfold (l + 1) fTwoL (0, σ)).2 (18 + l) = (if fVil σ l < 0 ∨ ¬ fVil σ l = σ (58 + l) then σ (18 + l) else -1) ∧ (xfold (l + 1) fTwoL (0, σ)).2 (38 + l) = (if fVil σ l < 0 ∨ ¬ fVil σ l = σ (58 + l) then σ (38 + l) else σ 90) := by
    have f := lo l (Nat.le_refl _)
    rw [xfold_s]
    generalize xfold l fTwoL (0, σ) = p at f ⊢
    have ev : fVil p.2 l = fVil σ l := fVil_cg (f _ (by omega)) (f _ (by omega)) (f _ (by omega)) own (fun j hj => f j (by omega))
    unfold fTwoL
    rw [ev, f (58 + l) (by omega)]
    by_cases q : fVil σ l < 0 ∨ ¬ fVil σ l = σ (58 + l)
    · rw [if_pos q, if_pos q, if_pos q, if_pos q, f _ (by omega), f _ (by omega), f _ (by omega)]; exact ⟨rfl, rfl, rfl⟩
    · rw [if_neg q, if_neg q, if_neg q, if_neg q]
      show up (up (up p.2 (38 + l) (p.2 90)) (18 + l) (-1)) (28 + l) (-1) (28 + l) = -1 ∧ up (up (up p.2 (38 + l) (p.2 90)) (18 + l) (-1)) (28 + l) (-1) (18 + l) = -1 ∧ up (up (up p.2 (38 + l) (p.2 90)) (18 + l) (-1)) (28 + l) (-1) (38 + l) = σ 90
      rw [up_s, up_n (show 18 + l ≠ 28 + l by omega), up_s, up_n (show 38 + l ≠ 28 + l by omega), up_n (show 38 + l ≠ 18 + l by omega), up_s, f 90 (by omega)]
      exact ⟨rfl, rfl, rfl⟩
  have hi : ∀ k, l + 1 ≤ k → k ≤ n → ∀ j, (j = 18 + l ∨ j = 28 + l ∨ j = 38 + l) → (xfold k fTwoL (0, σ)).2 j = (xfold (l + 1) fTwoL (0, σ)).2 j := by
    intro k
    induction k with
    | zero => intro h; omega
    | succ k ih =>
      intro h hk j hj
      by_cases q : k = l
      · subst q; rfl
      · rw [xfold_s, fTwoL_fr k _ j (by omega)]
        exact ih (by omega) (by omega) j hj
  unfold fTwo
  rw [hi n (by omega) (Nat.le_refl _) _ (Or.inr (Or.inl rfl)), hi n (by omega) (Nat.le_refl _) _ (Or.inl rfl), hi n (by omega) (Nat.le_refl _) _ (Or.inr (Or.inr rfl))]
  exact mid
/-- step three touches a letter once -/
theorem fThree_at {L : xU} {c : Int32} {n e : Nat} {σ : Nat → Int32} (hW : lWok L) (hB : lBk L) (hS : gSt L c n e σ) {l : Nat} (hl : l < n) : (fVil σ l = -1 ∧ ∀ j, (j = 18 + l ∨ j = 28 + l ∨ j = 48 + l) → fThree L c n σ j = σ j) ∨ (∃ v x, v < lV L ∧ fVil σ l = nI v ∧ (x = -1 ∨ ∃ b, b < lB L ∧ x = nI b ∧ σ b = 1 ∧ σ (6 + b) = nI v) ∧ ∀ j, (j = 18 + l ∨ j = 28 + l ∨ j = 48 + l) → fThree L c n σ j = fLay l v x σ j) := by
  have hv7 := hW.1
  have n10 := hS.1.2
  have I := fWv_I hW hB hS
  generalize fWv L σ = wv at I
  have Ik : ∀ k, k ≤ n → tI L c n e wv (fThreeC L c n k σ) := fun k hk => by
    rw [fThreeC_eq hW hB I k hk]
    exact tA_I hW hB I (Nat.le_refl _) hk
  have lo : ∀ k, k ≤ l → ∀ j, (j < 18 ∨ j = 18 + l ∨ j = 28 + l ∨ j = 48 + l ∨ 58 ≤ j) → fThreeC L c n k σ j = σ j := by
    intro k
    induction k with
    | zero => intro _ j _; rfl
    | succ k ih =>
      intro hk j hj
      rw [fThreeC_s]
      split
      · exact ih (by omega) j hj
      · rw [show fHand L c n k (fVil (fThreeC L c n k σ) k).toNatClampNeg (fThreeC L c n k σ) j = fThreeC L c n k σ j from fLay_fr _ _ _ _ j (by omega)]
        exact ih (by omega) j hj
  have hi : ∀ k, l + 1 ≤ k → k ≤ n → ∀ j, (j = 18 + l ∨ j = 28 + l ∨ j = 48 + l) → fThreeC L c n k σ j = fThreeC L c n (l + 1) σ j := by
    intro k
    induction k with
    | zero => intro h; omega
    | succ k ih =>
      intro h hk j hj
      by_cases q : k = l
      · subst q; rfl
      · rw [fThreeC_s]
        split
        · exact ih (by omega) (by omega) j hj
        · rw [show fHand L c n k (fVil (fThreeC L c n k σ) k).toNatClampNeg (fThreeC L c n k σ) j = fThreeC L c n k σ j from fLay_fr _ _ _ _ j (by omega)]
          exact ih (by omega) (by omega) j hj
  rw [fThree_eq hW hB hS]
  have Il := Ik l (by omega)
  have f := lo l (Nat.le_refl _)
  have h2 := hi n (by omega) (Nat.le_refl _)
  rw [fThreeC_s] at h2
  generalize fThreeC L c n l σ = τ at Il f h2
  rcases I.2 l hl with ⟨w1, w2⟩ | ⟨w1, w2⟩
  · right
    have hv := Il.vil hl w1
    rw [hv, if_neg (nI_nn (by omega)), nc (by omega)] at h2
    refine ⟨wv l, fBest L c n l (wv l) τ, w1, w2, ?_, fun j hj => ?_⟩
    · rcases fBest_or hW hB Il.1 hl w1 hv with q | ⟨b, q1, q2, q3, q4, -⟩
      · exact Or.inl q
      · have := hB.1
        exact Or.inr ⟨b, q1, q2, (f b (by omega)).symm.trans q3, (f (6 + b) (by omega)).symm.trans q4⟩
    · rw [h2 j hj]
      unfold fHand
      exact fLay_cg (f _ (by omega)) (f _ (by omega)) (f _ (by omega)) hj
  · left
    refine ⟨w2, fun j hj => ?_⟩
    have : fVil τ l = -1 := by
      rcases Il.2 l hl with ⟨y1, -⟩ | ⟨-, y⟩
      · omega
      · exact y
    rw [this, if_pos m1_neg] at h2
    rw [h2 j hj, f j (by omega)]
/-- a letter in a pile that isn't handed stays, or comes home -/
def lA (σ : Nat → Int32) (l : Nat) (x : Int32) : Prop := σ (28 + l) = -1 ∧ ((σ (38 + l) = -1 ∧ σ (18 + l) = x) ∨ (¬ σ (38 + l) = -1 ∧ σ (18 + l) = -1))
theorem fDay_hand {L : xU} {c : Int32} {n e : Nat} {σ : Nat → Int32} (hW : lWok L) (hB : lBk L) (hS : gSt L c n e σ) {l : Nat} (hl : l < n) : ∃ k, k ≤ 1 ∧ fDay L c n σ (48 + l) = σ (48 + l) + nI k ∧ (k = 0 → ∀ x, lA σ l x → lA (fDay L c n σ) l x) := by
  have hv7 := hW.1
  have hb6 := hB.1
  have n10 := hS.1.2
  have S1 := fOne_st hW hB hS
  have S2 := fTwo_st hB S1
  have f4 := fFour_fr (c := c) (σ := fThree L c n (fTwo n (fOne L c σ)).2) hB
  have f3 := fThree_fr hW hB S2
  have f2 := fTwo_fr (σ := fOne L c σ) n10
  have f1 := fOne_fr hW hB hS
  have e48 : (fTwo n (fOne L c σ)).2 (48 + l) = σ (48 + l) := (f2 _ (by omega)).trans (f1 _ (by omega))
  unfold fDay
  rw [f4 (48 + l) (by omega)]
  have A2 : ∀ x, lA σ l x → lA (fTwo n (fOne L c σ)).2 l x := by
    intro x ⟨a1, a2⟩
    obtain ⟨t1, t2, t3⟩ := fTwo_at hB S1 hl
    obtain ⟨o1, o2⟩ := fOne_out hW hB hS hl a1
    unfold lA
    rw [t1, t2, t3, o1, o2, f1 (38 + l) (by omega)]
    by_cases q : fVil (fOne L c σ) l < 0 ∨ ¬ fVil (fOne L c σ) l = fOne L c σ (58 + l)
    · rw [if_pos q, if_pos q, if_pos q]; exact ⟨rfl, a2⟩
    · rw [if_neg q, if_neg q, if_neg q]
      refine ⟨rfl, Or.inr ⟨?_, rfl⟩⟩
      rw [S1.2.2.1.1]
      exact nI_m1 (by have := S1.2.2.1.2; omega)
  rcases fThree_at hW hB S2 hl with ⟨v1, v2⟩ | ⟨v, x, hv, v1, v2, v3⟩
  · refine ⟨0, by omega, ?_, fun _ y hy => ?_⟩
    · rw [v2 _ (Or.inr (Or.inr rfl)), e48]; exact (Int32.add_zero _).symm
    · unfold lA
      rw [f4 (28 + l) (by omega), f4 (38 + l) (by omega), f4 (18 + l) (by omega), v2 _ (Or.inr (Or.inl rfl)), v2 _ (Or.inl rfl)]
      by_cases z : 38 + l < 58
      · have e38 : fThree L c n (fTwo n (fOne L c σ)).2 (38 + l) = (fTwo n (fOne L c σ)).2 (38 + l) := by
          rw [fThree_eq hW hB S2]
          have : ∀ k, k ≤ n → fThreeC L c n k (fTwo n (fOne L c σ)).2 (38 + l) = (fTwo n (fOne L c σ)).2 (38 + l) := by
            intro k
            induction k with
            | zero => intro _; rfl
            | succ k ih =>
              intro hk
              rw [fThreeC_s]
              split
              · exact ih (by omega)
              · rw [show fHand L c n k (fVil (fThreeC L c n k (fTwo n (fOne L c σ)).2) k).toNatClampNeg (fThreeC L c n k (fTwo n (fOne L c σ)).2) (38 + l) = fThreeC L c n k (fTwo n (fOne L c σ)).2 (38 + l) from fLay_fr _ _ _ _ _ (by omega)]
                exact ih (by omega)
          exact this n (Nat.le_refl _)
        rw [e38]
        exact A2 y hy
      · omega
  · have e38 : fThree L c n (fTwo n (fOne L c σ)).2 (38 + l) = (fTwo n (fOne L c σ)).2 (38 + l) := by
      rw [fThree_eq hW hB S2]
      have : ∀ k, k ≤ n → fThreeC L c n k (fTwo n (fOne L c σ)).2 (38 + l) = (fTwo n (fOne L c σ)).2 (38 + l) := by
        intro k
        induction k with
        | zero => intro _; rfl
        | succ k ih =>
          intro hk
          rw [fThreeC_s]
          split
          · exact ih (by omega)
          · rw [show fHand L c n k (fVil (fThreeC L c n k (fTwo n (fOne L c σ)).2) k).toNatClampNeg (fThreeC L c n k (fTwo n (fOne L c σ)).2) (38 + l) = fThreeC L c n k (fTwo n (fOne L c σ)).2 (38 + l) from fLay_fr _ _ _ _ _ (by omega)]
            exact ih (by omega)
      exact this n (Nat.le_refl _)
    rw [v3 _ (Or.inr (Or.inr rfl))]
    have keep : ∀ y, lA σ l y → (∀ j, (j = 18 + l ∨ j = 28 + l) → fLay l v x (fTwo n (fOne L c σ)).2 j = (fTwo n (fOne L c σ)).2 j) → lA (fFour L c (fThree L c n (fTwo n (fOne L c σ)).2)) l y := by
      intro y hy hj
      unfold lA
      rw [f4 (28 + l) (by omega), f4 (38 + l) (by omega), f4 (18 + l) (by omega), v3 _ (Or.inr (Or.inl rfl)), v3 _ (Or.inl rfl), e38, hj _ (Or.inl rfl), hj _ (Or.inr rfl)]
      exact A2 y hy
    rcases v2 with rfl | ⟨b, b1, rfl, b3, b4⟩
    · refine ⟨0, by omega, ?_, fun _ y hy => keep y hy (fun j hj => ?_)⟩
      · unfold fLay
        rw [if_pos m1_neg, up_n (by omega), up_n (by omega), e48]
        exact (Int32.add_zero _).symm
      · have h2 := A2 y hy
        unfold fLay
        rw [if_pos m1_neg]
        rcases fVil_or hB S2 hl with q | ⟨v', w1, w2, w3, w4⟩
        · rw [q] at v1; exact absurd v1.symm (nI_m1 (by omega))
        · rw [v1] at w2
          have : v = v' := nI_inv (by omega) (by omega) w2
          subst this
          have h18 : (fTwo n (fOne L c σ)).2 (18 + l) = nI v := by
            rcases w4 with ⟨-, z⟩ | ⟨b, z1, z2, -⟩
            · exact z
            · rw [h2.1] at z2; exact absurd z2.symm (nI_m1 (by omega))
          rw [up_same h2.1, up_same h18]
    · by_cases z : (fTwo n (fOne L c σ)).2 (28 + l) = nI b
      · refine ⟨0, by omega, ?_, fun _ y hy => ?_⟩
        · unfold fLay fPut
          rw [if_neg (nI_nn (by omega)), if_pos z, e48]
          exact (Int32.add_zero _).symm
        · have h2 := A2 y hy
          exact absurd (z.symm.trans h2.1) (nI_m1 (by omega))
      · refine ⟨1, by omega, ?_, fun h => by omega⟩
        unfold fLay fPut
        rw [if_neg (nI_nn (by omega)), if_neg z, up_s, e48]
        rfl
theorem fRun_hand {L : xU} {c : Int32} {n : Nat} (hW : lWok L) (hB : lBk L) {l : Nat} (hl : l < n) : ∀ m e σ, e + m ≤ 300 → gSt L c n e σ → ∃ k, k ≤ m ∧ fRun L c n m σ (48 + l) = σ (48 + l) + nI k ∧ (k = 0 → ∀ x, lA σ l x → lA (fRun L c n m σ) l x) := by
  intro m
  induction m with
  | zero => intro e σ _ _; exact ⟨0, by omega, (Int32.add_zero _).symm, fun _ _ h => h⟩
  | succ m ih =>
    intro e σ he hS
    obtain ⟨k1, a1, a2, a3⟩ := fDay_hand hW hB hS hl
    obtain ⟨k2, b1, b2, b3⟩ := ih (e + 1) _ (by omega) (fDay_st hW hB hS (by omega))
    refine ⟨k1 + k2, by omega, ?_, fun h x hx => b3 (by omega) x (a3 (by omega) x hx)⟩
    rw [fRun, b2, a2, Int32.add_assoc, nI_add]
/-- stuck, in the class's words and in the reference's -/
theorem stuck_iff {L : xU} {c : Int32} {n e m : Nat} {σ : Nat → Int32} (hW : lWok L) (hB : lBk L) (he : e + m ≤ 300) (hS : gSt L c n e σ) {l : Nat} (hl : l < n) : (¬ σ (18 + l) = -1 ∧ (fRun L c n m σ (38 + l) = -1 ∧ fRun L c n m σ (48 + l) = σ (48 + l))) ↔ (¬ σ (18 + l) < 0 ∧ (fRun L c n m σ (18 + l) = σ (18 + l) ∧ fRun L c n m σ (48 + l) = σ (48 + l))) := by
  have hv7 := hW.1
  have SE := fRun_st hW hB m e σ he hS
  obtain ⟨k, k1, k2, k3⟩ := fRun_hand hW hB hl m e σ he hS
  obtain ⟨-, l2⟩ := hS.2.2.2.2.1 l hl
  obtain ⟨-, lE⟩ := SE.2.2.2.2.1 l hl
  have hand0 : fRun L c n m σ (48 + l) = σ (48 + l) → k = 0 := by
    intro h
    rw [k2] at h
    have : nI k = 0 := by
      have e1 : σ (48 + l) + nI k - σ (48 + l) = σ (48 + l) - σ (48 + l) := by rw [h]
      rw [Int32.sub_self, Int32.add_comm, Int32.add_sub_cancel] at e1
      exact e1
    exact nI_inv (by omega) (by omega) this
  rcases l2 with ⟨q1, q2, v, q3, q4⟩ | ⟨b, q1, q2, q3, q4, q5⟩ | ⟨q1, q2, x, q3, q4⟩
  · rw [q4]
    have a0 : lA σ l (nI v) := ⟨q1, Or.inl ⟨q2, q4⟩⟩
    refine ⟨fun ⟨h1, h2, h3⟩ => ⟨nI_nn (by omega), ?_, h3⟩, fun ⟨h1, h2, h3⟩ => ⟨nI_m1 (by omega), ?_, h3⟩⟩
    · rcases (k3 (hand0 h3) _ a0).2 with z | z
      · exact z.2
      · exact absurd h2 z.1
    · rcases (k3 (hand0 h3) _ a0).2 with z | z
      · exact z.1
      · rw [h2] at z; exact absurd z.2 (nI_m1 (by omega))
  · rw [q5]
    exact ⟨fun h => absurd rfl h.1, fun h => absurd m1_neg h.1⟩
  · rw [q2]
    exact ⟨fun h => absurd rfl h.1, fun h => absurd m1_neg h.1⟩
