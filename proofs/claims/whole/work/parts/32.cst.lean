/-! A STATE of the class at s: it shows a row -/
def kSt (L : xU) (n : Nat) (u : xU) (s : Nat) (σ T : Nat → Int32) : Prop :=
  (u s 0 = σ 90 ∧ u s 1 = σ 89 ∧ u s 2 = σ 88) ∧ (∀ b, b < 6 → u (s + 1) b = σ b) ∧
  (∀ b, b < lB L → u (s + 2) b = σ (6 + b) ∧ (¬ σ b = 3 → u (s + 3) b = σ (12 + b)) ∧ (σ b = 3 → u (s + 3) b = T b) ∧ u (s + 4) b = nI (fIn n σ b)) ∧
  (∀ l, l < n → (u (s + 5) l = σ (18 + l) ∧ u (s + 6) l = σ (28 + l) ∧ u (s + 7) l = σ (38 + l) ∧ u (s + 11) l = σ (48 + l)) ∧ u (s + 8) l = σ (58 + l) ∧ u (s + 9) l = σ (68 + l) ∧ u (s + 10) l = σ (78 + l))
abbrev fSt (s : Nat) : Nat → Prop := fun b => s ≤ b ∧ b ≤ s + 11
theorem kSt.kept {L : xU} {n : Nat} {u u' : xU} {s : Nat} {σ T : Nat → Int32} (h : kSt L n u s σ T) {F : Nat → Prop} (hs : xSm F u u') (hF : ∀ b, s ≤ b → b ≤ s + 11 → ¬ F b) : kSt L n u' s σ T := by
  obtain ⟨⟨a1, a2, a3⟩, b1, b2, b3⟩ := h
  have e : ∀ k i, k ≤ 11 → u' (s + k) i = u (s + k) i := fun k i hk => hs _ _ (hF _ (by omega) (by omega))
  have e0 : ∀ i, u' s i = u s i := fun i => e 0 i (by omega)
  refine ⟨⟨(e0 _).trans a1, (e0 _).trans a2, (e0 _).trans a3⟩, fun b hb => (e 1 b (by omega)).trans (b1 b hb), fun b hb => ?_, fun l hl => ?_⟩
  · rw [e 2 b (by omega), e 3 b (by omega), e 4 b (by omega)]; exact b2 b hb
  · rw [e 5 l (by omega), e 6 l (by omega), e 7 l (by omega), e 8 l (by omega), e 9 l (by omega), e 10 l (by omega), e 11 l (by omega)]; exact b3 l hl
theorem kSt.cg {L : xU} {n : Nat} {u : xU} {s : Nat} {σ τ T : Nat → Int32} (h : kSt L n u s σ T) (e : ∀ j, j < 91 → τ j = σ j) (hB : lB L ≤ 6) (hn : n ≤ 10) : kSt L n u s τ T := by
  obtain ⟨⟨a1, a2, a3⟩, b1, b2, b3⟩ := h
  have ef : ∀ b, fIn n τ b = fIn n σ b := fun b => cn_congr (fun i hi => by rw [e _ (by omega)])
  refine ⟨⟨a1.trans (e _ (by omega)).symm, a2.trans (e _ (by omega)).symm, a3.trans (e _ (by omega)).symm⟩, fun b hb => (b1 b hb).trans (e _ (by omega)).symm, fun b hb => ?_, fun l hl => ?_⟩
  · rw [e b (by omega), e (6 + b) (by omega), e (12 + b) (by omega), ef]; exact b2 b hb
  · rw [e (18 + l) (by omega), e (28 + l) (by omega), e (38 + l) (by omega), e (48 + l) (by omega), e (58 + l) (by omega), e (68 + l) (by omega), e (78 + l) (by omega)]; exact b3 l hl
/-- how the number inside changes when one letter's bier does -/
theorem fIn_chg {σ τ : Nat → Int32} {l : Nat} (b : Nat) (h : ∀ i, i < 20 → i ≠ l → τ (28 + i) = σ (28 + i)) : ∀ n, n ≤ 20 → l < n → fIn n τ b + (if σ (28 + l) = nI b then 1 else 0) = fIn n σ b + (if τ (28 + l) = nI b then 1 else 0) := by
  have low : ∀ n, n ≤ 20 → n ≤ l → fIn n τ b = fIn n σ b := fun n h20 hn => cn_congr (fun i hi => by rw [h i (by omega) (by omega)])
  intro n
  induction n with
  | zero => intro _ h; omega
  | succ n ih =>
    intro h20 hl
    unfold fIn
    rw [cn_s, cn_s]
    by_cases q : l = n
    · subst q
      have := low l (by omega) (Nat.le_refl _)
      unfold fIn at this
      rw [this]
      by_cases h1 : σ (28 + l) = nI b <;> by_cases h2 : τ (28 + l) = nI b <;> simp [h1, h2]
    · have := ih (by omega) (by omega)
      unfold fIn at this
      rw [h n (by omega) (fun z => q z.symm)]
      by_cases h1 : σ (28 + n) = nI b
      · rw [if_pos (decide_eq_true h1), if_pos (decide_eq_true h1)]; omega
      · rw [decide_eq_false h1]; simpa using this
section CST
variable {g : xGT} {d : Nat} {w : xW} {r : xQ} {L : xU} {c : Int32} {s : Nat}
theorem K_standsIn {u : xU} (h_s : xSt s) (q_s : xSr s r) {b : Nat} (hb : b < 6) : xCall g d mX9_standsIn [.ref s, .int (nI b)] 698 u w r 698 (xPr (if u (s + 1) b = 1 then u (s + 2) b else -1) u w r) := by
  refine CX9_standsIn h_s q_s ⟨fun _ => vpn hb (by omega), fun _ => vpn hb (by omega), ?_, rfl, rfl, rfl⟩
  rw [nc (by omega)]
  have : ¬ xb (¬ (nI b < 0) ∧ ¬ ((6 : Int32) ≤ nI b)) = 0 := by
    rw [xb_eq0, Classical.not_not]
    exact ⟨nI_nn (by omega), nI_ge (b := 6) (by omega) (by omega)⟩
  by_cases q : u (s + 1) b = 1
  · rw [if_pos ⟨this, q⟩, if_pos q]
  · rw [if_neg (fun z => q z.2), if_neg q]
theorem K_standsIn_none {u : xU} (h_s : xSt s) (q_s : xSr s r) : xCall g d mX9_standsIn [.ref s, .int (-1)] 698 u w r 698 (xPr (-1) u w r) := by
  have : ¬ ¬ xb (¬ ((-1 : Int32) < 0) ∧ ¬ ((6 : Int32) ≤ -1)) = 0 := by decide
  refine CX9_standsIn h_s q_s ⟨fun z => absurd z this, fun z => absurd z.1 this, ?_, rfl, rfl, rfl⟩
  rw [if_neg (fun z => this z.1)]
theorem K_stands {u : xU} {n : Nat} {σ T : Nat → Int32} (h_s : xSt s) (q_s : xSr s r) (hk : kSt L n u s σ T) {b : Nat} (hb : b < lB L) (hB6 : lB L ≤ 6) : xCall g d mX9_standsIn [.ref s, .int (nI b)] 698 u w r 698 (xPr (if σ b = 1 then σ (6 + b) else -1) u w r) := by
  have := K_standsIn (g := g) (d := d) (w := w) (u := u) h_s q_s (show b < 6 by omega)
  rw [hk.2.1 b (by omega), (hk.2.2.1 b hb).1] at this
  exact this
theorem K_spotOf {u : xU} {n e : Nat} {σ T : Nat → Int32} (h_s : xSt s) (q_s : xSr s r) (hB : lBk L) (hW : lWok L) (hk : kSt L n u s σ T) (hS : gSt L c n e σ) {l : Nat} (hl : l < n) : xCall g (d + 1) mX9_spotOf [.ref s, .int (nI l)] 698 u w r 698 (xPr (fVil σ l) u w r) := by
  have n10 := hS.1.2
  have hb6 := hB.1
  have hv7 := hW.1
  obtain ⟨⟨k1, k2, k3, k4⟩, -⟩ := hk.2.2.2 l hl
  refine CX9_spotOf h_s q_s ⟨vpn (by omega) (by omega), ?_⟩
  rw [nc (by omega), k1, k2]
  obtain ⟨-, l2⟩ := hS.2.2.2.2.1 l hl
  rcases l2 with ⟨q1, q2, v, q3, q4⟩ | ⟨b, q1, q2, q3, q4, q5⟩ | ⟨q1, q2, x, q3, q4⟩
  · rw [q4]
    refine brF (nI_m1 (by omega)) ⟨?_, rfl, rfl, rfl⟩
    unfold fVil
    rw [q2, if_pos m1_neg, q1, if_neg (by decide), q4]
  · rw [q5, q2]
    refine brT rfl (xPr.use (K_stands h_s q_s hk q1 hb6) ⟨_, rfl, rfl, rfl, rfl, ?_, rfl, rfl, rfl⟩)
    unfold fVil
    rw [q4, if_pos m1_neg, q2, if_pos (Int32.not_lt.mp (nI_nn (by omega))), nc (by omega)]
  · rw [q2, q1]
    refine brT rfl (xPr.use (K_standsIn_none h_s q_s) ⟨_, rfl, rfl, rfl, rfl, ?_, rfl, rfl, rfl⟩)
    unfold fVil
    rw [q4, if_neg (nI_nn (by omega))]
theorem K_comeOutOf {u : xU} (h_s : xSt s) (q_s : xSr s r) {b : Nat} (hb : b < 6) : xCall g d mX9_comeOutOf [.ref s, .int (nI b)] 698 u w r 698 (xVd (fun u' => u' = x2 u (s + 4) b (u (s + 4) b - 1)) w r) := by
  refine CX9_comeOutOf h_s q_s (brT ⟨nI_nn (by omega), nI_ge (b := 6) (by omega) (by omega)⟩ ⟨vpn hb (by omega), ?_⟩)
  rw [nc (by omega)]
  exact ⟨rfl, rfl, rfl, rfl⟩
theorem K_comeOutOf_none {u : xU} (h_s : xSt s) (q_s : xSr s r) : xCall g d mX9_comeOutOf [.ref s, .int (-1)] 698 u w r 698 (xVd (fun u' => u' = u) w r) :=
  CX9_comeOutOf h_s q_s (brF (fun q => q.1 m1_neg) ⟨rfl, rfl, rfl, rfl⟩)
/-- the letter's own bier, if any -/
def kOwn (L : xU) (σ : Nat → Int32) (l : Nat) : Prop := σ (28 + l) = -1 ∨ ∃ b, b < lB L ∧ σ (28 + l) = nI b
theorem gSt.own {n e : Nat} {σ : Nat → Int32} (h : gSt L c n e σ) {l : Nat} (hl : l < n) : kOwn L σ l := by
  obtain ⟨-, l2⟩ := h.2.2.2.2.1 l hl
  rcases l2 with ⟨q, -⟩ | ⟨b, q1, q2, -⟩ | ⟨q, -⟩
  · exact Or.inl q
  · exact Or.inr ⟨b, q1, q2⟩
  · exact Or.inl q
/-- coming out of the own bier: the loads -/
theorem K_outOf {u : xU} {n : Nat} {σ T : Nat → Int32} (h_s : xSt s) (q_s : xSr s r) (hB6 : lB L ≤ 6) (hk : kSt L n u s σ T) {l : Nat} (ho : kOwn L σ l) : xCall g d mX9_comeOutOf [.ref s, .int (σ (28 + l))] 698 u w r 698 (xVd (fun u' => xSm (fun b => b = s + 4) u u' ∧ ∀ b, b < lB L → u' (s + 4) b = nI (fIn n σ b) - (if σ (28 + l) = nI b then 1 else 0)) w r) := by
  rcases ho with q | ⟨b, q1, q2⟩
  · rw [q]
    refine xVd.use (K_comeOutOf_none h_s q_s) (fun u1 h1 => ⟨rfl, ⟨?_, fun b hb => ?_⟩, rfl, rfl⟩)
    · rw [h1]; exact xSm.rf
    · rw [h1, (hk.2.2.1 b hb).2.2.2, if_neg (fun z => nI_m1 (by omega) z.symm), Int32.sub_zero]
  · rw [q2]
    refine xVd.use (K_comeOutOf h_s q_s (by omega)) (fun u1 h1 => ⟨rfl, ⟨?_, fun b' hb' => ?_⟩, rfl, rfl⟩)
    · rw [h1]; exact xSm.rf.put rfl
    · rw [h1]
      by_cases z : b' = b
      · subst z
        rw [x2_same, if_pos rfl, (hk.2.2.1 b' hb').2.2.2]
      · rw [x2_i _ _ z, if_neg (fun y => z ((nI_eq (by omega) (by omega)).mp y).symm), (hk.2.2.1 b' hb').2.2.2, Int32.sub_zero]
theorem nI_sub1 {k : Nat} (h : 1 ≤ k) : nI k - 1 = nI (k - 1) := by
  have := nI_one (k - 1)
  rw [show k - 1 + 1 = k by omega] at this
  rw [← this, Int32.add_sub_cancel]
theorem K_putInPile {u : xU} {n : Nat} {σ T : Nat → Int32} (h_s : xSt s) (q_s : xSr s r) (hB6 : lB L ≤ 6) (hn10 : n ≤ 10) (hk : kSt L n u s σ T) {l : Nat} (hl : l < n) (ho : kOwn L σ l) (v : Int32) :
    xCall g (d + 1) mX9_putInPile [.ref s, .int (nI l), .int v] 698 u w r 698 (xVd (fun u' => kSt L n u' s (up (up σ (28 + l) (-1)) (18 + l) v) T ∧ xSm (fSt s) u u') w r) := by
  refine CX9_putInPile h_s q_s ⟨vpn (by omega) (by omega), ?_⟩
  obtain ⟨⟨k1, k2, k3, k4⟩, -⟩ := hk.2.2.2 l hl
  rw [nc (by omega), k2]
  refine xVd.use (K_outOf h_s q_s hB6 hk ho) (fun u1 ⟨h1, h2⟩ => ⟨rfl, rfl, rfl, rfl, ⟨?_, ?_⟩, rfl, rfl⟩)
  · have e : ∀ k i, k ≤ 11 → k ≠ 4 → k ≠ 5 → k ≠ 6 → x2 (x2 u1 (s + 6) l (-1)) (s + 5) l v (s + k) i = u (s + k) i := fun k i a1 a2 a3 a4 => by
      rw [x2_a _ _ (by omega), x2_a _ _ (by omega)]; exact h1 _ _ (by omega)
    have e0 : ∀ i, x2 (x2 u1 (s + 6) l (-1)) (s + 5) l v s i = u s i := fun i => e 0 i (by omega) (by omega) (by omega) (by omega)
    refine ⟨⟨?_, ?_, ?_⟩, fun b hb => ?_, fun b hb => ⟨?_, ?_, ?_, ?_⟩, fun l' hl' => ⟨⟨?_, ?_, ?_, ?_⟩, ?_⟩⟩
    · rw [e0, up_n (by omega), up_n (by omega)]; exact hk.1.1
    · rw [e0, up_n (by omega), up_n (by omega)]; exact hk.1.2.1
    · rw [e0, up_n (by omega), up_n (by omega)]; exact hk.1.2.2
    · rw [e 1 _ (by omega) (by omega) (by omega) (by omega), up_n (by omega), up_n (by omega)]; exact hk.2.1 b hb
    · rw [e 2 _ (by omega) (by omega) (by omega) (by omega), up_n (by omega), up_n (by omega)]; exact (hk.2.2.1 b hb).1
    · rw [e 3 _ (by omega) (by omega) (by omega) (by omega), up_n (show b ≠ 18 + l by omega), up_n (show b ≠ 28 + l by omega), up_n (show 12 + b ≠ 18 + l by omega), up_n (show 12 + b ≠ 28 + l by omega)]; exact (hk.2.2.1 b hb).2.1
    · rw [e 3 _ (by omega) (by omega) (by omega) (by omega), up_n (show b ≠ 18 + l by omega), up_n (show b ≠ 28 + l by omega)]; exact (hk.2.2.1 b hb).2.2.1
    · rw [x2_a _ _ (by omega), x2_a _ _ (by omega), h2 b hb]
      have ch := fIn_chg (σ := σ) (τ := up (up σ (28 + l) (-1)) (18 + l) v) (l := l) b (fun i _ hi => by rw [up_n (by omega), up_n (by omega)]) n (by omega) hl
      rw [up_n (show 28 + l ≠ 18 + l by omega), up_s, if_neg (show ¬ -1 = nI b from fun z => nI_m1 (by omega) z.symm)] at ch
      by_cases z : σ (28 + l) = nI b
      · rw [if_pos z] at ch ⊢
        rw [nI_sub1 (by omega)]
        congr 1
        omega
      · rw [if_neg z] at ch ⊢
        rw [Int32.sub_zero]
        congr 1
        omega
    · by_cases z : l' = l
      · subst z; rw [x2_same, up_s]
      · rw [x2_i _ _ z, x2_a _ _ (by omega), h1 _ _ (by omega), up_n (by omega), up_n (by omega)]; exact (hk.2.2.2 l' hl').1.1
    · rw [x2_a _ _ (by omega)]
      by_cases z : l' = l
      · subst z; rw [x2_same, up_n (by omega), up_s]
      · rw [x2_i _ _ z, h1 _ _ (by omega), up_n (by omega), up_n (by omega)]; exact (hk.2.2.2 l' hl').1.2.1
    · rw [e 7 _ (by omega) (by omega) (by omega) (by omega), up_n (by omega), up_n (by omega)]; exact (hk.2.2.2 l' hl').1.2.2.1
    · rw [e 11 _ (by omega) (by omega) (by omega) (by omega), up_n (by omega), up_n (by omega)]; exact (hk.2.2.2 l' hl').1.2.2.2
    · rw [e 8 _ (by omega) (by omega) (by omega) (by omega), e 9 _ (by omega) (by omega) (by omega) (by omega), e 10 _ (by omega) (by omega) (by omega) (by omega), up_n (show 58 + l' ≠ 18 + l by omega), up_n (show 58 + l' ≠ 28 + l by omega), up_n (show 68 + l' ≠ 18 + l by omega), up_n (show 68 + l' ≠ 28 + l by omega), up_n (show 78 + l' ≠ 18 + l by omega), up_n (show 78 + l' ≠ 28 + l by omega)]
      exact (hk.2.2.2 l' hl').2
  · exact ((h1.to (fun b hb => ⟨by omega, by omega⟩)).put ⟨by omega, by omega⟩).put ⟨by omega, by omega⟩
theorem K_putInBier {u : xU} {n : Nat} {σ T : Nat → Int32} (h_s : xSt s) (q_s : xSr s r) (hB6 : lB L ≤ 6) (hn10 : n ≤ 10) (hk : kSt L n u s σ T) {l b : Nat} (hl : l < n) (hb : b < lB L) (ho : kOwn L σ l) :
    xCall g (d + 1) mX9_putInBier [.ref s, .int (nI l), .int (nI b)] 698 u w r 698 (xVd (fun u' => kSt L n u' s (fPut l (nI b) σ) T ∧ xSm (fSt s) u u') w r) := by
  obtain ⟨⟨k1, k2, k3, k4⟩, -⟩ := hk.2.2.2 l hl
  refine CX9_putInBier h_s q_s ⟨vpn (by omega) (by omega), ?_⟩
  rw [nc (by omega), k2]
  refine ⟨fun q => ⟨rfl, ⟨?_, xSm.rf⟩, rfl, rfl⟩, fun q => xPr.use (K_isOneOf _ _) ⟨_, rfl, rfl, rfl, rfl, brF ?_ ?_⟩⟩
  · unfold fPut; rw [if_pos q]; exact hk
  · rw [xb_eq0, Classical.not_not]
    exact ⟨nI_nn (by omega), nI_ge (b := 6) (by omega) (by omega)⟩
  · refine xVd.use (K_outOf h_s q_s hB6 hk ho) (fun u1 ⟨h1, h2⟩ => ⟨rfl, rfl, rfl, vpn (by omega) (by omega), rfl, ⟨?_, ?_⟩, rfl, rfl⟩)
    · rw [nc (by omega)]
      unfold fPut
      rw [if_neg q]
      have e11 : x2 (x2 u1 (s + 5) l (-1)) (s + 6) l (nI b) (s + 11) l = σ (48 + l) := by
        rw [x2_a _ _ (by omega), x2_a _ _ (by omega), h1 _ _ (by omega)]; exact k4
      have e4 : x2 (x2 (x2 u1 (s + 5) l (-1)) (s + 6) l (nI b)) (s + 11) l (x2 (x2 u1 (s + 5) l (-1)) (s + 6) l (nI b) (s + 11) l + 1) (s + 4) b = u1 (s + 4) b := by
        rw [x2_a _ _ (by omega), x2_a _ _ (by omega), x2_a _ _ (by omega)]
      rw [e4, e11]
      generalize hX : x2 (x2 (x2 (x2 u1 (s + 5) l (-1)) (s + 6) l (nI b)) (s + 11) l (σ (48 + l) + 1)) (s + 4) b (u1 (s + 4) b + 1) = X
      have e : ∀ k i, k ≤ 11 → k ≠ 4 → k ≠ 5 → k ≠ 6 → k ≠ 11 → X (s + k) i = u (s + k) i := fun k i a1 a2 a3 a4 a5 => by
        rw [← hX, x2_a _ _ (by omega), x2_a _ _ (by omega), x2_a _ _ (by omega), x2_a _ _ (by omega)]; exact h1 _ _ (by omega)
      have e0 : ∀ i, X s i = u s i := fun i => e 0 i (by omega) (by omega) (by omega) (by omega) (by omega)
      refine ⟨⟨?_, ?_, ?_⟩, fun b' hb' => ?_, fun b' hb' => ⟨?_, ?_, ?_, ?_⟩, fun l' hl' => ⟨⟨?_, ?_, ?_, ?_⟩, ?_⟩⟩
      · rw [e0, up_n (by omega), up_n (by omega), up_n (by omega)]; exact hk.1.1
      · rw [e0, up_n (by omega), up_n (by omega), up_n (by omega)]; exact hk.1.2.1
      · rw [e0, up_n (by omega), up_n (by omega), up_n (by omega)]; exact hk.1.2.2
      · rw [e 1 _ (by omega) (by omega) (by omega) (by omega) (by omega), up_n (by omega), up_n (by omega), up_n (by omega)]; exact hk.2.1 b' hb'
      · rw [e 2 _ (by omega) (by omega) (by omega) (by omega) (by omega), up_n (by omega), up_n (by omega), up_n (by omega)]; exact (hk.2.2.1 b' hb').1
      · rw [e 3 _ (by omega) (by omega) (by omega) (by omega) (by omega), up_n (show b' ≠ 48 + l by omega), up_n (show b' ≠ 18 + l by omega), up_n (show b' ≠ 28 + l by omega), up_n (show 12 + b' ≠ 48 + l by omega), up_n (show 12 + b' ≠ 18 + l by omega), up_n (show 12 + b' ≠ 28 + l by omega)]; exact (hk.2.2.1 b' hb').2.1
      · rw [e 3 _ (by omega) (by omega) (by omega) (by omega) (by omega), up_n (show b' ≠ 48 + l by omega), up_n (show b' ≠ 18 + l by omega), up_n (show b' ≠ 28 + l by omega)]; exact (hk.2.2.1 b' hb').2.2.1
      · have ch := fIn_chg (σ := σ) (τ := up (up (up σ (28 + l) (nI b)) (18 + l) (-1)) (48 + l) (σ (48 + l) + 1)) (l := l) b' (fun i hi20 hi => by rw [up_n (by omega), up_n (by omega), up_n (by omega)]) n (by omega) hl
        rw [up_n (show 28 + l ≠ 48 + l by omega), up_n (show 28 + l ≠ 18 + l by omega), up_s] at ch
        rw [← hX]
        by_cases z : b' = b
        · subst z
          rw [x2_same, h2 b' hb', if_neg q, Int32.sub_zero, nI_one]
          rw [if_neg q, if_pos rfl] at ch
          congr 1
          omega
        · rw [x2_i _ _ z, x2_a _ _ (by omega), x2_a _ _ (by omega), x2_a _ _ (by omega), h2 b' hb']
          rw [if_neg (show ¬ nI b = nI b' from fun y => z ((nI_eq (by omega) (by omega)).mp y).symm)] at ch
          by_cases y : σ (28 + l) = nI b'
          · rw [if_pos y] at ch ⊢
            rw [nI_sub1 (by omega)]
            congr 1
            omega
          · rw [if_neg y] at ch ⊢
            rw [Int32.sub_zero]
            congr 1
            omega
      · by_cases z : l' = l
        · subst z; rw [← hX, x2_a _ _ (by omega), x2_a _ _ (by omega), x2_a _ _ (by omega), x2_same, up_n (by omega), up_s]
        · rw [← hX, x2_a _ _ (by omega), x2_a _ _ (by omega), x2_a _ _ (by omega), x2_i _ _ z, h1 _ _ (by omega), up_n (by omega), up_n (by omega), up_n (by omega)]; exact (hk.2.2.2 l' hl').1.1
      · by_cases z : l' = l
        · subst z; rw [← hX, x2_a _ _ (by omega), x2_a _ _ (by omega), x2_same, up_n (by omega), up_n (by omega), up_s]
        · rw [← hX, x2_a _ _ (by omega), x2_a _ _ (by omega), x2_i _ _ z, x2_a _ _ (by omega), h1 _ _ (by omega), up_n (by omega), up_n (by omega), up_n (by omega)]; exact (hk.2.2.2 l' hl').1.2.1
      · rw [e 7 _ (by omega) (by omega) (by omega) (by omega) (by omega), up_n (by omega), up_n (by omega), up_n (by omega)]; exact (hk.2.2.2 l' hl').1.2.2.1
      · by_cases z : l' = l
        · subst z; rw [← hX, x2_a _ _ (by omega), x2_same, up_s]
        · rw [← hX, x2_a _ _ (by omega), x2_i _ _ z, x2_a _ _ (by omega), x2_a _ _ (by omega), h1 _ _ (by omega), up_n (by omega), up_n (by omega), up_n (by omega)]; exact (hk.2.2.2 l' hl').1.2.2.2
      · rw [e 8 _ (by omega) (by omega) (by omega) (by omega) (by omega), e 9 _ (by omega) (by omega) (by omega) (by omega) (by omega), e 10 _ (by omega) (by omega) (by omega) (by omega) (by omega)]
        rw [up_n (show 58 + l' ≠ 48 + l by omega), up_n (show 58 + l' ≠ 18 + l by omega), up_n (show 58 + l' ≠ 28 + l by omega), up_n (show 68 + l' ≠ 48 + l by omega), up_n (show 68 + l' ≠ 18 + l by omega), up_n (show 68 + l' ≠ 28 + l by omega), up_n (show 78 + l' ≠ 48 + l by omega), up_n (show 78 + l' ≠ 18 + l by omega), up_n (show 78 + l' ≠ 28 + l by omega)]
        exact (hk.2.2.2 l' hl').2
    · rw [nc (by omega)]
      exact ((((h1.to (fun b hb => ⟨by omega, by omega⟩)).put ⟨by omega, by omega⟩).put ⟨by omega, by omega⟩).put ⟨by omega, by omega⟩).put ⟨by omega, by omega⟩
theorem K_putHome {u : xU} {n : Nat} {σ T : Nat → Int32} (h_s : xSt s) (q_s : xSr s r) (hB6 : lB L ≤ 6) (hn10 : n ≤ 10) (hk : kSt L n u s σ T) {l : Nat} (hl : l < n) (ho : kOwn L σ l) :
    xCall g (d + 2) mX9_putHome [.ref s, .int (nI l)] 698 u w r 698 (xVd (fun u' => kSt L n u' s (up (up (up σ (38 + l) (σ 90)) (18 + l) (-1)) (28 + l) (-1)) T ∧ xSm (fSt s) u u') w r) := by
  refine CX9_putHome h_s q_s (xVd.use (K_putInPile h_s q_s hB6 hn10 hk hl ho _) (fun u1 ⟨h1, h2⟩ => ⟨rfl, rfl, rfl, vpn (by omega) (by omega), rfl, ⟨?_, h2.put ⟨by omega, by omega⟩⟩, rfl, rfl⟩))
  rw [nc (by omega)]
  have ed : u1 s 0 = σ 90 := by rw [h1.1.1, up_n (by omega), up_n (by omega)]
  rw [ed]
  have h3 : kSt L n (x2 u1 (s + 7) l (σ 90)) s (up (up (up σ (28 + l) (-1)) (18 + l) (-1)) (38 + l) (σ 90)) T := by
    obtain ⟨a, b1, b2, b3⟩ := h1
    have e : ∀ k i, k ≤ 11 → k ≠ 7 → x2 u1 (s + 7) l (σ 90) (s + k) i = u1 (s + k) i := fun k i a1 a2 => x2_a _ _ (by omega)
    have e0 : ∀ i, x2 u1 (s + 7) l (σ 90) s i = u1 s i := fun i => e 0 i (by omega) (by omega)
    have ef : ∀ b, fIn n (up (up (up σ (28 + l) (-1)) (18 + l) (-1)) (38 + l) (σ 90)) b = fIn n (up (up σ (28 + l) (-1)) (18 + l) (-1)) b := fun b => cn_congr (fun i hi => by rw [up_n (show 28 + i ≠ 38 + l by omega)])
    refine ⟨⟨?_, ?_, ?_⟩, fun b hb => ?_, fun b hb => ?_, fun l' hl' => ⟨⟨?_, ?_, ?_, ?_⟩, ?_⟩⟩
    · rw [e0, up_n (by omega)]; exact a.1
    · rw [e0, up_n (by omega)]; exact a.2.1
    · rw [e0, up_n (by omega)]; exact a.2.2
    · rw [e 1 _ (by omega) (by omega), up_n (by omega)]; exact b1 b hb
    · rw [e 2 _ (by omega) (by omega), e 3 _ (by omega) (by omega), e 4 _ (by omega) (by omega), up_n (show 6 + b ≠ 38 + l by omega), up_n (show b ≠ 38 + l by omega), up_n (show 12 + b ≠ 38 + l by omega), ef]; exact b2 b hb
    · rw [e 5 _ (by omega) (by omega), up_n (by omega)]; exact (b3 l' hl').1.1
    · rw [e 6 _ (by omega) (by omega), up_n (by omega)]; exact (b3 l' hl').1.2.1
    · by_cases z : l' = l
      · subst z; rw [x2_same, up_s]
      · rw [x2_i _ _ z, up_n (by omega)]; exact (b3 l' hl').1.2.2.1
    · rw [e 11 _ (by omega) (by omega), up_n (by omega)]; exact (b3 l' hl').1.2.2.2
    · rw [e 8 _ (by omega) (by omega), e 9 _ (by omega) (by omega), e 10 _ (by omega) (by omega), up_n (show 58 + l' ≠ 38 + l by omega), up_n (show 68 + l' ≠ 38 + l by omega), up_n (show 78 + l' ≠ 38 + l by omega)]; exact (b3 l' hl').2
  refine h3.cg (fun j hj => ?_) hB6 hn10
  unfold up
  by_cases z1 : j = 28 + l
  · rw [if_pos z1, if_neg (by omega), if_neg (by omega), if_pos z1]
  · rw [if_neg z1]
    by_cases z2 : j = 18 + l
    · rw [if_pos z2, if_neg (by omega), if_pos z2]
    · rw [if_neg z2, if_neg z2, if_neg z1]
end CST
