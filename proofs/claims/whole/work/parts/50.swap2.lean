/-! QUESTIONS: swap -/
theorem bt_nI (k : Nat) {i : Nat} (hi : i < 32) : bt (nI k) i = k.testBit i := by
  unfold bt nI
  rw [Int32.toBitVec_ofNat', BitVec.getLsbD_ofNat, decide_eq_true hi, Bool.true_and]
theorem bt_nI_0 {k m i : Nat} (h : k < 2 ^ m) (hi : m ≤ i) (h32 : i < 32) : bt (nI k) i = false := by
  rw [bt_nI k h32]
  exact Nat.testBit_lt_two_pow (Nat.lt_of_lt_of_le h (Nat.pow_le_pow_right (by omega) hi))
theorem bt_out (a s : Int32) {i : Nat} (hi : i < 32) : bt (a &&& (s ^^^ -1)) i = (bt a i && !bt s i) := by
  rw [b_and, b_xor, b_m1 i hi, Bool.xor_true]
/-- worths of those letters of a set that a bier brings home in time -/
def sGn (L : xU) (e : Nat) (σ : Nat → Int32) (b l : Nat) : Int32 := if ¬ wE L e σ b (σ (58 + l)).toNatClampNeg = -1 ∧ ¬ σ (68 + l) < wE L e σ b (σ (58 + l)).toNatClampNeg then σ (78 + l) else 0
def sWk (L : xU) (e : Nat) (σ : Nat → Int32) (b : Nat) (s : Int32) (k : Nat) : Int32 := xfold k (fun l x => if bt s l = true then x + sGn L e σ b l else x) 0
theorem sWk_s (L : xU) (e : Nat) (σ : Nat → Int32) (b : Nat) (s : Int32) (k : Nat) : sWk L e σ b s (k + 1) = if bt s k = true then sWk L e σ b s k + sGn L e σ b k else sWk L e σ b s k := rfl
theorem sWk_more {L : xU} {e : Nat} {σ : Nat → Int32} {b n : Nat} {s : Int32} (h : ∀ i, n ≤ i → i < 32 → bt s i = false) : ∀ k, n ≤ k → k ≤ 32 → sWk L e σ b s k = sWk L e σ b s n := by
  intro k
  induction k with
  | zero => intro h1 _; rw [Nat.le_zero.mp h1]
  | succ k ih =>
    intro h1 h2
    by_cases q : n = k + 1
    · rw [q]
    · rw [sWk_s, h k (by omega) (by omega), if_neg (by decide), ih (by omega) (by omega)]
/-- worths are 0 .. 9 -/
def sWo (n : Nat) (σ : Nat → Int32) : Prop := ∀ l, l < n → ∃ x, x ≤ 9 ∧ σ (78 + l) = nI x
theorem sWk_num {L : xU} {e : Nat} {σ : Nat → Int32} {b n : Nat} {s : Int32} (hw : sWo n σ) : ∀ k, k ≤ n → ∃ x, x ≤ 9 * k ∧ sWk L e σ b s k = nI x := by
  intro k
  induction k with
  | zero => intro _; exact ⟨0, Nat.le_refl _, rfl⟩
  | succ k ih =>
    intro hk
    obtain ⟨x, h1, h2⟩ := ih (by omega)
    rw [sWk_s, h2]
    split
    · unfold sGn
      split
      · obtain ⟨y, y1, y2⟩ := hw k (by omega)
        exact ⟨x + y, by omega, by rw [y2, nI_add]⟩
      · exact ⟨x, by omega, Int32.add_zero _⟩
    · exact ⟨x, by omega, rfl⟩
def sAl (σ : Nat → Int32) (n b o : Nat) : Int32 := xset n (fun l => decide (σ (28 + l) = nI b ∨ σ (28 + l) = nI o))
def sOw (L : xU) (e : Nat) (σ : Nat → Int32) (n b o : Nat) (a s : Int32) : Int32 := sWk L e σ b s n + sWk L e σ o (a &&& (s ^^^ -1)) n
/-- the best share among those below k, and its worths -/
def sSwP (L : xU) (b o : Nat) (a s : Int32) : Prop := s &&& (a ^^^ -1) = 0 ∧ (¬ L 7 b < nI (cn 12 (bt s)) ∧ ¬ L 7 o < nI (cn 12 (bt (a &&& (s ^^^ -1)))))
def sSw (L : xU) (e : Nat) (σ : Nat → Int32) (n b o : Nat) (a : Int32) (k : Nat) : Int32 × Int32 := xfold k (fun j p => if (nI j &&& (a ^^^ -1) = 0 ∧ (¬ L 7 b < nI (cn 12 (bt (nI j))) ∧ ¬ L 7 o < nI (cn 12 (bt (a &&& (nI j ^^^ -1)))))) ∧ p.2 < sOw L e σ n b o a (nI j) then (nI j, sOw L e σ n b o a (nI j)) else p) (-1, -1)
theorem sSw_s (L : xU) (e : Nat) (σ : Nat → Int32) (n b o : Nat) (a : Int32) (k : Nat) : sSw L e σ n b o a (k + 1) = if (nI k &&& (a ^^^ -1) = 0 ∧ (¬ L 7 b < nI (cn 12 (bt (nI k))) ∧ ¬ L 7 o < nI (cn 12 (bt (a &&& (nI k ^^^ -1)))))) ∧ (sSw L e σ n b o a k).2 < sOw L e σ n b o a (nI k) then (nI k, sOw L e σ n b o a (nI k)) else sSw L e σ n b o a k := rfl
/-- the letters of both, as a number -/
theorem sAl_num {σ : Nat → Int32} {n b o : Nat} (hn : n ≤ 10) : ∃ A, A < 1024 ∧ sAl σ n b o = nI A :=
  bt_small (m := 10) (by omega) (fun i h1 h2 => by unfold sAl; rw [bt_xset (by omega) _ h2, decide_eq_false (by omega), Bool.false_and])
theorem sub_bits {s a : Int32} (h : s &&& (a ^^^ -1) = 0) {i : Nat} (hi : i < 32) (h1 : bt a i = false) : bt s i = false := by
  have := congrArg (fun x => bt x i) h
  simp only [bt_out s a hi, b_0] at this
  rw [h1] at this
  simpa using this
theorem sSw_m {L : xU} {e : Nat} {σ : Nat → Int32} {n b o : Nat} {a : Int32} : ∀ k, k ≤ 1024 → ((sSw L e σ n b o a k).1 = -1 ∧ (sSw L e σ n b o a k).2 = -1) ∨ ∃ j, j < k ∧ (sSw L e σ n b o a k).1 = nI j := by
  intro k
  induction k with
  | zero => intro _; exact Or.inl ⟨rfl, rfl⟩
  | succ k ih =>
    intro hk
    rw [sSw_s]
    split
    · exact Or.inr ⟨k, by omega, rfl⟩
    · rcases ih (by omega) with h | ⟨j, j1, j2⟩
      · exact Or.inl h
      · exact Or.inr ⟨j, by omega, j2⟩
theorem sSw_up {L : xU} {e : Nat} {σ : Nat → Int32} {n b o : Nat} {a : Int32} {k : Nat} (h : ¬ (sSw L e σ n b o a k).1 = -1) : ∀ m, k ≤ m → m ≤ 1024 → ¬ (sSw L e σ n b o a m).1 = -1 := by
  intro m
  induction m with
  | zero => intro h1 _; rw [← Nat.le_zero.mp h1]; exact h
  | succ m ih =>
    intro h1 h2
    by_cases q : k = m + 1
    · rw [← q]; exact h
    · rw [sSw_s]
      split
      · exact nI_m1 (by omega)
      · exact ih (by omega) (by omega)
/-- one share always fits: as they are -/
theorem sSw_end {L : xU} {c : Int32} {e : Nat} {σ : Nat → Int32} {n b o A : Nat} (hB : lBk L) (hS : gSt L c n e σ) (hw : sWo n σ) (hb : b < lB L) (ho : o < lB L) (hne : b ≠ o) (hA : A < 1024) (ha : sAl σ n b o = nI A) : ¬ (sSw L e σ n b o (nI A) (A + 1)).1 = -1 := by
  have n10 := hS.1.2
  have hb6 := hB.1
  obtain ⟨k0, hk0, e0⟩ := bt_small (x := xset n (fun l => decide (σ (28 + l) = nI b))) (m := 10) (by omega) (fun i h1 h2 => by rw [bt_xset (by omega) _ h2, decide_eq_false (by omega), Bool.false_and])
  have b0 : ∀ i, i < 32 → bt (nI k0) i = (decide (i < n) && decide (σ (28 + i) = nI b)) := fun i hi => by rw [← e0, bt_xset (by omega) _ hi]
  have bA : ∀ i, i < 32 → bt (nI A) i = (decide (i < n) && decide (σ (28 + i) = nI b ∨ σ (28 + i) = nI o)) := fun i hi => by rw [← ha]; unfold sAl; rw [bt_xset (by omega) _ hi]
  have hle : k0 ≤ A := by
    have : k0 &&& A = k0 := Nat.eq_of_testBit_eq (fun i => by
      rw [Nat.testBit_and]
      by_cases hi : i < 32
      · have h1 := b0 i hi
        have h2 := bA i hi
        rw [bt_nI _ hi] at h1 h2
        rw [h1, h2]
        by_cases q : i < n <;> by_cases z : σ (28 + i) = nI b <;> simp [q, z]
      · have : k0 < 2 ^ i := Nat.lt_of_lt_of_le hk0 (Nat.pow_le_pow_right (by omega) (by omega))
        rw [Nat.testBit_lt_two_pow this, Bool.false_and])
    rw [← this]
    exact Nat.and_le_right
  have l1 : nI k0 &&& (nI A ^^^ -1) = 0 := b_ext (fun i hi => by
    rw [bt_out _ _ hi, b_0, b0 i hi, bA i hi]
    by_cases q : i < n <;> by_cases z : σ (28 + i) = nI b <;> simp [q, z])
  have roomOf : ∀ x, x < lB L → ∀ m, m ≤ fIn n σ x → ¬ L 7 x < nI m := by
    intro x hx m hm
    obtain ⟨k, h1, h2, h3⟩ := (hB.2 x hx).2.2
    have h4 := hS.2.2.2.2.2 x hx
    rw [h3, nc (by omega)] at h4
    rw [h3, lt_nI (by omega) (by omega)]
    omega
  have m1 : cn 12 (bt (nI k0)) = fIn n σ b := by
    rw [← e0, cn_xset (by omega)]
    rfl
  have m2 : cn 12 (bt (nI A &&& (nI k0 ^^^ -1))) ≤ fIn n σ o := by
    unfold fIn
    rw [← cn_cut (show n ≤ 12 by omega) (fun l => decide (σ (28 + l) = nI o))]
    refine cn_mono (fun i hi h => ?_)
    rw [bt_out _ _ (by omega), b0 i (by omega), bA i (by omega)] at h
    by_cases q : i < n <;> by_cases z : σ (28 + i) = nI b <;> by_cases y : σ (28 + i) = nI o <;> simp_all
  have own : ∃ x, x ≤ 180 ∧ sOw L e σ n b o (nI A) (nI k0) = nI x := by
    obtain ⟨x, x1, x2⟩ := sWk_num (L := L) (e := e) (b := b) (s := nI k0) hw n (Nat.le_refl _)
    obtain ⟨y, y1, y2⟩ := sWk_num (L := L) (e := e) (b := o) (s := nI A &&& (nI k0 ^^^ -1)) hw n (Nat.le_refl _)
    unfold sOw
    rw [x2, y2, nI_add]
    exact ⟨x + y, by omega, rfl⟩
  have st : ¬ (sSw L e σ n b o (nI A) (k0 + 1)).1 = -1 := by
    rw [sSw_s]
    obtain ⟨x, x1, x2⟩ := own
    rw [x2]
    by_cases q : (sSw L e σ n b o (nI A) k0).2 < nI x
    · rw [if_pos ⟨⟨l1, roomOf b hb _ (Nat.le_of_eq m1), roomOf o ho _ m2⟩, q⟩]
      exact nI_m1 (by omega)
    · rw [if_neg (fun z => q z.2)]
      rcases sSw_m (L := L) (e := e) (σ := σ) (n := n) (b := b) (o := o) (a := nI A) k0 (by omega) with ⟨-, z⟩ | ⟨j, j1, j2⟩
      · rw [z] at q
        exact absurd (by rw [ti_lt, m1_toInt, ti_nI (by omega)]; omega) q
      · rw [j2]; exact nI_m1 (by omega)
  exact sSw_up st (A + 1) (by omega) (by omega)
def aSwap (L : xU) (n e : Nat) (σ : Nat → Int32) (i j k : Int32) : Int32 :=
  if ((inN i (lB L) ∧ inN j (lB L)) ∧ ¬ i = j) ∧ (σ i.toNatClampNeg = 1 ∧ σ j.toNatClampNeg = 1 ∧ σ (6 + i.toNatClampNeg) = σ (6 + j.toNatClampNeg)) then
    (if k = 0 then (sSw L e σ n i.toNatClampNeg j.toNatClampNeg (sAl σ n i.toNatClampNeg j.toNatClampNeg) ((sAl σ n i.toNatClampNeg j.toNatClampNeg).toNatClampNeg + 1)).2
     else if k = 1 then (sSw L e σ n i.toNatClampNeg j.toNatClampNeg (sAl σ n i.toNatClampNeg j.toNatClampNeg) ((sAl σ n i.toNatClampNeg j.toNatClampNeg).toNatClampNeg + 1)).1
     else if k = 2 then sAl σ n i.toNatClampNeg j.toNatClampNeg &&& ((sSw L e σ n i.toNatClampNeg j.toNatClampNeg (sAl σ n i.toNatClampNeg j.toNatClampNeg) ((sAl σ n i.toNatClampNeg j.toNatClampNeg).toNatClampNeg + 1)).1 ^^^ -1) else -1)
  else -1
