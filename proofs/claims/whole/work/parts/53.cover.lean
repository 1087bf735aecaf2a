/-! QUESTIONS: cover -/
theorem sh_pow : ∀ n, n < 31 → ((1 : Int32) <<< (nI n &&& 31)) = nI (2 ^ n) := by decide +kernel
/-- what the biers of a set pass -/
def cPk (L : xU) (c : Int32) (σ : Nat → Int32) (t : Int32) (k : Nat) : Int32 := xfold k (fun b x => if bt t b = true ∧ σ b = 1 then x ||| lR L c (σ (6 + b)).toNatClampNeg (lH L b) else x) 0
theorem cPk_s (L : xU) (c : Int32) (σ : Nat → Int32) (t : Int32) (k : Nat) : cPk L c σ t (k + 1) = if bt t k = true ∧ σ k = 1 then cPk L c σ t k ||| lR L c (σ (6 + k)).toNatClampNeg (lH L k) else cPk L c σ t k := rfl
def cStk (σ : Nat → Int32) (t : Int32) (k : Nat) : Bool := xfold k (fun b a => a && (!bt t b || decide (σ b = 1))) true
theorem cStk_s (σ : Nat → Int32) (t : Int32) (k : Nat) : cStk σ t (k + 1) = (cStk σ t k && (!bt t k || decide (σ k = 1))) := rfl
theorem cStk_iff (σ : Nat → Int32) (t : Int32) : ∀ k, cStk σ t k = true ↔ ∀ b, b < k → bt t b = true → σ b = 1 := by
  intro k
  induction k with
  | zero => exact ⟨fun _ b hb => by omega, fun _ => rfl⟩
  | succ k ih =>
    rw [cStk_s, Bool.and_eq_true, ih]
    refine ⟨fun h b hb hbt => ?_, fun h => ⟨fun b hb => h b (by omega), ?_⟩⟩
    · by_cases q : b = k
      · subst q
        have := h.2
        rw [hbt] at this
        simpa using this
      · exact h.1 b (by omega) hbt
    · by_cases q : bt t k = true
      · rw [q, decide_eq_true (h k (by omega) q)]; rfl
      · rw [Bool.not_eq_true] at q
        rw [q]; rfl
/-- a set of biers covers s -/
abbrev cCov (L : xU) (c : Int32) (σ : Nat → Int32) (s t : Int32) : Prop := s &&& (cPk L c σ t (lB L) ^^^ -1) = 0
def cvK (L : xU) (c : Int32) (σ : Nat → Int32) (s : Int32) (k : Nat) : Int32 := xfold k (fun j b => if (cStk σ (nI j) (lB L) = true ∧ cCov L c σ s (nI j)) ∧ (b = -1 ∨ cn 12 (bt (nI j)) < cn 12 (bt b)) then nI j else b) (-1)
theorem cvK_s (L : xU) (c : Int32) (σ : Nat → Int32) (s : Int32) (k : Nat) : cvK L c σ s (k + 1) = if (cStk σ (nI k) (lB L) = true ∧ cCov L c σ s (nI k)) ∧ (cvK L c σ s k = -1 ∨ cn 12 (bt (nI k)) < cn 12 (bt (cvK L c σ s k))) then nI k else cvK L c σ s k := rfl
theorem cvK_or (L : xU) (c : Int32) (σ : Nat → Int32) (s : Int32) : ∀ k, cvK L c σ s k = -1 ∨ ∃ j, j < k ∧ cvK L c σ s k = nI j := by
  intro k
  induction k with
  | zero => exact Or.inl rfl
  | succ k ih =>
    rw [cvK_s]
    split
    · exact Or.inr ⟨k, by omega, rfl⟩
    · rcases ih with h | ⟨j, h1, h2⟩
      · exact Or.inl h
      · exact Or.inr ⟨j, by omega, h2⟩
/-- how many are the fewest as the class counts them -/
def cFew (b : Int32) : Nat := if b = -1 then 7 else cn 12 (bt b)
theorem cn_low {j m : Nat} (hm : m ≤ 12) (hj : j < 2 ^ m) : cn 12 (bt (nI j)) ≤ m := by
  have : cn 12 (bt (nI j)) = cn m (bt (nI j)) := by
    rw [← cn_cut hm]
    refine cn_congr (fun i hi => ?_)
    by_cases q : i < m
    · rw [decide_eq_true q, Bool.true_and]
    · rw [decide_eq_false q, Bool.false_and, bt_nI_0 hj (by omega) (by omega)]
  rw [this]
  exact cn_le _ _
/-- a set with one that doesn't stand is never among the fewest -/
theorem cv_less {L : xU} {c : Int32} {σ : Nat → Int32} {s : Int32} {k : Nat} (hB6 : lB L ≤ 6) (hk : k < 2 ^ lB L) (hc : cCov L c σ s (nI k)) (hst : ¬ cStk σ (nI k) (lB L) = true) : ∃ j, j < k ∧ cCov L c σ s (nI j) ∧ cn 12 (bt (nI j)) < cn 12 (bt (nI k)) := by
  have hk64 : k < 64 := Nat.lt_of_lt_of_le hk (Nat.le_trans (Nat.pow_le_pow_right (by omega) hB6) (by decide))
  rw [cStk_iff] at hst
  have : ∃ b, b < lB L ∧ bt (nI k) b = true ∧ ¬ σ b = 1 := Classical.byContradiction (fun z => hst (fun b hb h1 => Classical.byContradiction (fun y => z ⟨b, hb, h1, y⟩)))
  obtain ⟨b, hb, h1, h2⟩ := this
  obtain ⟨j, hj, ej⟩ := bt_small (x := nI k &&& (((1 : Int32) <<< (nI b &&& 31)) ^^^ -1)) (m := 6) (by omega) (fun i i1 i2 => by rw [b_and, bt_nI_0 (m := 6) hk64 i1 i2, Bool.false_and])
  have bj : ∀ i, i < 32 → bt (nI j) i = (bt (nI k) i && !decide (i = b)) := fun i hi => by rw [← ej, bt_out _ _ hi, bt_sh (by omega) hi]
  refine ⟨j, ?_, ?_, ?_⟩
  · have hle : j ≤ k := by
      have : j &&& k = j := Nat.eq_of_testBit_eq (fun i => by
        rw [Nat.testBit_and]
        by_cases hi : i < 32
        · have := bj i hi
          rw [bt_nI _ hi, bt_nI _ hi] at this
          rw [this]
          by_cases z : k.testBit i = true <;> by_cases y : i = b <;> simp [z, y]
        · have : j < 2 ^ i := Nat.lt_of_lt_of_le hj (Nat.pow_le_pow_right (by omega) (by omega))
          rw [Nat.testBit_lt_two_pow this, Bool.false_and])
      rw [← this]
      exact Nat.and_le_right
    refine Nat.lt_of_le_of_ne hle (fun z => ?_)
    subst z
    have := bj b (by omega)
    rw [h1] at this
    simp at this
  · have : ∀ m, m ≤ lB L → cPk L c σ (nI j) m = cPk L c σ (nI k) m := by
      intro m
      induction m with
      | zero => intro _; rfl
      | succ m ih =>
        intro hm
        rw [cPk_s, cPk_s, ih (by omega), bj m (by omega)]
        by_cases z : m = b
        · subst z
          rw [if_neg (fun y => h2 y.2), if_neg (fun y => h2 y.2)]
        · rw [decide_eq_false z]
          simp
    unfold cCov
    rw [this (lB L) (Nat.le_refl _)]
    exact hc
  · refine cn_lt (fun i hi h => ?_) ⟨b, by omega, h1, ?_⟩
    · rw [bj i (by omega)] at h
      exact (Bool.and_eq_true _ _ ▸ h).1
    · rw [bj b (by omega), decide_eq_true rfl]
      simp
/-- what the class's fewest is at most -/
theorem cv_min {L : xU} {c : Int32} {σ : Nat → Int32} {s : Int32} (hB6 : lB L ≤ 6) : ∀ k, k ≤ 2 ^ lB L → (∀ j, j < k → cCov L c σ s (nI j) → cFew (cvK L c σ s k) ≤ cn 12 (bt (nI j))) := by
  intro k
  induction k with
  | zero => intro _ j hj; omega
  | succ k ih =>
    intro hk j hj hc
    have ih' := ih (by omega)
    have h64 : 2 ^ lB L ≤ 64 := Nat.le_trans (Nat.pow_le_pow_right (by omega) hB6) (by decide)
    have low : cFew (cvK L c σ s (k + 1)) ≤ cFew (cvK L c σ s k) := by
      rw [cvK_s]
      split
      · next q =>
        unfold cFew
        rw [if_neg (nI_m1 (by omega))]
        rcases q.2 with y | y
        · rw [if_pos y]
          have := cn_low (j := k) (m := 6) (by omega) (by omega)
          omega
        · by_cases z : cvK L c σ s k = -1
          · rw [if_pos z]
            have := cn_low (j := k) (m := 6) (by omega) (by omega)
            omega
          · rw [if_neg z]; omega
      · exact Nat.le_refl _
    by_cases q : j = k
    · subst q
      by_cases st : cStk σ (nI j) (lB L) = true
      · rw [cvK_s]
        by_cases z : cvK L c σ s j = -1 ∨ cn 12 (bt (nI j)) < cn 12 (bt (cvK L c σ s j))
        · rw [if_pos ⟨⟨st, hc⟩, z⟩]
          unfold cFew
          rw [if_neg (nI_m1 (by omega))]
          exact Nat.le_refl _
        · rw [if_neg (fun y => z y.2)]
          unfold cFew
          rw [if_neg (fun y => z (Or.inl y))]
          exact Nat.not_lt.mp (fun y => z (Or.inr y))
      · obtain ⟨i, i1, i2, i3⟩ := cv_less hB6 (by omega) hc st
        have := ih' i i1 i2
        omega
    · exact Nat.le_trans low (ih' j (by omega) hc)
def aPick (b : Int32) (k : Int32) : Int32 := if b = -1 then -1 else if k = 0 then nI (cn 12 (bt b)) else if k = 1 then b else -1
def aCover (L : xU) (σ : Nat → Int32) (s k : Int32) : Int32 := if inN s (2 ^ lV L) then aPick (cvK L (σ 89) σ s (2 ^ lB L)) k else -1
theorem xb_and (p q : Prop) [Decidable p] [Decidable q] : xb (¬ xb p = 0 ∧ q) = xb (p ∧ q) := xb_iff (by rw [xb_eq0, Classical.not_not])
section COVER
variable {g : xGT} {d : Nat} {w : xW} {r : xQ} {L : xU} {c : Int32} {l n e : Nat} {σ : Nat → Int32}
theorem K_countOrSet {u : xU} {b k : Int32} (hb : b = -1 ∨ ∃ j, j < 4096 ∧ b = nI j) : xCall g (d + 1) mX11_countOrSet [.int b, .int k] 698 u w r 698 (xPr (aPick b k) u w r) := by
  refine CX11_countOrSet ⟨fun q => ⟨?_, rfl, rfl, rfl⟩, fun q => ⟨fun y => ?_, fun y => ⟨?_, rfl, rfl, rfl⟩⟩⟩
  · unfold aPick
    by_cases z : b = -1
    · rw [if_pos z, z]
    · rw [if_neg z]
      have := q.resolve_left z
      subst this
      rw [if_neg (by decide), if_pos rfl]
  · have z : ¬ b = -1 := fun z => q (Or.inl z)
    obtain ⟨j, h1, rfl⟩ := hb.resolve_left z
    refine xPr.use (K_bitCount (fun i i1 i2 => bt_nI_0 (m := 12) h1 i1 i2)) ⟨_, rfl, rfl, rfl, rfl, ?_, rfl, rfl, rfl⟩
    unfold aPick
    rw [if_neg z, if_pos y]
  · unfold aPick
    rw [if_neg (fun z => q (Or.inl z)), if_neg y, if_neg (fun z => q (Or.inr z))]
theorem K_passedBy {u : xU} (hK : lOkk L) (hR : kR r l) (hN : kN L l n e u σ) (t : Int32) : xCall g (d + 3) mX11_passedBy [.ref 8, .int t] 698 u w r 698 (xPr (cPk L (σ 89) σ t (lB L)) u w r) := by
  have hb6 := hK.2.2.1.1
  obtain ⟨hr, h_l, q_l, hm, ht, hl⟩ := id hR
  obtain ⟨T, hk⟩ := hN.2.1
  refine CX11_passedBy ?_
  refine xlq (N := lB L) (G := fun k => xEv g (d + 3) mX11_passedBy 4 [some (.ref 8), some (.int t), some (.int (cPk L (σ 89) σ t k)), some (.int (nI k))] [] 698 u w r 698 _) ?_ ?_
  · exact TX11_passedBy_4 hr h_l ht (brT (by rw [hN.1.1.1.2.2]; exact nI_le (Nat.le_refl _) (by omega)) ⟨rfl, rfl, rfl, rfl⟩)
  · intro k hkk kk
    refine TX11_passedBy_4 hr h_l ht (brF (by rw [hN.1.1.1.2.2]; exact nI_ge (by omega) (by omega)) ?_)
    rw [test_1 (by omega)]
    rw [cPk_s] at kk
    refine ⟨fun q => xPr.use (K_restOf hr st105 (sr105 hr) h_l q_l hm hN.1 hK hk hN.2.2 hkk) ⟨_, rfl, rfl, rfl, rfl, TX11_passedBy_39 ?_⟩, fun q => TX11_passedBy_39 ?_⟩
    · rw [nI_one]
      by_cases z : σ k = 1
      · rw [if_pos z]
        rw [if_pos ⟨q, z⟩] at kk
        exact kk
      · rw [if_neg z, Int32.or_zero]
        rw [if_neg (fun y => z y.2)] at kk
        exact kk
    · rw [nI_one]
      rw [if_neg (fun y => q y.1)] at kk
      exact kk
theorem K_cover {u : xU} (hK : lOkk L) (hR : kR r l) (hN : kN L l n e u σ) (s k : Int32) : xCall g (d + 4) mX11_cover [.ref 8, .int s, .int k] 698 u w r 698 (xIn (aCover L σ s k) (xSm (fLk l) u) w r) := by
  have hb6 := hK.2.2.1.1
  have hv7 := hK.1.1
  obtain ⟨hr, h_l, q_l, hm, ht, hl⟩ := id hR
  have h64 : 2 ^ lB L ≤ 64 := Nat.le_trans (Nat.pow_le_pow_right (by omega) hb6) (by decide)
  have h128 : 2 ^ lV L ≤ 128 := Nat.le_trans (Nat.pow_le_pow_right (by omega) hv7) (by decide)
  have hin : (s < 0 ∨ ¬ s < nI (2 ^ lV L)) ↔ ¬ inN s (2 ^ lV L) := by
    unfold inN
    rw [ti_lt, ti_lt, ti_le, ti_nI (by omega)]
    omega
  refine CX11_cover h_l ht ?_
  rw [hN.1.1.1.1, sh_pow _ (by omega), hin]
  unfold aCover
  refine ⟨fun q => ⟨by rw [if_neg q], xSm.rf, rfl, rfl⟩, fun q => ?_⟩
  rw [Classical.not_not] at q
  rw [if_pos q]
  refine xlq (N := 2 ^ lB L) (G := fun m => xEv g (d + 4) mX11_cover 28 [some (.ref 8), some (.int s), some (.int k), some (.int (cvK L (σ 89) σ s m)), some (.int (nI (cFew (cvK L (σ 89) σ s m)))), some (.int (nI m)), none] [] 698 u w r 698 _) ?_ ?_
  · refine TX11_cover_28 h_l ht ?_
    rw [hN.1.1.1.2.2, sh_pow _ (by omega)]
    refine brT (nI_le (Nat.le_refl _) (by omega)) (xPr.use (K_countOrSet (d := d + 2) ?_) ⟨_, rfl, rfl, rfl, rfl, rfl, xSm.rf, rfl, rfl⟩)
    rcases cvK_or L (σ 89) σ s (2 ^ lB L) with h | ⟨j, h1, h2⟩
    · exact Or.inl h
    · exact Or.inr ⟨j, by omega, h2⟩
  · intro m hmm kk
    refine TX11_cover_28 h_l ht ?_
    rw [hN.1.1.1.2.2, sh_pow _ (by omega)]
    refine brF (nI_ge hmm (by omega)) ?_
    have mn := cv_min (c := σ 89) (σ := σ) (s := s) hb6 m (by omega)
    have orr := cvK_or L (σ 89) σ s m
    rw [cvK_s] at kk
    generalize cvK L (σ 89) σ s m = b at kk mn orr
    have c6 : cn 12 (bt (nI m)) ≤ 6 := cn_low (by omega) (by omega)
    have few12 : cFew b < 13 := by
      unfold cFew
      split
      · omega
      · have := cn_le 12 (bt b); omega
    have no : ¬ ((cStk σ (nI m) (lB L) = true ∧ cCov L (σ 89) σ s (nI m)) ∧ (b = -1 ∨ cn 12 (bt (nI m)) < cn 12 (bt b))) → xEv g (d + 4) mX11_cover 76 [some (.ref 8), some (.int s), some (.int k), some (.int b), some (.int (nI (cFew b))), some (.int (nI m)), none] [] 698 u w r 698 (xIn (aPick (cvK L (σ 89) σ s (2 ^ lB L)) k) (xSm (fLk l) u) w r) := by
      intro h
      rw [if_neg h] at kk
      refine TX11_cover_76 ?_
      rw [nI_one]; exact kk
    refine xPr.use (K_bitCount (fun i i1 i2 => bt_nI_0 (m := 12) (by omega) i1 i2)) ⟨_, rfl, rfl, rfl, rfl, ?_⟩
    rw [le_nI (by omega) (by omega)]
    have ltf : ¬ cFew b ≤ cn 12 (bt (nI m)) ↔ (b = -1 ∨ cn 12 (bt (nI m)) < cn 12 (bt b)) := by
      unfold cFew
      by_cases z : b = -1
      · rw [if_pos z]; exact ⟨fun _ => Or.inl z, fun _ => by omega⟩
      · rw [if_neg z]; exact ⟨fun y => Or.inr (by omega), fun y => by have := y.resolve_left z; omega⟩
    refine ⟨fun q1 => no (fun z => ltf.mpr z.2 q1), fun q1 => xPr.use (K_passedBy hK hR hN _) ⟨_, rfl, rfl, rfl, rfl, fun q2 => TX11_cover_76 ?_, fun q2 => no (fun z => q2 z.1.2)⟩⟩
    have st : cStk σ (nI m) (lB L) = true := Classical.byContradiction (fun z => by
      obtain ⟨j, j1, j2, j3⟩ := cv_less hb6 hmm q2 z
      have := mn j j1 j2
      omega)
    rw [if_pos ⟨⟨st, q2⟩, ltf.mp q1⟩] at kk
    rw [nI_one]
    have ef : cFew (nI m) = cn 12 (bt (nI m)) := by
      unfold cFew
      rw [if_neg (nI_m1 (by omega))]
    rw [ef] at kk
    exact kk
theorem R_cover {u : xU} (hr : xRf r) (hK : lOkk L) (hN : rN1 L n e u σ) (s k : Int32) : xCall g (d + 6) mX12_cover [.ref 655, .int s, .int k] 698 u w r 698 (xIn (aCover L σ s k) (rA L n e σ u) w r) := by
  have hb6 := hK.2.2.1.1
  have hv7 := hK.1.1
  have hS := hN.2.2.1
  have h64 : 2 ^ lB L ≤ 64 := Nat.le_trans (Nat.pow_le_pow_right (by omega) hb6) (by decide)
  have h128 : 2 ^ lV L ≤ 128 := Nat.le_trans (Nat.pow_le_pow_right (by omega) hv7) (by decide)
  refine CX12_cover (xPr.use (R_isIn _ _ _) ⟨_, rfl, rfl, rfl, rfl, ?_⟩)
  rw [hN.1.1.1, sh_pow _ (by omega), xb_eq0, inN_ref (by omega)]
  unfold aCover
  refine ⟨fun q => ⟨by rw [if_neg q], rA.rf hN, rfl, rfl⟩, fun q => xPr.use (R_isIn _ _ _) ⟨_, rfl, rfl, rfl, rfl, ?_⟩⟩
  rw [Classical.not_not] at q
  rw [if_pos q]
  have k01 : (¬ k < 0 ∧ ¬ (1 : Int32) < k) ↔ (k = 0 ∨ k = 1) := by
    rw [ti_lt, ti_lt, ti_eq, ti_eq, z_toInt, show (1 : Int32).toInt = 1 from rfl]
    omega
  rw [xb_eq0, k01]
  refine ⟨fun z => ⟨?_, rA.rf hN, rfl, rfl⟩, fun z => ?_⟩
  · unfold aPick
    rw [if_neg (fun y => z (Or.inl y)), if_neg (fun y => z (Or.inr y)), ite_self]
  · rw [Classical.not_not] at z
    refine R_loaded hr hK hN (fun u1 h1 h2 h3 f1 => ⟨rfl, rfl, rfl, ?_⟩)
    have hA : rA L n e σ u u1 := ⟨f1, hN.keep f1 (fun j _ => by rw [h1])⟩
    have L1 := h3.1
    refine xlq (N := 2 ^ lB L) (G := fun m => xEv g (d + 6) mX12_cover 36 [some (.ref 655), some (.int s), some (.int k), some (.int (cvK L (σ 89) σ s m)), some (.int (nI m)), none, none, none] [] 698 u1 w r 698 _) ?_ ?_
    · refine TX12_cover_36 ?_
      rw [L1.1.2.2, sh_pow _ (by omega)]
      refine brT (nI_le (Nat.le_refl _) (by omega)) ?_
      have orr := cvK_or L (σ 89) σ s (2 ^ lB L)
      generalize cvK L (σ 89) σ s (2 ^ lB L) = b at orr
      unfold aPick
      rcases orr with y | ⟨j, j1, y⟩
      · rw [if_pos y]
        exact brF (by rw [y]; decide) ⟨rfl, hA, rfl, rfl⟩
      · rw [if_neg (by rw [y]; exact nI_m1 (by omega))]
        refine brT (by rw [y]; exact nI_pos' (by omega)) ⟨fun x => xPr.use (R_members _) ⟨_, rfl, rfl, rfl, rfl, ?_, hA, rfl, rfl⟩, fun x => ⟨?_, hA, rfl, rfl⟩⟩
        · rw [if_pos x]
        · rw [if_neg x, if_pos (z.resolve_left x)]
    · intro m hmm kk
      refine TX12_cover_36 ?_
      rw [L1.1.2.2, sh_pow _ (by omega)]
      refine brF (nI_ge hmm (by omega)) ?_
      have orr := cvK_or L (σ 89) σ s m
      rw [cvK_s] at kk
      generalize cvK L (σ 89) σ s m = b at kk orr
      have no : ¬ ((cStk σ (nI m) (lB L) = true ∧ cCov L (σ 89) σ s (nI m)) ∧ (b = -1 ∨ cn 12 (bt (nI m)) < cn 12 (bt b))) → xEv g (d + 6) mX12_cover 160 [some (.ref 655), some (.int s), some (.int k), some (.int b), some (.int (nI m)), none, none, none] [] 698 u1 w r 698 (xIn (aPick (cvK L (σ 89) σ s (2 ^ lB L)) k) (rA L n e σ u) w r) := by
        intro h
        rw [if_neg h] at kk
        refine TX12_cover_160 ?_
        rw [nI_one]; exact kk
      have yes : ((cStk σ (nI m) (lB L) = true ∧ cCov L (σ 89) σ s (nI m)) ∧ (b = -1 ∨ cn 12 (bt (nI m)) < cn 12 (bt b))) → xEv g (d + 6) mX12_cover 157 [some (.ref 655), some (.int s), some (.int k), none, some (.int (nI m)), none, none, none] [] 698 u1 w r 698 (xIn (aPick (cvK L (σ 89) σ s (2 ^ lB L)) k) (rA L n e σ u) w r) := by
        intro h
        rw [if_pos h] at kk
        refine TX12_cover_157 (TX12_cover_160 ?_)
        rw [nI_one]; exact kk
      have lk : ∀ x : Int32, (cStk σ (nI m) 0 = true → x = cPk L (σ 89) σ (nI m) 0) → xEv g (d + 6) mX12_cover 56 [some (.ref 655), some (.int s), some (.int k), some (.int b), some (.int (nI m)), some (.int x), some (.int (xb (cStk σ (nI m) 0 = true))), some (.int (nI 0))] [] 698 u1 w r 698 (xIn (aPick (cvK L (σ 89) σ s (2 ^ lB L)) k) (rA L n e σ u) w r) := by
        refine xlq (N := lB L) (G := fun a => ∀ x : Int32, (cStk σ (nI m) a = true → x = cPk L (σ 89) σ (nI m) a) → xEv g (d + 6) mX12_cover 56 [some (.ref 655), some (.int s), some (.int k), some (.int b), some (.int (nI m)), some (.int x), some (.int (xb (cStk σ (nI m) a = true))), some (.int (nI a))] [] 698 u1 w r 698 _) ?_ ?_
        · intro x hx
          refine TX12_cover_56 hr (brT (by rw [L1.1.2.2]; exact nI_le (Nat.le_refl _) (by omega)) ?_)
          rw [xb_eq0, Classical.not_not]
          refine ⟨fun y => ?_, fun y => no (fun v => y ⟨v.1.1, by rw [hx v.1.1]; exact v.1.2⟩)⟩
          have hx' := hx y.1
          subst hx'
          rcases orr with v | ⟨j, j1, v⟩
          · exact brT (by rw [v]; decide) (yes ⟨y, Or.inl v⟩)
          · refine brF (by rw [v]; exact nI_nn (by omega)) (xPr.use (R_members _) ⟨_, rfl, rfl, rfl, rfl, xPr.use (R_members _) ⟨_, rfl, rfl, rfl, rfl, ?_⟩⟩)
            have c12 := cn_le 12 (bt b)
            have c12' := cn_le 12 (bt (nI m))
            rw [le_nI (by omega) (by omega)]
            refine ⟨fun i => no (fun t => t.2.elim (fun t => by rw [v] at t; exact nI_m1 (by omega) t) (fun t => by omega)), fun i => yes ⟨y, Or.inr (by omega)⟩⟩
        · intro a haa kk2 x hx
          refine TX12_cover_56 hr (brF (by rw [L1.1.2.2]; exact nI_ge (by omega) (by omega)) ?_)
          rw [test_0 (by omega)]
          rw [cStk_s, cPk_s] at kk2
          refine ⟨fun y => TX12_cover_121 ?_, fun y => ⟨fun _ => vpn (by omega) (by omega), ?_⟩⟩
          · rw [y] at kk2
            rw [nI_one]
            have := kk2 x (fun t => by rw [if_neg (fun v => by cases v.1)]; exact hx (by simpa using t))
            simpa using this
          · rw [Bool.not_eq_false] at y
            rw [h1, nc (by omega), xb_and, xb_eq0]
            rw [y] at kk2
            simp only [Bool.not_true, Bool.false_or, Bool.and_eq_true, decide_eq_true_eq] at kk2
            refine ⟨fun v => TX12_cover_118 (TX12_cover_121 ?_), fun v => ?_⟩
            · rw [nI_one, Int32.or_zero]
              exact kk2 x (fun t => absurd t v)
            · rw [Classical.not_not] at v
              obtain ⟨⟨p, hp, ep⟩, -⟩ := (hS.2.2.2.1 a (by omega)).1 haa
              obtain ⟨hh, eh⟩ := hK.2.2.1.home hK.1 haa
              refine xPr.use (R_restOf hr h3 hK.1 (by omega) (by rw [h1]; exact ep) hp eh (by omega)) ⟨_, rfl, rfl, rfl, rfl, TX12_cover_118 (TX12_cover_121 ?_)⟩
              rw [nI_one]
              refine kk2 _ (fun t => ?_)
              rw [if_pos ⟨trivial, t.2⟩, ← hx v.1, ep, nc (by omega)]
      exact lk 0 (fun _ => rfl)
end COVER
