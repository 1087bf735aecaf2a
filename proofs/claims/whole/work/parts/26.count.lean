/-! COUNTS: members of sets, ways at a village -/
def ush (x k : Int32) : Int32 := (x.toUInt32 >>> (k.toUInt32 &&& Int32.toUInt32 31)).toInt32
def bitF (i : Int32) : Int32 :=
  let a := i - (ush i 1 &&& 1431655765)
  let b := (a &&& 858993459) + (ush a 2 &&& 858993459)
  let c := (b + ush b 4) &&& 252645135
  let e := c + ush c 8
  let f := e + ush e 16
  f &&& 63
def memF (x : Int32) (n : Nat) : Int32 := xfold n (fun k s => s + ((x >>> (nI k &&& 31)) &&& 1)) 0
theorem bit_mem2 : ∀ a, a < 64 → ∀ b, b < 64 → bitF (nI (64 * a + b)) = memF (nI (64 * a + b)) 12 := by decide +kernel
theorem bit_mem (n : Nat) (h : n < 4096) : bitF (nI n) = memF (nI n) 12 := by
  have := bit_mem2 (n / 64) (by omega) (n % 64) (by omega)
  rw [show 64 * (n / 64) + n % 64 = n by omega] at this
  exact this
theorem memF_cn (x : Int32) : ∀ n, n ≤ 32 → memF x n = nI (cn n (bt x)) := by
  intro n
  induction n with
  | zero => intro _; rfl
  | succ n ih =>
    intro h
    show memF x n + _ = _
    rw [ih (by omega), test_bit (by omega), cn_s]
    cases bt x n
    · rw [if_neg (by decide), if_neg (by decide), Int32.add_zero]
    · rw [if_pos rfl, if_pos rfl, nI_one]
theorem bt_small {x : Int32} {m : Nat} (hm : m ≤ 31) (h : ∀ i, m ≤ i → i < 32 → bt x i = false) : ∃ n, n < 2 ^ m ∧ x = nI n := by
  refine ⟨x.toBitVec.toNat, Nat.lt_pow_two_of_testBit _ (fun i hi => ?_), ?_⟩
  · by_cases q : i < 32
    · exact h i hi q
    · exact BitVec.getLsbD_of_ge _ _ (by omega)
  · apply Int32.toBitVec_inj.mp
    unfold nI
    rw [Int32.toBitVec_ofNat', BitVec.ofNat_toNat, BitVec.setWidth_eq]
theorem bitF_cn {x : Int32} (h : ∀ i, 12 ≤ i → i < 32 → bt x i = false) : bitF x = nI (cn 12 (bt x)) := by
  obtain ⟨n, h1, rfl⟩ := bt_small (by omega) h
  rw [bit_mem n h1, memF_cn _ 12 (by omega)]
theorem cn_cut {n m : Nat} (h : m ≤ n) (p : Nat → Bool) : cn n (fun i => decide (i < m) && p i) = cn m p := by
  induction n with
  | zero => rw [Nat.le_zero.mp h]; rfl
  | succ n ih =>
    by_cases q : m = n + 1
    · subst q
      exact cn_congr (fun i hi => by rw [decide_eq_true hi, Bool.true_and])
    · rw [cn_s, ih (by omega), decide_eq_false (by omega), Bool.false_and, if_neg (by decide)]
theorem cn_xset {m : Nat} (h : m ≤ 12) (p : Nat → Bool) : cn 12 (bt (xset m p)) = cn m p := by
  rw [← cn_cut h p]
  exact cn_congr (fun i hi => bt_xset (by omega) p (by omega))
theorem xset_small {m : Nat} (h : m ≤ 12) (p : Nat → Bool) : ∀ i, 12 ≤ i → i < 32 → bt (xset m p) i = false := fun i h1 h2 => by
  rw [bt_xset (by omega) p h2, decide_eq_false (by omega), Bool.false_and]
theorem cn_one {p q : Nat → Bool} {j : Nat} : ∀ {n : Nat}, j < n → p j = false → q j = true → (∀ i, i ≠ j → q i = p i) → cn n q = cn n p + 1 := by
  intro n
  induction n with
  | zero => intro h; omega
  | succ n ih =>
    intro h h1 h2 h3
    rw [cn_s, cn_s]
    by_cases z : j = n
    · subst z
      rw [h1, h2, if_pos rfl, if_neg (by decide), cn_congr (fun i hi => h3 i (by omega))]
    · rw [ih (by omega) h1 h2 h3, h3 n (fun y => z y.symm)]
      split <;> omega
/-- no two ways join the same villages -/
def lDi (L : xU) : Prop := ∀ j k, j < k → k < lW L → ¬ (L 1 j = L 1 k ∧ L 2 j = L 2 k) ∧ ¬ (L 1 j = L 2 k ∧ L 2 j = L 1 k)
theorem gDays_ex {L : xU} {c : Int32} {nv m : Nat} (h : gLandW L nv m) : ∀ k, k ≤ m → ∀ a b, a < 7 → b < 7 → gDays L c k a b ≠ -1 → ∃ j, j < k ∧ ((L 1 j = nI a ∧ L 2 j = nI b) ∨ (L 1 j = nI b ∧ L 2 j = nI a)) := by
  have hv7 := h.1
  intro k
  induction k with
  | zero => intro _ a b _ _ q; exact absurd rfl q
  | succ k ih =>
    intro hk a b ha hb q
    obtain ⟨x, y, hx, hy, hxy, e1, e2, -, -⟩ := h.2.2 k (by omega)
    have e : gDays L c (k + 1) = if gOpen c k then x2 (x2 (gDays L c k) x y (L 3 k)) y x (L 3 k) else gDays L c k := by
      show (if gOpen c k then _ else _) = _
      rw [e1, e2, nc (by omega), nc (by omega)]
      rfl
    rw [e] at q
    by_cases ho : gOpen c k
    · rw [if_pos ho] at q
      by_cases q1 : a = y ∧ b = x
      · exact ⟨k, by omega, Or.inr ⟨by rw [e1, q1.2], by rw [e2, q1.1]⟩⟩
      · rw [x2_ne _ _ q1] at q
        by_cases q2 : a = x ∧ b = y
        · exact ⟨k, by omega, Or.inl ⟨by rw [e1, q2.1], by rw [e2, q2.2]⟩⟩
        · rw [x2_ne _ _ q2] at q
          obtain ⟨j, j1, j2⟩ := ih (by omega) a b ha hb q
          exact ⟨j, by omega, j2⟩
    · rw [if_neg ho] at q
      obtain ⟨j, j1, j2⟩ := ih (by omega) a b ha hb q
      exact ⟨j, by omega, j2⟩
/-- the open ways at a village -/
def lOk (L : xU) (c : Int32) (v k : Nat) : Int32 := xfold k (fun j n => n + xb (gOpen c j ∧ (L 1 j = nI v ∨ L 2 j = nI v))) 0
def lO (L : xU) (c : Int32) (v : Nat) : Int32 := lOk L c v (lW L)
theorem lO_cn {L : xU} (hW : lWok L) (hD : lDi L) (c : Int32) {v : Nat} (hv : v < 7) : ∀ k, k ≤ lW L → lOk L c v k = nI (cn 7 (fun b => decide (¬ gDays L c k v b = -1))) := by
  have hv7 := hW.1
  intro k
  induction k with
  | zero =>
    intro _
    have : cn 7 (fun b => decide (¬ gDays L c 0 v b = -1)) = cn 7 (fun _ => false) := cn_congr (fun i _ => by
      have : gDays L c 0 v i = -1 := rfl
      rw [this]; rfl)
    rw [this]
    rfl
  | succ k ih =>
    intro hk
    obtain ⟨x, y, hx, hy, hxy, e1, e2, e3, e4⟩ := hW.2.2 k (by omega)
    have n3 : ¬ L 3 k = -1 := fun q => by rw [q, m1_toInt] at e3; omega
    have e : gDays L c (k + 1) = if gOpen c k then x2 (x2 (gDays L c k) x y (L 3 k)) y x (L 3 k) else gDays L c k := by
      show (if gOpen c k then _ else _) = _
      rw [e1, e2, nc (by omega), nc (by omega)]
      rfl
    show lOk L c v k + xb (gOpen c k ∧ (L 1 k = nI v ∨ L 2 k = nI v)) = _
    rw [ih (by omega), e]
    have fresh : ∀ a b, a < 7 → b < 7 → (a = x ∧ b = y ∨ a = y ∧ b = x) → gDays L c k a b = -1 := by
      intro a b ha hb hab
      refine Classical.byContradiction (fun q => ?_)
      obtain ⟨j, j1, j2⟩ := gDays_ex hW k (by omega) a b ha hb q
      obtain ⟨d1, d2⟩ := hD j k j1 (by omega)
      rw [e1, e2] at d1 d2
      rcases hab with ⟨rfl, rfl⟩ | ⟨rfl, rfl⟩
      · exact j2.elim d1 d2
      · exact j2.elim d2 d1
    by_cases ho : gOpen c k
    · rw [if_pos ho]
      by_cases q1 : v = x
      · subst q1
        rw [xb_pos ⟨ho, Or.inl e1⟩, nI_one]
        congr 1
        refine (cn_one (j := y) (by omega) ?_ ?_ (fun i hi => ?_)).symm
        · rw [fresh v y (by omega) (by omega) (Or.inl ⟨rfl, rfl⟩)]; rfl
        · rw [x2_a _ _ hxy, x2_same]; exact decide_eq_true n3
        · rw [x2_a _ _ hxy, x2_i _ _ hi]
      · by_cases q2 : v = y
        · subst q2
          rw [xb_pos ⟨ho, Or.inr e2⟩, nI_one]
          congr 1
          refine (cn_one (j := x) (by omega) ?_ ?_ (fun i hi => ?_)).symm
          · rw [fresh v x (by omega) (by omega) (Or.inr ⟨rfl, rfl⟩)]; rfl
          · rw [x2_same]; exact decide_eq_true n3
          · rw [x2_i _ _ hi, x2_a _ _ q1]
        · have : ¬ (gOpen c k ∧ (L 1 k = nI v ∨ L 2 k = nI v)) := fun q => by
            rcases q.2 with z | z
            · rw [e1] at z; exact q1 ((nI_eq (by omega) (by omega)).mp z).symm
            · rw [e2] at z; exact q2 ((nI_eq (by omega) (by omega)).mp z).symm
          rw [xb_neg this, Int32.add_zero]
          congr 1
          exact cn_congr (fun i _ => by rw [x2_a _ _ q2, x2_a _ _ q1])
    · rw [if_neg ho, xb_neg (fun q => ho q.1), Int32.add_zero]
section KCOUNT
variable {g : xGT} {d : Nat} {u : xU} {w : xW} {r : xQ}
theorem K_bitCount {x : Int32} (h : ∀ i, 12 ≤ i → i < 32 → bt x i = false) : xCall g d mJ6_bitCount_0f7a4 [.int x] 698 u w r 698 (xPr (nI (cn 12 (bt x))) u w r) := by
  refine CJ6_bitCount_0f7a4 ⟨?_, rfl, rfl, rfl⟩
  rw [← bitF_cn h]
  rfl
theorem R_members (x : Int32) : xCall g d mX12_members [.int x] 698 u w r 698 (xPr (nI (cn 12 (bt x))) u w r) := by
  rw [← memF_cn x 12 (by omega)]
  refine CX12_members ?_
  refine xlq (N := 12) (G := fun k => xEv g d mX12_members 4 [some (.int x), some (.int (memF x k)), some (.int (nI k))] [] 698 u w r 698 _) ?_ ?_
  · exact TX12_members_4 (brT (nI_le (a := 12) (Nat.le_refl _) (by omega)) ⟨rfl, rfl, rfl, rfl⟩)
  · intro k hk kk
    refine TX12_members_4 (brF (nI_ge (b := 12) (by omega) (by omega)) ?_)
    rw [nI_one]
    exact kk
theorem K_waysAt {L : xU} (hr : xRf r) (hW : lWok L) (hD : lDi L) {c : Int32} (hB : rB u (lD L c)) {v : Nat} (hv : v < 7) : xCall g (d + 1) mX8_waysAt [.ref 53, .int (nI v)] 698 u w r 698 (xPr (lO L c v) u w r) := by
  refine CX8_waysAt hr (xPr.use (K_isOneOf _ _) ⟨_, rfl, rfl, rfl, rfl, brF ?_ ⟨vpn hv (by omega), ?_⟩⟩)
  · rw [xb_eq0, Classical.not_not]
    exact ⟨nI_nn (by omega), nI_ge (b := 7) (by omega) (by omega)⟩
  · rw [nc (by omega), hB v hv]
    refine xPr.use (K_bitCount (xset_small (by omega) _)) ⟨_, rfl, rfl, rfl, rfl, ?_⟩
    rw [cn_xset (by omega)]
    unfold lO
    rw [lO_cn hW hD c hv (lW L) (Nat.le_refl _)]
    exact ⟨rfl, rfl, rfl, rfl⟩
theorem K_passed {L : xU} (hr : xRf r) (hW : lWok L) {c : Int32} (hN : rN u (lNx L c)) {v h : Nat} (hv : v < lV L) (hh : h < 7) : xCall g (d + 1) mX8_passed [.ref 53, .int (nI v), .int (nI h)] 698 u w r 698 (xPr (lR L c v h) u w r) := by
  have hv7 := hW.1
  refine CX8_passed ?_
  refine xlq (N := 7) (G := fun k => xEv g (d + 1) mX8_passed 8 [some (.ref 53), none, some (.int (nI h)), some (.int (lRk L c v h k)), some (.int (lP L c v h k)), some (.int (nI k))] [] 698 u w r 698 _) ?_ ?_
  · exact TX8_passed_8 (brF (fun q => q.1 (nI_le (a := 7) (Nat.le_refl _) (by omega))) ⟨rfl, rfl, rfl, rfl⟩)
  · intro k hk kk
    refine TX8_passed_8 ?_
    rcases lP_or hW c hv h k with e | ⟨o, ho, e⟩
    · refine brF (fun q => q.2 e) ⟨?_, rfl, rfl, rfl⟩
      have : lRk L c v h k = lR L c v h := (lRk_end (by rw [e]; exact m1_neg) 7 (by omega)).symm
      rw [this]
    · have hn : ¬ lP L c v h k < 0 := by rw [e]; exact nI_nn (by omega)
      refine brT ⟨nI_ge (b := 7) (by omega) (by omega), fun q => hn (by rw [q]; exact m1_neg)⟩ ?_
      rw [lRk_s, if_neg hn, lP, if_neg hn] at kk
      rw [e] at kk ⊢
      refine xPr.use (K_nextOf' hr (by omega) hh) ⟨_, rfl, rfl, rfl, rfl, ?_⟩
      rw [nI_one, hN o h (by omega) hh]
      rw [nc (by omega)] at kk
      exact kk
theorem K_passed_none {h : Int32} : xCall g (d + 1) mX8_passed [.ref 53, .int (-1), .int h] 698 u w r 698 (xPr 0 u w r) :=
  CX8_passed (TX8_passed_8 (brF (fun q => q.2 rfl) ⟨rfl, rfl, rfl, rfl⟩))
theorem K_nearest {L : xU} (hr : xRf r) (hW : lWok L) {c : Int32} (hN : rN u (lNx L c)) (hF : rF u (lF L c)) {v h t : Nat} (hv : v < lV L) (hh : h < 7) (ht : t < 7) : xCall g (d + 1) mX8_nearest [.ref 53, .int (nI v), .int (nI h), .int (nI t)] 698 u w r 698 (xPr (lM L c v h t) u w r) := by
  have hv7 := hW.1
  refine CX8_nearest ?_
  refine xlq (N := 7) (G := fun k => xEv g (d + 1) mX8_nearest 11 [some (.ref 53), none, some (.int (nI h)), some (.int (nI t)), some (.int (lMk L c v h t k)), some (.int (lP L c v h k)), some (.int (nI k))] [] 698 u w r 698 _) ?_ ?_
  · exact TX8_nearest_11 (brF (fun q => q.1 (nI_le (a := 7) (Nat.le_refl _) (by omega))) ⟨rfl, rfl, rfl, rfl⟩)
  · intro k hk kk
    refine TX8_nearest_11 ?_
    rcases lP_or hW c hv h k with e | ⟨o, ho, e⟩
    · refine brF (fun q => q.2 e) ⟨?_, rfl, rfl, rfl⟩
      have : lMk L c v h t k = lM L c v h t := (lMk_end (by rw [e]; exact m1_neg) 7 (by omega)).symm
      rw [this]
    · have hn : ¬ lP L c v h k < 0 := by rw [e]; exact nI_nn (by omega)
      refine brT ⟨nI_ge (b := 7) (by omega) (by omega), fun q => hn (by rw [q]; exact m1_neg)⟩ ?_
      rw [lMk_s, if_neg hn, lP, if_neg hn] at kk
      rw [e] at kk ⊢
      refine xPr.use (K_distance' hr (by omega) ht) ⟨_, rfl, rfl, rfl, rfl, ?_⟩
      refine xPr.use (K_nextOf' hr (by omega) hh) ⟨_, rfl, rfl, rfl, rfl, ?_⟩
      rw [nI_one, hN o h (by omega) hh, hF o t (by omega) ht]
      rw [nc (by omega)] at kk
      exact kk
/-! the reference's -/
/-- the reference has loaded: land, far, closed ways -/
def rE (u L : xU) (c : Int32) : Prop := rL u L ∧ qF u (lF L c) ∧ u 684 89 = c
theorem R_farOf {L : xU} {c : Int32} (hr : xRf r) (hE : rE u L c) {a b : Nat} (ha : a < 7) (hb : b < 7) : xCall g d mX12_farOf [.ref 655, .int (nI a), .int (nI b)] 698 u w r 698 (xPr (lF L c a b) u w r) := by
  refine CX12_farOf hr ?_
  simp (disch := omega) only [m7, nI_add, nc]
  rw [hE.2.1 a b ha hb]
  exact ⟨vpn (by omega) (by omega), rfl, rfl, rfl, rfl⟩
theorem R_openWays {L : xU} {c : Int32} (hr : xRf r) (hE : rE u L c) (hW : lWok L) (v : Nat) : xCall g (d + 1) mX12_openWays [.ref 655, .int (nI v)] 698 u w r 698 (xPr (lO L c v) u w r) := by
  have hw := hW.2.1
  refine CX12_openWays ?_
  refine xlq (N := lW L) (G := fun k => xEv g (d + 1) mX12_openWays 4 [some (.ref 655), some (.int (nI v)), some (.int (lOk L c v k)), some (.int (nI k))] [] 698 u w r 698 _) ?_ ?_
  · exact TX12_openWays_4 hr (brT (by rw [hE.1.1.2.1]; exact nI_le (Nat.le_refl _) (by omega)) ⟨rfl, rfl, rfl, rfl⟩)
  · intro k hk kk
    refine TX12_openWays_4 hr (brF (by rw [hE.1.1.2.1]; exact nI_ge (by omega) (by omega)) ?_)
    refine xPr.use (R_isClosed hr (by omega)) ⟨_, rfl, rfl, rfl, rfl, ?_⟩
    rw [hE.2.2, xb_eq0, Classical.not_not, nc (by omega), hE.1.2.1, hE.1.2.2.1]
    have kk' : xEv g (d + 1) mX12_openWays 4 [some (.ref 655), some (.int (nI v)), some (.int (lOk L c v k + xb (gOpen c k ∧ (L 1 k = nI v ∨ L 2 k = nI v)))), some (.int (nI (k + 1)))] [] 698 u w r 698 (xPr (lO L c v) u w r) := kk
    refine ⟨fun ho => ⟨vpn (by omega) (by omega), fun hq => ?_, fun hq => ?_⟩, fun ho => ?_⟩
    · refine TX12_openWays_46 (xPr.use (R_truth _) ⟨_, rfl, rfl, rfl, rfl, ?_⟩)
      rw [xb_pos ⟨ho, hq⟩] at kk'
      rw [nI_one]
      exact kk'
    · refine TX12_openWays_45 (TX12_openWays_46 (xPr.use (R_truth _) ⟨_, rfl, rfl, rfl, rfl, ?_⟩))
      rw [xb_neg (fun z => hq z.2)] at kk'
      rw [nI_one]
      exact kk'
    · refine TX12_openWays_45 (TX12_openWays_46 (xPr.use (R_truth _) ⟨_, rfl, rfl, rfl, rfl, ?_⟩))
      rw [xb_neg (fun z => ho z.1)] at kk'
      rw [nI_one]
      exact kk'
theorem R_daysBetween {L : xU} {c : Int32} (hr : xRf r) (hE : rE u L c) (hW : lWok L) {a b : Nat} (ha : a < 7) (hb : b < 7) : xCall g (d + 1) mX12_daysBetween [.ref 655, .int (nI a), .int (nI b)] 698 u w r 698 (xPr (lD L c a b) u w r) := by
  have hw := hW.2.1
  have hv := hW.1
  refine CX12_daysBetween ?_
  refine xlq (N := lW L) (G := fun k => xEv g (d + 1) mX12_daysBetween 5 [some (.ref 655), some (.int (nI a)), some (.int (nI b)), some (.int (gDays L c k a b)), some (.int (nI k))] [] 698 u w r 698 _) ?_ ?_
  · exact TX12_daysBetween_5 hr (brT (by rw [hE.1.1.2.1]; exact nI_le (Nat.le_refl _) (by omega)) ⟨rfl, rfl, rfl, rfl⟩)
  · intro k hk kk
    obtain ⟨x, y, hx, hy, hxy, e1, e2, e3, e4⟩ := hW.2.2 k (by omega)
    have e : gDays L c (k + 1) = if gOpen c k then x2 (x2 (gDays L c k) x y (L 3 k)) y x (L 3 k) else gDays L c k := by
      show (if gOpen c k then _ else _) = _
      rw [e1, e2, nc (by omega), nc (by omega)]
      rfl
    refine TX12_daysBetween_5 hr (brF (by rw [hE.1.1.2.1]; exact nI_ge (by omega) (by omega)) ?_)
    refine xPr.use (R_isClosed hr (by omega)) ⟨_, rfl, rfl, rfl, rfl, ?_⟩
    rw [hE.2.2, xb_eq0, Classical.not_not, nc (by omega), hE.1.2.1, hE.1.2.2.1, e1, e2, nI_eq (by omega) (by omega), nI_eq (by omega) (by omega), nI_eq (by omega) (by omega), nI_eq (by omega) (by omega)]
    rw [e] at kk
    have yes : gOpen c k → (a = x ∧ b = y ∨ a = y ∧ b = x) → xEv g (d + 1) mX12_daysBetween 67 [some (.ref 655), some (.int (nI a)), some (.int (nI b)), none, some (.int (nI k))] [] 698 u w r 698 (xPr (lD L c a b) u w r) := by
      intro ho q
      refine TX12_daysBetween_67 hr ⟨vpn (by omega) (by omega), TX12_daysBetween_75 ?_⟩
      rw [nI_one, nc (by omega), hE.1.2.2.2.1]
      rw [if_pos ho] at kk
      rcases q with ⟨rfl, rfl⟩ | ⟨rfl, rfl⟩
      · rw [x2_a _ _ hxy, x2_same] at kk; exact kk
      · rw [x2_same] at kk; exact kk
    refine ⟨fun ho => ⟨vpn (by omega) (by omega), fun hq => ⟨fun hp => yes ho (Or.inr ⟨hp.2.symm, hp.1.symm⟩), fun hp => TX12_daysBetween_75 ?_⟩, fun hq => yes ho (Or.inl ?_)⟩, fun ho => TX12_daysBetween_75 ?_⟩
    · rw [nI_one]
      rw [if_pos ho, x2_ne _ _ (fun z => hp ⟨z.2.symm, z.1.symm⟩), x2_ne _ _ (fun z => hq.elim (fun h => h z.1.symm) (fun h => h z.2.symm))] at kk
      exact kk
    · omega
    · rw [nI_one]
      rw [if_neg ho] at kk
      exact kk
theorem R_nextFrom {L : xU} {c : Int32} (hr : xRf r) (hE : rE u L c) (hW : lWok L) {a h : Nat} (ha : a < 7) (hh : h < 7) : xCall g (d + 2) mX12_nextFrom [.ref 655, .int (nI a), .int (nI h)] 698 u w r 698 (xPr (lNx L c a h) u w r) := by
  have hv := hW.1
  have hD := lD_ok hW c
  refine CX12_nextFrom ?_
  rw [nI_eq (by omega) (by omega)]
  have e : lNx L c a h = if a = h ∨ ¬ lF L c a h < 1000 then -1 else (gNextF (lD L c) (lF L c) a h (lV L)).1 := rfl
  refine ⟨fun q => ⟨by rw [e, if_pos (Or.inl q)], rfl, rfl, rfl⟩, fun q => xPr.use (R_farOf hr hE ha hh) ⟨_, rfl, rfl, rfl, rfl, fun q2 => ?_, fun q2 => ⟨by rw [e, if_pos (Or.inr q2)], rfl, rfl, rfl⟩⟩⟩
  rw [if_neg (fun z => z.elim q (fun y => y q2))] at e
  rw [e]
  refine xlq (N := lV L) (G := fun k => xEv g (d + 2) mX12_nextFrom 29 [some (.ref 655), some (.int (nI a)), some (.int (nI h)), some (.int (gNextF (lD L c) (lF L c) a h k).1), some (.int (gNextF (lD L c) (lF L c) a h k).2), some (.int (nI k)), none] [] 698 u w r 698 _) ?_ ?_
  · exact TX12_nextFrom_29 (brT (by rw [hE.1.1.1]; exact nI_le (Nat.le_refl _) (by omega)) ⟨rfl, rfl, rfl, rfl⟩)
  · intro k hk kk
    refine TX12_nextFrom_29 (brF (by rw [hE.1.1.1]; exact nI_ge (by omega) (by omega)) ?_)
    rw [gNextF_s] at kk
    refine xPr.use (R_daysBetween hr hE hW ha (by omega)) ⟨_, rfl, rfl, rfl, rfl, fun q3 => TX12_nextFrom_85 ?_, fun q3 => ?_⟩
    · rw [if_pos (Or.inl q3)] at kk
      rw [nI_one]
      exact kk
    · refine xPr.use (R_farOf hr hE (by omega) hh) ⟨_, rfl, rfl, rfl, rfl, fun q4 => ?_, fun q4 => TX12_nextFrom_85 ?_⟩
      · refine xPr.use (R_farOf hr hE (by omega) hh) ⟨_, rfl, rfl, rfl, rfl, TX12_nextFrom_85 ?_⟩
        rw [if_neg (fun z => z.elim q3 (fun y => Int32.not_le.mpr q4 y))] at kk
        rw [nI_one]
        exact kk
      · rw [if_pos (Or.inr (Int32.not_lt.mp q4))] at kk
        rw [nI_one]
        exact kk
theorem R_restFrom {L : xU} {c : Int32} (hr : xRf r) (hE : rE u L c) (hW : lWok L) {v h : Nat} (hv : v < lV L) (hh : h < 7) : xCall g (d + 3) mX12_restFrom [.ref 655, .int (nI v), .int (nI h)] 698 u w r 698 (xPr (lR L c v h) u w r) := by
  have hv7 := hW.1
  refine CX12_restFrom ?_
  refine xlq (N := 7) (G := fun k => xEv g (d + 3) mX12_restFrom 5 [some (.ref 655), none, some (.int (nI h)), some (.int (lRk L c v h k)), some (.int (lP L c v h k))] [] 698 u w r 698 _) ?_ ?_
  · exact TX12_restFrom_5 (brT (by rw [lP_end hW c hv h]; exact m1_neg) ⟨rfl, rfl, rfl, rfl⟩)
  · intro k hk kk
    refine TX12_restFrom_5 ?_
    rcases lP_or hW c hv h k with e | ⟨o, ho, e⟩
    · refine brT (by rw [e]; exact m1_neg) ⟨?_, rfl, rfl, rfl⟩
      have : lRk L c v h k = lR L c v h := (lRk_end (by rw [e]; exact m1_neg) 7 (by omega)).symm
      rw [this]
    · have hn : ¬ lP L c v h k < 0 := by rw [e]; exact nI_nn (by omega)
      refine brF hn ?_
      rw [lRk_s, if_neg hn, lP, if_neg hn] at kk
      rw [e] at kk ⊢
      rw [nc (by omega)] at kk
      refine xPr.use (R_nextFrom hr hE hW (by omega) hh) ⟨_, rfl, rfl, rfl, rfl, ?_⟩
      exact kk
theorem R_restOf {L : xU} {c : Int32} (hr : xRf r) (hE : rE u L c) (hW : lWok L) {b v h : Nat} (hb : b < 6) (hp : u 684 (6 + b) = nI v) (hv : v < lV L) (he : L 5 b = nI h) (hh : h < 7) : xCall g (d + 4) mX12_restOf [.ref 655, .int (nI b)] 698 u w r 698 (xPr (lR L c v h) u w r) := by
  refine CX12_restOf hr ?_
  simp (disch := omega) only [a6, nc]
  refine ⟨vpn (by omega) (by omega), vpn hb (by omega), ?_⟩
  rw [hp, hE.1.2.2.2.2.2.1, he]
  exact xPr.use (R_restFrom hr hE hW hv hh) ⟨_, rfl, rfl, rfl, rfl, rfl, rfl, rfl, rfl⟩
theorem R_nearOf {L : xU} {c : Int32} (hr : xRf r) (hE : rE u L c) (hW : lWok L) {b v h t : Nat} (hb : b < 6) (hp : u 684 (6 + b) = nI v) (hv : v < lV L) (he : L 5 b = nI h) (hh : h < 7) (ht : t < 7) : xCall g (d + 5) mX12_nearOf [.ref 655, .int (nI b), .int (nI t)] 698 u w r 698 (xPr (lM L c v h t) u w r) := by
  have hv7 := hW.1
  refine CX12_nearOf (xPr.use (R_restOf hr hE hW hb hp hv he hh) ⟨_, rfl, rfl, rfl, rfl, ?_⟩)
  have key : ∀ n k, k + n = lV L → ∀ m, isM (fun x => lF L c x t) (fun x => x < k ∧ bt (lR L c v h) x = true) m → xEv g (d + 5) mX12_nearOf 14 [some (.ref 655), none, some (.int (nI t)), some (.int (lR L c v h)), some (.int m), some (.int (nI k))] [] 698 u w r 698 (xPr (lM L c v h t) u w r) := by
    intro n
    induction n with
    | zero =>
      intro k hk m hm
      have : k = lV L := by omega
      subst this
      refine TX12_nearOf_14 (brT (by rw [hE.1.1.1]; exact nI_le (Nat.le_refl _) (by omega)) ⟨?_, rfl, rfl, rfl⟩)
      have : m = lM L c v h t := hm.one (lMk_is hW c hv h t 7) (fun x => ⟨fun ⟨q1, q2⟩ => ⟨q1, (bt_lRk hW c hv h (by omega) 7).mp q2⟩, fun ⟨q1, q2⟩ => ⟨q1, (bt_lRk hW c hv h (by omega) 7).mpr q2⟩⟩)
      rw [this]
    | succ n ih =>
      intro k hk m hm
      refine TX12_nearOf_14 (brF (by rw [hE.1.1.1]; exact nI_ge (by omega) (by omega)) ?_)
      rw [test_1 (by omega)]
      refine ⟨fun q => xPr.use (R_farOf hr hE (by omega) ht) ⟨_, rfl, rfl, rfl, rfl, ?_⟩, fun q => TX12_nearOf_54 ?_⟩
      · have st := (hm.step k).to (T := fun x => x < k + 1 ∧ bt (lR L c v h) x = true) (fun x => by
          constructor
          · rintro (⟨z1, z2⟩ | rfl)
            · exact ⟨by omega, z2⟩
            · exact ⟨by omega, q⟩
          · intro ⟨z1, z2⟩
            by_cases e : x = k
            · exact Or.inr e
            · exact Or.inl ⟨by omega, z2⟩)
        refine ⟨fun q2 => TX12_nearOf_54 ?_, fun q2 => xPr.use (R_farOf hr hE (by omega) ht) ⟨_, rfl, rfl, rfl, rfl, TX12_nearOf_54 ?_⟩⟩
        · rw [nI_one]
          rw [if_neg (Int32.not_lt.mpr q2)] at st
          exact ih (k + 1) (by omega) _ st
        · rw [nI_one]
          rw [if_pos (Int32.not_le.mp q2)] at st
          exact ih (k + 1) (by omega) _ st
      · rw [nI_one]
        refine ih (k + 1) (by omega) _ (hm.to (fun x => ⟨fun ⟨z1, z2⟩ => ⟨by omega, z2⟩, fun ⟨z1, z2⟩ => ⟨?_, z2⟩⟩))
        rcases Nat.lt_or_ge x k with y | y
        · exact y
        · have : x = k := by omega
          subst this
          exact absurd z2 q
  exact key (lV L) 0 (Nat.zero_add _) 1000 (isM.zero.to (fun x => ⟨fun q => q.elim, fun ⟨z, _⟩ => by omega⟩))
end KCOUNT
