/-! QUESTIONS: ask -/
theorem nI_sub {a b : Nat} (h : b ≤ a) : nI a - nI b = nI (a - b) := by
  have : a = (a - b) + b := by omega
  conv => lhs; rw [this]
  rw [← nI_add, Int32.add_sub_cancel]
theorem cn_0 {n : Nat} {p : Nat → Bool} : cn n p = 0 ↔ ∀ i, i < n → p i = false := by
  induction n with
  | zero => exact ⟨fun _ i hi => by omega, fun _ => rfl⟩
  | succ n ih =>
    rw [cn_s]
    refine ⟨fun h i hi => ?_, fun h => ?_⟩
    · by_cases q : p n = true
      · rw [if_pos q] at h; omega
      · rw [if_neg q] at h
        by_cases z : i = n
        · subst z; simpa using q
        · exact ih.mp h i (by omega)
    · rw [if_neg (by rw [h n (by omega)]; decide)]
      exact ih.mpr (fun i hi => h i (by omega))
/-- of the villages of a set, from how many a letter is handed into b -/
def akY (L : xU) (e : Nat) (σ : Nat → Int32) (p : Nat) (s : Int32) (b : Nat) : Nat := cn (lV L) (fun v => bt s v && bt (ftInto L e σ p v) b)
def akA (L : xU) (s : Int32) : Nat := cn (lV L) (bt s)
def akO (L : xU) (e : Nat) (σ : Nat → Int32) (p : Nat) (s : Int32) (b : Nat) : Nat := max (akY L e σ p s b) (akA L s - akY L e σ p s b)
def akK (L : xU) (e : Nat) (σ : Nat → Int32) (p : Nat) (s : Int32) (k : Nat) : Int32 × Nat := xfold k (fun b q => if akO L e σ p s b < q.2 then (nI b, akO L e σ p s b) else q) (-1, 8)
theorem akK_s (L : xU) (e : Nat) (σ : Nat → Int32) (p : Nat) (s : Int32) (k : Nat) : akK L e σ p s (k + 1) = if akO L e σ p s k < (akK L e σ p s k).2 then (nI k, akO L e σ p s k) else akK L e σ p s k := rfl
theorem akY_le (L : xU) (e : Nat) (σ : Nat → Int32) (p : Nat) (s : Int32) (b : Nat) : akY L e σ p s b ≤ akA L s := cn_mono (fun i _ h => (Bool.and_eq_true _ _ ▸ h).1)
theorem akO_le (L : xU) (e : Nat) (σ : Nat → Int32) (p : Nat) (s : Int32) (b : Nat) : akO L e σ p s b ≤ akA L s := by
  have := akY_le L e σ p s b
  unfold akO
  omega
theorem akA_le (L : xU) (s : Int32) : akA L s ≤ lV L := cn_le _ _
theorem akK_few (L : xU) (e : Nat) (σ : Nat → Int32) (p : Nat) (s : Int32) : ∀ k, (akK L e σ p s k).2 ≤ 8 := by
  intro k
  induction k with
  | zero => exact Nat.le_refl _
  | succ k ih =>
    rw [akK_s]
    split
    · next q => exact Nat.le_of_lt (Nat.lt_of_lt_of_le q ih)
    · exact ih
theorem akK_or (L : xU) (e : Nat) (σ : Nat → Int32) (p : Nat) (s : Int32) : ∀ k, (akK L e σ p s k).1 = -1 ∨ ∃ b, b < k ∧ (akK L e σ p s k).1 = nI b := by
  intro k
  induction k with
  | zero => exact Or.inl rfl
  | succ k ih =>
    rw [akK_s]
    split
    · exact Or.inr ⟨k, by omega, rfl⟩
    · rcases ih with h | ⟨b, h1, h2⟩
      · exact Or.inl h
      · exact Or.inr ⟨b, by omega, h2⟩
theorem max_nI {a y : Nat} (h : y ≤ a) (ha : a < 100) : (if nI y < nI a - nI y then nI a - nI y else nI y) = nI (max y (a - y)) := by
  rw [nI_sub h]
  by_cases q : y < a - y
  · rw [if_pos ((lt_nI (by omega) (by omega)).mpr q), Nat.max_eq_right (by omega)]
  · rw [if_neg (fun z => q ((lt_nI (by omega) (by omega)).mp z)), Nat.max_eq_left (by omega)]
theorem max_nI' {a y : Nat} (h : y ≤ a) (ha : a < 100) : (if nI y ≤ nI a - nI y then nI a - nI y else nI y) = nI (max y (a - y)) := by
  rw [nI_sub h]
  by_cases q : y ≤ a - y
  · rw [if_pos ((le_nI (by omega) (by omega)).mpr q), Nat.max_eq_right q]
  · rw [if_neg (fun z => q ((le_nI (by omega) (by omega)).mp z)), Nat.max_eq_left (by omega)]
def aAskS (L : xU) (e : Nat) (σ : Nat → Int32) (p : Nat) (s k : Int32) : Int32 := if s = 0 then -1 else if (akK L e σ p s (lB L)).1 = -1 then -1 else if k = 0 then (akK L e σ p s (lB L)).1 else if k = 1 then nI (akK L e σ p s (lB L)).2 else -1
def aAsk (L : xU) (e : Nat) (σ : Nat → Int32) (h : Nat) (Z : xU) (i k k2 : Int32) : Int32 := if inN i (lV L) then aAskS L e σ i.toNatClampNeg (ftS L e σ h Z k2 i.toNatClampNeg) k else -1
theorem ftS_bt {L : xU} {e h p : Nat} {σ : Nat → Int32} {Z : xU} {k : Int32} (hv7 : lV L ≤ 7) {v : Nat} (hv : v < 32) (hb : bt (ftS L e σ h Z k p) v = true) : v < lV L ∧ v ≠ p := by
  unfold ftS at hb
  rw [bt_xset (by omega) _ hv, Bool.and_eq_true, decide_eq_true_iff] at hb
  refine ⟨hb.1, fun z => ?_⟩
  have := hb.2
  unfold ftP at this
  rw [decide_eq_true z] at this
  cases this
section ASK
variable {g : xGT} {d : Nat} {w : xW} {r : xQ} {L : xU} {l n e h t : Nat} {σ : Nat → Int32} {Z : xU}
theorem K_countHandedInto {u : xU} {p b : Nat} {s : Int32} (hr : xRf r) (hv7 : lV L ≤ 7) (hb : b < 6) (hs : ∀ v, v < 32 → bt s v = true → v < lV L ∧ v ≠ p) (h94 : ∀ v, v < lV L → v ≠ p → u 94 v = ftInto L e σ p v) :
    xCall g d mX3_countHandedInto [.ref 79, .int (nI b), .int s] 698 u w r 698 (xPr (nI (akY L e σ p s b)) u w r) := by
  have e7 : akY L e σ p s b = cn 7 (fun v => bt s v && bt (u 94 v) b) := by
    unfold akY
    rw [← cn_cut hv7]
    refine cn_congr (fun v hv => ?_)
    cases q : bt s v
    · simp
    · obtain ⟨y1, y2⟩ := hs v (by omega) q
      rw [decide_eq_true y1, h94 v y1 y2]
      simp
  rw [e7]
  refine CX3_countHandedInto ?_
  refine xlq (N := 7) (G := fun k => xEv g d mX3_countHandedInto 5 [some (.ref 79), some (.int (nI b)), some (.int s), some (.int (nI (cn k (fun v => bt s v && bt (u 94 v) b)))), some (.int (nI k))] [] 698 u w r 698 _) ?_ ?_
  · exact TX3_countHandedInto_5 hr (brT (nI_le (a := 7) (Nat.le_refl _) (by omega)) ⟨rfl, rfl, rfl, rfl⟩)
  · intro k hk kk
    refine TX3_countHandedInto_5 hr (brF (nI_ge (b := 7) (by omega) (by omega)) ⟨fun _ => vpn (by omega) (by omega), ?_⟩)
    rw [test_1 (by omega), nc (by omega), test_1 (by omega)]
    rw [cn_s] at kk
    refine ⟨fun q => TX3_countHandedInto_40 ?_, fun q => TX3_countHandedInto_40 ?_⟩
    · rw [if_pos (by rw [q.1, q.2]; rfl)] at kk
      rw [nI_one, nI_one]; exact kk
    · rw [if_neg (fun z => q (by simpa using z))] at kk
      rw [nI_one]; exact kk
theorem akA_12 {s : Int32} (hv7 : lV L ≤ 7) (hs : ∀ v, v < 32 → bt s v = true → v < lV L) : cn 12 (bt s) = akA L s := by
  unfold akA
  rw [← cn_cut (show lV L ≤ 12 by omega)]
  refine cn_congr (fun v hv => ?_)
  cases q : bt s v
  · simp
  · rw [decide_eq_true (hs v (by omega) q)]; rfl
theorem akA_0 {s : Int32} (hv7 : lV L ≤ 7) (hs : ∀ v, v < 32 → bt s v = true → v < lV L) : akA L s = 0 ↔ s = 0 := by
  unfold akA
  rw [cn_0]
  refine ⟨fun h => b_ext (fun v hv => ?_), fun h i _ => by rw [h, b_0]⟩
  rw [b_0]
  cases q : bt s v
  · rfl
  · have := h v (hs v hv q); rw [q] at this; exact this
theorem K_ask {u : xU} (hK : lOkk L) (hR : kR r l) (hN : kN L l n e u σ) (hok : loOk L h t Z) (hlo : cLo u h t Z) (i k k2 : Int32) :
    xCall g (d + 7) mX11_ask [.ref 8, .int i, .int k, .int k2] 698 u w r 698 (xIn (aAsk L e σ h Z i k k2) (xSm (fLk l) u) w r) := by
  have hv7 := hK.1.1
  have hb6 := hK.2.2.1.1
  obtain ⟨hr, h_l, q_l, hm, ht, hl⟩ := id hR
  refine CX11_ask h_l ht (xPr.use (K_isOneOf _ _) ⟨_, rfl, rfl, rfl, rfl, ?_⟩)
  rw [hN.1.1.1.1, xb_eq0]
  unfold aAsk
  refine ⟨fun q => ⟨by rw [if_neg q], xSm.rf, rfl, rfl⟩, fun q => ?_⟩
  rw [Classical.not_not] at q
  rw [if_pos (show inN i (lV L) from q)]
  obtain ⟨p, hp, rfl⟩ := inN.get q (by omega)
  rw [nc (by omega)]
  have hs : ∀ v, v < 32 → bt (ftS L e σ h Z k2 p) v = true → v < lV L ∧ v ≠ p := fun v hv hb => ftS_bt hv7 hv hb
  refine xIn.use (K_fitting hK hR hN hok hlo hp k2) (fun u1 ⟨h1, f1⟩ => ⟨_, rfl, rfl, rfl, ?_⟩)
  generalize ftS L e σ h Z k2 p = s at hs
  have N1 : kN L l n e u1 σ := hN.kept hR f1 (fun b hb => by omega)
  unfold aAskS
  refine ⟨fun z => ⟨by rw [if_pos z], f1, rfl, rfl⟩, fun z => ?_⟩
  rw [if_neg z]
  have a7 := akA_le L s
  have small : ∀ i, 12 ≤ i → i < 32 → bt s i = false := fun i i1 i2 => by
    cases y : bt s i
    · rfl
    · have := (hs i i2 y).1; omega
  refine xlq (N := lB L) (G := fun b => xEv g (d + 7) mX11_ask 41 [some (.ref 8), none, some (.int k), none, some (.int s), some (.int (akK L e σ p s b).1), some (.int (nI (akK L e σ p s b).2)), some (.int (nI b)), none, none] [] 698 u1 w r 698 _) ?_ ?_
  · refine TX11_ask_41 hr h_l ht (brT (by rw [N1.1.1.1.2.2]; exact nI_le (Nat.le_refl _) (by omega)) ⟨fun y => ⟨?_, f1, rfl, rfl⟩, fun y => ⟨?_, f1, rfl, rfl⟩⟩)
    · by_cases x : (akK L e σ p s (lB L)).1 = -1
      · rw [if_pos x, x]
      · rw [if_neg x, if_pos (y.resolve_left x)]
    · rw [if_neg (fun x => y (Or.inl x)), if_neg (fun x => y (Or.inr x))]
  · intro b hb kk
    refine TX11_ask_41 hr h_l ht (brF (by rw [N1.1.1.1.2.2]; exact nI_ge (by omega) (by omega)) ?_)
    refine xPr.use (K_countHandedInto hr hv7 (by omega) hs h1) ⟨_, rfl, rfl, rfl, rfl, xPr.use (K_bitCount small) ⟨_, rfl, rfl, rfl, rfl, ?_⟩⟩
    have few := akK_few L e σ p s b
    have ol := akO_le L e σ p s b
    rw [akA_12 hv7 (fun v hv hb => (hs v hv hb).1), max_nI (akY_le L e σ p s b) (by omega)]
    rw [akK_s] at kk
    have eo : max (akY L e σ p s b) (akA L s - akY L e σ p s b) = akO L e σ p s b := rfl
    rw [eo]
    refine ⟨fun y => TX11_ask_96 ?_, fun y => TX11_ask_96 ?_⟩
    · rw [le_nI (by omega) (by omega)] at y
      rw [if_neg (by omega)] at kk
      rw [nI_one]; exact kk
    · rw [le_nI (by omega) (by omega)] at y
      rw [if_pos (by omega)] at kk
      rw [nI_one]; exact kk
/-- the fewest as the reference keeps them -/
def akF (L : xU) (e : Nat) (σ : Nat → Int32) (p : Nat) (s : Int32) (b : Nat) : Nat := if b = 0 then akA L s + 1 else (akK L e σ p s b).2
theorem R_ask {u : xU} (hr : xRf r) (hK : lOkk L) (hN : rN1 L n e u σ) (hok : loOk L h t Z) (hlo : rLo u h t Z) (i k k2 : Int32) :
    xCall g (d + 11) mX12_ask [.ref 655, .int i, .int k, .int k2] 698 u w r 698 (xIn (aAsk L e σ h Z i k k2) (rA L n e σ u) w r) := by
  have hv7 := hK.1.1
  have hb6 := hK.2.2.1.1
  refine CX12_ask (xPr.use (R_isVillage hN.1 hv7 i) ⟨_, rfl, rfl, rfl, rfl, ?_⟩)
  rw [xb_eq0]
  unfold aAsk
  refine ⟨fun q => ⟨by rw [if_neg q], rA.rf hN, rfl, rfl⟩, fun q => xPr.use (R_isIn _ _ _) ⟨_, rfl, rfl, rfl, rfl, ?_⟩⟩
  rw [Classical.not_not] at q
  rw [if_pos q]
  have k01 : (¬ k < 0 ∧ ¬ (1 : Int32) < k) ↔ (k = 0 ∨ k = 1) := by
    rw [ti_lt, ti_lt, ti_eq, ti_eq, z_toInt, show (1 : Int32).toInt = 1 from rfl]
    omega
  rw [xb_eq0, k01]
  unfold aAskS
  refine ⟨fun z => ⟨?_, rA.rf hN, rfl, rfl⟩, fun z => ?_⟩
  · rw [if_neg (fun y => z (Or.inl y)), if_neg (fun y => z (Or.inr y)), ite_self, ite_self]
  · rw [Classical.not_not] at z
    obtain ⟨p, hp, rfl⟩ := inN.get q (by omega)
    rw [nc (by omega)]
    have hs : ∀ v, v < 32 → bt (ftS L e σ h Z k2 p) v = true → v < lV L ∧ v ≠ p := fun v hv hb => ftS_bt hv7 hv hb
    refine xIn.use (R_layFit hr hK hN hok hlo hp k2) (fun u1 ⟨h1, f1⟩ => ⟨_, rfl, rfl, rfl, xPr.use (R_members _) ⟨_, rfl, rfl, rfl, rfl, ?_⟩⟩)
    generalize ftS L e σ h Z k2 p = s at hs
    rw [akA_12 hv7 (fun v hv hb => (hs v hv hb).1)]
    have a7 := akA_le L s
    have a0 := akA_0 (L := L) hv7 (fun v hv hb => (hs v hv hb).1)
    have L1 := f1.2.1
    have fin : (akA L s = 0 ∨ True) → ∀ (b : Int32) (f : Nat) (j : Nat), ¬ (¬ nI (lB L) ≤ nI j ∧ ¬ nI (akA L s) ≤ 0) → (s = 0 → b = -1) → (¬ s = 0 → b = (akK L e σ p s (lB L)).1 ∧ (¬ b = -1 → f = (akK L e σ p s (lB L)).2)) → (b = -1 ∨ ∃ x, x < 6 ∧ b = nI x) →
        xEv g (d + 11) mX12_ask 46 [some (.ref 655), none, some (.int k), none, some (.int s), some (.int (nI (akA L s))), some (.int b), some (.int (nI f)), some (.int (nI j)), none, none] [] 698 u1 w r 698 (xIn (if s = 0 then -1 else if (akK L e σ p s (lB L)).1 = -1 then -1 else if k = 0 then (akK L e σ p s (lB L)).1 else if k = 1 then nI (akK L e σ p s (lB L)).2 else -1) (rA L n e σ u) w r) := by
      intro _ b f j hex hb0 hb1 hor
      refine TX12_ask_46 (brF (by rw [L1.1.2.2]; exact hex) ?_)
      by_cases y : s = 0
      · rw [hb0 y]
        refine brF (by decide) ⟨by rw [if_pos y], f1, rfl, rfl⟩
      · rw [if_neg y]
        obtain ⟨b1, b2⟩ := hb1 y
        rcases hor with x | ⟨x, x1, x2⟩
        · rw [← b1, if_pos x, x]
          exact brF (by decide) ⟨rfl, f1, rfl, rfl⟩
        · have nb : ¬ b = -1 := by rw [x2]; exact nI_m1 (by omega)
          rw [← b1, if_neg nb]
          refine brT (by rw [x2]; exact nI_pos' (by omega)) ⟨fun v => ⟨by rw [if_pos v], f1, rfl, rfl⟩, fun v => ⟨by rw [if_neg v, if_pos (z.resolve_left v), b2 nb], f1, rfl, rfl⟩⟩
    by_cases y0 : s = 0
    · have e0 : akA L s = 0 := a0.mpr y0
      rw [nI_one]
      refine fin (Or.inr trivial) (-1) (akA L s + 1) 0 (fun x => x.2 ?_) (fun _ => rfl) (fun x => absurd y0 x) (Or.inl rfl)
      rw [e0]; decide
    · have ap : 0 < akA L s := Nat.pos_of_ne_zero (fun x => y0 (a0.mp x))
      rw [nI_one]
      refine xlq (N := lB L) (G := fun b => xEv g (d + 11) mX12_ask 46 [some (.ref 655), none, some (.int k), none, some (.int s), some (.int (nI (akA L s))), some (.int (akK L e σ p s b).1), some (.int (nI (akF L e σ p s b))), some (.int (nI b)), none, none] [] 698 u1 w r 698 _) ?_ ?_
      · refine fin (Or.inr trivial) _ _ _ (fun x => x.1 (nI_le (Nat.le_refl _) (by omega))) (fun x => absurd x y0) (fun _ => ⟨rfl, fun x => ?_⟩) ?_
        · unfold akF
          rw [if_neg (fun v => x (by rw [v]; rfl))]
        · rcases akK_or L e σ p s (lB L) with v | ⟨b, b1, b2⟩
          · exact Or.inl v
          · exact Or.inr ⟨b, by omega, b2⟩
      · intro b hb kk
        refine TX12_ask_46 (brT ⟨by rw [L1.1.2.2]; exact nI_ge (by omega) (by omega), by rw [show (0 : Int32) = nI 0 from rfl, le_nI (by omega) (by omega)]; omega⟩ ?_)
        refine xlq (N := lV L) (G := fun v => xEv g (d + 11) mX12_ask 66 [some (.ref 655), none, some (.int k), none, some (.int s), some (.int (nI (akA L s))), some (.int (akK L e σ p s b).1), some (.int (nI (akF L e σ p s b))), some (.int (nI b)), some (.int (nI (cn v (fun v => bt s v && bt (ftInto L e σ p v) b)))), some (.int (nI v))] [] 698 u1 w r 698 _) ?_ ?_
        · refine TX12_ask_66 hr (brT (by rw [L1.1.1]; exact nI_le (Nat.le_refl _) (by omega)) ?_)
          have ey : cn (lV L) (fun v => bt s v && bt (ftInto L e σ p v) b) = akY L e σ p s b := rfl
          have eo : max (akY L e σ p s b) (akA L s - akY L e σ p s b) = akO L e σ p s b := rfl
          have ol := akO_le L e σ p s b
          have few := akK_few L e σ p s b
          rw [ey, max_nI' (akY_le L e σ p s b) (by omega), eo]
          have f9 : akF L e σ p s b ≤ 8 := by unfold akF; split <;> omega
          have same : akO L e σ p s b < akF L e σ p s b ↔ akO L e σ p s b < (akK L e σ p s b).2 := by
            unfold akF
            by_cases v : b = 0
            · rw [if_pos v]
              have : (akK L e σ p s b).2 = 8 := by rw [v]; rfl
              rw [this]; omega
            · rw [if_neg v]
          have f1' : akF L e σ p s (b + 1) = (akK L e σ p s (b + 1)).2 := if_neg (by omega)
          rw [f1', akK_s] at kk
          rw [lt_nI (by omega) (by omega), same]
          refine ⟨fun v => TX12_ask_161 ?_, fun v => TX12_ask_161 ?_⟩
          · rw [if_pos v] at kk
            rw [nI_one]; exact kk
          · rw [if_neg v] at kk
            rw [nI_one]
            have : akF L e σ p s b = (akK L e σ p s b).2 := by
              unfold akF
              rw [if_neg]
              intro x
              have : (akK L e σ p s b).2 = 8 := by rw [x]; rfl
              omega
            rw [this]; exact kk
        · intro v hv kk2
          refine TX12_ask_66 hr (brF (by rw [L1.1.1]; exact nI_ge (by omega) (by omega)) ⟨fun _ => vpn (by omega) (by omega), ?_⟩)
          refine xPr.use (R_truthb _) ⟨_, rfl, rfl, rfl, rfl, ?_⟩
          rw [cn_s] at kk2
          rw [nc (by omega)]
          have hit : ((((s >>> (nI v &&& 31)) &&& 1) = 1 ∧ ((u1 695 v >>> (nI b &&& 31)) &&& 1) = 1)) ↔ (bt s v && bt (ftInto L e σ p v) b) = true := by
            rw [test_1 (by omega), test_1 (by omega), Bool.and_eq_true]
            refine and_congr_right (fun y => ?_)
            obtain ⟨y1, y2⟩ := hs v (by omega) y
            rw [h1 v y1 y2]
          rw [xb_iff hit, nI_one]
          by_cases y : (bt s v && bt (ftInto L e σ p v) b) = true
          · rw [if_pos y] at kk2
            rw [xb_pos y, nI_one]; exact kk2
          · rw [if_neg y] at kk2
            rw [xb_neg y, Int32.add_zero]; exact kk2
end ASK
