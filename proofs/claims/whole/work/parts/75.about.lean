/-! ABOUT, FAULT, THE TAPE -/
def tpOk (n : Nat) (T : Nat → Int32) : Prop := n ≤ 1600 ∧ ∀ i, i < n → ∃ k, k < 256 ∧ T i = nI k
def cTp (n : Nat) (T : Nat → Int32) (u : xU) : Prop := u 10 1 = nI n ∧ ∀ i, i < n → u 11 i &&& 255 = T i
def rTp (n : Nat) (T : Nat → Int32) (u : xU) : Prop := u 655 1 = nI n ∧ ∀ i, i < n → u 656 i = T i
theorem cTp.kept {n : Nat} {T : Nat → Int32} {u u' : xU} (h : cTp n T u) {F : Nat → Prop} (f : xSm F u u') (h1 : ¬ F 10) (h2 : ¬ F 11) : cTp n T u' :=
  ⟨(f _ _ h1).trans h.1, fun i hi => by rw [f _ _ h2]; exact h.2 i hi⟩
theorem rTp.kept {n : Nat} {T : Nat → Int32} {u u' : xU} (h : rTp n T u) {F : Nat → Nat → Prop} (f : xSn F u u') (h1 : ¬ F 655 1) (h2 : ∀ i, ¬ F 656 i) : rTp n T u' :=
  ⟨(f _ _ h1).trans h.1, fun i hi => by rw [f _ _ (h2 i)]; exact h.2 i hi⟩
/-- one byte of four -/
def tB (x : Int32) (s : Int32) : Int32 := (x >>> (s &&& 31)) &&& 255
theorem i8_255 (x : Int32) : (x.toInt8.toInt32).toInt8.toInt32 &&& 255 = x &&& 255 := by
  refine b_ext (fun i hi => ?_)
  rw [b_and, b_and, b_255]
  by_cases q : i < 8
  · have e : ∀ y : Int32, bt y.toInt8.toInt32 i = bt y i := by
      intro y
      unfold bt
      rw [Int8.toBitVec_toInt32, BitVec.getLsbD_signExtend, Int32.toBitVec_toInt8, BitVec.getLsbD_signExtend]
      simp [q, hi]
    rw [e, e]
  · simp [q]
theorem tB_rng (x s : Int32) : ∃ k, k < 256 ∧ tB x s = nI k := bt_small (m := 8) (by omega) (fun i h1 h2 => by
  unfold tB
  rw [b_and, b_255, decide_eq_false (by omega), Bool.and_false])
def tFour (n : Nat) (x : Int32) (T : Nat → Int32) : Nat → Int32 := up (up (up (up T n (tB x 24)) (n + 1) (tB x 16)) (n + 2) (tB x 8)) (n + 3) (tB x 0)
theorem cTp.byte {n : Nat} {T : Nat → Int32} {u : xU} (h : cTp n T u) {v y : Int32} (e : v &&& 255 = y) : cTp (n + 1) (up T n y) (x2 (x2 u 11 n v) 10 1 (nI (n + 1))) := by
  refine ⟨x2_same _ _ _ _, fun i hi => ?_⟩
  rw [x2_a _ _ (by omega)]
  by_cases q : i = n
  · subst q; rw [x2_same, up_s]; exact e
  · rw [x2_i _ _ q, up_n q]; exact h.2 i (by omega)
theorem rTp.byte {n : Nat} {T : Nat → Int32} {u : xU} (h : rTp n T u) (y : Int32) : rTp (n + 1) (up T n y) (x2 (x2 u 656 n y) 655 1 (nI (n + 1))) := by
  refine ⟨x2_same _ _ _ _, fun i hi => ?_⟩
  rw [x2_a _ _ (by omega)]
  by_cases q : i = n
  · subst q; rw [x2_same, up_s]
  · rw [x2_i _ _ q, up_n q]; exact h.2 i (by omega)
theorem tpOk.byte {n : Nat} {T : Nat → Int32} (h : tpOk n T) {y : Int32} (hn : n + 1 ≤ 1600) (e : ∃ k, k < 256 ∧ y = nI k) : tpOk (n + 1) (up T n y) := by
  refine ⟨hn, fun i hi => ?_⟩
  by_cases q : i = n
  · subst q; rw [up_s]; exact e
  · rw [up_n q]; exact h.2 i (by omega)
theorem tpOk.four {n : Nat} {T : Nat → Int32} (h : tpOk n T) (x : Int32) (hn : n + 4 ≤ 1600) : tpOk (n + 4) (tFour n x T) :=
  (((h.byte (by omega) (tB_rng x 24)).byte (by omega) (tB_rng x 16)).byte (by omega) (tB_rng x 8)).byte (by omega) (tB_rng x 0)
abbrev fTp : Nat → Prop := fun x => x = 10 ∨ x = 11
abbrev fRp : Nat → Nat → Prop := fun b i => b = 656 ∨ (b = 655 ∧ i = 1)
def tFeed (n : Nat) (a b c d e : Int32) (T : Nat → Int32) : Nat → Int32 := tFour (n + 16) e (tFour (n + 12) d (tFour (n + 8) c (tFour (n + 4) b (tFour n a T))))
theorem tpOk.feed {n : Nat} {T : Nat → Int32} (h : tpOk n T) (a b c d e : Int32) (hn : n + 20 ≤ 1600) : tpOk (n + 20) (tFeed n a b c d e T) :=
  ((((h.four a (by omega)).four b (by omega)).four c (by omega)).four d (by omega)).four e (by omega)
section TAPE
variable {g : xGT} {d : Nat} {w : xW} {r : xQ} {L : xU} {l n e : Nat} {σ : Nat → Int32}
theorem K_four {u : xU} {n : Nat} {T : Nat → Int32} (hr : xRf r) (hn : n + 4 ≤ 1600) (h : cTp n T u) (x : Int32) : xCall g d mX10_putFour [.ref 10, .int x] 698 u w r 698 (xVd (fun u' => cTp (n + 4) (tFour n x T) u' ∧ xSm fTp u u') w r) := by
  have st : ∀ (m : Nat) (T : Nat → Int32) (u : xU) (s : Int32) (P : xPost), m + 1 ≤ 1600 → cTp m T u → ¬ s < 0 → (∀ u', cTp (m + 1) (up T m (tB x s)) u' → xSm fTp u u' → xEv g d mX10_putFour 3 [some (.ref 10), some (.int x), some (.int (s + (-8 : Int32)))] [] 698 u' w r 698 P) → xEv g d mX10_putFour 3 [some (.ref 10), some (.int x), some (.int s)] [] 698 u w r 698 P := by
    intro m T u s P hm h hs kk
    refine TX10_putFour_3 hr (brF hs ⟨fun _ => ⟨?_, ?_⟩, fun z => absurd ?_ z⟩)
    · rw [h.1]; exact vpn (by omega) (by omega)
    · rw [h.1, nc (by omega), nI_one]
      exact TX10_putFour_49 (kk _ (h.byte (i8_255 _)) (((xSm.rf (F := fTp)).put (Or.inr rfl)).put (Or.inl rfl)))
    · rw [h.1]; exact ⟨nI_nn (by omega), nI_ge (b := 1600) (by omega) (by omega)⟩
  refine CX10_putFour (st n T u 24 _ (by omega) h (by decide) (fun u1 h1 f1 => ?_))
  rw [show (24 : Int32) + (-8 : Int32) = 16 by decide]
  refine st (n + 1) _ u1 16 _ (by omega) h1 (by decide) (fun u2 h2 f2 => ?_)
  rw [show (16 : Int32) + (-8 : Int32) = 8 by decide]
  refine st (n + 2) _ u2 8 _ (by omega) h2 (by decide) (fun u3 h3 f3 => ?_)
  rw [show (8 : Int32) + (-8 : Int32) = 0 by decide]
  refine st (n + 3) _ u3 0 _ (by omega) h3 (by decide) (fun u4 h4 f4 => ?_)
  exact TX10_putFour_3 hr (brT (by decide) ⟨rfl, ⟨h4, ((f1.tr f2).tr f3).tr f4⟩, rfl, rfl⟩)
theorem R_four {u : xU} {n : Nat} {T : Nat → Int32} (hr : xRf r) (hn : n + 4 ≤ 1600) (h : rTp n T u) (x : Int32) : xCall g d mX12_four [.ref 655, .int x] 698 u w r 698 (xVd (fun u' => rTp (n + 4) (tFour n x T) u' ∧ xSn fRp u u') w r) := by
  have st : ∀ (m : Nat) (T : Nat → Int32) (u : xU) (s : Int32) (P : xPost), m + 1 ≤ 1600 → rTp m T u → ¬ s < 0 → (∀ u', rTp (m + 1) (up T m (tB x s)) u' → xSn fRp u u' → xEv g d mX12_four 3 [some (.ref 655), some (.int x), some (.int (s + (-8 : Int32)))] [] 698 u' w r 698 P) → xEv g d mX12_four 3 [some (.ref 655), some (.int x), some (.int s)] [] 698 u w r 698 P := by
    intro m T u s P hm h hs kk
    refine TX12_four_3 hr (brF hs ⟨?_, ?_⟩)
    · rw [h.1]; exact vpn (by omega) (by omega)
    · rw [h.1, nc (by omega), nI_one]
      exact kk _ (h.byte _) (((xSn.rf (F := fRp)).put (Or.inl rfl)).put (Or.inr ⟨rfl, rfl⟩))
  refine CX12_four (st n T u 24 _ (by omega) h (by decide) (fun u1 h1 f1 => ?_))
  rw [show (24 : Int32) + (-8 : Int32) = 16 by decide]
  refine st (n + 1) _ u1 16 _ (by omega) h1 (by decide) (fun u2 h2 f2 => ?_)
  rw [show (16 : Int32) + (-8 : Int32) = 8 by decide]
  refine st (n + 2) _ u2 8 _ (by omega) h2 (by decide) (fun u3 h3 f3 => ?_)
  rw [show (8 : Int32) + (-8 : Int32) = 0 by decide]
  refine st (n + 3) _ u3 0 _ (by omega) h3 (by decide) (fun u4 h4 f4 => ?_)
  exact TX12_four_3 hr (brT (by decide) ⟨rfl, ⟨h4, ((f1.tr f2).tr f3).tr f4⟩, rfl, rfl⟩)
theorem fd_if {n : Nat} (hn : n ≤ 1600) : (nI n + 20 ≤ (1600 : Int32)) ↔ n + 20 ≤ 1600 := by
  rw [show nI n + 20 = nI (n + 20) from nI_add n 20]
  exact le_nI (b := 1600) (by omega) (by omega)
def aFeed (n : Nat) : Int32 := if n + 20 ≤ 1600 then nI (n + 20) else -1
theorem K_feed {u : xU} {n : Nat} {T : Nat → Int32} (hr : xRf r) (hn : n ≤ 1600) (h : cTp n T u) (x1 x2 x3 x4 x5 : Int32) : xCall g (d + 1) mX11_feed [.ref 8, .int x1, .int x2, .int x3, .int x4, .int x5] 698 u w r 698 (xIn (aFeed n) (fun u' => (n + 20 ≤ 1600 → cTp (n + 20) (tFeed n x1 x2 x3 x4 x5 T) u') ∧ (¬ n + 20 ≤ 1600 → u' = u) ∧ xSm fTp u u') w r) := by
  refine CX11_feed hr ?_
  rw [h.1, fd_if hn]
  unfold aFeed
  refine ⟨fun q => ?_, fun q => ⟨by rw [if_neg q], ⟨fun z => absurd z q, fun _ => rfl, xSm.rf⟩, rfl, rfl⟩⟩
  refine xVd.use (K_four hr (by omega) h x1) (fun u1 ⟨h1, f1⟩ => ⟨rfl, rfl, rfl, ?_⟩)
  refine xVd.use (K_four hr (by omega) h1 x2) (fun u2 ⟨h2, f2⟩ => ⟨rfl, rfl, rfl, ?_⟩)
  refine xVd.use (K_four hr (by omega) h2 x3) (fun u3 ⟨h3, f3⟩ => ⟨rfl, rfl, rfl, ?_⟩)
  refine xVd.use (K_four hr (by omega) h3 x4) (fun u4 ⟨h4, f4⟩ => ⟨rfl, rfl, rfl, ?_⟩)
  refine xVd.use (K_four hr (by omega) h4 x5) (fun u5 ⟨h5, f5⟩ => ⟨rfl, rfl, rfl, ?_, ⟨fun _ => h5, fun z => absurd q z, (((f1.tr f2).tr f3).tr f4).tr f5⟩, rfl, rfl⟩)
  rw [if_pos q, h5.1]
theorem R_feed {u : xU} {n : Nat} {T : Nat → Int32} (hr : xRf r) (hn : n ≤ 1600) (h : rTp n T u) (x1 x2 x3 x4 x5 : Int32) : xCall g (d + 1) mX12_feed [.ref 655, .int x1, .int x2, .int x3, .int x4, .int x5] 698 u w r 698 (xIn (aFeed n) (fun u' => (n + 20 ≤ 1600 → rTp (n + 20) (tFeed n x1 x2 x3 x4 x5 T) u') ∧ (¬ n + 20 ≤ 1600 → u' = u) ∧ xSn fRp u u') w r) := by
  refine CX12_feed ?_
  rw [h.1, fd_if hn]
  unfold aFeed
  refine ⟨fun q => ?_, fun q => ⟨by rw [if_neg q], ⟨fun z => absurd z q, fun _ => rfl, xSn.rf⟩, rfl, rfl⟩⟩
  refine xVd.use (R_four hr (by omega) h x1) (fun u1 ⟨h1, f1⟩ => ⟨rfl, rfl, rfl, ?_⟩)
  refine xVd.use (R_four hr (by omega) h1 x2) (fun u2 ⟨h2, f2⟩ => ⟨rfl, rfl, rfl, ?_⟩)
  refine xVd.use (R_four hr (by omega) h2 x3) (fun u3 ⟨h3, f3⟩ => ⟨rfl, rfl, rfl, ?_⟩)
  refine xVd.use (R_four hr (by omega) h3 x4) (fun u4 ⟨h4, f4⟩ => ⟨rfl, rfl, rfl, ?_⟩)
  refine xVd.use (R_four hr (by omega) h4 x5) (fun u5 ⟨h5, f5⟩ => ⟨rfl, rfl, rfl, ?_, ⟨fun _ => h5, fun z => absurd q z, (((f1.tr f2).tr f3).tr f4).tr f5⟩, rfl, rfl⟩)
  rw [if_pos q, h5.1]
abbrev endC (n : Nat) (i : Int32) : Prop := ¬ (i < 0 ∨ ¬ i ≤ nI n)
def aEnd (n : Nat) (i : Int32) : Int32 := if endC n i then i else -1
theorem endC.get {n : Nat} {i : Int32} (h : endC n i) (hn : n ≤ 1600) : i.toNatClampNeg ≤ n ∧ i = nI i.toNatClampNeg := by
  have h1 : ¬ i < 0 := fun z => h (Or.inl z)
  have h2 : i ≤ nI n := Classical.byContradiction (fun z => h (Or.inr z))
  obtain ⟨k, hk, rfl⟩ := inN.get (i := i) (n := n + 1) ⟨h1, fun z => by
    rw [ti_le, ti_nI (by omega)] at z
    rw [ti_le, ti_nI (by omega)] at h2
    omega⟩ (by omega)
  rw [nc (by omega)]
  exact ⟨by omega, rfl⟩
theorem K_end {u : xU} {n : Nat} {T : Nat → Int32} (hr : xRf r) (hn : n ≤ 1600) (h : cTp n T u) (i : Int32) : xCall g d mX11_end [.ref 8, .int i] 698 u w r 698 (xIn (aEnd n i) (fun u' => (endC n i → cTp i.toNatClampNeg T u') ∧ (¬ endC n i → u' = u) ∧ xSm fTp u u') w r) := by
  refine CX11_end hr ?_
  rw [h.1]
  unfold aEnd
  refine ⟨fun q => ⟨by rw [if_neg (fun z => z q)], ⟨fun z => absurd q z, fun _ => rfl, xSm.rf⟩, rfl, rfl⟩, fun q => ⟨by rw [if_pos q], ⟨fun _ => ?_, fun z => absurd q z, (xSm.rf (F := fTp)).put (Or.inl rfl)⟩, rfl, rfl⟩⟩
  obtain ⟨h1, h2⟩ := endC.get q hn
  exact ⟨by rw [x2_same]; exact h2, fun j hj => by rw [x2_a _ _ (by omega)]; exact h.2 j (by omega)⟩
theorem R_end {u : xU} {n : Nat} {T : Nat → Int32} (hn : n ≤ 1600) (h : rTp n T u) (i : Int32) : xCall g d mX12_end [.ref 655, .int i] 698 u w r 698 (xIn (aEnd n i) (fun u' => (endC n i → rTp i.toNatClampNeg T u') ∧ (¬ endC n i → u' = u) ∧ xSn fRp u u') w r) := by
  refine CX12_end ?_
  rw [h.1]
  unfold aEnd
  refine ⟨fun q => ⟨by rw [if_neg (fun z => z q)], ⟨fun z => absurd q z, fun _ => rfl, xSn.rf⟩, rfl, rfl⟩, fun q => ⟨by rw [if_pos q], ⟨fun _ => ?_, fun z => absurd q z, (xSn.rf (F := fRp)).put (Or.inr ⟨rfl, rfl⟩)⟩, rfl, rfl⟩⟩
  obtain ⟨h1, h2⟩ := endC.get q hn
  exact ⟨by rw [x2_same]; exact h2, fun j hj => by rw [x2_a _ _ (by omega)]; exact h.2 j (by omega)⟩
def aFault (f p : Int32) (i : Int32) : Int32 := if i = 0 then f else if i = 1 then p else -1
theorem K_fault {u : xU} (hr : xRf r) (i : Int32) : xCall g d mX11_fault [.ref 8, .int i] 698 u w r 698 (xPr (aFault (u 9 8) (u 9 9) i) u w r) := by
  refine CX11_fault hr ⟨fun q => ⟨?_, rfl, rfl, rfl⟩, fun q => ⟨?_, rfl, rfl, rfl⟩⟩
  · unfold aFault; rw [if_pos q]
  · unfold aFault; rw [if_neg q]
theorem R_fault {u : xU} (i : Int32) : xCall g d mX12_fault [.ref 655, .int i] 698 u w r 698 (xPr (aFault (u 655 2) (u 655 3) i) u w r) := by
  refine CX12_fault ⟨fun q => ⟨?_, rfl, rfl, rfl⟩, fun q => ⟨fun q2 => ⟨?_, rfl, rfl, rfl⟩, fun q2 => ⟨?_, rfl, rfl, rfl⟩⟩⟩
  · unfold aFault; rw [if_pos q]
  · unfold aFault; rw [if_neg q, if_pos q2]
  · unfold aFault; rw [if_neg q, if_neg q2]
theorem R_homeSet {u : xU} (hr : xRf r) (hN : rN1 L n e u σ) : xCall g (d + 1) mX12_homeSet [.ref 655] 698 u w r 698 (xPr (xset n (fun l => decide (¬ σ (38 + l) = -1))) u w r) := by
  have n10 := hN.2.2.1.1.2
  refine CX12_homeSet ?_
  refine xlq (N := n) (G := fun k => xEv g (d + 1) mX12_homeSet 4 [some (.ref 655), some (.int (xset k (fun l => decide (¬ σ (38 + l) = -1)))), some (.int (nI k))] [] 698 u w r 698 _) ?_ ?_
  · exact TX12_homeSet_4 hr (brT (by rw [hN.2.1, hN.2.2.1.1.1]; exact nI_le (Nat.le_refl _) (by omega)) ⟨rfl, rfl, rfl, rfl⟩)
  · intro k hkk kk
    refine TX12_homeSet_4 hr (brF (by rw [hN.2.1, hN.2.2.1.1.1]; exact nI_ge (by omega) (by omega)) ⟨by rw [show (38 : Int32) + nI k = nI (38 + k) from nI_add 38 k]; exact vpn (by omega) (by omega), xPr.use (R_truthb _) ⟨_, rfl, rfl, rfl, rfl, ?_⟩⟩)
    rw [show (38 : Int32) + nI k = nI (38 + k) from nI_add 38 k, nc (by omega), hN.2.1, or_sh (by omega), nI_one]
    rw [xset_s] at kk
    have ee : (¬ σ (38 + k) < 0) ↔ (decide (¬ σ (38 + k) = -1) = true) := by
      rw [decide_eq_true_iff, hN.2.2.1.came hkk]
    by_cases q : ¬ σ (38 + k) < 0
    · rw [if_pos q]; rw [if_pos (ee.1 q)] at kk; exact kk
    · rw [if_neg q]; rw [if_neg (fun z => q (ee.2 z))] at kk; exact kk
def aAbout (L : xU) (n : Nat) (σ : Nat → Int32) (a b h t tp m : Nat) (i : Int32) : Int32 :=
  if i = 0 then nI n else if i = 1 then nI (lV L) else if i = 2 then nI (lW L) else if i = 3 then nI (lB L) else if i = 4 then σ 90 else if i = 5 then σ 89 else if i = 6 then xset n (fun l => decide (¬ σ (38 + l) = -1)) else if i = 7 then nI a else if i = 8 then nI b else if i = 9 then nI h else if i = 10 then nI t else if i = 11 then nI tp else if i = 12 then L 0 5 else if i = 13 then nI m else -1
theorem K_about {u : xU} {o a b h t tp m : Nat} {RS : Nat → Nat → Int32} {Z : xU} {T Y : Nat → Int32} (hR : kR r l) (hN : kN L l n e u σ) (hg : cRg L u o a b RS) (hl : cLo u h t Z) (ht : cTp tp T u) (hy : cLy u m Y) (ho : o ≤ 1000) (hab : a + b ≤ 40) (i : Int32) :
    xCall g (d + 1) mX11_about [.ref 8, .int i] 698 u w r 698 (xPr (aAbout L n σ a b h t tp m i) u w r) := by
  obtain ⟨hr, h_l, q_l, hm, htl, hll⟩ := id hR
  obtain ⟨T1, k1⟩ := hN.2.1
  have kl := hN.1.1
  unfold aAbout
  refine CX11_about hr h_l q_l htl ⟨fun q => ?_, fun q => ?_, fun q => ?_, fun q => ?_, fun q => ?_, fun q => ?_, fun q => ?_, fun q => ?_, fun q => ?_, fun q => ?_, fun q => ?_, fun q => ?_, fun q => ?_, fun q => ?_, fun q0 q1 q2 q3 q4 q5 q6 q7 q8 q9 q10 q11 q12 q13 => ?_⟩
  · subst q; rw [if_pos rfl]; exact ⟨by rw [k1.1.2.2, hN.2.2.1.1], rfl, rfl, rfl⟩
  · subst q; rw [if_neg (by decide), if_pos rfl]; exact ⟨by rw [kl.1.1], rfl, rfl, rfl⟩
  · subst q; rw [if_neg (by decide), if_neg (by decide), if_pos rfl]; exact ⟨by rw [kl.1.2.1], rfl, rfl, rfl⟩
  · subst q; rw [if_neg (by decide), if_neg (by decide), if_neg (by decide), if_pos rfl]; exact ⟨by rw [kl.1.2.2], rfl, rfl, rfl⟩
  · subst q; rw [if_neg (by decide), if_neg (by decide), if_neg (by decide), if_neg (by decide), if_pos rfl]; exact ⟨by rw [k1.1.1], rfl, rfl, rfl⟩
  · subst q; rw [if_neg (by decide), if_neg (by decide), if_neg (by decide), if_neg (by decide), if_neg (by decide), if_pos rfl]; exact ⟨by rw [k1.1.2.1], rfl, rfl, rfl⟩
  · subst q; rw [if_neg (by decide), if_neg (by decide), if_neg (by decide), if_neg (by decide), if_neg (by decide), if_neg (by decide), if_pos rfl]; exact xPr.use (K_lettersHome hr k1 hN.2.2) ⟨_, rfl, rfl, rfl, rfl, rfl, rfl, rfl, rfl⟩
  · subst q; rw [if_neg (by decide), if_neg (by decide), if_neg (by decide), if_neg (by decide), if_neg (by decide), if_neg (by decide), if_neg (by decide), if_pos rfl]; exact CX6_undoable ⟨_, rfl, rfl, rfl, rfl, by rw [hg.1.1, hg.1.2.1, nI_sub (by omega), Nat.add_sub_cancel_left], rfl, rfl, rfl⟩
  · subst q; rw [if_neg (by decide), if_neg (by decide), if_neg (by decide), if_neg (by decide), if_neg (by decide), if_neg (by decide), if_neg (by decide), if_neg (by decide), if_pos rfl]; exact CX6_redoable ⟨_, rfl, rfl, rfl, rfl, by rw [hg.1.2.1, hg.1.2.2, nI_sub (by omega), Nat.add_sub_cancel_left], rfl, rfl, rfl⟩
  · subst q; rw [if_neg (by decide), if_neg (by decide), if_neg (by decide), if_neg (by decide), if_neg (by decide), if_neg (by decide), if_neg (by decide), if_neg (by decide), if_neg (by decide), if_pos rfl]; exact ⟨by rw [hl.1], rfl, rfl, rfl⟩
  · subst q; rw [if_neg (by decide), if_neg (by decide), if_neg (by decide), if_neg (by decide), if_neg (by decide), if_neg (by decide), if_neg (by decide), if_neg (by decide), if_neg (by decide), if_neg (by decide), if_pos rfl]; exact ⟨by rw [hl.2.1], rfl, rfl, rfl⟩
  · subst q; rw [if_neg (by decide), if_neg (by decide), if_neg (by decide), if_neg (by decide), if_neg (by decide), if_neg (by decide), if_neg (by decide), if_neg (by decide), if_neg (by decide), if_neg (by decide), if_neg (by decide), if_pos rfl]; exact ⟨by rw [ht.1], rfl, rfl, rfl⟩
  · subst q; rw [if_neg (by decide), if_neg (by decide), if_neg (by decide), if_neg (by decide), if_neg (by decide), if_neg (by decide), if_neg (by decide), if_neg (by decide), if_neg (by decide), if_neg (by decide), if_neg (by decide), if_neg (by decide), if_pos rfl]; exact ⟨by rw [kl.2.2.2.2.2.1], rfl, rfl, rfl⟩
  · subst q; rw [if_neg (by decide), if_neg (by decide), if_neg (by decide), if_neg (by decide), if_neg (by decide), if_neg (by decide), if_neg (by decide), if_neg (by decide), if_neg (by decide), if_neg (by decide), if_neg (by decide), if_neg (by decide), if_neg (by decide), if_pos rfl]; exact ⟨by rw [hy.1], rfl, rfl, rfl⟩
  · exact ⟨by rw [if_neg q0, if_neg q1, if_neg q2, if_neg q3, if_neg q4, if_neg q5, if_neg q6, if_neg q7, if_neg q8, if_neg q9, if_neg q10, if_neg q11, if_neg q12, if_neg q13], rfl, rfl, rfl⟩
theorem R_about {u : xU} {a b h t tp m : Nat} {RS : Nat → Nat → Int32} {Z : xU} {T Y : Nat → Int32} (hr : xRf r) (hN : rN1 L n e u σ) (h21 : u 655 21 = L 0 5) (hg : rRg u a b RS) (hl : rLo u h t Z) (ht : rTp tp T u) (hy : rLy u m Y) (i : Int32) :
    xCall g (d + 2) mX12_about [.ref 655, .int i] 698 u w r 698 (xPr (aAbout L n σ a b h t tp m i) u w r) := by
  have kl := hN.1
  have e3 : ∀ j, u 683 j = σ j := fun j => by rw [hN.2.1]
  unfold aAbout
  refine CX12_about hr ⟨fun q => ?_, fun q => ?_, fun q => ?_, fun q => ?_, fun q => ?_, fun q => ?_, fun q => ?_, fun q => ?_, fun q => ?_, fun q => ?_, fun q => ?_, fun q => ?_, fun q => ?_, fun q => ?_, fun q0 q1 q2 q3 q4 q5 q6 q7 q8 q9 q10 q11 q12 q13 => ?_⟩
  · subst q; rw [if_pos rfl]; exact ⟨by rw [e3 88, hN.2.2.1.1.1], rfl, rfl, rfl⟩
  · subst q; rw [if_neg (by decide), if_pos rfl]; exact ⟨by rw [kl.1.1], rfl, rfl, rfl⟩
  · subst q; rw [if_neg (by decide), if_neg (by decide), if_pos rfl]; exact ⟨by rw [kl.1.2.1], rfl, rfl, rfl⟩
  · subst q; rw [if_neg (by decide), if_neg (by decide), if_neg (by decide), if_pos rfl]; exact ⟨by rw [kl.1.2.2], rfl, rfl, rfl⟩
  · subst q; rw [if_neg (by decide), if_neg (by decide), if_neg (by decide), if_neg (by decide), if_pos rfl]; exact ⟨by rw [e3 90], rfl, rfl, rfl⟩
  · subst q; rw [if_neg (by decide), if_neg (by decide), if_neg (by decide), if_neg (by decide), if_neg (by decide), if_pos rfl]; exact ⟨by rw [e3 89], rfl, rfl, rfl⟩
  · subst q; rw [if_neg (by decide), if_neg (by decide), if_neg (by decide), if_neg (by decide), if_neg (by decide), if_neg (by decide), if_pos rfl]; exact xPr.use (R_homeSet hr hN) ⟨_, rfl, rfl, rfl, rfl, rfl, rfl, rfl, rfl⟩
  · subst q; rw [if_neg (by decide), if_neg (by decide), if_neg (by decide), if_neg (by decide), if_neg (by decide), if_neg (by decide), if_neg (by decide), if_pos rfl]; exact ⟨by rw [hg.1.1], rfl, rfl, rfl⟩
  · subst q; rw [if_neg (by decide), if_neg (by decide), if_neg (by decide), if_neg (by decide), if_neg (by decide), if_neg (by decide), if_neg (by decide), if_neg (by decide), if_pos rfl]; exact ⟨by rw [hg.1.2], rfl, rfl, rfl⟩
  · subst q; rw [if_neg (by decide), if_neg (by decide), if_neg (by decide), if_neg (by decide), if_neg (by decide), if_neg (by decide), if_neg (by decide), if_neg (by decide), if_neg (by decide), if_pos rfl]; exact ⟨by rw [hl.1], rfl, rfl, rfl⟩
  · subst q; rw [if_neg (by decide), if_neg (by decide), if_neg (by decide), if_neg (by decide), if_neg (by decide), if_neg (by decide), if_neg (by decide), if_neg (by decide), if_neg (by decide), if_neg (by decide), if_pos rfl]; exact ⟨by rw [hl.2.1], rfl, rfl, rfl⟩
  · subst q; rw [if_neg (by decide), if_neg (by decide), if_neg (by decide), if_neg (by decide), if_neg (by decide), if_neg (by decide), if_neg (by decide), if_neg (by decide), if_neg (by decide), if_neg (by decide), if_neg (by decide), if_pos rfl]; exact ⟨by rw [ht.1], rfl, rfl, rfl⟩
  · subst q; rw [if_neg (by decide), if_neg (by decide), if_neg (by decide), if_neg (by decide), if_neg (by decide), if_neg (by decide), if_neg (by decide), if_neg (by decide), if_neg (by decide), if_neg (by decide), if_neg (by decide), if_neg (by decide), if_pos rfl]; exact ⟨by rw [h21], rfl, rfl, rfl⟩
  · subst q; rw [if_neg (by decide), if_neg (by decide), if_neg (by decide), if_neg (by decide), if_neg (by decide), if_neg (by decide), if_neg (by decide), if_neg (by decide), if_neg (by decide), if_neg (by decide), if_neg (by decide), if_neg (by decide), if_neg (by decide), if_pos rfl]; exact ⟨by rw [hy.1], rfl, rfl, rfl⟩
  · exact ⟨by rw [if_neg q0, if_neg q1, if_neg q2, if_neg q3, if_neg q4, if_neg q5, if_neg q6, if_neg q7, if_neg q8, if_neg q9, if_neg q10, if_neg q11, if_neg q12, if_neg q13], rfl, rfl, rfl⟩
end TAPE
