/-! WHAT ALWAYS HOLDS of the class and of the reference, and that each call answers alike and keeps it -/
def vI (L : xU) (n e : Nat) (σ : Nat → Int32) (a b : Nat) (RS : Nat → Nat → Int32) (h t : Nat) (Z : xU) (m N : Nat) (T : Nat → Int32) : Prop :=
  lOkk L ∧ rXn L n e σ ∧ (∀ j, j < 91 → RS a j = σ j) ∧ a + b ≤ 40 ∧ loOk L h t Z ∧ m ≤ 20 ∧ tpOk N T
def vK (l l2 : Nat) (w : xW) (r : xQ) : Prop := kR r l ∧ ((l = 22 ∧ l2 = 37) ∨ (l = 37 ∧ l2 = 22)) ∧ r 8 11 = some l2 ∧ kWd w
def vC (L : xU) (l o : Nat) (n e : Nat) (σ : Nat → Int32) (a b : Nat) (RS : Nat → Nat → Int32) (h t : Nat) (Z : xU) (BF : Nat → Bool) (BR : Nat → Nat → Int32) (m : Nat) (Y : Nat → Int32) (N : Nat) (T : Nat → Int32) (f p : Int32) (u : xU) : Prop :=
  kN L l n e u σ ∧ cRg L u o a b RS ∧ cLo u h t Z ∧ cBx L u BF BR ∧ cLy u m Y ∧ cTp N T u ∧ u 9 8 = f ∧ u 9 9 = p
def vR (L : xU) (n e : Nat) (σ : Nat → Int32) (a b : Nat) (RS : Nat → Nat → Int32) (h t : Nat) (Z : xU) (BF : Nat → Bool) (BR : Nat → Nat → Int32) (m : Nat) (Y : Nat → Int32) (N : Nat) (T : Nat → Int32) (f p : Int32) (u : xU) : Prop :=
  rN1 L n e u σ ∧ rRg u a b RS ∧ rLo u h t Z ∧ rBx u BF BR ∧ rLy u m Y ∧ rTp N T u ∧ (u 655 2 = f ∧ u 655 3 = p) ∧ u 655 21 = L 0 5
/-- behind k calls -/
def vS (k : Nat) (u : xU) (w : xW) (r : xQ) : Prop := ∃ (L : xU) (l l2 o n e : Nat) (σ : Nat → Int32) (a b : Nat) (RS : Nat → Nat → Int32) (h t : Nat) (Z : xU) (BF : Nat → Bool) (BR : Nat → Nat → Int32) (m : Nat) (Y : Nat → Int32) (N : Nat) (T : Nat → Int32) (f p : Int32), o ≤ k ∧ vI L n e σ a b RS h t Z m N T ∧ vK l l2 w r ∧ vC L l o n e σ a b RS h t Z BF BR m Y N T f p u ∧ vR L n e σ a b RS h t Z BF BR m Y N T f p u
def vP (g : xGT) (k d : Nat) (mc : xMI) (ac : List Value) (mr : xMI) (ar : List Value) (u : xU) (w : xW) (r : xQ) : Prop :=
  xCall g d mc ac 698 u w r 698 (fun rv1 u1 w1 r1 => ∃ A, rv1 = some (.int A) ∧ xCall g d mr ar 698 u1 w1 r1 698 (fun rv2 u2 w2 r2 => rv2 = some (.int A) ∧ vS k u2 w2 r2))
theorem cLo.kept {h t : Nat} {Z u u' : xU} (hl : cLo u h t Z) {F : Nat → Prop} (f : xSm F u u') (hF : ∀ b, 611 ≤ b → b < 616 → ¬ F b) : cLo u' h t Z :=
  ⟨(f _ _ (hF _ (by omega) (by omega))).trans hl.1, (f _ _ (hF _ (by omega) (by omega))).trans hl.2.1, fun i hi => ⟨(f _ _ (hF _ (by omega) (by omega))).trans (hl.2.2 i hi).1, (f _ _ (hF _ (by omega) (by omega))).trans (hl.2.2 i hi).2.1, (f _ _ (hF _ (by omega) (by omega))).trans (hl.2.2 i hi).2.2.1, (f _ _ (hF _ (by omega) (by omega))).trans (hl.2.2 i hi).2.2.2⟩⟩
theorem cLy.kept {m : Nat} {Y : Nat → Int32} {u u' : xU} (hl : cLy u m Y) {F : Nat → Nat → Prop} (f : xSn F u u') (h1 : ¬ F 8 9) (h2 : ∀ i, ¬ F 654 i) : cLy u' m Y :=
  ⟨(f _ _ h1).trans hl.1, fun i hi => (f _ _ (h2 i)).trans (hl.2 i hi)⟩
theorem rLy.kept {m : Nat} {Y : Nat → Int32} {u u' : xU} (hl : rLy u m Y) {F : Nat → Nat → Prop} (f : xSn F u u') (h1 : ¬ F 655 68) (h2 : ∀ i, ¬ F 690 i) : rLy u' m Y :=
  ⟨(f _ _ h1).trans hl.1, fun i hi => (f _ _ (h2 i)).trans (hl.2 i hi)⟩
theorem rN1.kept {L : xU} {n e : Nat} {σ : Nat → Int32} {u u' : xU} (h : rN1 L n e u σ) {F : Nat → Nat → Prop} (f : xSn F u u') (hF : ∀ b i, ((660 ≤ b ∧ b < 662) ∨ (668 ≤ b ∧ b < 679) ∨ b = 683 ∨ b = 684 ∨ (b = 655 ∧ ((49 ≤ i ∧ i ≤ 53) ∨ i = 18 ∨ i = 56))) → ¬ F b i) : rN1 L n e u' σ := by
  refine h.keepG (fun i hi => f _ _ (hF _ _ ?_)) (fun b hb => funext fun i => f _ _ (hF _ _ (by omega))) (fun j hj => ?_)
  · refine Or.inr (Or.inr (Or.inr (Or.inr ⟨rfl, ?_⟩)))
    revert hi
    simp only [List.mem_cons, List.not_mem_nil, or_false]
    omega
  · rw [f _ _ (hF _ _ (by omega)), h.2.2.2 j hj, h.2.1]
theorem kN.cg {L : xU} {l n e : Nat} {u : xU} {σ τ : Nat → Int32} (hB6 : lB L ≤ 6) (h : kN L l n e u σ) (ee : ∀ j, j < 91 → τ j = σ j) : kN L l n e u τ := by
  obtain ⟨h1, ⟨T, h2⟩, h3⟩ := h
  have e89 : τ 89 = σ 89 := ee 89 (by omega)
  exact ⟨by rw [e89]; exact h1, ⟨T, h2.cg ee hB6 h3.1.2⟩, h3.cgx hB6 rfl (fun j hj _ => ee j hj)⟩
section VINV
variable {g : xGT} {k d : Nat} {w : xW} {r : xQ} {L : xU} {l l2 o n e a b h t m N : Nat} {σ Y T : Nat → Int32} {RS BR : Nat → Nat → Int32} {Z u u' : xU} {BF : Nat → Bool} {f p : Int32}
theorem vK.cases (h : vK l l2 w r) : (l = 22 ∨ l = 37) ∧ (l2 = 22 ∨ l2 = 37) ∧ ((l = 22 ∧ l2 = 37) ∨ (l = 37 ∧ l2 = 22)) := by
  have := h.2.1
  omega
/-- the class's part stands where nothing of it is written -/
theorem vC.kept (hK : vK l l2 w r) (H0 : vC L l o n e σ a b RS h t Z BF BR m Y N T f p u) {F : Nat → Nat → Prop} (fr : xSn F u u') (hF : ∀ b i, F b i → (79 ≤ b ∧ b < 105) ∨ b = l + 14 ∨ 655 ≤ b) : vC L l o n e σ a b RS h t Z BF BR m Y N T f p u' := by
  obtain ⟨c1, c2, c3, c4, c5, c6, c7, c8⟩ := H0
  have hl := hK.cases
  have f1 : xSm (fun b => (79 ≤ b ∧ b < 105) ∨ b = l + 14 ∨ 655 ≤ b) u u' := fun b i hb => fr b i (fun z => hb (hF b i z))
  refine ⟨c1.kept hK.1 f1 (fun b hb z => by omega), c2.kept f1 (fun b h1 h2 z => by omega), c3.kept f1 (fun b h1 h2 z => by omega), c4.kept f1 (fun b h1 h2 z => by omega), c5.kept (f1.n (G := fun b _ => (79 ≤ b ∧ b < 105) ∨ b = l + 14 ∨ 655 ≤ b) (fun b i z => z)) (by omega) (fun i => by omega), c6.kept f1 (by omega) (by omega), (f1 _ _ (by omega)).trans c7, (f1 _ _ (by omega)).trans c8⟩
/-- the reference's part stands where nothing of it is written -/
theorem vR.kept (H0 : vR L n e σ a b RS h t Z BF BR m Y N T f p u) {F : Nat → Nat → Prop} (fr : xSn F u u') (hF : ∀ b i, F b i → b < 655) : vR L n e σ a b RS h t Z BF BR m Y N T f p u' := by
  obtain ⟨c1, c2, c3, c4, c5, c6, ⟨c7, c8⟩, c9⟩ := H0
  have no : ∀ b i, 655 ≤ b → ¬ F b i := fun b i hb z => by have := hF b i z; omega
  exact ⟨c1.kept fr (fun b i hb => no b i (by omega)), c2.kept fr (no _ _ (by omega)) (no _ _ (by omega)) (fun i => no _ _ (by omega)), c3.kept fr (no _ _ (by omega)) (no _ _ (by omega)) (fun b i h1 h2 => no _ _ (by omega)), c4.kept fr (fun i => no _ _ (by omega)) (fun i => no _ _ (by omega)), c5.kept fr (no _ _ (by omega)) (fun i => no _ _ (by omega)), c6.kept fr (no _ _ (by omega)) (fun i => no _ _ (by omega)), ⟨(fr _ _ (no _ _ (by omega))).trans c7, (fr _ _ (no _ _ (by omega))).trans c8⟩, (fr _ _ (no _ _ (by omega))).trans c9⟩
/-- .. or by a look ahead -/
theorem vR.rx (H0 : vR L n e σ a b RS h t Z BF BR m Y N T f p u) (hA : rA L n e σ u u') : vR L n e σ a b RS h t Z BF BR m Y N T f p u' := by
  obtain ⟨c1, c2, c3, c4, c5, c6, ⟨c7, c8⟩, c9⟩ := H0
  have fr := hA.1
  exact ⟨hA.2, c2.kept fr (by omega) (by omega) (fun i => by omega), c3.kept fr (by omega) (by omega) (fun b i h1 h2 => by omega), c4.kept fr (fun i => by omega) (fun i => by omega), c5.kept fr (by omega) (fun i => by omega), c6.kept fr (by omega) (fun i => by omega), ⟨(fr _ _ (by omega)).trans c7, (fr _ _ (by omega)).trans c8⟩, (fr _ _ (by omega)).trans c9⟩
theorem vS.up (h : vS k u w r) {k2 : Nat} (hk : k ≤ k2) : vS k2 u w r := by
  obtain ⟨L, l, l2, o, n, e, σ, a, b, RS, h, t, Z, BF, BR, m, Y, N, T, f, p, q, z⟩ := h
  exact ⟨L, l, l2, o, n, e, σ, a, b, RS, h, t, Z, BF, BR, m, Y, N, T, f, p, by omega, z⟩
theorem vS.mk (ho : o ≤ k) (I : vI L n e σ a b RS h t Z m N T) (K : vK l l2 w r) (C : vC L l o n e σ a b RS h t Z BF BR m Y N T f p u) (R : vR L n e σ a b RS h t Z BF BR m Y N T f p u) : vS k u w r :=
  ⟨L, l, l2, o, n, e, σ, a, b, RS, h, t, Z, BF, BR, m, Y, N, T, f, p, ho, I, K, C, R⟩
/-- a question: nothing but places of looking ahead is written -/
theorem v_view {mc mr : xMI} {ac ar : List Value} {A : Int32} (ho : o ≤ k) (I : vI L n e σ a b RS h t Z m N T) (K : vK l l2 w r) (C : vC L l o n e σ a b RS h t Z BF BR m Y N T f p u) (R : vR L n e σ a b RS h t Z BF BR m Y N T f p u)
    (hc : xCall g d mc ac 698 u w r 698 (xIn A (xSm (fLk l) u) w r)) (hr : ∀ u1, rN1 L n e u1 σ → rLo u1 h t Z → xCall g d mr ar 698 u1 w r 698 (xIn A (rA L n e σ u1) w r)) : vP g k d mc ac mr ar u w r := by
  have hl := K.cases
  refine hc.mono (fun rv1 u1 w1 r1 q => ?_)
  obtain ⟨q1, q2, rfl, rfl⟩ := q
  have C1 : vC L l o n e σ a b RS h t Z BF BR m Y N T f p u1 := C.kept K (q2.n (G := fun b _ => fLk l b) (fun b i z => z)) (fun b i z => by have z' : (79 ≤ b ∧ b < 105) ∨ b = l + 14 := z; omega)
  have R1 : vR L n e σ a b RS h t Z BF BR m Y N T f p u1 := R.kept (q2.n (G := fun b _ => fLk l b) (fun b i z => z)) (fun b i z => by have z' : (79 ≤ b ∧ b < 105) ∨ b = l + 14 := z; omega)
  refine ⟨A, q1, (hr u1 R1.1 R1.2.2.1).mono (fun rv2 u2 w2 r2 y => ?_)⟩
  obtain ⟨y1, y2, rfl, rfl⟩ := y
  exact ⟨y1, vS.mk ho I K (C1.kept K y2.1 (fun b i z => by omega)) (R1.rx y2)⟩
/-- nothing at all is written -/
theorem v_pure {mc mr : xMI} {ac ar : List Value} {A : Int32} (S : vS k u w r) (hc : xCall g d mc ac 698 u w r 698 (xPr A u w r)) (hr : xCall g d mr ar 698 u w r 698 (xPr A u w r)) : vP g k d mc ac mr ar u w r := by
  refine hc.mono (fun rv1 u1 w1 r1 q => ?_)
  obtain ⟨q1, rfl, rfl, rfl⟩ := q
  refine ⟨A, q1, hr.mono (fun rv2 u2 w2 r2 y => ?_)⟩
  obtain ⟨y1, rfl, rfl, rfl⟩ := y
  exact ⟨y1, S⟩
theorem rgO_le (o a : Nat) : rgO o a ≤ o + 1 := by
  unfold rgO
  split <;> omega
theorem rgA_le {a : Nat} (h : a ≤ 40) : rgA a ≤ 40 := by
  unfold rgA
  split <;> omega
/-- a deed: the row changes, or nothing does -/
theorem v_act {mc mr : xMI} {ac ar : List Value} {A : Int32} {q : Prop} {n' e' : Nat} {σ' : Nat → Int32} (ho : o ≤ k) (I : vI L n e σ a b RS h t Z m N T) (K : vK l l2 w r) (C : vC L l o n e σ a b RS h t Z BF BR m Y N T f p u) (R : vR L n e σ a b RS h t Z BF BR m Y N T f p u) (hX : q → rXn L n' e' σ')
    (hc : xCall g d mc ac 698 u w r 698 (xIn A (cAct L l o a RS q n' e' σ' u) w r)) (hr : ∀ u1, rN1 L n e u1 σ → rRg u1 a b RS → xCall g d mr ar 698 u1 w r 698 (xIn A (rAct L a RS q n e σ n' e' σ' u1) w r)) : vP g (k + 1) d mc ac mr ar u w r := by
  have hl := K.cases
  obtain ⟨I1, I2, I3, I4, I5, I6, I7⟩ := I
  refine hc.mono (fun rv1 u1 w1 r1 x => ?_)
  obtain ⟨x1, ⟨x2', x3, x4⟩, rfl, rfl⟩ := x
  have fc : xSn (fun b _ => fAc l b) u u1 := x4.n (fun b i z => z)
  have un : ∀ b, fAc l b → ((55 ≤ b ∧ b < 79) ∨ (105 ≤ b ∧ b ≤ 116)) ∨ (117 ≤ b ∧ b < 611) ∨ b = l + 14 := fun b z => z
  have R1 : vR L n e σ a b RS h t Z BF BR m Y N T f p u1 := R.kept fc (fun b i z => by have := un b z; omega)
  refine ⟨A, x1, (hr u1 R1.1 R1.2.1).mono (fun rv2 u2 w2 r2 y => ?_)⟩
  obtain ⟨y1, ⟨y2, y3, y4⟩, rfl, rfl⟩ := y
  refine ⟨y1, ?_⟩
  have fr : xSm (fun b => 655 ≤ b) u1 u2 := fun b i hb => y4 b i (by omega)
  by_cases hq : q
  · obtain ⟨c1, c2⟩ := x2' hq
    obtain ⟨r1', r2'⟩ := y2 hq
    obtain ⟨-, -, C3, C4, C5, C6, C7, C8⟩ := C
    obtain ⟨-, -, D3, D4, D5, D6, ⟨D7, D8⟩, D9⟩ := R1
    refine vS.mk (Y := Y) (BF := BF) (BR := BR) (f := f) (p := p) (Nat.le_trans (rgO_le o a) (by omega)) ⟨I1, hX hq, fun j _ => by rw [rgS_top], rgA_le (by omega), I5, I6, I7⟩ K ⟨?_, ?_, ?_, ?_, ?_, ?_, ?_, ?_⟩ ⟨r1', r2' σ', ?_, ?_, ?_, ?_, ⟨?_, ?_⟩, ?_⟩
    · exact c1.kept K.1 fr (fun b hb z => by omega)
    · exact c2.kept fr (fun b h1 h2 z => by omega)
    · exact (C3.kept x4 (fun b h1 h2 z => by have := un b z; omega)).kept fr (fun b h1 h2 z => by omega)
    · exact (C4.kept x4 (fun b h1 h2 z => by have := un b z; omega)).kept fr (fun b h1 h2 z => by omega)
    · exact (C5.kept fc (fun z => by have := un 8 z; omega) (fun i z => by have := un 654 z; omega)).kept (fr.n (G := fun b _ => 655 ≤ b) (fun b i z => z)) (by omega) (fun i => by omega)
    · exact (C6.kept x4 (fun z => by have := un 10 z; omega) (fun z => by have := un 11 z; omega)).kept fr (by omega) (by omega)
    · rw [fr _ _ (by omega), x4 _ _ (fun z => by have := un 9 z; omega)]; exact C7
    · rw [fr _ _ (by omega), x4 _ _ (fun z => by have := un 9 z; omega)]; exact C8
    · exact D3.kept y4 (by omega) (by omega) (fun b i h1 h2 => by omega)
    · exact D4.kept y4 (fun i => by omega) (fun i => by omega)
    · exact D5.kept y4 (by omega) (fun i => by omega)
    · exact D6.kept y4 (by omega) (fun i => by omega)
    · rw [y4 _ _ (by omega)]; exact D7
    · rw [y4 _ _ (by omega)]; exact D8
    · rw [y4 _ _ (by omega)]; exact D9
  · rw [x3 hq] at R1 fr
    exact vS.mk (Nat.le_trans ho (Nat.le_succ k)) ⟨I1, I2, I3, I4, I5, I6, I7⟩ K (C.kept K (fr.n (G := fun b _ => 655 ≤ b) (fun b i z => z)) (fun b i z => by omega)) (R1.rx (by have z := y3 hq; rw [x3 hq] at z; exact z))
end VINV
