/-! A LINE: the draft (0 villages, 1 biers, 2 letters, 3 ways; 4 wait told, 5 winter told, 6 units, 7 and 8 the winter's days), its names, what was told of ways and biers, of letters, the steps -/
abbrev pD : Type := (Nat → Nat) × (Nat → Nat → Nat) × xU × xU × List (Nat × Nat)
def dNew (s j : Nat) (D : pD) : pD := (nmAdd D.1 s (D.1 s + 1), (fun i => if i = s then nmAdd (D.2.1 s) (D.1 s) j else D.2.1 i), D.2.2)
def dWay (L : xU) (D : pD) : pD := (nmAdd D.1 3 (D.1 3 + 1), D.2.1, L, D.2.2.2)
def dBier (j : Nat) (L : xU) (D : pD) : pD := ((dNew 1 j D).1, (dNew 1 j D).2.1, L, D.2.2.2)
def dLett (j : Nat) (E : xU) (D : pD) : pD := ((dNew 2 j D).1, (dNew 2 j D).2.1, D.2.2.1, E, D.2.2.2.2)
def dWait (S : List (Nat × Nat)) (U : Nat) (D : pD) : pD := (nmAdd (nmAdd D.1 4 1) 6 U, D.2.1, D.2.2.1, D.2.2.2.1, S)
def dWin (a b : Nat) (D : pD) : pD := (nmAdd (nmAdd (nmAdd D.1 5 1) 7 a) 8 b, D.2)
abbrev mayB (D : pD) (k : Nat) : Prop := (k = 15 ∧ D.1 0 < 7) ∨ (k = 16 ∧ D.1 3 < 12) ∨ (k = 17 ∧ D.1 1 < 6) ∨ (k = 18 ∧ D.1 2 < 8) ∨ (k = 19 ∧ D.1 4 = 0) ∨ (k = 20 ∧ D.1 5 = 0)
def pLn (N : Nat) (T : Nat → Int32) (D : pD) (c : pC) : pC × pD :=
  if kK N T c.1 = 15 ∧ D.1 0 < 7 then (pNew N T (D.2.1 0) (D.1 0) (pAdv c), dNew 0 (c.1 + 1) D)
  else if kK N T c.1 = 16 ∧ D.1 3 < 12 then (pWay N T (D.2.1 0) (D.1 0) D.2.2.1 (D.1 3) (pAdv c), dWay (wayL N T (D.2.1 0) (D.1 0) D.2.2.1 (D.1 3) (pAdv c)) D)
  else if kK N T c.1 = 17 ∧ D.1 1 < 6 then (pBier N T (D.2.1 0) (D.1 0) (D.2.1 1) (D.1 1) (pAdv c), dBier (c.1 + 1) (bierL N T (D.2.1 0) (D.1 0) (D.2.1 1) (D.1 1) D.2.2.1 (pAdv c)) D)
  else if kK N T c.1 = 18 ∧ D.1 2 < 8 then (pLett N T (D.2.1 0) (D.1 0) (D.2.1 2) (D.1 2) (pAdv c), dLett (c.1 + 1) (lettL N T (D.2.1 0) (D.1 0) (D.2.1 2) (D.1 2) D.2.2.2.1 (pAdv c)) D)
  else if kK N T c.1 = 19 ∧ D.1 4 = 0 then ((pWt N T c).1, dWait (pWt N T c).2.1 (pWt N T c).2.2 D)
  else if kK N T c.1 = 20 ∧ D.1 5 = 0 then (pWin N T (pAdv c), dWin (kV N T (pAdv c).1) (kV N T (pWin2 N T (pAdv c)).1) D)
  else (pFail N T 2 c, D)
def pLine (N : Nat) (T : Nat → Int32) (D : pD) (c : pC) : pC × pD := (pWant N T 4 (pLn N T D c).1, (pLn N T D c).2)
section PLN
variable {N : Nat} {T : Nat → Int32} {D : pD} {c : pC}
theorem pLn_0 (h : kK N T c.1 = 15) (h2 : D.1 0 < 7) : pLn N T D c = (pNew N T (D.2.1 0) (D.1 0) (pAdv c), dNew 0 (c.1 + 1) D) := if_pos ⟨h, h2⟩
theorem pLn_1 (h : kK N T c.1 = 16) (h2 : D.1 3 < 12) : pLn N T D c = (pWay N T (D.2.1 0) (D.1 0) D.2.2.1 (D.1 3) (pAdv c), dWay (wayL N T (D.2.1 0) (D.1 0) D.2.2.1 (D.1 3) (pAdv c)) D) := by
  unfold pLn; rw [if_neg (by omega), if_pos ⟨h, h2⟩]
theorem pLn_2 (h : kK N T c.1 = 17) (h2 : D.1 1 < 6) : pLn N T D c = (pBier N T (D.2.1 0) (D.1 0) (D.2.1 1) (D.1 1) (pAdv c), dBier (c.1 + 1) (bierL N T (D.2.1 0) (D.1 0) (D.2.1 1) (D.1 1) D.2.2.1 (pAdv c)) D) := by
  unfold pLn; rw [if_neg (by omega), if_neg (by omega), if_pos ⟨h, h2⟩]
theorem pLn_3 (h : kK N T c.1 = 18) (h2 : D.1 2 < 8) : pLn N T D c = (pLett N T (D.2.1 0) (D.1 0) (D.2.1 2) (D.1 2) (pAdv c), dLett (c.1 + 1) (lettL N T (D.2.1 0) (D.1 0) (D.2.1 2) (D.1 2) D.2.2.2.1 (pAdv c)) D) := by
  unfold pLn; rw [if_neg (by omega), if_neg (by omega), if_neg (by omega), if_pos ⟨h, h2⟩]
theorem pLn_4 (h : kK N T c.1 = 19) (h2 : D.1 4 = 0) : pLn N T D c = ((pWt N T c).1, dWait (pWt N T c).2.1 (pWt N T c).2.2 D) := by
  unfold pLn; rw [if_neg (by omega), if_neg (by omega), if_neg (by omega), if_neg (by omega), if_pos ⟨h, h2⟩]
theorem pLn_5 (h : kK N T c.1 = 20) (h2 : D.1 5 = 0) : pLn N T D c = (pWin N T (pAdv c), dWin (kV N T (pAdv c).1) (kV N T (pWin2 N T (pAdv c)).1) D) := by
  unfold pLn; rw [if_neg (by omega), if_neg (by omega), if_neg (by omega), if_neg (by omega), if_neg (by omega), if_pos ⟨h, h2⟩]
theorem pLn_6 (h : ¬ mayB D (kK N T c.1)) : pLn N T D c = (pFail N T 2 c, D) := by
  unfold pLn; rw [if_neg (fun z => h (Or.inl z)), if_neg (fun z => h (Or.inr (Or.inl z))), if_neg (fun z => h (Or.inr (Or.inr (Or.inl z)))), if_neg (fun z => h (Or.inr (Or.inr (Or.inr (Or.inl z))))), if_neg (fun z => h (Or.inr (Or.inr (Or.inr (Or.inr (Or.inl z)))))), if_neg (fun z => h (Or.inr (Or.inr (Or.inr (Or.inr (Or.inr z))))))]
end PLN
/-- what the draft always is -/
def oD (N : Nat) (T : Nat → Int32) (D : pD) : Prop :=
  (nmOk N T (D.2.1 0) (D.1 0) ∧ nmOk N T (D.2.1 1) (D.1 1) ∧ nmOk N T (D.2.1 2) (D.1 2)) ∧ (D.1 0 ≤ 7 ∧ D.1 1 ≤ 6 ∧ D.1 2 ≤ 8 ∧ D.1 3 ≤ 12) ∧ (D.1 4 ≤ 1 ∧ D.1 5 ≤ 1) ∧
  (D.1 4 = 0 → D.1 6 = 0 ∧ D.2.2.2.2 = []) ∧ (D.1 4 = 1 → okS D.2.2.2.2 ∧ sd D.2.2.2.2 = 1 ∧ D.2.2.2.2.length ≤ 270 ∧ D.1 6 ≤ 30) ∧
  (∀ k, k < D.1 3 → ∃ a b x, a < D.1 0 ∧ b < D.1 0 ∧ ¬ a = b ∧ (1 ≤ x ∧ x ≤ 9) ∧ D.2.2.1 1 k = nI a ∧ D.2.2.1 2 k = nI b ∧ D.2.2.1 3 k = nI x) ∧
  (∀ j k, j < k → k < D.1 3 → ¬ (D.2.2.1 1 j = D.2.2.1 1 k ∧ D.2.2.1 2 j = D.2.2.1 2 k) ∧ ¬ (D.2.2.1 1 j = D.2.2.1 2 k ∧ D.2.2.1 2 j = D.2.2.1 1 k)) ∧
  (∀ k, k < D.1 1 → ∃ a b x y, a < D.1 0 ∧ b < D.1 0 ∧ x ≤ 60 ∧ (1 ≤ y ∧ y ≤ 9) ∧ D.2.2.1 4 k = nI a ∧ D.2.2.1 5 k = nI b ∧ D.2.2.1 6 k = nI x ∧ D.2.2.1 7 k = nI y) ∧
  (∀ k, k < D.1 2 → ∃ a b x y, a < D.1 0 ∧ b < D.1 0 ∧ x ≤ 200 ∧ (1 ≤ y ∧ y ≤ 9) ∧ D.2.2.2.1 0 k = nI a ∧ D.2.2.2.1 1 k = nI b ∧ D.2.2.2.1 2 k = nI x ∧ D.2.2.2.1 3 k = nI y)
/-- the draft as the class has it -/
def cD (N : Nat) (T : Nat → Int32) (l : Nat) (D : pD) (u : xU) (w : xW) : Prop :=
  cNm N T 16 (D.2.1 0) (D.1 0) u w ∧ cNm N T 18 (D.2.1 1) (D.1 1) u w ∧ cNm N T 20 (D.2.1 2) (D.1 2) u w ∧ u l 0 = nI (D.1 0) ∧ cWy l D.2.2.1 (D.1 3) u ∧ cBi l D.2.2.1 (D.1 1) u ∧ cLt l D.2.2.2.1 (D.1 2) u ∧
  u 9 5 = nI (D.1 4) ∧ u 9 6 = nI (D.1 5) ∧ (D.1 5 = 0 → u l 15 = 0 ∧ u l 16 = -1) ∧ (D.1 5 = 1 → u l 15 = nI (D.1 7) ∧ u l 16 = nI (D.1 8)) ∧
  u (l + 12) 2 = nI D.2.2.2.2.length ∧ u (l + 12) 3 = nI (D.1 6) ∧ ∀ k, k < D.2.2.2.2.length → u (l + 13) k = fEn (stp D.2.2.2.2 k)
abbrev fCe (l : Nat) : Nat → Nat → Prop := fun b i => (b = 9 ∧ (i = 5 ∨ i = 6)) ∨ ((b = 16 ∨ b = 18 ∨ b = 20) ∧ i = 1) ∨ (l ≤ b ∧ b ≤ l + 13)
abbrev fCl (l : Nat) : Nat → Nat → Prop := fun b i => fPc b i ∨ fCe l b i
abbrev fWl : Nat → Nat → Prop := fun b _ => b = 17 ∨ b = 19 ∨ b = 21
theorem cD.kept {N : Nat} {T : Nat → Int32} {l : Nat} {D : pD} {u u' : xU} {w : xW} (h : cD N T l D u w) {F : Nat → Nat → Prop} (f : xSn F u u') (hF : ∀ b i, fCe l b i → ¬ F b i) : cD N T l D u' w := by
  obtain ⟨a1, a2, a3, a4, a5, a6, a7, a8, a9, b1, b2, b3, b4, b5⟩ := h
  have e : ∀ b i, fCe l b i → u' b i = u b i := fun b i z => f b i (hF b i z)
  refine ⟨a1.kept f (hF _ _ (by omega)), a2.kept f (hF _ _ (by omega)), a3.kept f (hF _ _ (by omega)), (e _ _ (by omega)).trans a4, a5.kept f (fun b i y1 y2 => hF _ _ (by omega)), a6.kept f (fun b i y1 y2 => hF _ _ (by omega)), a7.kept f (fun b i y1 y2 => hF _ _ (by omega)), (e _ _ (by omega)).trans a8, (e _ _ (by omega)).trans a9, fun z => ?_, fun z => ?_, (e _ _ (by omega)).trans b3, (e _ _ (by omega)).trans b4, fun k hk => (e _ _ (by omega)).trans (b5 k hk)⟩
  · exact ⟨(e _ _ (by omega)).trans (b1 z).1, (e _ _ (by omega)).trans (b1 z).2⟩
  · exact ⟨(e _ _ (by omega)).trans (b2 z).1, (e _ _ (by omega)).trans (b2 z).2⟩
theorem cWy.kept2 {l n : Nat} {L u u' : xU} (h : cWy l L n u) {F : Nat → Nat → Prop} (f : xSn F u u') (h0 : ¬ F l 1) (h1 : ∀ b i, l + 1 ≤ b → b ≤ l + 3 → ¬ F b i) : cWy l L n u' :=
  ⟨(f _ _ h0).trans h.1, fun k hk => ⟨(f _ _ (h1 _ _ (by omega) (by omega))).trans (h.2 k hk).1, (f _ _ (h1 _ _ (by omega) (by omega))).trans (h.2 k hk).2.1, (f _ _ (h1 _ _ (by omega) (by omega))).trans (h.2 k hk).2.2⟩⟩
theorem cBi.kept2 {l n : Nat} {L u u' : xU} (h : cBi l L n u) {F : Nat → Nat → Prop} (f : xSn F u u') (h0 : ¬ F l 5) (h1 : ∀ b i, l + 4 ≤ b → b ≤ l + 7 → ¬ F b i) : cBi l L n u' :=
  ⟨(f _ _ h0).trans h.1, fun k hk => ⟨(f _ _ (h1 _ _ (by omega) (by omega))).trans (h.2 k hk).1, (f _ _ (h1 _ _ (by omega) (by omega))).trans (h.2 k hk).2.1, (f _ _ (h1 _ _ (by omega) (by omega))).trans (h.2 k hk).2.2.1, (f _ _ (h1 _ _ (by omega) (by omega))).trans (h.2 k hk).2.2.2⟩⟩
theorem cLt.kept2 {l n : Nat} {L u u' : xU} (h : cLt l L n u) {F : Nat → Nat → Prop} (f : xSn F u u') (h0 : ¬ F l 10) (h1 : ∀ b i, l + 8 ≤ b → b ≤ l + 11 → ¬ F b i) : cLt l L n u' :=
  ⟨(f _ _ h0).trans h.1, fun k hk => ⟨(f _ _ (h1 _ _ (by omega) (by omega))).trans (h.2 k hk).1, (f _ _ (h1 _ _ (by omega) (by omega))).trans (h.2 k hk).2.1, (f _ _ (h1 _ _ (by omega) (by omega))).trans (h.2 k hk).2.2.1, (f _ _ (h1 _ _ (by omega) (by omega))).trans (h.2 k hk).2.2.2⟩⟩
theorem wyPut_hi {L : xU} {n x i : Nat} {a b c : Int32} (hx : 4 ≤ x) : wyPut L n a b c x i = L x i := by unfold wyPut; rw [x2_a _ _ (by omega), x2_a _ _ (by omega), x2_a _ _ (by omega)]
theorem biPut_lo {L : xU} {n x i : Nat} {a b c e : Int32} (hx : x ≤ 3) : biPut L n a b c e x i = L x i := by unfold biPut; rw [x2_a _ _ (by omega), x2_a _ _ (by omega), x2_a _ _ (by omega), x2_a _ _ (by omega)]
theorem cWy.cg {l n : Nat} {L L' u : xU} (h : cWy l L n u) (e : ∀ x i, x ≤ 3 → L' x i = L x i) : cWy l L' n u :=
  ⟨h.1, fun k hk => ⟨(h.2 k hk).1.trans (e 1 k (by omega)).symm, (h.2 k hk).2.1.trans (e 2 k (by omega)).symm, (h.2 k hk).2.2.trans (e 3 k (by omega)).symm⟩⟩
theorem cBi.cg {l n : Nat} {L L' u : xU} (h : cBi l L n u) (e : ∀ x i, 4 ≤ x → L' x i = L x i) : cBi l L' n u :=
  ⟨h.1, fun k hk => ⟨(h.2 k hk).1.trans (e 4 k (by omega)).symm, (h.2 k hk).2.1.trans (e 5 k (by omega)).symm, (h.2 k hk).2.2.1.trans (e 6 k (by omega)).symm, (h.2 k hk).2.2.2.trans (e 7 k (by omega)).symm⟩⟩
theorem rWy.cg {n : Nat} {L L' u : xU} (h : rWy L n u) (e : ∀ x i, x ≤ 3 → L' x i = L x i) : rWy L' n u :=
  ⟨h.1, fun k hk => ⟨(h.2 k hk).1.trans (e 1 k (by omega)).symm, (h.2 k hk).2.1.trans (e 2 k (by omega)).symm, (h.2 k hk).2.2.trans (e 3 k (by omega)).symm⟩⟩
theorem rBi.cg {n : Nat} {L L' u : xU} (h : rBi L n u) (e : ∀ x i, 4 ≤ x → L' x i = L x i) : rBi L' n u :=
  ⟨h.1, fun k hk => ⟨(h.2 k hk).1.trans (e 4 k (by omega)).symm, (h.2 k hk).2.1.trans (e 5 k (by omega)).symm, (h.2 k hk).2.2.1.trans (e 6 k (by omega)).symm, (h.2 k hk).2.2.2.trans (e 7 k (by omega)).symm⟩⟩
section CLINE
variable {g : xGT} {d : Nat} {w : xW} {r : xQ} {N : Nat} {T : Nat → Int32} {M : Nat} {c : pC} {l : Nat} {D : pD}
theorem K_mayBegin {u : xU} (hr : xRf r) (h_l : xLd l) (h94 : r 9 4 = some l) (hO : oD N T D) (hD : cD N T l D u w) {k : Nat} (hk : k ≤ 33) : xCall g (d + 1) mX7_mayBegin [.ref 9, .int (nI k)] 698 u w r 698 (xPr (xb (mayB D k)) u w r) := by
  obtain ⟨-, ⟨o1, o2, o3, o4⟩, ⟨o5, o6⟩, -⟩ := hO
  obtain ⟨a1, a2, a3, a4, a5, a6, a7, a8, a9, -⟩ := hD
  have k15 : nI k = (15 : Int32) ↔ k = 15 := eq_nI (b := 15) (by omega) (by omega)
  have k16 : nI k = (16 : Int32) ↔ k = 16 := eq_nI (b := 16) (by omega) (by omega)
  have k17 : nI k = (17 : Int32) ↔ k = 17 := eq_nI (b := 17) (by omega) (by omega)
  have k18 : nI k = (18 : Int32) ↔ k = 18 := eq_nI (b := 18) (by omega) (by omega)
  have k19 : nI k = (19 : Int32) ↔ k = 19 := eq_nI (b := 19) (by omega) (by omega)
  have k20 : nI k = (20 : Int32) ↔ k = 20 := eq_nI (b := 20) (by omega) (by omega)
  refine CX7_mayBegin hr h_l h94 ?_
  rw [k15, k16, k17, k18, k19, k20]
  refine ⟨fun z => CX5_isFull nm16 (nr16 hr) ⟨_, rfl, rfl, rfl, rfl, ?_, rfl, rfl, rfl⟩, fun z => ⟨?_, rfl, rfl, rfl⟩, fun z => CX5_isFull nm18 (nr18 hr) ⟨_, rfl, rfl, rfl, rfl, ?_, rfl, rfl, rfl⟩, fun z => CX5_isFull nm20 (nr20 hr) ⟨_, rfl, rfl, rfl, rfl, ?_, rfl, rfl, rfl⟩, fun z => ⟨?_, rfl, rfl, rfl⟩, fun z => ⟨?_, rfl, rfl, rfl⟩, fun z1 z2 z3 z4 z5 z6 => ⟨?_, rfl, rfl, rfl⟩⟩
  · have e : u 16 1 < Int32.ofNat 7 ↔ D.1 0 < 7 := by rw [a1.1]; exact lt_nI (b := 7) (by omega) (by omega)
    rw [xb_iff (show (xb (¬ (u 16 1 < Int32.ofNat 7)) = 0) ↔ mayB D k by rw [xb_eq0, e]; omega)]
  · have e : (12 : Int32) ≤ u l 1 ↔ 12 ≤ D.1 3 := by rw [a5.1]; exact le_nI (a := 12) (by omega) (by omega)
    rw [xb_iff (show (¬ ((12 : Int32) ≤ u l 1)) ↔ mayB D k by rw [e]; omega)]
  · have e : u 18 1 < Int32.ofNat 6 ↔ D.1 1 < 6 := by rw [a2.1]; exact lt_nI (b := 6) (by omega) (by omega)
    rw [xb_iff (show (xb (¬ (u 18 1 < Int32.ofNat 6)) = 0) ↔ mayB D k by rw [xb_eq0, e]; omega)]
  · have e : u 20 1 < Int32.ofNat 8 ↔ D.1 2 < 8 := by rw [a3.1]; exact lt_nI (b := 8) (by omega) (by omega)
    rw [xb_iff (show (xb (¬ (u 20 1 < Int32.ofNat 8)) = 0) ↔ mayB D k by rw [xb_eq0, e]; omega)]
  · have e : u 9 5 = 0 ↔ D.1 4 = 0 := by rw [a8]; exact eq_nI (b := 0) (by omega) (by omega)
    rw [xb_iff (show (u 9 5 = 0) ↔ mayB D k by rw [e]; omega)]
  · have e : u 9 6 = 0 ↔ D.1 5 = 0 := by rw [a9]; exact eq_nI (b := 0) (by omega) (by omega)
    rw [xb_iff (show (u 9 6 = 0) ↔ mayB D k by rw [e]; omega)]
  · rw [xb_neg (show ¬ mayB D k by omega)]
theorem K_readLine {u : xU} {P : xPost} (hr : xRf r) (ok : tpOk N T) (h_l : xLd l) (q_l : xLr l r) (h94 : r 9 4 = some l) (hl : l = 22 ∨ l = 37) (hM : kK N T M = 0) (h : cP N T M c u w) (h0 : c.2.1 = 0) (hO : oD N T D) (hD : cD N T l D u w)
    (kk : ∀ u' w', cP N T M (pLine N T D c).1 u' w' → ((pLine N T D c).1.2.1 = 0 → cD N T l (pLine N T D c).2 u' w') → xSn (fCl l) u u' → wSn fWl w w' → P none u' w' r) :
    xCall g (d + 101) mX7_readLine [.ref 9] 698 u w r 698 P := by
  have k33 := kK_small ok c.1
  have hO' := hO
  obtain ⟨⟨n0, n1, n2⟩, ⟨m0, m1, m2, m3⟩, ⟨m4, m5⟩, ow0, ow1, -⟩ := hO
  have k15 : nI (kK N T c.1) = (15 : Int32) ↔ kK N T c.1 = 15 := eq_nI (b := 15) (by omega) (by omega)
  have k16 : nI (kK N T c.1) = (16 : Int32) ↔ kK N T c.1 = 16 := eq_nI (b := 16) (by omega) (by omega)
  have k17 : nI (kK N T c.1) = (17 : Int32) ↔ kK N T c.1 = 17 := eq_nI (b := 17) (by omega) (by omega)
  have k18 : nI (kK N T c.1) = (18 : Int32) ↔ kK N T c.1 = 18 := eq_nI (b := 18) (by omega) (by omega)
  have k19 : nI (kK N T c.1) = (19 : Int32) ↔ kK N T c.1 = 19 := eq_nI (b := 19) (by omega) (by omega)
  have fin : ∀ u3 w3 c3 D3, pLn N T D c = (c3, D3) → cP N T M c3 u3 w3 → (c3.2.1 = 0 → cD N T l D3 u3 w3) → xSn (fCl l) u u3 → wSn fWl w w3 → xEv g (d + 101) mX7_readLine 136 [some (.ref 9), none] [] 698 u3 w3 r 698 P := by
    intro u3 w3 c3 D3 e h3 hD3 f3 fw3
    have e1 : (pLine N T D c).1 = pWant N T 4 c3 := by unfold pLine; rw [e]
    have e2 : (pLine N T D c).2 = D3 := by unfold pLine; rw [e]
    rw [e1, e2] at kk
    refine TX7_readLine_136 (xVd.use (K_want (k := 4) hr ok h3 (by omega) (by omega)) (fun u4 ⟨y1, y2⟩ => ⟨rfl, rfl, rfl, kk u4 w3 y1 (fun z => ?_) (f3.tr (y2.to (fun _ _ z => Or.inl z))) fw3⟩))
    exact (hD3 (pWant_0 z)).kept y2 (fun b i y => by omega)
  refine CX7_readLine hr h_l h94 ?_
  rw [h.2.2.2.1]
  refine xPr.use (K_kind hr ok h) ⟨_, rfl, rfl, rfl, rfl, ?_⟩
  refine xPr.use (K_mayBegin hr h_l h94 hO' hD k33) ⟨_, rfl, rfl, rfl, rfl, ?_⟩
  by_cases qm : mayB D (kK N T c.1)
  · refine brF (by rw [xb_pos qm]; decide) ?_
    obtain ⟨H2, f2⟩ := h.adv (by omega)
    rw [h.2.2.2.1] at H2 f2
    generalize x2 u 9 7 (nI c.1 + 1) = u2 at H2 f2 ⊢
    obtain ⟨a1, a2, a3, a4, a5, a6, a7, a8, a9, b1, b2, b3, b4, b5⟩ := hD.kept f2 (fun b i y => by omega)
    have F2 : xSn (fCl l) u u2 := f2.to (fun _ _ z => Or.inl z)
    rw [k15, k16, k17, k18, k19]
    refine ⟨fun z => ?_, fun z => ?_, fun z => ?_, fun z => ?_, fun z => ?_, fun z1 z2 z3 z4 z5 => ?_⟩
    · have c7 : D.1 0 < 7 := by omega
      refine K_readNewName (d := d + 98) hr ok nm16 (nr16 hr) (by omega) (by omega) H2 c7 n0 a1 (fun u3 w3 y1 y2 y3 y4 => ⟨rfl, rfl, ?_⟩)
      have f4 : xSn (fun b i => b = l ∧ i = 0) u3 (x2 u3 l 0 (u3 16 1)) := (xSn.rf).put ⟨rfl, rfl⟩
      have e4 : (x2 u3 l 0 (u3 16 1)) l 0 = u3 16 1 := x2_same _ _ _ _
      generalize x2 u3 l 0 (u3 16 1) = u4 at f4 e4
      have f24 : xSn (fun b i => fPc b i ∨ (b = 16 ∧ i = 1) ∨ (b = l ∧ i = 0)) u2 u4 := (y3.to (fun b i z => by omega)).tr (f4.to (fun b i z => by omega))
      refine fin u4 w3 _ _ (pLn_0 z c7) (y2.keptU f4 (fun b i q => by omega)) (fun q => ?_) (F2.tr (f24.to (fun b i q => by omega))) (y4.to (fun b i q => by omega))
      have n3 := y1 q
      exact ⟨n3.kept f4 (by omega), a2.keptW (f24 _ _ (by omega)) (fun i => y4 _ _ (by omega)), a3.keptW (f24 _ _ (by omega)) (fun i => y4 _ _ (by omega)), e4.trans n3.1, a5.kept2 f24 (by omega) (fun b i q1 q2 => by omega), a6.kept2 f24 (by omega) (fun b i q1 q2 => by omega), a7.kept2 f24 (by omega) (fun b i q1 q2 => by omega), (f24 _ _ (by omega)).trans a8, (f24 _ _ (by omega)).trans a9, fun q => ⟨(f24 _ _ (by omega)).trans (b1 q).1, (f24 _ _ (by omega)).trans (b1 q).2⟩, fun q => ⟨(f24 _ _ (by omega)).trans (b2 q).1, (f24 _ _ (by omega)).trans (b2 q).2⟩, (f24 _ _ (by omega)).trans b3, (f24 _ _ (by omega)).trans b4, fun k hk => (f24 _ _ (by omega)).trans (b5 k hk)⟩
    · have c7 : D.1 3 < 12 := by omega
      refine K_readWay (d := d + 97) hr ok h_l q_l h94 hl H2 m0 n0 a1 a5 c7 (fun u3 y1 y2 y3 => ⟨rfl, rfl, rfl, ?_⟩)
      refine fin u3 w _ _ (pLn_1 z c7) y2 (fun q => ?_) (F2.tr (y3.to (fun b i q => by omega))) wSn.rf
      exact ⟨a1.kept y3 (by omega), a2.kept y3 (by omega), a3.kept y3 (by omega), (y3 _ _ (by omega)).trans a4, y1 q, (a6.kept2 y3 (by omega) (fun b i q1 q2 => by omega)).cg (fun x i hx => wyPut_hi hx), a7.kept2 y3 (by omega) (fun b i q1 q2 => by omega), (y3 _ _ (by omega)).trans a8, (y3 _ _ (by omega)).trans a9, fun q => ⟨(y3 _ _ (by omega)).trans (b1 q).1, (y3 _ _ (by omega)).trans (b1 q).2⟩, fun q => ⟨(y3 _ _ (by omega)).trans (b2 q).1, (y3 _ _ (by omega)).trans (b2 q).2⟩, (y3 _ _ (by omega)).trans b3, (y3 _ _ (by omega)).trans b4, fun k hk => (y3 _ _ (by omega)).trans (b5 k hk)⟩
    · have c7 : D.1 1 < 6 := by omega
      refine K_readBier (d := d + 97) hr ok h_l q_l h94 hl H2 m0 n0 a1 c7 n1 a2 a6 (fun u3 w3 y1 y2 y3 y4 => ⟨rfl, rfl, ?_⟩)
      refine fin u3 w3 _ _ (pLn_2 z c7) y2 (fun q => ?_) (F2.tr (y3.to (fun b i q => by omega))) (y4.to (fun b i q => by omega))
      obtain ⟨q1, q2⟩ := y1 q
      exact ⟨a1.keptW (y3 _ _ (by omega)) (fun i => y4 _ _ (by omega)), q1, a3.keptW (y3 _ _ (by omega)) (fun i => y4 _ _ (by omega)), (y3 _ _ (by omega)).trans a4, (a5.kept2 y3 (by omega) (fun b i q1 q2 => by omega)).cg (fun x i hx => biPut_lo hx), q2, a7.kept2 y3 (by omega) (fun b i q1 q2 => by omega), (y3 _ _ (by omega)).trans a8, (y3 _ _ (by omega)).trans a9, fun q => ⟨(y3 _ _ (by omega)).trans (b1 q).1, (y3 _ _ (by omega)).trans (b1 q).2⟩, fun q => ⟨(y3 _ _ (by omega)).trans (b2 q).1, (y3 _ _ (by omega)).trans (b2 q).2⟩, (y3 _ _ (by omega)).trans b3, (y3 _ _ (by omega)).trans b4, fun k hk => (y3 _ _ (by omega)).trans (b5 k hk)⟩
    · have c7 : D.1 2 < 8 := by omega
      refine K_readLetter (d := d + 97) hr ok h_l q_l h94 hl H2 m0 n0 a1 c7 n2 a3 a7 (fun u3 w3 y1 y2 y3 y4 => ⟨rfl, rfl, ?_⟩)
      refine fin u3 w3 _ _ (pLn_3 z c7) y2 (fun q => ?_) (F2.tr (y3.to (fun b i q => by omega))) (y4.to (fun b i q => by omega))
      obtain ⟨q1, q2⟩ := y1 q
      exact ⟨a1.keptW (y3 _ _ (by omega)) (fun i => y4 _ _ (by omega)), a2.keptW (y3 _ _ (by omega)) (fun i => y4 _ _ (by omega)), q1, (y3 _ _ (by omega)).trans a4, a5.kept2 y3 (by omega) (fun b i q1 q2 => by omega), a6.kept2 y3 (by omega) (fun b i q1 q2 => by omega), q2, (y3 _ _ (by omega)).trans a8, (y3 _ _ (by omega)).trans a9, fun q => ⟨(y3 _ _ (by omega)).trans (b1 q).1, (y3 _ _ (by omega)).trans (b1 q).2⟩, fun q => ⟨(y3 _ _ (by omega)).trans (b2 q).1, (y3 _ _ (by omega)).trans (b2 q).2⟩, (y3 _ _ (by omega)).trans b3, (y3 _ _ (by omega)).trans b4, fun k hk => (y3 _ _ (by omega)).trans (b5 k hk)⟩
    · have c7 : D.1 4 = 0 := by omega
      obtain ⟨t1, t2⟩ := ow0 c7
      have f3 : xSn (fun b i => b = 9 ∧ i = 5) u2 (x2 u2 9 5 (1 : Int32)) := (xSn.rf).put ⟨rfl, rfl⟩
      have e3 : (x2 u2 9 5 (1 : Int32)) 9 5 = nI 1 := x2_same _ _ _ _
      generalize x2 u2 9 5 (1 : Int32) = u3 at f3 e3
      have H3 : cP N T M (pAdv c) u3 w := H2.keptU f3 (fun b i q => by omega)
      have Q3 : fQ l (pAdv c, [], 0) u3 := fun _ => ⟨(f3 _ _ (by omega)).trans (by rw [b3, t2]), (f3 _ _ (by omega)).trans (by rw [b4, t1]), fun k hk => absurd hk (Nat.not_lt_zero _)⟩
      have hi : inS M (pAdv c, [], 0) := ⟨h.M1 (by omega), trivial, Nat.le_refl _, Nat.le_refl _, Nat.zero_le _⟩
      have go := K_formula (g := g) (w := w) hr ok h_l q_l h94 hl hM 48 (d + 2) 0 0 (by omega) (by omega) (by decide)
      rw [show d + 2 + 2 * 48 + 2 = d + 100 by omega] at go
      refine go (pAdv c, [], 0) u3 _ h0 hi H3 Q3 (fun u4 y1 y2 y3 => ⟨rfl, rfl, rfl, ?_⟩)
      have f24 : xSn (fun b i => fFc l b i ∨ (b = 9 ∧ i = 5)) u2 u4 := (f3.to (fun b i q => Or.inr q)).tr (y3.to (fun b i q => Or.inl q))
      refine fin u4 w _ _ (pLn_4 z c7) y1 (fun q => ?_) (F2.tr (f24.to (fun b i q => by omega))) wSn.rf
      obtain ⟨q1, q2, q3⟩ := y2 q
      exact ⟨a1.kept f24 (by omega), a2.kept f24 (by omega), a3.kept f24 (by omega), (f24 _ _ (by omega)).trans a4, a5.kept2 f24 (by omega) (fun b i q1 q2 => by omega), a6.kept2 f24 (by omega) (fun b i q1 q2 => by omega), a7.kept2 f24 (by omega) (fun b i q1 q2 => by omega), (y3 _ _ (by omega)).trans e3, (f24 _ _ (by omega)).trans a9, fun q => ⟨(f24 _ _ (by omega)).trans (b1 q).1, (f24 _ _ (by omega)).trans (b1 q).2⟩, fun q => ⟨(f24 _ _ (by omega)).trans (b2 q).1, (f24 _ _ (by omega)).trans (b2 q).2⟩, q1, q2, q3⟩
    · have z : kK N T c.1 = 20 := by omega
      have c7 : D.1 5 = 0 := by omega
      refine K_readWinter (d := d + 97) hr ok h_l h94 hl H2 (fun u3 y1 y2 y3 y4 => ⟨rfl, rfl, rfl, ?_⟩)
      refine fin u3 w _ _ (pLn_5 z c7) y3 (fun q => ?_) (F2.tr (y4.to (fun b i q => by omega))) wSn.rf
      exact ⟨a1.kept y4 (by omega), a2.kept y4 (by omega), a3.kept y4 (by omega), (y4 _ _ (by omega)).trans a4, a5.kept2 y4 (by omega) (fun b i q1 q2 => by omega), a6.kept2 y4 (by omega) (fun b i q1 q2 => by omega), a7.kept2 y4 (by omega) (fun b i q1 q2 => by omega), (y4 _ _ (by omega)).trans a8, y2, fun q' => absurd (show (1 : Nat) = 0 from q') (by decide), fun _ => y1 q, (y4 _ _ (by omega)).trans b3, (y4 _ _ (by omega)).trans b4, fun k hk => (y4 _ _ (by omega)).trans (b5 k hk)⟩
  · refine brT (xb_neg qm) (xVd.use (K_fail (x := 2) hr ok h (by omega)) (fun u3 h3 => ⟨rfl, rfl, rfl, ?_⟩))
    have e : pLine N T D c = (pFail N T 2 c, D) := by
      unfold pLine
      rw [pLn_6 qm]
      show (pWant N T 4 (pFail N T 2 c), D) = _
      rw [pWant_f (pFail_0 (by omega))]
    rw [e] at kk
    exact kk u3 w h3.1 (fun z => absurd z (pFail_0 (by omega))) (h3.2.to (fun _ _ z => Or.inl z)) wSn.rf
end CLINE
