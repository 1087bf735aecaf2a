/-! THE FORMULA, read by the class -/
def fEn (x : Nat × Nat) : Int32 := fEnc (nI x.1) (nI x.2)
def fQ (l : Nat) (s : pS) (u : xU) : Prop := s.1.2.1 = 0 → u (l + 12) 2 = nI s.2.1.length ∧ u (l + 12) 3 = nI s.2.2 ∧ ∀ k, k < s.2.1.length → u (l + 13) k = fEn (stp s.2.1 k)
abbrev fFc (l : Nat) : Nat → Nat → Prop := fun b i => fPc b i ∨ (b = l + 12 ∧ (i = 2 ∨ i = 3)) ∨ b = l + 13
theorem fQ.kept {l : Nat} {s : pS} {u u' : xU} (h : fQ l s u) {F : Nat → Nat → Prop} (f : xSn F u u') (h1 : ∀ b i, (b = l + 12 ∧ (i = 2 ∨ i = 3)) ∨ b = l + 13 → ¬ F b i) : fQ l s u' := fun z => by
  obtain ⟨a1, a2, a3⟩ := h z
  exact ⟨(f _ _ (h1 _ _ (by omega))).trans a1, (f _ _ (h1 _ _ (by omega))).trans a2, fun k hk => (f _ _ (h1 _ _ (by omega))).trans (a3 k hk)⟩
theorem leaf_enc {N : Nat} {T : Nat → Int32} {j : Nat} {x : Int64} (h : isLeaf (kK N T j)) (hx : kK N T j = 3 → x = lN (kV N T j)) : (if nI (kK N T j) = (3 : Int32) then x.toInt32 else -(nI (kK N T j))) = fEn (leafS N T j) := by
  unfold leafS
  by_cases q : kK N T j = 3
  · rw [if_pos q, q, if_pos (show nI 3 = (3 : Int32) from rfl), hx q, lN_i]
    show nI (kV N T j) = fEnc (nI 0) (nI (kV N T j))
    unfold fEnc
    rw [if_pos (show nI 0 = (0 : Int32) from rfl)]
  · rw [if_neg q]
    by_cases q1 : kK N T j = 31
    · rw [q1, if_neg (show ¬ nI 31 = (3 : Int32) by decide)]; decide +kernel
    · rw [if_neg q1]
      by_cases q2 : kK N T j = 24
      · rw [q2, if_neg (show ¬ nI 24 = (3 : Int32) by decide)]; decide +kernel
      · rw [if_neg q2]
        by_cases q3 : kK N T j = 32
        · rw [q3, if_neg (show ¬ nI 32 = (3 : Int32) by decide)]; decide +kernel
        · have q4 : kK N T j = 33 := by omega
          rw [q4, if_neg (show ¬ nI 33 = (3 : Int32) by decide)]; decide +kernel
theorem op_enc {k lv : Nat} (h : isOp k lv) : -(nI k) = fEn (3, opC k) := by
  have key : ∀ k, k < 30 → (k = 28 ∨ k = 29 ∨ k = 7 ∨ k = 8 ∨ k = 9 ∨ k = 10 ∨ k = 11 ∨ k = 12 ∨ k = 13 ∨ k = 14) → -(nI k) = fEn (3, opC k) := by decide +kernel
  exact key k (by omega) (by omega)
/-- what a step more does -/
theorem fQ.add {l : Nat} {s : pS} {u u' : xU} {x : Nat × Nat} (h : fQ l s u) (hn : s.1.2.1 = 0 → s.2.1.length < 270) (h3 : u' (l + 12) 3 = u (l + 12) 3) (ha : ∀ n, n < 270 → u (l + 12) 2 = nI n → u' (l + 12) 2 = nI (n + 1) ∧ u' (l + 13) n = fEn x ∧ ∀ k, ¬ k = n → u' (l + 13) k = u (l + 13) k) : fQ l (s.1, x :: s.2.1, s.2.2) u' := fun z => by
  obtain ⟨a1, a2, a3⟩ := h z
  obtain ⟨b1, b2, b3⟩ := ha _ (hn z) a1
  refine ⟨b1, h3.trans a2, fun k hk => ?_⟩
  show u' (l + 13) k = fEn (stp (x :: s.2.1) k)
  by_cases y : k = s.2.1.length
  · rw [y, stp_new]; exact b2
  · have hk' : k < s.2.1.length + 1 := hk
    rw [stp_old _ _ (by omega), b3 k y]
    exact a3 k (by omega)
section FCLASS
variable {g : xGT} {d : Nat} {w : xW} {r : xQ} {N : Nat} {T : Nat → Int32} {M l : Nat}
theorem K_fadd {f : Nat} {u : xU} {P : xPost} {i : Int32} (h_f : xFm f) (q_f : xFr1 f r) (kk : ∀ u', xSn (fun b j => (b = f ∧ j = 2) ∨ b = f + 1) u u' → (∀ n, n < 270 → u f 2 = nI n → u' f 2 = nI (n + 1) ∧ u' (f + 1) n = i ∧ ∀ k, ¬ k = n → u' (f + 1) k = u (f + 1) k) → P none u' w r) : xCall g d mX1_add [.ref f, .int i] 698 u w r 698 P := by
  refine CX1_add h_f q_f ⟨fun c => ⟨vp_of (n := 270) c.1 c.2 (by omega), ?_⟩, fun c => ?_⟩
  · refine kk _ (((xSn.rf).put (Or.inr rfl)).put (Or.inl ⟨rfl, rfl⟩)) (fun n hn e => ?_)
    rw [x2_a _ _ (show f ≠ f + 1 by omega), e, nc (by omega), nI_one]
    refine ⟨x2_same _ _ _ _, ?_, fun k hk => ?_⟩
    · rw [x2_a _ _ (by omega), x2_same]
    · rw [x2_a _ _ (by omega), x2_i _ _ hk]
  · exact kk u xSn.rf (fun n hn e => absurd ⟨by rw [e]; exact nI_nn (by omega), by rw [e]; exact nI_ge (b := 270) hn (by omega)⟩ c)
theorem K_isOperator {u : xU} {k lv : Nat} (hk : k ≤ 100) (hv : lv ≤ 4) : xCall g d mX7_isOperator [.int (nI k), .int (nI lv)] 698 u w r 698 (xPr (xb (isOp k lv)) u w r) := by
  have e0 : nI lv = (0 : Int32) ↔ lv = 0 := eq_nI (b := 0) (by omega) (by omega)
  have e1 : nI lv = (1 : Int32) ↔ lv = 1 := eq_nI (b := 1) (by omega) (by omega)
  have e2 : nI lv = (2 : Int32) ↔ lv = 2 := eq_nI (b := 2) (by omega) (by omega)
  have e3 : nI lv = (3 : Int32) ↔ lv = 3 := eq_nI (b := 3) (by omega) (by omega)
  have k28 : nI k = (28 : Int32) ↔ k = 28 := eq_nI (b := 28) (by omega) (by omega)
  have k29 : nI k = (29 : Int32) ↔ k = 29 := eq_nI (b := 29) (by omega) (by omega)
  have k7 : nI k = (7 : Int32) ↔ k = 7 := eq_nI (b := 7) (by omega) (by omega)
  have k8 : nI k = (8 : Int32) ↔ k = 8 := eq_nI (b := 8) (by omega) (by omega)
  have k9 : nI k = (9 : Int32) ↔ k = 9 := eq_nI (b := 9) (by omega) (by omega)
  have k10 : nI k = (10 : Int32) ↔ k = 10 := eq_nI (b := 10) (by omega) (by omega)
  have k11 : nI k = (11 : Int32) ↔ k = 11 := eq_nI (b := 11) (by omega) (by omega)
  have k12 : nI k = (12 : Int32) ↔ k = 12 := eq_nI (b := 12) (by omega) (by omega)
  have k13 : nI k = (13 : Int32) ↔ k = 13 := eq_nI (b := 13) (by omega) (by omega)
  have k14 : nI k = (14 : Int32) ↔ k = 14 := eq_nI (b := 14) (by omega) (by omega)
  refine CX7_isOperator ⟨fun z => ⟨?_, rfl, rfl, rfl⟩, fun z => ⟨?_, rfl, rfl, rfl⟩, fun z => ⟨?_, rfl, rfl, rfl⟩, fun z => ⟨?_, rfl, rfl, rfl⟩, fun z0 z1 z2 z3 => ⟨?_, rfl, rfl, rfl⟩⟩
  · rw [e0] at z
    rw [xb_iff (show nI k = (28 : Int32) ↔ isOp k lv by rw [k28]; omega)]
  · rw [e1] at z
    rw [xb_iff (show nI k = (29 : Int32) ↔ isOp k lv by rw [k29]; omega)]
  · rw [e2] at z
    rw [xb_iff (show (nI k = (7 : Int32) ∨ (nI k = (8 : Int32) ∨ nI k = (9 : Int32))) ↔ isOp k lv by rw [k7, k8, k9]; omega)]
  · rw [e3] at z
    rw [xb_iff (show (nI k = (10 : Int32) ∨ nI k = (11 : Int32)) ↔ isOp k lv by rw [k10, k11]; omega)]
  · rw [e0] at z0; rw [e1] at z1; rw [e2] at z2; rw [e3] at z3
    rw [xb_iff (show (nI k = (12 : Int32) ∨ (nI k = (13 : Int32) ∨ nI k = (14 : Int32))) ↔ isOp k lv by rw [k12, k13, k14]; omega)]
/-- what readFormula does, at a level, within so many -/
def fK (g : xGT) (D : Nat) (l : Nat) (w : xW) (r : xQ) (N : Nat) (T : Nat → Int32) (M lv wi : Nat) (F : pS → pS) : Prop := ∀ (s : pS) (u : xU) (P : xPost), s.1.2.1 = 0 → inS M s → cP N T M s.1 u w → fQ l s u → (∀ u', cP N T M (F s).1 u' w → fQ l (F s) u' → xSn (fFc l) u u' → P none u' w r) → xCall g D mX7_readFormula [.ref 9, .int (nI lv), .int (nI wi)] 698 u w r 698 P
theorem K_readUnit {s : pS} {u : xU} {P : xPost} {wi : Nat} {F : pS → pS} (hr : xRf r) (ok : tpOk N T) (h_l : xLd l) (q_l : xLr l r) (h94 : r 9 4 = some l) (hl : l = 22 ∨ l = 37) (hw : wi ≤ 7) (hF : wi ≤ 6 → fK g (d + 2) l w r N T M 0 (wi + 1) F)
    (h0 : s.1.2.1 = 0) (hs : inS M s) (h : cP N T M s.1 u w) (hq : fQ l s u) (kk : ∀ u', cP N T M (pU N T F wi s).1 u' w → fQ l (pU N T F wi s) u' → xSn (fFc l) u u' → P none u' w r) :
    xCall g (d + 3) mX7_readUnit [.ref 9, .int (nI wi)] 698 u w r 698 P := by
  have n16 := ok.1
  have m1 := h.1.1
  have k33 := kK_small ok s.1.1
  have cM := h.2.1
  obtain ⟨b1, b2, b3, b4, b5⟩ := hs
  obtain ⟨a1, a2, a3⟩ := hq h0
  have e5 : nI (kK N T s.1.1) = (5 : Int32) ↔ kK N T s.1.1 = 5 := eq_nI (b := 5) (by omega) (by omega)
  have e3 : nI (kK N T s.1.1) = (3 : Int32) ↔ kK N T s.1.1 = 3 := eq_nI (b := 3) (by omega) (by omega)
  have e31 : nI (kK N T s.1.1) = (31 : Int32) ↔ kK N T s.1.1 = 31 := eq_nI (b := 31) (by omega) (by omega)
  have e24 : nI (kK N T s.1.1) = (24 : Int32) ↔ kK N T s.1.1 = 24 := eq_nI (b := 24) (by omega) (by omega)
  have e32 : nI (kK N T s.1.1) = (32 : Int32) ↔ kK N T s.1.1 = 32 := eq_nI (b := 32) (by omega) (by omega)
  have e33 : nI (kK N T s.1.1) = (33 : Int32) ↔ kK N T s.1.1 = 33 := eq_nI (b := 33) (by omega) (by omega)
  have ew : nI wi ≤ (6 : Int32) ↔ wi ≤ 6 := le_nI (b := 6) (by omega) (by omega)
  have bad : ¬ unOk N T wi s → xEv g (d + 3) mX7_readUnit 110 [some (.ref 9), none, none, none, none, none, none] [] 698 u w r 698 P := fun q => by
    have e : pU N T F wi s = (pFail N T 2 s.1, s.2) := if_neg q
    rw [e] at kk
    exact TX7_readUnit_110 (xVd.use (K_fail (x := 2) hr ok h (by omega)) (fun u1 h1 => ⟨rfl, rfl, rfl, kk u1 h1.1 (fun z => absurd z (pFail_0 (by omega))) (h1.2.to (fun _ _ z => Or.inl z))⟩))
  refine CX7_readUnit hr h_l q_l h94 ?_
  rw [h.2.2.2.1]
  refine xPr.use (K_kind hr ok h) ⟨_, rfl, rfl, rfl, rfl, ?_⟩
  rw [h.2.2.2.2.1, f9_0 h.2.2.1]
  refine brT h0 ?_
  have hc : ((¬ ((xb (nI (kK N T s.1.1) = (5 : Int32))) = 0) ∧ (xb (¬ ((xb (nI (kK N T s.1.1) = (5 : Int32))) = 0) ∧ ¬ (nI wi ≤ (6 : Int32)))) = 0) ∨ ((xb (nI (kK N T s.1.1) = (5 : Int32))) = 0 ∧ (¬ ((xb (nI (kK N T s.1.1) = (3 : Int32) ∨ (nI (kK N T s.1.1) = (31 : Int32) ∨ (nI (kK N T s.1.1) = (24 : Int32) ∨ (nI (kK N T s.1.1) = (32 : Int32) ∨ nI (kK N T s.1.1) = (33 : Int32)))))) = 0) ∧ (xb (¬ ((xb (nI (kK N T s.1.1) = (5 : Int32))) = 0) ∧ ¬ (nI wi ≤ (6 : Int32)))) = 0))) ↔ ((kK N T s.1.1 = 5 ∨ isLeaf (kK N T s.1.1)) ∧ ¬ (kK N T s.1.1 = 5 ∧ 6 < wi)) := by
    simp only [xb_eq0, e5, e3, e31, e24, e32, e33, ew]
    omega
  by_cases qc : (kK N T s.1.1 = 5 ∨ isLeaf (kK N T s.1.1)) ∧ ¬ (kK N T s.1.1 = 5 ∧ 6 < wi)
  · refine brT (hc.2 qc) (CX1_isFull h_l.fm ⟨_, rfl, rfl, rfl, rfl, ?_⟩)
    have eU : u (l + 12) 3 < (30 : Int32) ↔ s.2.2 < 30 := by rw [a2]; exact lt_nI (b := 30) (by omega) (by omega)
    by_cases qU : s.2.2 < 30
    · refine brT (xb_neg (fun z => z (eU.2 qU))) ?_
      have un : unOk N T wi s := ⟨h0, qc.1, qc.2, qU⟩
      rw [a2, nI_one]
      have f1 : xSn (fun b i => b = l + 12 ∧ i = 3) u (x2 u (l + 12) 3 (nI (s.2.2 + 1))) := (xSn.rf).put ⟨rfl, rfl⟩
      have H1 : cP N T M s.1 (x2 u (l + 12) 3 (nI (s.2.2 + 1))) w := h.keptU f1 (fun b i => by omega)
      have Q1 : fQ l (s.1, s.2.1, s.2.2 + 1) (x2 u (l + 12) 3 (nI (s.2.2 + 1))) := fun _ => ⟨(x2_i _ _ (by omega)).trans a1, x2_same _ _ _ _, fun k hk => (x2_a _ _ (by omega)).trans (a3 k hk)⟩
      generalize x2 u (l + 12) 3 (nI (s.2.2 + 1)) = u1 at f1 H1 Q1
      have nz : ¬ kK N T s.1.1 = 0 := by have := qc.1; omega
      obtain ⟨H2, f2⟩ := H1.adv nz
      have Q2 : fQ l (pAdv s.1, s.2.1, s.2.2 + 1) (x2 u1 9 7 (u1 9 7 + 1)) := fun _ => (Q1.kept f2 (fun b i => by omega)) h0
      have f12 : xSn (fFc l) u (x2 u1 9 7 (u1 9 7 + 1)) := (f1.to (fun _ _ z => Or.inr (Or.inl ⟨z.1, Or.inr z.2⟩))).tr (f2.to (fun _ _ z => Or.inl z))
      have e97 := H1.2.2.2.1
      rw [e97] at H2 Q2 f12 ⊢
      refine K_valueAt hr H1.1.2.2.2.1 (by omega) (by omega) ⟨_, rfl, rfl, rfl, rfl, ?_⟩
      generalize x2 u1 9 7 (nI s.1.1 + 1) = u2 at H2 Q2 f12
      by_cases qb : kK N T s.1.1 = 5
      · refine brF (fun z => xb_eq0.1 z (e5.2 qb)) ?_
        rw [nI_one]
        have e : pU N T F wi s = (pWant N T 6 (F (pAdv s.1, s.2.1, s.2.2 + 1)).1, (F (pAdv s.1, s.2.1, s.2.2 + 1)).2) := by unfold pU; rw [if_pos un, if_pos qb]
        rw [e] at kk
        have w6 : wi ≤ 6 := by have := qc.2; omega
        have hi : inS M (pAdv s.1, s.2.1, s.2.2 + 1) := ⟨H2.2.1, b2, by show sd s.2.1 ≤ s.2.2 + 1; omega, by show s.2.1.length ≤ 9 * (s.2.2 + 1); omega, by show s.2.2 + 1 ≤ 30; omega⟩
        refine hF w6 (pAdv s.1, s.2.1, s.2.2 + 1) u2 _ h0 hi H2 Q2 (fun u3 x1 x2' x3 => ⟨rfl, rfl, rfl, ?_⟩)
        generalize F (pAdv s.1, s.2.1, s.2.2 + 1) = t at x1 x2' kk
        refine xVd.use (K_want (d := d) (k := 6) hr ok x1 (by omega) (by omega)) (fun u4 ⟨y1, y2⟩ => ⟨rfl, rfl, rfl, kk u4 y1 (fun z => ?_) ((f12.tr x3).tr (y2.to (fun _ _ z => Or.inl z)))⟩)
        exact (x2'.kept y2 (fun b i => by omega)) (pWant_0 z)
      · refine brT (xb_eq0.2 (fun z => qb (e5.1 z))) ?_
        have lf : isLeaf (kK N T s.1.1) := by have := qc.1; omega
        rw [leaf_enc lf (fun z => (h.1.2.2.2.2 s.1.1 cM).2.2.2 z)]
        have e : pU N T F wi s = (pAdv s.1, leafS N T s.1.1 :: s.2.1, s.2.2 + 1) := by unfold pU; rw [if_pos un, if_neg qb]
        rw [e] at kk
        refine K_fadd h_l.fm q_l.2 (fun u3 f3 ha => ⟨rfl, rfl, rfl, kk u3 (H2.keptU f3 (fun b i => by omega)) ?_ (f12.tr (f3.to (fun b i z => by omega)))⟩)
        exact Q2.add (fun _ => by show s.2.1.length < 270; omega) (f3 _ _ (by omega)) ha
    · refine brF (fun z => qU (eU.1 (Classical.byContradiction (fun y => xb_eq0.1 z y)))) (bad (fun z => qU z.2.2.2))
  · exact brF (fun z => qc (hc.1 z)) (bad (fun z => qc ⟨z.2.1, z.2.2.1⟩))
theorem K_readNot {s : pS} {u : xU} {P : xPost} {wi : Nat} {F : pS → pS} (hr : xRf r) (ok : tpOk N T) (h_l : xLd l) (q_l : xLr l r) (h94 : r 9 4 = some l) (hl : l = 22 ∨ l = 37) (hM : kK N T M = 0) (hw : wi ≤ 7) (hF : wi ≤ 6 → fK g (d + 2) l w r N T M 2 (wi + 1) F) (gF : wi ≤ 6 → ∀ t, t.1.2.1 = 0 → inS M t → gd M 1 t (F t))
    (h0 : s.1.2.1 = 0) (h30 : kK N T s.1.1 = 30) (hs : inS M s) (h : cP N T M s.1 u w) (hq : fQ l s u) (kk : ∀ u', cP N T M (pNt N T F wi s).1 u' w → fQ l (pNt N T F wi s) u' → xSn (fFc l) u u' → P none u' w r) :
    xCall g (d + 3) mX7_readNot [.ref 9, .int (nI wi)] 698 u w r 698 P := by
  have ew : nI wi ≤ (6 : Int32) ↔ wi ≤ 6 := le_nI (b := 6) (by omega) (by omega)
  refine CX7_readNot h_l q_l h94 ?_
  rw [ew, nI_one]
  by_cases q : wi ≤ 6
  · refine brT q ?_
    have e : pNt N T F wi s = ((F (pAdv s.1, s.2)).1, (2, 0) :: (F (pAdv s.1, s.2)).2.1, (F (pAdv s.1, s.2)).2.2) := if_neg (by omega)
    rw [e] at kk
    have hi := hs.adv hM (by rw [h30]; decide)
    obtain ⟨H2, f2⟩ := h.adv (by rw [h30]; decide)
    have Q2 : fQ l (pAdv s.1, s.2) (x2 u 9 7 (u 9 7 + 1)) := fun _ => (hq.kept f2 (fun b i => by omega)) h0
    generalize x2 u 9 7 (u 9 7 + 1) = u2 at H2 Q2 f2
    have gg := gF q (pAdv s.1, s.2) h0 hi
    refine hF q (pAdv s.1, s.2) u2 _ h0 hi H2 Q2 (fun u3 x1 x2' x3 => ⟨rfl, rfl, rfl, ?_⟩)
    generalize F (pAdv s.1, s.2) = t at x1 x2' kk gg
    refine K_fadd h_l.fm q_l.2 (fun u4 f4 ha => ⟨rfl, rfl, rfl, kk u4 (x1.keptU f4 (fun b i => by omega)) ?_ (((f2.to (fun _ _ z => Or.inl z)).tr x3).tr (f4.to (fun b i z => by omega)))⟩)
    refine x2'.add (fun z => ?_) (f4 _ _ (by omega)) ha
    obtain ⟨g1, g2, g3, g4, g5, g6, g7, g8⟩ := gg z
    obtain ⟨c1, c2, c3, c4, c5⟩ := hi
    omega
  · refine brF q ?_
    have e : pNt N T F wi s = (pFail N T 2 s.1, s.2) := if_pos (by omega)
    rw [e] at kk
    exact xVd.use (K_fail (x := 2) hr ok h (by omega)) (fun u1 h1 => ⟨rfl, rfl, rfl, kk u1 h1.1 (fun z => absurd z (pFail_0 (by omega))) (h1.2.to (fun _ _ z => Or.inl z))⟩)
theorem K_floop {s : pS} {P : xPost} {lv wi k k2 most : Nat} {F : pS → pS} {u0 : xU} (hr : xRf r) (ok : tpOk N T) (h_l : xLd l) (q_l : xLr l r) (h94 : r 9 4 = some l) (hl : l = 22 ∨ l = 37) (hM : kK N T M = 0) (hv : lv ≤ 4) (hm : most ≤ 1600) (hF : fK g (d + 3) l w r N T M (lv + 1) wi F) (hk : 1 ≤ k2) (gF : ∀ t, t.1.2.1 = 0 → inS M t → gd M k2 t (F t)) (hs : inS M s) : ∀ m i t u, i + m = most → gd M k s t → cP N T M t.1 u w → fQ l t u → xSn (fFc l) u0 u → (∀ u', cP N T M (lpF N T F lv m t).1 u' w → fQ l (lpF N T F lv m t) u' → xSn (fFc l) u0 u' → P none u' w r) →
    xEv g (d + 4) mX7_readFormula 59 [some (.ref 9), some (.int (nI lv)), some (.int (nI wi)), some (.int (nI most)), some (.int (nI i)), none] [] 698 u w r 698 P := by
  intro m
  induction m with
  | zero =>
    intro i t u hi hg h hq fr kk
    have ei : i = most := by omega
    subst ei
    exact TX7_readFormula_59 hr h_l q_l h94 (brF (fun z => z.1 (nI_le (Nat.le_refl _) (by omega))) (kk u h hq fr))
  | succ m ih =>
    intro i t u hi hg h hq fr kk
    have k33 := kK_small ok t.1.1
    refine TX7_readFormula_59 hr h_l q_l h94 ?_
    rw [h.2.2.2.2.1, f9_0 h.2.2.1, h.2.2.2.1]
    rw [lpF] at kk
    by_cases q : t.1.2.1 = 0
    · refine brT ⟨nI_ge (by omega) (by omega), q⟩ (xPr.use (K_kind hr ok h) ⟨_, rfl, rfl, rfl, rfl, ?_⟩)
      refine xPr.use (K_isOperator (by omega) hv) ⟨_, rfl, rfl, rfl, rfl, ?_⟩
      by_cases q2 : isOp (kK N T t.1.1) lv
      · rw [if_pos ⟨q, q2⟩] at kk
        refine brF (by rw [xb_pos q2]; decide) (xPr.use (K_kind hr ok h) ⟨_, rfl, rfl, rfl, rfl, ?_⟩)
        have hi2 := (hg.inS hs q).adv hM (isOp_ne q2)
        obtain ⟨H2, f2⟩ := h.adv (isOp_ne q2)
        have Q2 : fQ l (pAdv t.1, t.2) (x2 u 9 7 (u 9 7 + 1)) := fun _ => (hq.kept f2 (fun b i => by omega)) q
        rw [h.2.2.2.1] at H2 Q2 f2
        generalize x2 u 9 7 (nI t.1.1 + 1) = u2 at H2 Q2 f2
        have g2 := hg.op q (gF (pAdv t.1, t.2) q hi2) hk q2
        rw [nI_one]
        refine hF (pAdv t.1, t.2) u2 _ q hi2 H2 Q2 (fun u3 x1 x2' x3 => ⟨rfl, rfl, rfl, ?_⟩)
        generalize F (pAdv t.1, t.2) = t2 at x1 x2' kk g2
        rw [op_enc q2]
        refine K_fadd h_l.fm q_l.2 (fun u4 f4 ha => ⟨rfl, rfl, rfl, ?_⟩)
        rw [nI_one]
        refine ih (i + 1) (opPut N T t.1.1 t2) u4 (by omega) g2 (x1.keptU f4 (fun b i => by omega)) ?_ (((fr.tr (f2.to (fun _ _ z => Or.inl z))).tr x3).tr (f4.to (fun b i z => by omega))) kk
        refine x2'.add (fun z => ?_) (f4 _ _ (by omega)) ha
        obtain ⟨g1, g2', g3, g4, g5, g6, g7, g8⟩ := g2 z
        obtain ⟨c1, c2, c3, c4, c5⟩ := hs
        have e8 : (opPut N T t.1.1 t2).2.1.length = t2.2.1.length + 1 := rfl
        omega
      · rw [if_neg (fun z => q2 z.2)] at kk
        exact brT (xb_neg q2) (kk u h hq fr)
    · rw [if_neg (fun z => q z.1)] at kk
      exact brF (fun z => q z.2) (kk u h hq fr)
theorem K_formula (hr : xRf r) (ok : tpOk N T) (h_l : xLd l) (q_l : xLr l r) (h94 : r 9 4 = some l) (hl : l = 22 ∨ l = 37) (hM : kK N T M = 0) : ∀ f D lv wi, lv ≤ 5 → wi ≤ 7 → nd lv wi ≤ f → fK g (D + 2 * f + 2) l w r N T M lv wi (pF N T f lv wi) := by
  intro f
  induction f with
  | zero =>
    intro D lv wi h1 h2 h3
    unfold nd at h3
    omega
  | succ f ih =>
    intro D lv wi h1 h2 h3 s u P h0 hs h hq kk
    unfold nd at h3
    have e2 : nI lv = (2 : Int32) ↔ lv = 2 := eq_nI (b := 2) (by omega) (by omega)
    have e4 : nI lv ≤ (4 : Int32) ↔ lv ≤ 4 := le_nI (b := 4) (by omega) (by omega)
    rw [pF] at kk
    refine CX7_readFormula (d := D + 2 * f + 3) ?_
    rw [e4, e2]
    by_cases q5 : 4 < lv
    · rw [if_pos q5] at kk
      refine brF (by omega) (K_readUnit (d := D + 2 * f) hr ok h_l q_l h94 hl h2 (fun w6 => ih D 0 (wi + 1) (by omega) (by omega) (by unfold nd; omega)) h0 hs h hq (fun u' y1 y2 y3 => ⟨rfl, rfl, rfl, kk u' y1 y2 y3⟩))
    · rw [if_neg q5] at kk
      refine brT (by omega) ?_
      have main : ¬ (lv = 2 ∧ pSee N T 30 s.1) → xEv g (D + 2 * f + 3 + 1) mX7_readFormula 35 [some (.ref 9), some (.int (nI lv)), some (.int (nI wi)), none, none, none] [] 698 u w r 698 P := fun qn => by
        rw [if_neg qn] at kk
        refine TX7_readFormula_35 ?_
        rw [nI_one]
        have gF : ∀ t : pS, t.1.2.1 = 0 → inS M t → gd M (sl (lv + 1) wi) t (pF N T f (lv + 1) wi t) := fun t y1 y2 => pF_ok hM f (lv + 1) wi t (by omega) h2 (by unfold nd; omega) y1 y2
        have hF : fK g (D + 2 * f + 3) l w r N T M (lv + 1) wi (pF N T f (lv + 1) wi) := by
          have := ih (D + 1) (lv + 1) wi (by omega) h2 (by unfold nd; omega)
          have e : D + 1 + 2 * f + 2 = D + 2 * f + 3 := by omega
          rw [e] at this
          exact this
        have k2 : 1 ≤ sl (lv + 1) wi := by unfold sl; split <;> omega
        have most : (if nI lv = (2 : Int32) then (1 : Int32) else (1600 : Int32)) = nI (if lv = 2 then 1 else 1600) := by
          by_cases y : lv = 2
          · rw [if_pos (e2.2 y), if_pos y]; rfl
          · rw [if_neg (fun z => y (e2.1 z)), if_neg y]; rfl
        refine hF s u _ h0 hs h hq (fun u3 x1 x2' x3 => ⟨rfl, rfl, rfl, ?_⟩)
        rw [most]
        exact K_floop (d := D + 2 * f) (u0 := u) (most := if lv = 2 then 1 else 1600) hr ok h_l q_l h94 hl hM (by omega) (by split <;> omega) hF k2 gF hs _ 0 _ u3 (by omega) (gF s h0 hs) x1 x2' x3 kk
      by_cases q2 : lv = 2
      · refine brT q2 (xPr.use (K_sees (k := 30) hr ok h (by omega)) ⟨_, rfl, rfl, rfl, rfl, ?_⟩)
        by_cases qs : pSee N T 30 s.1
        · rw [if_pos ⟨q2, qs⟩] at kk
          refine brF (by rw [xb_pos qs]; decide) (K_readNot (d := D + 2 * f) hr ok h_l q_l h94 hl hM h2 (fun w6 => ih D 2 (wi + 1) (by omega) (by omega) (by unfold nd; omega)) (fun w6 t y1 y2 => (pF_ok hM f 2 (wi + 1) t (by omega) (by omega) (by unfold nd; omega) y1 y2).less (by unfold sl; rw [if_pos (by omega)]; omega)) h0 qs.2 hs h hq (fun u' y1 y2 y3 => ⟨rfl, rfl, rfl, kk u' y1 y2 y3⟩))
        · exact brT (xb_neg qs) (main (fun z => qs z.2))
      · exact brF q2 (main (fun z => q2 z.1))
end FCLASS
