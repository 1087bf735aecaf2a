/-! THE FORMULA: steps on a stack; both sides' value -/
def lS (L : xU) : Nat := (L 0 6).toNatClampNeg
def fDep (L : xU) : Nat → Nat
  | 0 => 0
  | k + 1 => if L 8 k = 0 ∨ L 8 k = 1 then fDep L k + 1 else if L 8 k = 2 then fDep L k else fDep L k - 1
def fDo (s x y : Int32) : Int32 := if s = 37 then (if y = 0 then 0 else x - x / y * y) else if s = 38 then xb (¬ x = 0 ∧ ¬ y = 0) else if s = 42 then x * y else if s = 43 then x + y else if s = 45 then x - y else if s = 47 then (if y = 0 then 0 else x / y) else if s = 60 then xb (¬ y ≤ x) else if s = 61 then xb (x = y) else if s = 62 then xb (¬ x ≤ y) else xb (¬ x = 0 ∨ ¬ y = 0)
def fStk (L : xU) (q : Nat → Int32) (S : Nat → Int32) : Nat → Nat → Int32
  | 0 => S
  | k + 1 => if L 8 k = 0 ∨ L 8 k = 1 then up (fStk L q S k) (fDep L k) (if L 8 k = 0 then L 9 k else q (L 9 k).toNatClampNeg) else if L 8 k = 2 then up (fStk L q S k) (fDep L k - 1) (xb (fStk L q S k (fDep L k - 1) = 0)) else up (fStk L q S k) (fDep L k - 2) (fDo (L 9 k) (fStk L q S k (fDep L k - 2)) (fStk L q S k (fDep L k - 1)))
def fSign (a : Int32) : Prop := a = 124 ∨ a = 38 ∨ a = 60 ∨ a = 62 ∨ a = 61 ∨ a = 43 ∨ a = 45 ∨ a = 42 ∨ a = 47 ∨ a = 37
def fStepOk (L : xU) (k : Nat) : Prop := (L 8 k = 0 ∧ ∃ n, n < 10000 ∧ L 9 k = nI n) ∨ (L 8 k = 1 ∧ ∃ n, n < 4 ∧ L 9 k = nI n) ∨ (L 8 k = 2 ∧ 1 ≤ fDep L k) ∨ (L 8 k = 3 ∧ fSign (L 9 k) ∧ 2 ≤ fDep L k)
/-- the steps told are those of a formula, or none -/
def fOk (L : xU) : Prop := L 0 6 = nI (lS L) ∧ lS L ≤ 270 ∧ (∀ k, k < lS L → fStepOk L k) ∧ (∀ k, k ≤ lS L → fDep L k ≤ 30) ∧ (L 0 7 = 0 ∧ lS L = 0 ∨ L 0 7 = 1 ∧ 1 ≤ fDep L (lS L))
/-- the value, 0 .. 9 -/
def fClamp (x : Int32) : Int32 := if 0 ≤ x then (if x ≤ 9 then x else 9) else 0
def fVal (L : xU) (q : Nat → Int32) : Int32 := if L 0 7 = 0 then 0 else fClamp (fStk L q (fun _ => 0) (lS L) 0)
theorem fStk_low {L : xU} {q S T : Nat → Int32} {n : Nat} (h : ∀ k, k < n → fStepOk L k) : ∀ k, k ≤ n → ∀ i, i < fDep L k → fStk L q S k i = fStk L q T k i := by
  intro k
  induction k with
  | zero => intro _ i hi; exact absurd hi (Nat.not_lt_zero _)
  | succ k ih =>
    intro hk i hi
    have i1 := ih (by omega)
    have o := h k (by omega)
    rw [fStk, fStk]
    rw [fDep] at hi
    by_cases h1 : L 8 k = 0 ∨ L 8 k = 1
    · rw [if_pos h1] at hi ⊢
      rw [if_pos h1]
      by_cases e : i = fDep L k
      · rw [e, up_s, up_s]
      · rw [up_n e, up_n e]; exact i1 i (by omega)
    · rw [if_neg h1] at hi ⊢
      rw [if_neg h1]
      by_cases h2 : L 8 k = 2
      · rw [if_pos h2] at hi ⊢
        rw [if_pos h2]
        have : 1 ≤ fDep L k := by
          rcases o with o | o | o | o
          · exact absurd (Or.inl o.1) h1
          · exact absurd (Or.inr o.1) h1
          · exact o.2
          · rw [o.1] at h2; exact absurd h2 (by decide)
        rw [i1 (fDep L k - 1) (by omega)]
        by_cases e : i = fDep L k - 1
        · rw [e, up_s, up_s]
        · rw [up_n e, up_n e]; exact i1 i hi
      · rw [if_neg h2] at hi ⊢
        rw [if_neg h2]
        have : 2 ≤ fDep L k := by
          rcases o with o | o | o | o
          · exact absurd (Or.inl o.1) h1
          · exact absurd (Or.inr o.1) h1
          · exact absurd o.1 h2
          · exact o.2.2
        rw [i1 (fDep L k - 1) (by omega), i1 (fDep L k - 2) (by omega)]
        by_cases e : i = fDep L k - 2
        · rw [e, up_s, up_s]
        · rw [up_n e, up_n e]; exact i1 i (by omega)
def fEnc (s a : Int32) : Int32 := if s = 0 then a else if s = 1 then (if a = 0 then -31 else if a = 1 then -24 else if a = 2 then -32 else -33) else if s = 2 then -30 else if a = 124 then -28 else if a = 38 then -29 else if a = 60 then -7 else if a = 62 then -8 else if a = 61 then -9 else if a = 43 then -10 else if a = 45 then -11 else if a = 42 then -12 else if a = 47 then -13 else -14
section FORM
variable {g : xGT} {d : Nat} {w : xW} {r : xQ}
theorem R_done {u : xU} (s x y : Int32) : xCall g (d + 1) mX12_done [.int s, .int x, .int y] 698 u w r 698 (xPr (fDo s x y) u w r) := by
  refine CX12_done ⟨fun h => ?_, fun h => ?_, fun h => ?_, fun h => ?_, fun h => ?_, fun h => ?_, fun h => ?_, fun h => ?_, fun h => ?_, fun h1 h2 h3 h4 h5 h6 h7 h8 h9 => ?_⟩
  · subst h
    exact ⟨fun q => ⟨by subst q; rfl, rfl, rfl, rfl⟩, fun q => ⟨q, by rw [fDo, if_pos rfl, if_neg q], rfl, rfl, rfl⟩⟩
  · subst h; exact xPr.use (R_truthb _) ⟨_, rfl, rfl, rfl, rfl, rfl, rfl, rfl, rfl⟩
  · subst h; exact ⟨rfl, rfl, rfl, rfl⟩
  · subst h; exact ⟨rfl, rfl, rfl, rfl⟩
  · subst h; exact ⟨rfl, rfl, rfl, rfl⟩
  · subst h
    exact ⟨fun q => ⟨by subst q; rfl, rfl, rfl, rfl⟩, fun q => ⟨q, by rw [fDo, if_neg (by decide), if_neg (by decide), if_neg (by decide), if_neg (by decide), if_neg (by decide), if_pos rfl, if_neg q], rfl, rfl, rfl⟩⟩
  · subst h; exact xPr.use (R_truthb _) ⟨_, rfl, rfl, rfl, rfl, rfl, rfl, rfl, rfl⟩
  · subst h; exact xPr.use (R_truthb _) ⟨_, rfl, rfl, rfl, rfl, rfl, rfl, rfl, rfl⟩
  · subst h; exact xPr.use (R_truthb _) ⟨_, rfl, rfl, rfl, rfl, rfl, rfl, rfl, rfl⟩
  · refine xPr.use (R_truthb _) ⟨_, rfl, rfl, rfl, rfl, ?_, rfl, rfl, rfl⟩
    rw [fDo, if_neg h1, if_neg h2, if_neg h3, if_neg h4, if_neg h5, if_neg h6, if_neg h7, if_neg h8, if_neg h9]
theorem K_join {u : xU} {a : Int32} (h : fSign a) (x y : Int32) : xCall g d mX1_join [.int (-(fEnc 3 a)), .int x, .int y] 698 u w r 698 (xPr (fDo a x y) u w r) := by
  refine CX1_join ?_
  rcases h with rfl | rfl | rfl | rfl | rfl | rfl | rfl | rfl | rfl | rfl
  all_goals
    first
    | exact ⟨fun z => absurd z (by decide), fun z => absurd z (by decide), fun z => absurd z (by decide), fun z => absurd z (by decide), fun z => absurd z (by decide), fun z => absurd z (by decide), fun z => absurd z (by decide), fun _ => ⟨rfl, rfl, rfl, rfl⟩, fun z => absurd z (by decide), fun _ _ _ _ _ _ _ z _ => absurd (show -(fEnc 3 124) = 28 by decide) z⟩
    | exact ⟨fun z => absurd z (by decide), fun z => absurd z (by decide), fun z => absurd z (by decide), fun z => absurd z (by decide), fun z => absurd z (by decide), fun z => absurd z (by decide), fun z => absurd z (by decide), fun z => absurd z (by decide), fun _ => ⟨rfl, rfl, rfl, rfl⟩, fun _ _ _ _ _ _ _ _ z => absurd (show -(fEnc 3 38) = 29 by decide) z⟩
    | exact ⟨fun _ => ⟨rfl, rfl, rfl, rfl⟩, fun z => absurd z (by decide), fun z => absurd z (by decide), fun z => absurd z (by decide), fun z => absurd z (by decide), fun z => absurd z (by decide), fun z => absurd z (by decide), fun z => absurd z (by decide), fun z => absurd z (by decide), fun z => absurd (show -(fEnc 3 60) = 7 by decide) z⟩
    | exact ⟨fun z => absurd z (by decide), fun _ => ⟨rfl, rfl, rfl, rfl⟩, fun z => absurd z (by decide), fun z => absurd z (by decide), fun z => absurd z (by decide), fun z => absurd z (by decide), fun z => absurd z (by decide), fun z => absurd z (by decide), fun z => absurd z (by decide), fun _ z => absurd (show -(fEnc 3 62) = 8 by decide) z⟩
    | exact ⟨fun z => absurd z (by decide), fun z => absurd z (by decide), fun _ => ⟨rfl, rfl, rfl, rfl⟩, fun z => absurd z (by decide), fun z => absurd z (by decide), fun z => absurd z (by decide), fun z => absurd z (by decide), fun z => absurd z (by decide), fun z => absurd z (by decide), fun _ _ z => absurd (show -(fEnc 3 61) = 9 by decide) z⟩
    | exact ⟨fun z => absurd z (by decide), fun z => absurd z (by decide), fun z => absurd z (by decide), fun _ => ⟨rfl, rfl, rfl, rfl⟩, fun z => absurd z (by decide), fun z => absurd z (by decide), fun z => absurd z (by decide), fun z => absurd z (by decide), fun z => absurd z (by decide), fun _ _ _ z => absurd (show -(fEnc 3 43) = 10 by decide) z⟩
    | exact ⟨fun z => absurd z (by decide), fun z => absurd z (by decide), fun z => absurd z (by decide), fun z => absurd z (by decide), fun _ => ⟨rfl, rfl, rfl, rfl⟩, fun z => absurd z (by decide), fun z => absurd z (by decide), fun z => absurd z (by decide), fun z => absurd z (by decide), fun _ _ _ _ z => absurd (show -(fEnc 3 45) = 11 by decide) z⟩
    | exact ⟨fun z => absurd z (by decide), fun z => absurd z (by decide), fun z => absurd z (by decide), fun z => absurd z (by decide), fun z => absurd z (by decide), fun _ => ⟨rfl, rfl, rfl, rfl⟩, fun z => absurd z (by decide), fun z => absurd z (by decide), fun z => absurd z (by decide), fun _ _ _ _ _ z => absurd (show -(fEnc 3 42) = 12 by decide) z⟩
    | exact ⟨fun z => absurd z (by decide), fun z => absurd z (by decide), fun z => absurd z (by decide), fun z => absurd z (by decide), fun z => absurd z (by decide), fun z => absurd z (by decide), fun _ => ⟨fun q => ⟨by subst q; rfl, rfl, rfl, rfl⟩, fun q => ⟨q, by rw [fDo, if_neg (by decide), if_neg (by decide), if_neg (by decide), if_neg (by decide), if_neg (by decide), if_pos rfl, if_neg q], rfl, rfl, rfl⟩⟩, fun z => absurd z (by decide), fun z => absurd z (by decide), fun _ _ _ _ _ _ z => absurd (show -(fEnc 3 47) = 13 by decide) z⟩
    | exact ⟨fun z => absurd z (by decide), fun z => absurd z (by decide), fun z => absurd z (by decide), fun z => absurd z (by decide), fun z => absurd z (by decide), fun z => absurd z (by decide), fun z => absurd z (by decide), fun z => absurd z (by decide), fun z => absurd z (by decide), fun _ _ _ _ _ _ _ _ _ => ⟨fun q => ⟨by subst q; rfl, rfl, rfl, rfl⟩, fun q => ⟨q, by rw [fDo, if_pos rfl, if_neg q], rfl, rfl, rfl⟩⟩⟩
theorem R_waitHere {L u : xU} (hr : xRf r) (hL : rL u L) (hf : fOk L) : xCall g (d + 2) mX12_waitHere [.ref 655] 698 u w r 698 (xIn (fVal L (u 664)) (xSm (fun b => b = 663) u) w r) := by
  obtain ⟨e6, n270, ok, dp, e7⟩ := hf
  refine CX12_waitHere ?_
  have l7 : u 655 56 = L 0 7 := hL.2.2.2.2.2.2.2.2.2.2.2.2.2
  rw [l7]
  refine ⟨fun q => ⟨?_, xSm.rf, rfl, rfl⟩, fun q => ?_⟩
  · unfold fVal
    rw [if_pos q]
  · have top : 1 ≤ fDep L (lS L) := by
      rcases e7 with e7 | e7
      · exact absurd e7.1 q
      · exact e7.2
    have ev : fVal L (u 664) = fClamp (fStk L (u 664) (u 663) (lS L) 0) := by
      unfold fVal
      rw [if_neg q, fStk_low ok (lS L) (Nat.le_refl _) 0 (by omega)]
    rw [ev]
    refine xlp (N := lS L) (Q := fun k u' => u' 663 = fStk L (u 664) (u 663) k ∧ xSm (fun b => b = 663) u u') (G := fun k u' => xEv g (d + 2) mX12_waitHere 13 [some (.ref 655), some (.int (nI (fDep L k))), some (.int (nI k))] [] 698 u' w r 698 _) ?_ ?_ ⟨rfl, xSm.rf⟩
    · intro u1 ⟨h1, h2⟩
      have hL1 := hL.kept _ h2 (by omega) (by omega) (by omega)
      have l6 : u1 655 18 = L 0 6 := hL1.2.2.2.2.2.2.2.2.2.2.2.2.1
      refine TX12_waitHere_13 hr (brT (by rw [l6, e6]; exact nI_le (Nat.le_refl _) (by omega)) ?_)
      rw [h1]
      refine ⟨fun q1 => ⟨fun q2 => ⟨?_, h2, rfl, rfl⟩, fun q2 => ⟨?_, h2, rfl, rfl⟩⟩, fun q1 => ⟨?_, h2, rfl, rfl⟩⟩
      · unfold fClamp; rw [if_pos q1, if_pos q2]
      · unfold fClamp; rw [if_pos q1, if_neg q2]
      · unfold fClamp; rw [if_neg q1]
    · intro k u1 hk ⟨h1, h2⟩ kk
      have hL1 := hL.kept _ h2 (by omega) (by omega) (by omega)
      have l6 : u1 655 18 = L 0 6 := hL1.2.2.2.2.2.2.2.2.2.2.2.2.1
      have o := ok k hk
      have dk := dp k (by omega)
      have dk1 := dp (k + 1) (by omega)
      refine TX12_waitHere_13 hr (brF (by rw [l6, e6]; exact nI_ge (by omega) (by omega)) ⟨vpn (by omega) (by omega), ?_⟩)
      have r8 : u1 660 = L 8 := hL1.2.2.2.2.2.2.2.2.1
      have r9 : u1 661 = L 9 := hL1.2.2.2.2.2.2.2.2.2.1
      rw [nc (by omega), r8, r9]
      rw [fDep] at dk1 kk
      rw [fStk] at kk
      have e664 : u1 664 = u 664 := funext fun i => h2 _ _ (by omega)
      by_cases c1 : L 8 k = 0 ∨ L 8 k = 1
      · rw [if_pos c1] at dk1
        rw [if_pos c1, if_pos c1] at kk
        refine brT c1 ⟨fun z => ?_, vpn (by omega) (by omega), TX12_waitHere_155 ?_⟩
        · rcases o with o | o | o | o
          · exact absurd o.1 z
          · obtain ⟨n, n1, n2⟩ := o.2; rw [n2]; exact vpn n1 (by omega)
          · rw [o.1] at c1; exact absurd c1 (by decide)
          · rw [o.1] at c1; exact absurd c1 (by decide)
        · rw [nI_one, nI_one, nc (by omega), e664]
          refine kk _ ⟨?_, h2.put rfl⟩
          rw [x2_row, h1]
      · rw [if_neg c1] at dk1
        rw [if_neg c1, if_neg c1] at kk
        refine brF c1 ?_
        by_cases c2 : L 8 k = 2
        · rw [if_pos c2] at dk1
          rw [if_pos c2, if_pos c2] at kk
          have d1 : 1 ≤ fDep L k := by
            rcases o with o | o | o | o
            · exact absurd (Or.inl o.1) c1
            · exact absurd (Or.inr o.1) c1
            · exact o.2
            · rw [o.1] at c2; exact absurd c2 (by decide)
          have es : nI (fDep L k) - 1 = nI (fDep L k - 1) := by
            have := nI_one (fDep L k - 1)
            rw [show fDep L k - 1 + 1 = fDep L k by omega] at this
            rw [← this, Int32.add_sub_cancel]
          refine brT c2 ?_
          rw [es, nc (by omega)]
          refine ⟨vpn (by omega) (by omega), xPr.use (R_truthb _) ⟨_, rfl, rfl, rfl, rfl, TX12_waitHere_155 ?_⟩⟩
          rw [nI_one]
          refine kk _ ⟨?_, h2.put rfl⟩
          rw [x2_row, h1]
        · rw [if_neg c2] at dk1
          rw [if_neg c2, if_neg c2] at kk
          have d2 : 2 ≤ fDep L k := by
            rcases o with o | o | o | o
            · exact absurd (Or.inl o.1) c1
            · exact absurd (Or.inr o.1) c1
            · exact absurd o.1 c2
            · exact o.2.2
          have es : nI (fDep L k) + -1 = nI (fDep L k - 1) := by
            have := nI_one (fDep L k - 1)
            rw [show fDep L k - 1 + 1 = fDep L k by omega] at this
            rw [← this, Int32.add_assoc]
            exact Int32.add_zero _
          have es2 : nI (fDep L k - 1) - 1 = nI (fDep L k - 2) := by
            have := nI_one (fDep L k - 2)
            rw [show fDep L k - 2 + 1 = fDep L k - 1 by omega] at this
            rw [← this, Int32.add_sub_cancel]
          refine brF c2 ?_
          rw [es, es2, nc (by omega), nc (by omega)]
          refine ⟨vpn (by omega) (by omega), vpn (by omega) (by omega), xPr.use (R_done _ _ _) ⟨_, rfl, rfl, rfl, rfl, TX12_waitHere_155 ?_⟩⟩
          rw [nI_one]
          refine kk _ ⟨?_, h2.put rfl⟩
          rw [x2_row, h1]
theorem K_push {u : xU} {f n : Nat} (h_f : xFm f) (q_f : xFr1 f r) (hn : n < 30) (x : Int32) : xCall g d mX1_push [.ref f, .int (nI n), .int x] 698 u w r 698 (xIn (nI (n + 1)) (fun u' => u' = x2 u (f + 2) n x) w r) := by
  refine CX1_push h_f q_f (brF (fun q => q.elim (nI_nn (by omega)) (fun z => z ((lt_nI (b := 30) (by omega) (by omega)).mpr hn))) ⟨vpn hn (by omega), ?_⟩)
  rw [nI_one, nc (by omega)]
  exact ⟨rfl, rfl, rfl, rfl⟩
theorem neg_nI {n : Nat} (hn : n < 10000) {m : Nat} (h0 : 0 < m) (hm : m < 10000) : ¬ -(nI n) = nI m := by
  intro q
  have e : nI n = -(nI m) := by rw [← q, Int32.neg_neg]
  have e2 : nI n + nI m = 0 := by rw [e, Int32.add_left_neg]
  rw [nI_add] at e2
  have := (nI_eq (a := n + m) (b := 0) (by omega) (by omega)).mp e2
  omega
def qRow (a b c e : Int32) : Nat → Int32 := fun k => if k = 0 then a else if k = 1 then b else if k = 2 then c else e
/-- the value before it is cut to 0 .. 9 -/
def fRaw (L : xU) (q : Nat → Int32) : Int32 := if L 0 7 = 0 then 0 else fStk L q (fun _ => 0) (lS L) 0
theorem fVal_raw (L : xU) (q : Nat → Int32) : fVal L q = fClamp (fRaw L q) := by
  unfold fVal fRaw
  by_cases h : L 0 7 = 0
  · rw [if_pos h, if_pos h]; rfl
  · rw [if_neg h, if_neg h]
/-- the class's formula -/
def rFm (u : xU) (f : Nat) (L : xU) : Prop := u f 2 = nI (lS L) ∧ u f 3 = L 0 5 ∧ ∀ k, k < lS L → u (f + 1) k = fEnc (L 8 k) (L 9 k)
theorem rFm.kept {u u' : xU} {f : Nat} {L : xU} (h : rFm u f L) {F : Nat → Prop} (hs : xSm F u u') (h0 : ¬ F f) (h1 : ¬ F (f + 1)) : rFm u' f L :=
  ⟨(hs _ _ h0).trans h.1, (hs _ _ h0).trans h.2.1, fun k hk => (hs _ _ h1).trans (h.2.2 k hk)⟩
theorem K_value {L u : xU} {f : Nat} (h_f : xFm f) (q_f : xFr1 f r) (hm : rFm u f L) (hf : fOk L) (a b c e : Int32) : xCall g (d + 1) mX1_value [.ref f, .int a, .int b, .int c, .int e] 698 u w r 698 (xIn (fRaw L (qRow a b c e)) (xSm (fun b => b = f + 2) u) w r) := by
  obtain ⟨e6, n270, ok, dp, e7⟩ := hf
  refine CX1_value ?_
  refine xlp (N := lS L) (Q := fun k u' => u' (f + 2) = fStk L (qRow a b c e) (u (f + 2)) k ∧ xSm (fun b => b = f + 2) u u') (G := fun k u' => xEv g (d + 1) mX1_value 6 [some (.ref f), some (.int a), some (.int b), some (.int c), some (.int e), some (.int (nI (fDep L k))), some (.int (nI k)), none] [] 698 u' w r 698 _) ?_ ?_ ⟨rfl, xSm.rf⟩
  · intro u1 ⟨h1, h2⟩
    have hm1 := hm.kept h2 (by omega) (by omega)
    refine TX1_value_6 h_f q_f (brT (by rw [hm1.1]; exact nI_le (Nat.le_refl _) (by omega)) ⟨?_, h2, rfl, rfl⟩)
    rw [h1]
    have dN := dp (lS L) (Nat.le_refl _)
    unfold fRaw
    rcases e7 with ⟨q1, q2⟩ | ⟨q1, q2⟩
    · rw [if_pos q1, q2]
      rfl
    · rw [if_neg (show ¬ nI (fDep L (lS L)) ≤ 0 by rw [show (0 : Int32) = nI 0 from rfl, le_nI (by omega) (by omega)]; omega), if_neg (show ¬ L 0 7 = 0 by rw [q1]; decide), fStk_low ok (lS L) (Nat.le_refl _) 0 (by omega)]
  · intro k u1 hk ⟨h1, h2⟩ kk
    have hm1 := hm.kept h2 (by omega) (by omega)
    have o := ok k hk
    have dk := dp k (by omega)
    have dk1 := dp (k + 1) (by omega)
    refine TX1_value_6 h_f q_f (brF (by rw [hm1.1]; exact nI_ge (by omega) (by omega)) ⟨vpn (by omega) (by omega), ?_⟩)
    rw [nc (by omega), hm1.2.2 k hk]
    rw [fDep] at dk1 kk
    rw [fStk] at kk
    have psh : (L 8 k = 0 ∨ L 8 k = 1) → ∀ x, x = (if L 8 k = 0 then L 9 k else qRow a b c e (L 9 k).toNatClampNeg) → xCall g d mX1_push [.ref f, .int (nI (fDep L k)), .int x] 698 u1 w r 698 (fun rv7 u7 w7 r7 => ∃ v7 : Int32, rv7 = some (.int v7) ∧ w = w7 ∧ r = r7 ∧ xEv g (d + 1) mX1_value 221 [some (.ref f), some (.int a), some (.int b), some (.int c), some (.int e), some (.int v7), some (.int (nI k)), none] [] 698 u7 w r 698 (xIn (fRaw L (qRow a b c e)) (xSm (fun b => b = f + 2) u) w r)) := by
      intro c1 x hx
      rw [if_pos c1] at dk1
      rw [if_pos c1, if_pos c1] at kk
      refine xIn.use (K_push h_f q_f (by omega) x) (fun u2 hu2 => ⟨_, rfl, rfl, rfl, TX1_value_221 ?_⟩)
      subst hu2
      rw [nI_one]
      refine kk _ ⟨?_, h2.put rfl⟩
      rw [x2_row, h1, hx]
    rcases o with ⟨o1, n, n1, n2⟩ | ⟨o1, n, n1, n2⟩ | ⟨o1, o2⟩ | ⟨o1, o2, o3⟩
    · have ee : fEnc (L 8 k) (L 9 k) = nI n := by rw [o1, n2]; rfl
      have eb : nI n = (if L 8 k = 0 then L 9 k else qRow a b c e (L 9 k).toNatClampNeg) := by rw [if_pos o1, n2]
      rw [ee]
      refine ⟨fun z => absurd z (neg_nI n1 (m := 24) (by omega) (by omega)), fun z => absurd z (neg_nI n1 (m := 30) (by omega) (by omega)), fun z => absurd z (neg_nI n1 (m := 31) (by omega) (by omega)), fun z => absurd z (neg_nI n1 (m := 32) (by omega) (by omega)), fun z => absurd z (neg_nI n1 (m := 33) (by omega) (by omega)), fun _ _ _ _ _ => brF (nI_nn (by omega)) (psh (Or.inl o1) _ eb)⟩
    · have hn0 : ¬ L 8 k = 0 := by rw [o1]; decide
      have c4 : n = 0 ∨ n = 1 ∨ n = 2 ∨ n = 3 := by omega
      rw [n2, nc (by omega)] at psh
      rw [o1, n2]
      rcases c4 with rfl | rfl | rfl | rfl
      · exact ⟨fun z => absurd z (by decide), fun z => absurd z (by decide), fun _ => psh (Or.inr o1) _ (by rw [if_neg hn0]; rfl), fun z => absurd z (by decide), fun z => absurd z (by decide), fun _ _ z => absurd (by decide) z⟩
      · exact ⟨fun _ => psh (Or.inr o1) _ (by rw [if_neg hn0]; rfl), fun z => absurd z (by decide), fun z => absurd z (by decide), fun z => absurd z (by decide), fun z => absurd z (by decide), fun z => absurd (by decide) z⟩
      · exact ⟨fun z => absurd z (by decide), fun z => absurd z (by decide), fun z => absurd z (by decide), fun _ => psh (Or.inr o1) _ (by rw [if_neg hn0]; rfl), fun z => absurd z (by decide), fun _ _ _ z => absurd (by decide) z⟩
      · exact ⟨fun z => absurd z (by decide), fun z => absurd z (by decide), fun z => absurd z (by decide), fun z => absurd z (by decide), fun _ => psh (Or.inr o1) _ (by rw [if_neg hn0]; rfl), fun _ _ _ _ z => absurd (by decide) z⟩
    · have c1 : ¬ (L 8 k = 0 ∨ L 8 k = 1) := by rw [o1]; decide
      rw [if_neg c1, if_pos o1, if_neg c1, if_pos o1] at kk
      have es : nI (fDep L k) - 1 = nI (fDep L k - 1) := by
        have := nI_one (fDep L k - 1)
        rw [show fDep L k - 1 + 1 = fDep L k by omega] at this
        rw [← this, Int32.add_sub_cancel]
      have ee : fEnc (L 8 k) (L 9 k) = -30 := by rw [o1]; rfl
      rw [ee]
      refine ⟨fun z => absurd z (by decide), fun _ => brF (by rw [show (0 : Int32) = nI 0 from rfl, le_nI (by omega) (by omega)]; omega) ?_, fun z => absurd z (by decide), fun z => absurd z (by decide), fun z => absurd z (by decide), fun _ z => absurd (by decide) z⟩
      rw [es, nc (by omega)]
      refine ⟨vpn (by omega) (by omega), TX1_value_221 ?_⟩
      rw [nI_one]
      refine kk _ ⟨?_, h2.put rfl⟩
      rw [x2_row, h1]
    · have c1 : ¬ (L 8 k = 0 ∨ L 8 k = 1) := by rw [o1]; decide
      have c2 : ¬ L 8 k = 2 := by rw [o1]; decide
      rw [if_neg c1, if_neg c2, if_neg c1, if_neg c2] at kk
      have es : nI (fDep L k) + -1 = nI (fDep L k - 1) := by
        have := nI_one (fDep L k - 1)
        rw [show fDep L k - 1 + 1 = fDep L k by omega] at this
        rw [← this, Int32.add_assoc]
        exact Int32.add_zero _
      have es2 : nI (fDep L k - 1) - 1 = nI (fDep L k - 2) := by
        have := nI_one (fDep L k - 2)
        rw [show fDep L k - 2 + 1 = fDep L k - 1 by omega] at this
        rw [← this, Int32.add_sub_cancel]
      have sg : ¬ -(fEnc 3 (L 9 k)) = 24 ∧ ¬ -(fEnc 3 (L 9 k)) = 30 ∧ ¬ -(fEnc 3 (L 9 k)) = 31 ∧ ¬ -(fEnc 3 (L 9 k)) = 32 ∧ ¬ -(fEnc 3 (L 9 k)) = 33 ∧ fEnc 3 (L 9 k) < 0 := by
        rcases o2 with h | h | h | h | h | h | h | h | h | h <;> rw [h] <;> decide
      rw [o1]
      refine ⟨fun z => absurd z sg.1, fun z => absurd z sg.2.1, fun z => absurd z sg.2.2.1, fun z => absurd z sg.2.2.2.1, fun z => absurd z sg.2.2.2.2.1, fun _ _ _ _ _ => brT sg.2.2.2.2.2 (brF (by rw [show (1 : Int32) = nI 1 from rfl, le_nI (by omega) (by omega)]; omega) ?_)⟩
      rw [es, es2, nc (by omega), nc (by omega)]
      refine ⟨vpn (by omega) (by omega), vpn (by omega) (by omega), xPr.use (K_join o2 _ _) ⟨_, rfl, rfl, rfl, rfl, TX1_value_221 ?_⟩⟩
      rw [nI_one]
      refine kk _ ⟨?_, h2.put rfl⟩
      rw [x2_row, h1]
end FORM
