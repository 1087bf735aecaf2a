/-! THE FORMULA, read by the reference: its small methods -/
def oat : List Nat → Nat → Nat
  | [], _ => 0
  | x :: O, k => if k = O.length then x else oat O k
def tgt (s : Nat) : Nat := if s = 124 then 1 else if s = 38 then 2 else if s = 21 then 3 else if s = 60 ∨ s = 62 ∨ s = 61 then 4 else if s = 43 ∨ s = 45 then 5 else 6
abbrev oOp (a : Nat) : Prop := oSign a ∨ a = 21
def okO : List Nat → Prop
  | [] => True
  | a :: O => (oOp a ∨ a = 20) ∧ okO O
def dp : List Nat → Nat
  | [] => 0
  | a :: O => if a = 20 ∨ a = 21 then dp O + 1 else dp O
def stO (a : Nat) : Nat × Nat := if a = 21 then (2, 0) else (3, a)
def clO (m : Nat) : List Nat → List Nat
  | [] => []
  | a :: O => if ¬ a = 20 ∧ m ≤ tgt a then clO m O else a :: O
def clS (m : Nat) : List Nat → List (Nat × Nat) → List (Nat × Nat)
  | [], S => S
  | a :: O, S => if ¬ a = 20 ∧ m ≤ tgt a then clS m O (stO a :: S) else S
def hasR : List Nat → Bool
  | [] => false
  | a :: O => if a = 20 then false else if 4 < tgt a then hasR O else decide (tgt a = 4)
def hasB (O : List Nat) : Nat → Bool
  | 0 => false
  | k + 1 => hasB O k || decide (oat O k = 20)
def mayN : List Nat → Bool
  | [] => true
  | a :: _ => decide (a = 20 ∨ tgt a < 4)
theorem oat_new (x : Nat) (O : List Nat) : oat (x :: O) O.length = x := by rw [oat, if_pos rfl]
theorem oat_old (x : Nat) (O : List Nat) {k : Nat} (h : k < O.length) : oat (x :: O) k = oat O k := by rw [oat, if_neg (by omega)]
theorem oat_app (Q : List Nat) {O : List Nat} {k : Nat} (h : k < O.length) : oat (Q ++ O) k = oat O k := by
  induction Q with
  | nil => rfl
  | cons a Q ih =>
    show oat (a :: (Q ++ O)) k = oat O k
    rw [oat_old _ _ (by rw [List.length_append]; omega)]
    exact ih
theorem tgt_le (a : Nat) : tgt a ≤ 6 := by unfold tgt; split <;> (try omega); split <;> (try omega); split <;> (try omega); split <;> (try omega); split <;> omega
theorem clS_len (m : Nat) : ∀ O S, S.length ≤ (clS m O S).length := by
  intro O
  induction O with
  | nil => intro S; exact Nat.le_refl _
  | cons a O ih =>
    intro S
    rw [clS]
    by_cases q : ¬ a = 20 ∧ m ≤ tgt a
    · rw [if_pos q]
      have := ih (stO a :: S)
      rw [List.length_cons] at this
      omega
    · rw [if_neg q]; exact Nat.le_refl _
/-- how the reference keeps the steps and what stands open -/
def rS (S : List (Nat × Nat)) (u : xU) : Prop := u 655 17 = nI S.length ∧ ∀ k, k < S.length → u 658 k = nI (stp S k).1 ∧ u 659 k = nI (stp S k).2
def rAo (O : List Nat) (u : xU) : Prop := ∀ k, k < O.length → u 662 k = nI (oat O k)
def rO (O : List Nat) (u : xU) : Prop := u 655 19 = nI O.length ∧ u 655 23 = nI (dp O) ∧ rAo O u ∧ okO O ∧ O.length ≤ 159 ∧ dp O ≤ 1000
abbrev fAs : Nat → Nat → Prop := fun b i => b = 658 ∨ b = 659 ∨ (b = 655 ∧ i = 17)
abbrev fOp : Nat → Nat → Prop := fun b i => b = 662 ∨ (b = 655 ∧ (i = 19 ∨ i = 23))
theorem rS.kept {S : List (Nat × Nat)} {u u' : xU} (h : rS S u) {F : Nat → Nat → Prop} (f : xSn F u u') (h1 : ∀ b i, fAs b i → ¬ F b i) : rS S u' := by
  refine ⟨(f _ _ (h1 _ _ (by omega))).trans h.1, fun k hk => ?_⟩
  rw [f 658 k (h1 _ _ (by omega)), f 659 k (h1 _ _ (by omega))]
  exact h.2 k hk
theorem rO.kept {O : List Nat} {u u' : xU} (h : rO O u) {F : Nat → Nat → Prop} (f : xSn F u u') (h1 : ∀ b i, fOp b i → ¬ F b i) : rO O u' := by
  obtain ⟨a1, a2, a3, a4, a5⟩ := h
  exact ⟨(f _ _ (h1 _ _ (by omega))).trans a1, (f _ _ (h1 _ _ (by omega))).trans a2, fun k hk => (f _ _ (h1 _ _ (by omega))).trans (a3 k hk), a4, a5⟩
theorem rAo.old {a : Nat} {O : List Nat} {u : xU} (h : rAo (a :: O) u) : rAo O u := fun k hk => by
  rw [h k (by rw [List.length_cons]; omega), oat_old _ _ hk]
theorem rAo.top {a : Nat} {O : List Nat} {u : xU} (h : rAo (a :: O) u) : u 662 O.length = nI a := by
  rw [h _ (by rw [List.length_cons]; omega), oat_new]
theorem oOp_lt {a : Nat} (h : oOp a) : a < 200 := by omega
section FREF
variable {g : xGT} {d : Nat} {w : xW} {r : xQ} {N : Nat} {T : Nat → Int32} {c : pC}
theorem R_tight {u : xU} {a : Nat} (h : oOp a) : xCall g d mX12_tight [.int (nI a)] 698 u w r 698 (xPr (nI (tgt a)) u w r) := by
  rcases h with (h | h | h | h | h | h | h | h | h | h) | h <;> subst h
  · exact xCall.of plX12 (Nat.le_of_ble_eq_true rfl) rfl (xe_iload_n dX12_tight_0 rfl (xe_lookup (off := 75) (tgt := 76) dX12_tight_1 (by decide +kernel) (by decide +kernel) (by decide) (xe_iconst (v := 1) dX12_tight_76 rfl (xe_ireturn dX12_tight_77 rfl ⟨rfl, rfl, rfl, rfl⟩))))
  · exact xCall.of plX12 (Nat.le_of_ble_eq_true rfl) rfl (xe_iload_n dX12_tight_0 rfl (xe_lookup (off := 77) (tgt := 78) dX12_tight_1 (by decide +kernel) (by decide +kernel) (by decide) (xe_iconst (v := 2) dX12_tight_78 rfl (xe_ireturn dX12_tight_79 rfl ⟨rfl, rfl, rfl, rfl⟩))))
  · exact xCall.of plX12 (Nat.le_of_ble_eq_true rfl) rfl (xe_iload_n dX12_tight_0 rfl (xe_lookup (off := 81) (tgt := 82) dX12_tight_1 (by decide +kernel) (by decide +kernel) (by decide) (xe_iconst (v := 4) dX12_tight_82 rfl (xe_ireturn dX12_tight_83 rfl ⟨rfl, rfl, rfl, rfl⟩))))
  · exact xCall.of plX12 (Nat.le_of_ble_eq_true rfl) rfl (xe_iload_n dX12_tight_0 rfl (xe_lookup (off := 81) (tgt := 82) dX12_tight_1 (by decide +kernel) (by decide +kernel) (by decide) (xe_iconst (v := 4) dX12_tight_82 rfl (xe_ireturn dX12_tight_83 rfl ⟨rfl, rfl, rfl, rfl⟩))))
  · exact xCall.of plX12 (Nat.le_of_ble_eq_true rfl) rfl (xe_iload_n dX12_tight_0 rfl (xe_lookup (off := 81) (tgt := 82) dX12_tight_1 (by decide +kernel) (by decide +kernel) (by decide) (xe_iconst (v := 4) dX12_tight_82 rfl (xe_ireturn dX12_tight_83 rfl ⟨rfl, rfl, rfl, rfl⟩))))
  · exact xCall.of plX12 (Nat.le_of_ble_eq_true rfl) rfl (xe_iload_n dX12_tight_0 rfl (xe_lookup (off := 83) (tgt := 84) dX12_tight_1 (by decide +kernel) (by decide +kernel) (by decide) (xe_iconst (v := 5) dX12_tight_84 rfl (xe_ireturn dX12_tight_85 rfl ⟨rfl, rfl, rfl, rfl⟩))))
  · exact xCall.of plX12 (Nat.le_of_ble_eq_true rfl) rfl (xe_iload_n dX12_tight_0 rfl (xe_lookup (off := 83) (tgt := 84) dX12_tight_1 (by decide +kernel) (by decide +kernel) (by decide) (xe_iconst (v := 5) dX12_tight_84 rfl (xe_ireturn dX12_tight_85 rfl ⟨rfl, rfl, rfl, rfl⟩))))
  · exact xCall.of plX12 (Nat.le_of_ble_eq_true rfl) rfl (xe_iload_n dX12_tight_0 rfl (xe_lookup (off := 85) (tgt := 86) dX12_tight_1 (by decide +kernel) (by decide +kernel) (by decide) (xe_bipush (v := 6) dX12_tight_86 rfl (xe_ireturn dX12_tight_88 rfl ⟨rfl, rfl, rfl, rfl⟩))))
  · exact xCall.of plX12 (Nat.le_of_ble_eq_true rfl) rfl (xe_iload_n dX12_tight_0 rfl (xe_lookup (off := 85) (tgt := 86) dX12_tight_1 (by decide +kernel) (by decide +kernel) (by decide) (xe_bipush (v := 6) dX12_tight_86 rfl (xe_ireturn dX12_tight_88 rfl ⟨rfl, rfl, rfl, rfl⟩))))
  · exact xCall.of plX12 (Nat.le_of_ble_eq_true rfl) rfl (xe_iload_n dX12_tight_0 rfl (xe_lookup (off := 85) (tgt := 86) dX12_tight_1 (by decide +kernel) (by decide +kernel) (by decide) (xe_bipush (v := 6) dX12_tight_86 rfl (xe_ireturn dX12_tight_88 rfl ⟨rfl, rfl, rfl, rfl⟩))))
  · exact xCall.of plX12 (Nat.le_of_ble_eq_true rfl) rfl (xe_iload_n dX12_tight_0 rfl (xe_lookup (off := 79) (tgt := 80) dX12_tight_1 (by decide +kernel) (by decide +kernel) (by decide) (xe_iconst (v := 3) dX12_tight_80 rfl (xe_ireturn dX12_tight_81 rfl ⟨rfl, rfl, rfl, rfl⟩))))
theorem R_add {u : xU} {S : List (Nat × Nat)} {P : xPost} {x y : Nat} (hr : xRf r) (hS : rS S u) (hn : S.length < 320) (kk : ∀ u', rS ((x, y) :: S) u' → xSn fAs u u' → P none u' w r) : xCall g d mX12_add [.ref 655, .int (nI x), .int (nI y)] 698 u w r 698 P := by
  refine CX12_add hr ?_
  rw [hS.1, nc (by omega), nI_one]
  refine ⟨vpn hn (by omega), kk _ ⟨x2_same _ _ _ _, fun k hk => ⟨?_, ?_⟩⟩ ((((xSn.rf (F := fAs)).put (by omega)).put (by omega)).put (by omega))⟩
  · rw [x2_a _ _ (by omega), x2_a _ _ (by omega)]
    by_cases q : k = S.length
    · rw [q, stp_new, x2_same]
    · rw [List.length_cons] at hk
      rw [stp_old _ _ (by omega), x2_i _ _ q]
      exact (hS.2 k (by omega)).1
  · rw [x2_a _ _ (by omega)]
    by_cases q : k = S.length
    · rw [q, stp_new, x2_same]
    · rw [List.length_cons] at hk
      rw [stp_old _ _ (by omega), x2_i _ _ q, x2_a _ _ (by omega)]
      exact (hS.2 k (by omega)).2
theorem R_closeTo_0 {P : xPost} {m : Nat} {c : pC} {U : Nat} {r : xQ} {w : xW} (hr : xRf r) (hm : m ≤ 100) : ∀ O S u, rO O u → rS S u → (clS m O S).length ≤ 300 →
    (∀ u', rO (clO m O) u' → rS (clS m O S) u' → xSn (fun b i => fAs b i ∨ (b = 655 ∧ (i = 19 ∨ i = 23))) u u' → P none u' w r) → xEv g (d + 1) mX12_closeTo 0 [some (.ref 655), some (.int (nI m))] [] 698 u w r 698 P := by
  intro O
  induction O with
  | nil =>
    intro S u hO hS hl kk
    have e0 : u 655 19 = nI 0 := hO.1
    have e1 : u 655 19 ≤ 0 := by rw [e0]; exact nI_le (a := 0) (b := 0) (by omega) (by omega)
    exact TX12_closeTo_0 hr ⟨fun z => absurd e1 z, brF (fun z => z.1 e1) (kk u hO hS xSn.rf)⟩
  | cons a O ih =>
    intro S u hO hS hl kk
    obtain ⟨a1, a2, a3, a4, a5, a6⟩ := hO
    rw [List.length_cons] at a1 a5
    have e1 : ¬ (u 655 19 ≤ 0) := by rw [a1]; exact nI_ge (a := 0) (by omega) (by omega)
    have e2 : u 655 19 - 1 = nI O.length := by rw [a1, nI_sub1 (by omega)]; rfl
    have et := a3.top
    refine TX12_closeTo_0 hr ?_
    rw [e2, nc (by omega), et]
    have vp : vp_in (nI O.length) 160 := vpn (by omega) (by omega)
    refine ⟨fun _ => vp, ?_⟩
    rw [clO, clS] at kk
    rw [clS] at hl
    have a200 : a < 200 := by have := a4.1; omega
    have e20 : nI a = (20 : Int32) ↔ a = 20 := eq_nI (b := 20) (by omega) (by omega)
    have e21 : nI a = (21 : Int32) ↔ a = 21 := eq_nI (b := 21) (by omega) (by omega)
    by_cases q : a = 20
    · rw [if_neg (fun z => z.1 q), if_neg (fun z => z.1 q)] at kk
      exact brF (fun z => z.2 (e20.2 q)) (kk u ⟨a1, a2, a3, a4, a5, a6⟩ hS xSn.rf)
    · have op : oOp a := by have := a4.1; omega
      refine brT ⟨e1, fun z => q (e20.1 z)⟩ ⟨vp, xPr.use (R_tight op) ⟨_, rfl, rfl, rfl, rfl, ?_⟩⟩
      have t6 := tgt_le a
      rw [lt_nI (by omega) (by omega)]
      by_cases q2 : tgt a < m
      · rw [if_neg (fun z => by omega), if_neg (fun z => by omega)] at kk
        exact brT q2 (kk u ⟨a1, a2, a3, a4, a5, a6⟩ hS xSn.rf)
      · have cond : ¬ a = 20 ∧ m ≤ tgt a := ⟨q, by omega⟩
        rw [if_pos cond, if_pos cond] at kk
        rw [if_pos cond] at hl
        have l1 := clS_len m O (stO a :: S)
        rw [List.length_cons] at l1
        refine brF q2 ?_
        have f1 : xSn (fun b i => b = 655 ∧ i = 19) u (x2 u 655 19 (nI O.length)) := (xSn.rf).put ⟨rfl, rfl⟩
        have hS1 : rS S (x2 u 655 19 (nI O.length)) := hS.kept f1 (fun b i z => by omega)
        have e19 : (x2 u 655 19 (nI O.length)) 655 19 = nI O.length := x2_same _ _ _ _
        generalize x2 u 655 19 (nI O.length) = u1 at f1 hS1 e19
        by_cases q3 : a = 21
        · have es : stO a = (2, 0) := if_pos q3
          rw [es] at kk hl l1
          have ed : dp (a :: O) = dp O + 1 := if_pos (Or.inr q3)
          refine brT (e21.2 q3) (R_add (x := 2) (y := 0) hr hS1 (by omega) (fun u2 b1 b2 => ⟨rfl, rfl, rfl, ?_⟩))
          have e23 : u2 655 23 - 1 = nI (dp O) := by
            rw [b2 _ _ (by omega), f1 _ _ (by omega), a2, ed, nI_sub1 (by omega)]; rfl
          rw [e23]
          have f3 : xSn (fun b i => b = 655 ∧ i = 23) u2 (x2 u2 655 23 (nI (dp O))) := (xSn.rf).put ⟨rfl, rfl⟩
          have fA : xSn (fun b i => fAs b i ∨ (b = 655 ∧ (i = 19 ∨ i = 23))) u (x2 u2 655 23 (nI (dp O))) := ((f1.to (fun _ _ z => by omega)).tr (b2.to (fun _ _ z => Or.inl z))).tr (f3.to (fun _ _ z => by omega))
          refine ih _ _ ⟨?_, x2_same _ _ _ _, fun k hk => ?_, a4.2, by omega, by omega⟩ (b1.kept f3 (fun b i z => by omega)) hl (fun u' y1 y2 y3 => kk u' y1 y2 (fA.tr y3))
          · rw [x2_i _ _ (by omega), b2 _ _ (by omega)]; exact e19
          · rw [fA _ _ (by omega)]; exact a3.old k hk
        · have es : stO a = (3, a) := if_neg q3
          rw [es] at kk hl l1
          have ed : dp (a :: O) = dp O := if_neg (by omega)
          refine brF (fun z => q3 (e21.1 z)) (R_add (x := 3) (y := a) hr hS1 (by omega) (fun u2 b1 b2 => ⟨rfl, rfl, rfl, ?_⟩))
          have fA : xSn (fun b i => fAs b i ∨ (b = 655 ∧ (i = 19 ∨ i = 23))) u u2 := (f1.to (fun _ _ z => by omega)).tr (b2.to (fun _ _ z => Or.inl z))
          refine ih _ _ ⟨?_, ?_, fun k hk => ?_, a4.2, by omega, by omega⟩ b1 hl (fun u' y1 y2 y3 => kk u' y1 y2 (fA.tr y3))
          · rw [b2 _ _ (by omega)]; exact e19
          · rw [b2 _ _ (by omega), f1 _ _ (by omega), a2, ed]
          · rw [fA _ _ (by omega)]; exact a3.old k hk
theorem R_closeTo {P : xPost} {m : Nat} {u : xU} {O : List Nat} {S : List (Nat × Nat)} (hr : xRf r) (hm : m ≤ 100) (hO : rO O u) (hS : rS S u) (hl : (clS m O S).length ≤ 300)
    (kk : ∀ u', rO (clO m O) u' → rS (clS m O S) u' → xSn (fun b i => fAs b i ∨ (b = 655 ∧ (i = 19 ∨ i = 23))) u u' → P none u' w r) : xCall g (d + 1) mX12_closeTo [.ref 655, .int (nI m)] 698 u w r 698 P :=
  xCall.of plX12 (Nat.le_of_ble_eq_true rfl) rfl (R_closeTo_0 (c := (0, 0, 0)) (U := 0) hr hm O S u hO hS hl kk)
def bI (x : Bool) : Int32 := if x = true then 1 else 0
theorem R_hasRelation_41 {u : xU} (hr : xRf r) {O : List Nat} (hA : rAo O u) (hk : okO O) (hl : O.length ≤ 159) (hx : hasR O = match O with | [] => false | a :: _ => if a = 20 then false else decide (tgt a = 4)) : xEv g (d + 1) mX12_hasRelation 41 [some (.ref 655), some (.int (nI O.length - 1))] [] 698 u w r 698 (xPr (bI (hasR O)) u w r) := by
  rw [hx]
  cases O with
  | nil =>
    have e : nI ([] : List Nat).length - 1 = (-1 : Int32) := by decide
    rw [e]
    exact TX12_hasRelation_41 hr ⟨fun z => absurd m1_neg z, brF (fun z => z.1 m1_neg) ⟨rfl, rfl, rfl, rfl⟩⟩
  | cons a O =>
    rw [List.length_cons] at hl
    have e : nI (a :: O).length - 1 = nI O.length := by rw [List.length_cons, nI_sub1 (by omega)]; rfl
    rw [e]
    refine TX12_hasRelation_41 hr ?_
    rw [nc (by omega), hA.top]
    have vp : vp_in (nI O.length) 160 := vpn (by omega) (by omega)
    refine ⟨fun _ => vp, ?_⟩
    have a200 : a < 200 := by have := hk.1; omega
    have e20 : nI a = (20 : Int32) ↔ a = 20 := eq_nI (b := 20) (by omega) (by omega)
    by_cases q : a = 20
    · exact brF (fun z => z.2 (e20.2 q)) ⟨by show _ = some (Value.int (bI (if a = 20 then false else decide (tgt a = 4)))); rw [if_pos q]; rfl, rfl, rfl, rfl⟩
    · have op : oOp a := by have := hk.1; omega
      have t6 := tgt_le a
      refine brT ⟨nI_nn (by omega), fun z => q (e20.1 z)⟩ ⟨vp, xPr.use (R_tight op) ⟨_, rfl, rfl, rfl, rfl, ?_⟩⟩
      have e4 : nI (tgt a) = (4 : Int32) ↔ tgt a = 4 := eq_nI (b := 4) (by omega) (by omega)
      rw [e4]
      by_cases q2 : tgt a = 4
      · exact brT q2 ⟨by show _ = some (Value.int (bI (if a = 20 then false else decide (tgt a = 4)))); rw [if_neg q, decide_eq_true q2]; rfl, rfl, rfl, rfl⟩
      · exact brF q2 ⟨by show _ = some (Value.int (bI (if a = 20 then false else decide (tgt a = 4)))); rw [if_neg q, decide_eq_false q2]; rfl, rfl, rfl, rfl⟩
theorem R_hasRelation_7 {u : xU} (hr : xRf r) : ∀ O : List Nat, rAo O u → okO O → O.length ≤ 159 → xEv g (d + 1) mX12_hasRelation 7 [some (.ref 655), some (.int (nI O.length - 1))] [] 698 u w r 698 (xPr (bI (hasR O)) u w r) := by
  intro O
  induction O with
  | nil =>
    intro hA hk hl
    have go := R_hasRelation_41 (g := g) (d := d) (w := w) hr hA hk hl rfl
    have e : nI ([] : List Nat).length - 1 = (-1 : Int32) := by decide
    rw [e] at go ⊢
    exact TX12_hasRelation_7 hr ⟨fun z => absurd m1_neg z, brF (fun z => z.1 m1_neg) go⟩
  | cons a O ih =>
    intro hA hk hl
    have hl' := hl
    rw [List.length_cons] at hl'
    have e : nI (a :: O).length - 1 = nI O.length := by rw [List.length_cons, nI_sub1 (by omega)]; rfl
    have a200 : a < 200 := by have := hk.1; omega
    have e20 : nI a = (20 : Int32) ↔ a = 20 := eq_nI (b := 20) (by omega) (by omega)
    have vp : vp_in (nI O.length) 160 := vpn (by omega) (by omega)
    by_cases q : a = 20
    · have go := R_hasRelation_41 (g := g) (d := d) (w := w) hr hA hk hl (by show (if a = 20 then false else _) = (if a = 20 then false else _); rw [if_pos q, if_pos q])
      rw [e] at go ⊢
      refine TX12_hasRelation_7 hr ?_
      rw [nc (by omega), hA.top]
      exact ⟨fun _ => vp, brF (fun z => z.2 (e20.2 q)) go⟩
    · have op : oOp a := by have := hk.1; omega
      have t6 := tgt_le a
      have e4 : nI (tgt a) ≤ (4 : Int32) ↔ tgt a ≤ 4 := le_nI (b := 4) (by omega) (by omega)
      by_cases q2 : tgt a ≤ 4
      · have go := R_hasRelation_41 (g := g) (d := d) (w := w) hr hA hk hl (by show (if a = 20 then false else if 4 < tgt a then hasR O else decide (tgt a = 4)) = (if a = 20 then false else decide (tgt a = 4)); rw [if_neg q, if_neg q, if_neg (by omega)])
        rw [e] at go ⊢
        refine TX12_hasRelation_7 hr ?_
        rw [nc (by omega), hA.top]
        refine ⟨fun _ => vp, brT ⟨nI_nn (by omega), fun z => q (e20.1 z)⟩ ⟨vp, xPr.use (R_tight op) ⟨_, rfl, rfl, rfl, rfl, ?_⟩⟩⟩
        rw [e4]
        exact brT q2 go
      · have go := ih hA.old hk.2 (by omega)
        have eh : hasR (a :: O) = hasR O := by
          show (if a = 20 then false else if 4 < tgt a then hasR O else decide (tgt a = 4)) = hasR O
          rw [if_neg q, if_pos (by omega)]
        rw [e, eh]
        refine TX12_hasRelation_7 hr ?_
        rw [nc (by omega), hA.top]
        refine ⟨fun _ => vp, brT ⟨nI_nn (by omega), fun z => q (e20.1 z)⟩ ⟨vp, xPr.use (R_tight op) ⟨_, rfl, rfl, rfl, rfl, ?_⟩⟩⟩
        rw [e4]
        refine brF q2 ?_
        have em : nI O.length + (-1 : Int32) = nI O.length - 1 := (Int32.sub_eq_add_neg _ _).symm
        rw [em]
        exact go
theorem R_hasRelation {u : xU} {O : List Nat} (hr : xRf r) (hO : rO O u) : xCall g (d + 1) mX12_hasRelation [.ref 655] 698 u w r 698 (xPr (bI (hasR O)) u w r) := by
  refine CX12_hasRelation ?_
  rw [hO.1]
  exact R_hasRelation_7 hr O hO.2.2.1 hO.2.2.2.1 hO.2.2.2.2.1
theorem R_hasBracket {u : xU} {O : List Nat} (hr : xRf r) (hO : rO O u) : xCall g d mX12_hasBracket [.ref 655] 698 u w r 698 (xPr (bI (hasB O O.length)) u w r) := by
  obtain ⟨a1, a2, a3, a4, a5, a6⟩ := hO
  have lt : ∀ O : List Nat, okO O → ∀ k, oat O k < 200 := fun O => by
    induction O with
    | nil => intro _ k; show 0 < 200; omega
    | cons a O ih =>
      intro h k
      rw [oat]
      split
      · have := h.1; omega
      · exact ih h.2 k
  refine CX12_hasBracket ?_
  refine xlq (N := O.length) (G := fun k => xEv g d mX12_hasBracket 4 [some (.ref 655), some (.int (bI (hasB O k))), some (.int (nI k))] [] 698 u w r 698 _) ?_ ?_
  · refine TX12_hasBracket_4 hr (brT (by rw [a1]; exact nI_le (Nat.le_refl _) (by omega)) ⟨?_, rfl, rfl, rfl, rfl⟩)
    cases hasB O O.length
    · exact Or.inl rfl
    · exact Or.inr rfl
  · intro k hk kk
    refine TX12_hasBracket_4 hr (brF (by rw [a1]; exact nI_ge (by omega) (by omega)) ⟨fun _ => vpn (by omega) (by omega), ?_⟩)
    rw [nc (by omega), a3 k hk, nI_one]
    have l2 := lt O a4 k
    have e20 : nI (oat O k) = (20 : Int32) ↔ oat O k = 20 := eq_nI (b := 20) (by omega) (by omega)
    have e : xb (¬ (bI (hasB O k) = 0) ∨ nI (oat O k) = (20 : Int32)) = bI (hasB O (k + 1)) := by
      rw [hasB]
      cases hasB O k
      · by_cases q : oat O k = 20
        · rw [xb_pos (Or.inr (e20.2 q)), decide_eq_true q]; rfl
        · rw [xb_neg (fun z => by
            rcases z with z | z
            · exact z rfl
            · exact q (e20.1 z)), decide_eq_false q]; rfl
      · rw [xb_pos (Or.inl (by decide)), Bool.true_or]; rfl
    rw [e]
    exact kk
theorem R_mayNot {u : xU} {O : List Nat} (hr : xRf r) (hO : rO O u) : xCall g (d + 1) mX12_mayNot [.ref 655] 698 u w r 698 (xPr (bI (mayN O)) u w r) := by
  obtain ⟨a1, a2, a3, a4, a5, a6⟩ := hO
  refine CX12_mayNot hr ?_
  cases O with
  | nil =>
    have e0 : u 655 19 = 0 := a1
    exact ⟨fun z => absurd e0 z, brF (fun z => z.1 e0) (TX12_mayNot_41 ⟨rfl, rfl, rfl, rfl⟩)⟩
  | cons a O =>
    rw [List.length_cons] at a1 a5
    have e1 : ¬ (u 655 19 = 0) := by
      rw [a1]
      intro z
      have := (eq_nI (b := 0) (show O.length + 1 < 2147483648 by omega) (by omega)).1 z
      omega
    have e2 : u 655 19 - 1 = nI O.length := by rw [a1, nI_sub1 (by omega)]; rfl
    rw [e2, nc (by omega), a3.top]
    have vp : vp_in (nI O.length) 160 := vpn (by omega) (by omega)
    refine ⟨fun _ => vp, ?_⟩
    have a200 : a < 200 := by have := a4.1; omega
    have e20 : nI a = (20 : Int32) ↔ a = 20 := eq_nI (b := 20) (by omega) (by omega)
    have em : mayN (a :: O) = decide (a = 20 ∨ tgt a < 4) := rfl
    rw [em]
    by_cases q : a = 20
    · rw [decide_eq_true (Or.inl q)]
      exact brF (fun z => z.2 (e20.2 q)) (TX12_mayNot_41 ⟨rfl, rfl, rfl, rfl⟩)
    · have op : oOp a := by have := a4.1; omega
      have t6 := tgt_le a
      refine brT ⟨e1, fun z => q (e20.1 z)⟩ ⟨vp, xPr.use (R_tight op) ⟨_, rfl, rfl, rfl, rfl, ?_⟩⟩
      have e4 : (4 : Int32) ≤ nI (tgt a) ↔ 4 ≤ tgt a := le_nI (a := 4) (by omega) (by omega)
      rw [e4]
      by_cases q2 : 4 ≤ tgt a
      · rw [decide_eq_false (by omega)]
        exact brT q2 ⟨rfl, rfl, rfl, rfl⟩
      · rw [decide_eq_true (by omega)]
        exact brF q2 (TX12_mayNot_41 ⟨rfl, rfl, rfl, rfl⟩)
def aSk (k : Nat) : Int32 := if k = 31 then 0 else if k = 24 then 1 else if k = 32 then 2 else if k = 33 then 3 else -1
theorem R_asked {u : xU} (h : rP N T c u w) (ok : tpOk N T) : xCall g d mX12_asked [.ref 655] 698 u w r 698 (xPr (aSk (kK N T c.1)) u w r) := by
  have s1 := srt_small (kK N T c.1)
  have e1 : nI (srt (kK N T c.1)) = (1 : Int32) ↔ srt (kK N T c.1) = 1 := eq_nI (b := 1) (by omega) (by omega)
  have e6 : u 655 6 = nI (srt (kK N T c.1)) := h.2.1.2.1
  refine CX12_asked ?_
  rw [e6, e1]
  unfold aSk
  by_cases q : srt (kK N T c.1) = 1
  · have wi : ∀ i, i < 19 → (lg_cmp (w 655 9) (lN (wd i)) = 0 ↔ kK N T c.1 = 15 + i) := fun i hi => by
      rw [← h.word ok hi, e6, e1]
      exact ⟨fun z => ⟨q, z⟩, fun z => z.2⟩
    have w16 : lg_cmp (w 655 9) (6578553 : Int64) = 0 ↔ kK N T c.1 = 31 := wi 16 (by omega)
    have w9 : lg_cmp (w 655 9) (448545973363 : Int64) = 0 ↔ kK N T c.1 = 24 := wi 9 (by omega)
    have w17 : lg_cmp (w 655 9) (2002876787 : Int64) = 0 ↔ kK N T c.1 = 32 := wi 17 (by omega)
    have w18 : lg_cmp (w 655 9) (1919251316 : Int64) = 0 ↔ kK N T c.1 = 33 := wi 18 (by omega)
    refine brT q ?_
    by_cases q1 : kK N T c.1 = 31
    · exact brT (w16.2 q1) ⟨by rw [if_pos q1], rfl, rfl, rfl⟩
    · rw [if_neg q1]
      refine brF (fun z => q1 (w16.1 z)) ?_
      by_cases q2 : kK N T c.1 = 24
      · exact brT (w9.2 q2) ⟨by rw [if_pos q2], rfl, rfl, rfl⟩
      · rw [if_neg q2]
        refine brF (fun z => q2 (w9.1 z)) ?_
        by_cases q3 : kK N T c.1 = 32
        · exact brT (w17.2 q3) ⟨by rw [if_pos q3], rfl, rfl, rfl⟩
        · rw [if_neg q3]
          refine brF (fun z => q3 (w17.1 z)) ⟨?_, rfl, rfl, rfl⟩
          by_cases q4 : kK N T c.1 = 33
          · rw [if_pos q4, if_pos (w18.2 q4)]
          · rw [if_neg q4, if_neg (fun z => q4 (w18.1 z))]
  · refine brF q ⟨?_, rfl, rfl, rfl⟩
    have q2 : ¬ (kK N T c.1 = 2 ∨ 15 ≤ kK N T c.1) := fun z => q (srt_one.2 z)
    rw [if_neg (by omega), if_neg (by omega), if_neg (by omega), if_neg (by omega)]
def sgO (k : Nat) : Nat := if k = 29 then 38 else if k = 28 then 124 else if 7 ≤ k ∧ k ≤ 14 then srt k else 0
theorem R_sign {u : xU} (h : rP N T c u w) (ok : tpOk N T) : xCall g (d + 1) mX12_sign [.ref 655] 698 u w r 698 (xPr (nI (sgO (kK N T c.1))) u w r) := by
  have k33 := kK_small ok c.1
  have e6 : u 655 6 = nI (srt (kK N T c.1)) := h.2.1.2.1
  refine CX12_sign (xPr.use (R_isWord (i := 14) h ok (by omega)) ⟨_, rfl, rfl, rfl, rfl, ?_⟩)
  unfold sgO
  by_cases q1 : kK N T c.1 = 29
  · rw [if_pos q1]
    exact brF (by rw [xb_pos q1]; decide) ⟨rfl, rfl, rfl, rfl⟩
  · rw [if_neg q1]
    refine brT (xb_neg q1) (xPr.use (R_isWord (i := 13) h ok (by omega)) ⟨_, rfl, rfl, rfl, rfl, ?_⟩)
    by_cases q2 : kK N T c.1 = 28
    · rw [if_pos q2]
      exact brF (by rw [xb_pos q2]; decide) ⟨rfl, rfl, rfl, rfl⟩
    · rw [if_neg q2, e6]
      refine brT (xb_neg q2) ⟨?_, rfl, rfl, rfl⟩
      have key : ∀ k, k < 34 → (if (nI (srt k) = (60 : Int32) ∨ (nI (srt k) = (62 : Int32) ∨ (nI (srt k) = (61 : Int32) ∨ (nI (srt k) = (43 : Int32) ∨ (nI (srt k) = (45 : Int32) ∨ (nI (srt k) = (42 : Int32) ∨ (nI (srt k) = (47 : Int32) ∨ nI (srt k) = (37 : Int32)))))))) then nI (srt k) else (0 : Int32)) = nI (if 7 ≤ k ∧ k ≤ 14 then srt k else 0) := by decide +kernel
      rw [key _ (by omega)]
end FREF
