/-! THE FORMULA: what stands open with the reference is what the class's levels still will add -/
def clA : List Nat → List (Nat × Nat) → List (Nat × Nat)
  | [], S => S
  | a :: Q, S => clA Q (stO a :: S)
def pq (m : Nat) : List Nat → Prop
  | [] => True
  | a :: Q => (oOp a ∧ m ≤ tgt a) ∧ pq m Q
def en (m : Nat) : List Nat → Prop
  | [] => True
  | a :: O => a = 20 ∨ (tgt a < m ∧ en m O)
def tt (lv : Nat) : Nat := if lv < 2 then lv + 1 else lv + 2
def tl (lv : Nat) : Nat := if lv ≤ 2 then lv + 1 else lv + 2
def NX (lv : Nat) (Q : List Nat) (k : Nat) : Prop := (lv = 0 → ¬ k = 28) ∧ (lv ≤ 1 → ¬ k = 29) ∧ (lv ≤ 2 → (k = 7 ∨ k = 8 ∨ k = 9) → hasR Q = true) ∧ (lv ≤ 3 → ¬ k = 10 ∧ ¬ k = 11) ∧ (lv ≤ 4 → ¬ k = 12 ∧ ¬ k = 13 ∧ ¬ k = 14)
theorem pq.less {m m' : Nat} (h : m' ≤ m) : ∀ Q, pq m Q → pq m' Q := by
  intro Q
  induction Q with
  | nil => intro _; trivial
  | cons a Q ih => intro hq; exact ⟨⟨hq.1.1, by have := hq.1.2; omega⟩, ih hq.2⟩
theorem pq.app {m a : Nat} (ha : oOp a ∧ m ≤ tgt a) : ∀ Q, pq m Q → pq m (Q ++ [a]) := by
  intro Q
  induction Q with
  | nil => intro _; exact ⟨ha, trivial⟩
  | cons b Q ih => intro hq; exact ⟨hq.1, ih hq.2⟩
theorem en.more {m m' : Nat} (h : m ≤ m') : ∀ O, en m O → en m' O := by
  intro O
  induction O with
  | nil => intro _; trivial
  | cons a O ih =>
    intro he
    rcases he with he | ⟨h1, h2⟩
    · exact Or.inl he
    · exact Or.inr ⟨by omega, ih h2⟩
theorem clA_app (a : Nat) : ∀ Q S, clA (Q ++ [a]) S = stO a :: clA Q S := by
  intro Q
  induction Q with
  | nil => intro S; rfl
  | cons b Q ih => intro S; exact ih _
theorem oOp_ne {a : Nat} (h : oOp a) : ¬ a = 20 := by omega
theorem clO_en {m : Nat} : ∀ O, en m O → clO m O = O := by
  intro O
  cases O with
  | nil => intro _; rfl
  | cons a O =>
    intro he
    rw [clO]
    rcases he with he | ⟨h1, h2⟩
    · rw [if_neg (fun z => z.1 he)]
    · rw [if_neg (fun z => by have := z.2; omega)]
theorem clS_en {m : Nat} (S : List (Nat × Nat)) : ∀ O, en m O → clS m O S = S := by
  intro O
  cases O with
  | nil => intro _; rfl
  | cons a O =>
    intro he
    rw [clS]
    rcases he with he | ⟨h1, h2⟩
    · rw [if_neg (fun z => z.1 he)]
    · rw [if_neg (fun z => by have := z.2; omega)]
theorem clO_pq {m : Nat} {O : List Nat} : ∀ Q, pq m Q → clO m (Q ++ O) = clO m O := by
  intro Q
  induction Q with
  | nil => intro _; rfl
  | cons a Q ih =>
    intro hq
    show clO m (a :: (Q ++ O)) = clO m O
    rw [clO, if_pos ⟨oOp_ne hq.1.1, hq.1.2⟩]
    exact ih hq.2
theorem clS_pq {m : Nat} {O : List Nat} : ∀ Q S, pq m Q → clS m (Q ++ O) S = clS m O (clA Q S) := by
  intro Q
  induction Q with
  | nil => intro S _; rfl
  | cons a Q ih =>
    intro S hq
    show clS m (a :: (Q ++ O)) S = clS m O (clA Q (stO a :: S))
    rw [clS, if_pos ⟨oOp_ne hq.1.1, hq.1.2⟩]
    exact ih _ hq.2
theorem hasR_5 {O : List Nat} : ∀ Q, pq 5 Q → hasR (Q ++ O) = hasR O := by
  intro Q
  induction Q with
  | nil => intro _; rfl
  | cons a Q ih =>
    intro hq
    show (if a = 20 then false else if 4 < tgt a then hasR (Q ++ O) else decide (tgt a = 4)) = hasR O
    rw [if_neg (oOp_ne hq.1.1), if_pos (by have := hq.1.2; omega)]
    exact ih hq.2
theorem hasR_en : ∀ O, en 4 O → hasR O = false := by
  intro O
  cases O with
  | nil => intro _; rfl
  | cons a O =>
    intro he
    show (if a = 20 then false else if 4 < tgt a then hasR O else decide (tgt a = 4)) = false
    rcases he with he | ⟨h1, h2⟩
    · rw [if_pos he]
    · split
      · rfl
      · rw [if_neg (by omega), decide_eq_false (by omega)]
theorem hasR_app {O : List Nat} : ∀ Q, hasR Q = true → hasR (Q ++ O) = true := by
  intro Q
  induction Q with
  | nil => intro h; cases h
  | cons a Q ih =>
    intro h
    have h' : (if a = 20 then false else if 4 < tgt a then hasR Q else decide (tgt a = 4)) = true := h
    show (if a = 20 then false else if 4 < tgt a then hasR (Q ++ O) else decide (tgt a = 4)) = true
    by_cases q : a = 20
    · rw [if_pos q] at h'; cases h'
    · rw [if_neg q] at h' ⊢
      by_cases q2 : 4 < tgt a
      · rw [if_pos q2] at h' ⊢; exact ih h'
      · rw [if_neg q2] at h' ⊢; exact h'
theorem hasB_iff {O : List Nat} : ∀ n, hasB O n = true ↔ ∃ k, k < n ∧ oat O k = 20 := by
  intro n
  induction n with
  | zero => exact ⟨fun h => (by cases h), fun ⟨k, hk, _⟩ => absurd hk (Nat.not_lt_zero _)⟩
  | succ n ih =>
    rw [hasB, Bool.or_eq_true, ih, decide_eq_true_iff]
    constructor
    · intro h
      rcases h with ⟨k, hk, h⟩ | h
      · exact ⟨k, by omega, h⟩
      · exact ⟨n, by omega, h⟩
    · intro ⟨k, hk, h⟩
      by_cases q : k = n
      · subst q; exact Or.inr h
      · exact Or.inl ⟨k, by omega, h⟩
theorem hasB_20 (Q O : List Nat) : hasB (Q ++ 20 :: O) (Q ++ 20 :: O).length = true := by
  refine (hasB_iff _).2 ⟨O.length, ?_, ?_⟩
  · rw [List.length_append, List.length_cons]; omega
  · rw [oat_app Q (by rw [List.length_cons]; omega), oat_new]
theorem oat_pq {m : Nat} : ∀ Q, pq m Q → ∀ k, ¬ oat Q k = 20 := by
  intro Q
  induction Q with
  | nil => intro _ k; show ¬ 0 = 20; omega
  | cons a Q ih =>
    intro hq k
    rw [oat]
    split
    · exact oOp_ne hq.1.1
    · exact ih hq.2 k
theorem hasB_pq {m : Nat} {Q : List Nat} (h : pq m Q) (n : Nat) : hasB Q n = false := Bool.eq_false_iff.mpr (fun z => by
  obtain ⟨k, _, hk⟩ := (hasB_iff n).1 z
  exact oat_pq Q h k hk)
theorem okO_app {m : Nat} {O : List Nat} : ∀ Q, pq m Q → okO O → okO (Q ++ O) := by
  intro Q
  induction Q with
  | nil => intro _ h; exact h
  | cons a Q ih => intro hq h; exact ⟨Or.inl hq.1.1, ih hq.2 h⟩
theorem isOp_sg {k lv : Nat} (hv : lv ≤ 4) (h : isOp k lv) : sgO k = opC k ∧ tgt (opC k) = tt lv ∧ ¬ opC k = 0 ∧ ¬ opC k = 21 ∧ ¬ opC k = 20 := by
  have k1 : ∀ k, k < 30 → (k = 28 ∨ k = 29 ∨ k = 7 ∨ k = 8 ∨ k = 9 ∨ k = 10 ∨ k = 11 ∨ k = 12 ∨ k = 13 ∨ k = 14) → (sgO k = opC k ∧ ¬ opC k = 0 ∧ ¬ opC k = 21 ∧ ¬ opC k = 20) := by decide +kernel
  have k2 : ∀ k, k < 30 → (k = 28 → tgt (opC k) = 1) ∧ (k = 29 → tgt (opC k) = 2) ∧ (k = 7 ∨ k = 8 ∨ k = 9 → tgt (opC k) = 4) ∧ (k = 10 ∨ k = 11 → tgt (opC k) = 5) ∧ (k = 12 ∨ k = 13 ∨ k = 14 → tgt (opC k) = 6) := by decide +kernel
  obtain ⟨a1, a2, a3, a4⟩ := k1 k (by omega) (by omega)
  obtain ⟨b1, b2, b3, b4, b5⟩ := k2 k (by omega)
  refine ⟨a1, ?_, a2, a3, a4⟩
  rcases h with ⟨e, q⟩ | ⟨e, q⟩ | ⟨e, q⟩ | ⟨e, q⟩ | ⟨e, q⟩
  · rw [e]; exact b1 q
  · rw [e]; exact b2 q
  · rw [e]; exact b3 q
  · rw [e]; exact b4 q
  · rw [show lv = 4 by omega]; exact b5 q
theorem NX_sg {Q : List Nat} {k : Nat} (h : NX 0 Q k) (hk : k ≤ 33) : sgO k = 0 ∨ ((k = 7 ∨ k = 8 ∨ k = 9) ∧ hasR Q = true) := by
  obtain ⟨a1, a2, a3, a4, a5⟩ := h
  have b1 := a1 rfl
  have b2 := a2 (by omega)
  have b4 := a4 (by omega)
  have b5 := a5 (by omega)
  by_cases q : k = 7 ∨ k = 8 ∨ k = 9
  · exact Or.inr ⟨q, a3 (by omega) q⟩
  · refine Or.inl ?_
    unfold sgO
    rw [if_neg b2, if_neg b1, if_neg (by omega)]
theorem rP.frO {N : Nat} {T : Nat → Int32} {c : pC} {u u' : xU} {w : xW} (h : rP N T c u w) (f : xSn (fun b i => fAs b i ∨ fOp b i ∨ (b = 655 ∧ (i = 20 ∨ i = 22))) u u') : rP N T c u' w := h.keptU f (fun i hi => by omega) (fun i => by omega)
abbrev fFv : Nat → Nat → Prop := fun b i => fPr b i ∨ fAs b i ∨ fOp b i ∨ (b = 655 ∧ (i = 20 ∨ i = 22))
/-- how all stands, ahead of a unit and behind one, with no fault -/
def rQ (N : Nat) (T : Nat → Int32) (c : pC) (S : List (Nat × Nat)) (U : Nat) (O : List Nat) (u : xU) (w : xW) : Prop := rP N T c u w ∧ rS S u ∧ rO O u ∧ u 655 20 = nI U ∧ u 655 22 = nI U
theorem rQ.adv {N : Nat} {T : Nat → Int32} {c c' : pC} {S : List (Nat × Nat)} {U : Nat} {O : List Nat} {u u' : xU} {w w' : xW} (h : rQ N T c S U O u w) (hp : rP N T c' u' w') (f : xSn fPr u u') : rQ N T c' S U O u' w' := by
  obtain ⟨a1, a2, a3, a4, a5⟩ := h
  exact ⟨hp, a2.kept f (fun b i z => by omega), a3.kept f (fun b i z => by omega), (f _ _ (by omega)).trans a4, (f _ _ (by omega)).trans a5⟩
theorem rO.push {O : List Nat} {u : xU} {a : Nat} (h : rO O u) (ha : oOp a ∨ a = 20) (hl : O.length ≤ 158) (hd : dp O ≤ 900) (x : Int32) (hx : x = nI (dp (a :: O))) : rO (a :: O) (x2 (x2 (x2 u 662 O.length (nI a)) 655 19 (nI (O.length + 1))) 655 23 x) := by
  obtain ⟨a1, a2, a3, a4, a5, a6⟩ := h
  refine ⟨?_, ?_, fun k hk => ?_, ⟨ha, a4⟩, by rw [List.length_cons]; omega, ?_⟩
  · rw [x2_i _ _ (by omega), x2_same]; rfl
  · rw [x2_same]; exact hx
  · rw [List.length_cons] at hk
    rw [x2_a _ _ (by omega), x2_a _ _ (by omega)]
    by_cases q : k = O.length
    · rw [q, x2_same, oat_new]
    · rw [x2_i _ _ q, oat_old _ _ (by omega)]; exact a3 k (by omega)
  · show (if a = 20 ∨ a = 21 then dp O + 1 else dp O) ≤ 1000
    split <;> omega
section FSIM
variable {g : xGT} {d : Nat} {r : xQ} {N : Nat} {T : Nat → Int32} {M : Nat} {u0 : xU} {w0 : xW} {P : xPost}
/-- behind a fault the loop ends -/
theorem R_wait_f {u : xU} {w : xW} {c : pC} (h : rP N T c u w) (h0 : ¬ c.2.1 = 0) {i1 : Int32} (kk : P none u w r) : xEv g (d + 4) mX12_readWait 30 [some (.ref 655), some (.int i1), none] [] 698 u w r 698 P := by
  have e : ¬ (u 655 2 = 0) := by rw [h.2.2.2.1, f9_0 h.2.2.1]; exact h0
  exact TX12_readWait_30 (brF (fun z => e z.2) (brF e (TX12_readWait_176 (brF e kk))))
def uPost (g : xGT) (d : Nat) (r : xQ) (P : xPost) : xPost := fun rv u' w' r' => rv = none ∧ r = r' ∧ xEv g (d + 4) mX12_readWait 30 [some (.ref 655), some (.int 1), none] [] 698 u' w' r 698 P
/-- where the loop can't go on: it is left -/
theorem R_wait_out {u : xU} {w : xW} {c : pC} {S : List (Nat × Nat)} {U : Nat} {Q O : List Nat} (hr : xRf r) (ok : tpOk N T) (h : rQ N T c S U (Q ++ O) u w) (h0 : c.2.1 = 0) (hx : NX 0 Q (kK N T c.1)) (h6 : kK N T c.1 = 6 → hasB (Q ++ O) (Q ++ O).length = false)
    (kk : xEv g (d + 4) mX12_readWait 30 [some (.ref 655), some (.int 0), none] [] 698 u w r 698 P) : xEv g (d + 4) mX12_readWait 30 [some (.ref 655), some (.int 1), none] [] 698 u w r 698 P := by
  obtain ⟨a1, a2, a3, a4, a5⟩ := h
  have k33 := kK_small ok c.1
  have e2 : u 655 2 = 0 := by rw [a1.2.2.2.1, f9_0 a1.2.2.1]; exact h0
  have e6 : u 655 6 = nI (srt (kK N T c.1)) := a1.2.1.2.1
  have e41 : nI (srt (kK N T c.1)) = (41 : Int32) ↔ kK N T c.1 = 6 := by
    have key : ∀ k, k < 34 → (nI (srt k) = (41 : Int32) ↔ k = 6) := by decide +kernel
    exact key _ (by omega)
  have out : xEv g (d + 4) mX12_readWait 94 [some (.ref 655), some (.int 1), some (.int (nI (sgO (kK N T c.1))))] [] 698 u w r 698 P := by
    refine TX12_readWait_94 ?_
    rcases NX_sg hx k33 with y | ⟨y1, y2⟩
    · rw [y]
      exact brT rfl (TX12_readWait_152 (TX12_readWait_154 kk))
    · have key : ∀ k, k < 10 → (k = 7 ∨ k = 8 ∨ k = 9) → ¬ nI (sgO k) = 0 ∧ oOp (sgO k) ∧ tgt (sgO k) = 4 := by decide +kernel
      obtain ⟨b1, b2, b3⟩ := key _ (by omega) y1
      refine brF b1 (xPr.use (R_tight b2) ⟨_, rfl, rfl, rfl, rfl, ?_⟩)
      rw [b3]
      refine brT rfl (xPr.use (R_hasRelation hr a3) ⟨_, rfl, rfl, rfl, rfl, ?_⟩)
      rw [hasR_app Q y2]
      exact brF (by decide) (TX12_readWait_152 (TX12_readWait_154 kk))
  refine TX12_readWait_30 (brT ⟨by decide, e2⟩ (xPr.use (R_sign a1 ok) ⟨_, rfl, rfl, rfl, rfl, ?_⟩))
  rw [e6, e41]
  by_cases q : kK N T c.1 = 6
  · refine brT q (xPr.use (R_hasBracket hr a3) ⟨_, rfl, rfl, rfl, rfl, ?_⟩)
    rw [h6 q]
    exact brT rfl out
  · exact brF q out
/-- what the reference does where the class reads at a level -/
def rSat (g : xGT) (d : Nat) (r : xQ) (N : Nat) (T : Nat → Int32) (M : Nat) (u0 : xU) (w0 : xW) (P : xPost) (lv wi : Nat) (F : pS → pS) (s : pS) (O : List Nat) (u : xU) (w : xW) : Prop :=
  s.1.2.1 = 0 → inS M s → en (tt lv) O → dp O = wi → O.length ≤ 6 * wi + lv → (2 < lv → kK N T s.1.1 = 30 → mayN O = false) → rQ N T s.1 s.2.1 s.2.2 O u w → xSn fFv u0 u → wSn fTw w0 w →
    ((F s).1.2.1 = 0 → ∀ Q Sr u' w', rQ N T (F s).1 Sr (F s).2.2 (Q ++ O) u' w' → clA Q Sr = (F s).2.1 → pq (tl lv) Q → Q.length + lv + wi ≤ 12 → NX lv Q (kK N T (F s).1.1) → xSn fFv u0 u' → wSn fTw w0 w' → xEv g (d + 4) mX12_readWait 30 [some (.ref 655), some (.int 1), none] [] 698 u' w' r 698 P) →
    (¬ (F s).1.2.1 = 0 → ∀ u' w', rP N T (F s).1 u' w' → xSn fFv u0 u' → wSn fTw w0 w' → P none u' w' r) →
    xEv g (d + 3) mX12_unit 2 [some (.ref 655), some (.int 1), none] [] 698 u w r 698 (uPost g d r P)
def rSim (g : xGT) (d : Nat) (r : xQ) (N : Nat) (T : Nat → Int32) (M : Nat) (u0 : xU) (w0 : xW) (P : xPost) (lv wi : Nat) (F : pS → pS) : Prop :=
  ∀ (s : pS) (O : List Nat) (u : xU) (w : xW), rSat g d r N T M u0 w0 P lv wi F s O u w
end FSIM
