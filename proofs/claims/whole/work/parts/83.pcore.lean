/-! THE READING OF A TEXT, one for both sides: where it stands, its fault, its place -/
abbrev pC : Type := Nat × Nat × Int32
abbrev kK (N : Nat) (T : Nat → Int32) (j : Nat) : Nat := tkK N T (ps N T j)
abbrev kV (N : Nat) (T : Nat → Int32) (j : Nat) : Nat := tkV N T (ps N T j)
abbrev kQ (N : Nat) (T : Nat → Int32) (j : Nat) : Nat := tkS N T (ps N T j)
abbrev pSee (N : Nat) (T : Nat → Int32) (k : Nat) (c : pC) : Prop := c.2.1 = 0 ∧ kK N T c.1 = k
def pFail (N : Nat) (T : Nat → Int32) (x : Nat) (c : pC) : pC := if c.2.1 = 0 then (c.1, (if kK N T c.1 = 1 then 1 else x), nI (kQ N T c.1)) else c
def pAdv (c : pC) : pC := (c.1 + 1, c.2)
def pWant (N : Nat) (T : Nat → Int32) (k : Nat) (c : pC) : pC := if pSee N T k c then pAdv c else pFail N T 2 c
abbrev numOk (N : Nat) (T : Nat → Int32) (lo hi : Nat) (c : pC) : Prop := lo ≤ kV N T c.1 ∧ kV N T c.1 ≤ hi
def pNum (N : Nat) (T : Nat → Int32) (lo hi : Nat) (c : pC) : pC := if pSee N T 3 c then (if numOk N T lo hi c then pAdv c else pFail N T 4 c) else pFail N T 2 c
theorem pFail_0 {N : Nat} {T : Nat → Int32} {x : Nat} {c : pC} (hx : ¬ x = 0) : ¬ (pFail N T x c).2.1 = 0 := by
  unfold pFail
  by_cases h : c.2.1 = 0
  · rw [if_pos h]
    show ¬ (if kK N T c.1 = 1 then 1 else x) = 0
    split <;> omega
  · rw [if_neg h]; exact h
theorem pFail_1 (N : Nat) (T : Nat → Int32) (x : Nat) (c : pC) : (pFail N T x c).1 = c.1 := by
  unfold pFail
  by_cases h : c.2.1 = 0
  · rw [if_pos h]
  · rw [if_neg h]
theorem pFail_f {N : Nat} {T : Nat → Int32} {x : Nat} {c : pC} (h : ¬ c.2.1 = 0) : pFail N T x c = c := if_neg h
theorem pFail_le {N : Nat} {T : Nat → Int32} {x : Nat} {c : pC} (hx : x ≤ 9) (h : c.2.1 ≤ 9) : (pFail N T x c).2.1 ≤ 9 := by
  unfold pFail
  by_cases h0 : c.2.1 = 0
  · rw [if_pos h0]
    show (if kK N T c.1 = 1 then 1 else x) ≤ 9
    split <;> omega
  · rw [if_neg h0]; exact h
/-- the words, and what the reference packs -/
theorem wdF_at {x : Nat} : ∀ k, k ≤ 19 → wdF x k < 19 → x = wd (wdF x k) := by
  intro k
  induction k with
  | zero =>
    intro _ h
    have e0 : wdF x 0 = 19 := rfl
    omega
  | succ k ih =>
    intro hk h
    by_cases q : x = wd (18 - k)
    · have e : wdF x (k + 1) = 18 - k := by rw [wdF, if_pos q]
      rw [e]; exact q
    · have e : wdF x (k + 1) = wdF x k := by rw [wdF, if_neg q]
      rw [e] at h ⊢
      exact ih (by omega) h
theorem kwd_of : ∀ i, i < 19 → kwd (wd i) = 15 + i := by decide +kernel
theorem wd_lt : ∀ i, i < 19 → wd i < 2 ^ 64 := by decide +kernel
theorem kwd_wd {x i : Nat} (hi : i < 19) : kwd x = 15 + i ↔ x = wd i := by
  constructor
  · intro h
    have h1 : wdF x 19 = i := by
      unfold kwd at h
      by_cases q : wdF x 19 = 19
      · rw [if_pos q] at h; omega
      · rw [if_neg q] at h; omega
    have h2 := wdF_at (x := x) 19 (Nat.le_refl _) (by omega)
    rw [h1] at h2
    exact h2
  · intro h
    rw [h]; exact kwd_of i hi
theorem tk_word {N p : Nat} {T : Nat → Int32} (ok : tpOk N T) (hp : p ≤ N) (h : srt (tkK N T p) = 1) : tkK N T p = kwd (tkV N T p) ∧ tkV N T p < 2 ^ 64 := by
  by_cases c0 : tkC N T p = 256
  · have eK : tkK N T p = 0 := if_pos c0
    rw [eK] at h; exact absurd h (by decide)
  · by_cases cl : cLet (tkC N T p)
    · have eK : tkK N T p = if tkL N T p - tkS N T p ≤ 8 then kwd (tkW 256 0 N T p) else 1 := by unfold tkK; rw [if_neg c0, if_pos cl]
      have eV : tkV N T p = tkW 256 0 N T p := if_pos cl
      by_cases q : tkL N T p - tkS N T p ≤ 8
      · rw [eK, if_pos q, eV]
        refine ⟨rfl, pkW_8 (by omega) (by omega) q (fun i hi => ?_)⟩
        have lL : tkL N T p ≤ N := run_le _ (tkS_le hp)
        have := (tb_in ok (show tkS N T p + i < N by omega)).2
        unfold tkB; omega
      · rw [eK, if_neg q] at h; exact absurd h (by decide)
    · by_cases cd : cDig (tkC N T p)
      · have eK : tkK N T p = if tkD N T p - tkS N T p ≤ 4 ∧ ¬ cLet (tb N T (tkD N T p)) then 3 else 1 := by unfold tkK; rw [if_neg c0, if_neg cl, if_pos cd]
        by_cases q : tkD N T p - tkS N T p ≤ 4 ∧ ¬ cLet (tb N T (tkD N T p))
        · rw [eK, if_pos q] at h; exact absurd h (by decide)
        · rw [eK, if_neg q] at h; exact absurd h (by decide)
      · have eK : tkK N T p = sgn (tkC N T p) := by unfold tkK; rw [if_neg c0, if_neg cl, if_neg cd]
        by_cases q : isSg (tkC N T p)
        · rw [eK, (sgn_yes q).1] at h; omega
        · rw [eK, sgn_not q] at h; exact absurd h (by decide)
theorem srt_inj3 {k : Nat} : srt k = 2 ↔ k = 3 := by
  by_cases q : k < 15
  · have key : ∀ k, k < 15 → (srt k = 2 ↔ k = 3) := by decide
    exact key k q
  · rw [srt_big (by omega)]; omega
theorem srt_one {k : Nat} : srt k = 1 ↔ (k = 2 ∨ 15 ≤ k) := by
  by_cases q : k < 15
  · have key : ∀ k, k < 15 → (srt k = 1 ↔ (k = 2 ∨ 15 ≤ k)) := by decide
    exact key k q
  · rw [srt_big (by omega)]
    exact ⟨fun _ => Or.inr (by omega), fun _ => rfl⟩
theorem dig_small {N p : Nat} {T : Nat → Int32} (h : tkK N T p = 3) : tkV N T p < 10000 := by
  by_cases c0 : tkC N T p = 256
  · have eK : tkK N T p = 0 := if_pos c0
    omega
  · by_cases cl : cLet (tkC N T p)
    · have eK : tkK N T p = if tkL N T p - tkS N T p ≤ 8 then kwd (tkW 256 0 N T p) else 1 := by unfold tkK; rw [if_neg c0, if_pos cl]
      by_cases q : tkL N T p - tkS N T p ≤ 8
      · rw [eK, if_pos q] at h
        rcases kwd_ge (tkW 256 0 N T p) with y | y <;> omega
      · rw [eK, if_neg q] at h; omega
    · by_cases cd : cDig (tkC N T p)
      · have eK : tkK N T p = if tkD N T p - tkS N T p ≤ 4 ∧ ¬ cLet (tb N T (tkD N T p)) then 3 else 1 := by unfold tkK; rw [if_neg c0, if_neg cl, if_pos cd]
        have eV : tkV N T p = dN (tkB N T p) (tkD N T p - tkS N T p) := if_neg cl
        by_cases q : tkD N T p - tkS N T p ≤ 4 ∧ ¬ cLet (tb N T (tkD N T p))
        · have b1 := dN_lt (f := tkB N T p) (tkD N T p - tkS N T p) (fun j hj => tb_dig (p := p) (by omega) (by omega))
          have b2 : 10 ^ (tkD N T p - tkS N T p) ≤ 10 ^ 4 := Nat.pow_le_pow_right (by decide) q.1
          have b3 : (10 : Nat) ^ 4 = 10000 := by decide
          omega
        · rw [eK, if_neg q] at h; omega
      · have eK : tkK N T p = sgn (tkC N T p) := by unfold tkK; rw [if_neg c0, if_neg cl, if_neg cd]
        by_cases q : isSg (tkC N T p)
        · have := sgn_yes q; omega
        · rw [eK, sgn_not q] at h; omega
/-- how the reading stands, for the class and for the reference -/
def cP (N : Nat) (T : Nat → Int32) (M : Nat) (c : pC) (u : xU) (w : xW) : Prop := spDone N T M u w ∧ c.1 ≤ M ∧ c.2.1 ≤ 9 ∧ u 9 7 = nI c.1 ∧ u 9 8 = nI c.2.1 ∧ u 9 9 = c.2.2
def rP (N : Nat) (T : Nat → Int32) (c : pC) (u : xU) (w : xW) : Prop := rSz N T u ∧ rTk N T (ps N T c.1) u w ∧ c.2.1 ≤ 9 ∧ u 655 2 = nI c.2.1 ∧ u 655 3 = c.2.2
abbrev fPc : Nat → Nat → Prop := fun b i => b = 9 ∧ (i = 7 ∨ i = 8 ∨ i = 9)
abbrev fPr : Nat → Nat → Prop := fun b i => fTk b i ∨ (b = 655 ∧ (i = 2 ∨ i = 3))
theorem cP.M1 {N : Nat} {T : Nat → Int32} {M : Nat} {c : pC} {u : xU} {w : xW} (h : cP N T M c u w) (hk : ¬ kK N T c.1 = 0) : c.1 + 1 ≤ M := by
  rcases Nat.lt_or_ge c.1 M with y | y
  · exact y
  · have e : c.1 = M := Nat.le_antisymm h.2.1 y
    rw [e] at hk
    exact absurd h.1.2.2.1 hk
theorem spDone.kept {N : Nat} {T : Nat → Int32} {M : Nat} {u u' : xU} {w w' : xW} (h : spDone N T M u w) {F : Nat → Nat → Prop} (f : xSn F u u') (hw : ∀ j, w' 13 j = w 13 j) (h1 : ∀ j, ¬ F 12 j) (h2 : ∀ j, ¬ F 14 j) (h3 : ¬ F 10 5) : spDone N T M u' w' := by
  obtain ⟨a1, a2, a3, a4, a5⟩ := h
  refine ⟨a1, a2, a3, (f _ _ h3).trans a4, fun j hj => ?_⟩
  obtain ⟨b1, b2, b3, b4⟩ := a5 j hj
  exact ⟨(f _ _ (h1 j)).trans b1, (f _ _ (h2 j)).trans b2, fun z => (hw j).trans (b3 z), fun z => (hw j).trans (b4 z)⟩
theorem f9_0 {f : Nat} (h : f ≤ 9) : nI f = 0 ↔ f = 0 := eq_nI (b := 0) (by omega) (by omega)
theorem f9_le {f : Nat} (h : f ≤ 9) : nI f ≤ 0 ↔ f = 0 := by
  have : nI f ≤ (0 : Int32) ↔ f ≤ 0 := le_nI (b := 0) (by omega) (by omega)
  rw [this]; omega
section PCLASS
variable {g : xGT} {d : Nat} {w : xW} {r : xQ} {N : Nat} {T : Nat → Int32} {M : Nat} {c : pC}
theorem kK_small (ok : tpOk N T) (j : Nat) : kK N T j ≤ 33 := by
  show tkK N T (ps N T j) ≤ 33
  unfold tkK
  split
  · omega
  · split
    · split
      · rcases kwd_ge (tkW 256 0 N T (ps N T j)) with y | y <;> omega
      · omega
    · split
      · split <;> omega
      · by_cases q : isSg (tkC N T (ps N T j))
        · have := sgn_yes q; omega
        · rw [sgn_not q]; omega
theorem K_kind {u : xU} (hr : xRf r) (ok : tpOk N T) (h : cP N T M c u w) : xCall g d mX10_kindAt [.ref 10, .int (nI c.1)] 698 u w r 698 (xPr (nI (kK N T c.1)) u w r) := by
  have n16 := ok.1
  have m1 := h.1.1
  have a1 := h.2.1
  exact K_kindAt hr h.1.2.2.2.1 (by omega) (by omega) (h.1.2.2.2.2 c.1 h.2.1).1
theorem K_place {u u' : xU} (hr : xRf r) (ok : tpOk N T) (h : cP N T M c u w) (e1 : u' 10 5 = u 10 5) (e2 : ∀ j, u' 14 j = u 14 j) : xCall g d mX10_placeAt [.ref 10, .int (nI c.1)] 698 u' w r 698 (xPr (nI (kQ N T c.1)) u' w r) := by
  have n16 := ok.1
  have m1 := h.1.1
  have a1 := h.2.1
  exact K_placeAt hr (e1.trans h.1.2.2.2.1) (by omega) (by omega) ((e2 _).trans (h.1.2.2.2.2 c.1 h.2.1).2.1)
theorem K_sees {u : xU} (hr : xRf r) (ok : tpOk N T) (h : cP N T M c u w) {k : Nat} (hk : k ≤ 100) : xCall g (d + 1) mX7_sees [.ref 9, .int (nI k)] 698 u w r 698 (xPr (xb (pSee N T k c)) u w r) := by
  have k33 := kK_small ok c.1
  refine CX7_sees hr ?_
  rw [h.2.2.2.2.1, h.2.2.2.1, f9_0 h.2.2.1]
  by_cases q : c.2.1 = 0
  · refine brT q (xPr.use (K_kind hr ok h) ⟨_, rfl, rfl, rfl, rfl, ?_⟩)
    rw [eq_nI (by omega) (by omega)]
    by_cases q2 : kK N T c.1 = k
    · exact brT q2 ⟨by rw [xb_pos ⟨q, q2⟩], rfl, rfl, rfl⟩
    · exact brF q2 ⟨by rw [xb_neg (fun z => q2 z.2)], rfl, rfl, rfl⟩
  · exact brF q ⟨by rw [xb_neg (fun z => q z.1)], rfl, rfl, rfl⟩
theorem cP.put {u u' : xU} {w' : xW} (h : cP N T M c u w) {c' : pC} (f : xSn fPc u u') (hw : ∀ j, w' 13 j = w 13 j) (h1 : c'.1 ≤ M) (h2 : c'.2.1 ≤ 9) (h7 : u' 9 7 = nI c'.1) (h8 : u' 9 8 = nI c'.2.1) (h9 : u' 9 9 = c'.2.2) : cP N T M c' u' w' :=
  ⟨h.1.kept f hw (fun j => by omega) (fun j => by omega) (by omega), h1, h2, h7, h8, h9⟩
theorem K_fail {u : xU} (hr : xRf r) (ok : tpOk N T) (h : cP N T M c u w) {x : Nat} (hx : x ≤ 9) : xCall g (d + 1) mX7_fail [.ref 9, .int (nI x)] 698 u w r 698 (xVd (fun u' => cP N T M (pFail N T x c) u' w ∧ xSn fPc u u') w r) := by
  have k33 := kK_small ok c.1
  refine CX7_fail hr ?_
  rw [h.2.2.2.2.1, h.2.2.2.1, f9_0 h.2.2.1]
  by_cases q : c.2.1 = 0
  · refine brT q (xPr.use (K_kind hr ok h) ⟨_, rfl, rfl, rfl, rfl, ?_⟩)
    have e : (if nI (kK N T c.1) = (1 : Int32) then (1 : Int32) else nI x) = nI (if kK N T c.1 = 1 then 1 else x) := by
      have e1 : nI (kK N T c.1) = (1 : Int32) ↔ kK N T c.1 = 1 := eq_nI (b := 1) (by omega) (by omega)
      by_cases y : kK N T c.1 = 1
      · rw [if_pos (e1.2 y), if_pos y]; rfl
      · rw [if_neg (fun z => y (e1.1 z)), if_neg y]
    rw [e]
    have ep : pFail N T x c = (c.1, (if kK N T c.1 = 1 then 1 else x), nI (kQ N T c.1)) := if_pos q
    have b9 : (if kK N T c.1 = 1 then 1 else x) ≤ 9 := by split <;> omega
    refine xPr.use (K_place hr ok h ?_ (fun j => ?_)) ⟨_, rfl, rfl, rfl, rfl, rfl, ⟨?_, ?_⟩, rfl, rfl⟩
    · rw [x2_a _ _ (by omega)]
    · rw [x2_a _ _ (by omega)]
    · rw [ep]
      refine h.put (((xSn.rf (F := fPc)).put ⟨rfl, by omega⟩).put ⟨rfl, by omega⟩) (fun j => rfl) h.2.1 b9 ?_ ?_ (x2_same _ _ _ _)
      · rw [x2_i _ _ (by omega), x2_i _ _ (by omega)]; exact h.2.2.2.1
      · rw [x2_i _ _ (by omega), x2_same]
    · exact ((xSn.rf (F := fPc)).put ⟨rfl, by omega⟩).put ⟨rfl, by omega⟩
  · refine brF q ⟨rfl, ⟨?_, xSn.rf⟩, rfl, rfl⟩
    rw [pFail_f q]; exact h
theorem cP.adv {u : xU} (h : cP N T M c u w) (hk : ¬ kK N T c.1 = 0) : cP N T M (pAdv c) (x2 u 9 7 (u 9 7 + 1)) w ∧ xSn fPc u (x2 u 9 7 (u 9 7 + 1)) := by
  have f1 : xSn fPc u (x2 u 9 7 (u 9 7 + 1)) := (xSn.rf).put ⟨rfl, by omega⟩
  refine ⟨h.put f1 (fun j => rfl) (h.M1 hk) h.2.2.1 ?_ ?_ ?_, f1⟩
  · rw [x2_same, h.2.2.2.1, nI_one]; rfl
  · rw [x2_i _ _ (by omega)]; exact h.2.2.2.2.1
  · rw [x2_i _ _ (by omega)]; exact h.2.2.2.2.2
theorem K_want {u : xU} (hr : xRf r) (ok : tpOk N T) (h : cP N T M c u w) {k : Nat} (hk : k ≤ 100) (k0 : ¬ k = 0) : xCall g (d + 2) mX7_want [.ref 9, .int (nI k)] 698 u w r 698 (xVd (fun u' => cP N T M (pWant N T k c) u' w ∧ xSn fPc u u') w r) := by
  refine CX7_want (xPr.use (K_sees hr ok h hk) ⟨_, rfl, rfl, rfl, rfl, ?_⟩)
  unfold pWant
  by_cases q : pSee N T k c
  · rw [if_pos q]
    have := h.adv (by rw [q.2]; exact k0)
    exact brF (by rw [xb_pos q]; decide) ⟨rfl, this, rfl, rfl⟩
  · rw [if_neg q]
    refine brT (xb_neg q) (xVd.use (K_fail (x := 2) hr ok h (by omega)) (fun u1 h1 => ⟨rfl, rfl, rfl, rfl, h1, rfl, rfl⟩))
theorem K_readNumber {u : xU} (hr : xRf r) (ok : tpOk N T) (h : cP N T M c u w) {lo hi : Nat} (hl : lo ≤ 1000) (hh : hi ≤ 1000) : xCall g (d + 2) mX7_readNumber [.ref 9, .int (nI lo), .int (nI hi)] 698 u w r 698 (fun rv u' w' r' => ∃ v : Int32, rv = some (.int v) ∧ w = w' ∧ r = r' ∧ ((pNum N T lo hi c).2.1 = 0 → v = nI (kV N T c.1)) ∧ cP N T M (pNum N T lo hi c) u' w ∧ xSn fPc u u') := by
  have n16 := ok.1
  have m1 := h.1.1
  have a1 := h.2.1
  refine CX7_readNumber hr (xPr.use (K_sees (k := 3) hr ok h (by omega)) ⟨_, rfl, rfl, rfl, rfl, ?_⟩)
  unfold pNum
  by_cases q : pSee N T 3 c
  · rw [if_pos q]
    refine brF (by rw [xb_pos q]; decide) ?_
    rw [h.2.2.2.1]
    have v4 := dig_small q.2
    have ekV : kV N T c.1 = tkV N T (ps N T c.1) := rfl
    refine K_valueAt hr h.1.2.2.2.1 (by omega) (by omega) ⟨_, rfl, rfl, rfl, rfl, ?_⟩
    rw [(h.1.2.2.2.2 c.1 h.2.1).2.2.2 q.2, lN_i, lt_nI (by omega) (by omega), le_nI (by omega) (by omega)]
    by_cases q2 : numOk N T lo hi c
    · rw [if_pos q2]
      refine brF (fun z => by rcases z with z | z <;> omega) ⟨_, rfl, rfl, rfl, fun _ => rfl, ?_⟩
      have := h.adv (by rw [q.2]; decide)
      rw [h.2.2.2.1] at this
      exact this
    · rw [if_neg q2]
      refine brT (by omega) (xVd.use (K_fail (x := 4) hr ok h (by omega)) (fun u1 h1 => ⟨rfl, rfl, rfl, _, rfl, rfl, rfl, fun z => absurd z (pFail_0 (by omega)), h1⟩))
  · rw [if_neg q]
    exact brT (xb_neg q) (xVd.use (K_fail (x := 2) hr ok h (by omega)) (fun u1 h1 => ⟨rfl, rfl, rfl, _, rfl, rfl, rfl, fun z => absurd z (pFail_0 (by omega)), h1⟩))
end PCLASS
