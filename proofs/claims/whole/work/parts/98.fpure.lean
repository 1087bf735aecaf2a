/-! THE FORMULA AS IT IS READ, level by level: where the reading stands, the steps told (the newest first), the units -/
abbrev pS : Type := pC × List (Nat × Nat) × Nat
def stp : List (Nat × Nat) → Nat → Nat × Nat
  | [], _ => (0, 0)
  | x :: S, k => if k = S.length then x else stp S k
theorem stp_new (x : Nat × Nat) (S : List (Nat × Nat)) : stp (x :: S) S.length = x := by rw [stp, if_pos rfl]
theorem stp_old (x : Nat × Nat) (S : List (Nat × Nat)) {k : Nat} (h : k < S.length) : stp (x :: S) k = stp S k := by rw [stp, if_neg (by omega)]
abbrev isOp (k lv : Nat) : Prop := (lv = 0 ∧ k = 28) ∨ (lv = 1 ∧ k = 29) ∨ (lv = 2 ∧ (k = 7 ∨ k = 8 ∨ k = 9)) ∨ (lv = 3 ∧ (k = 10 ∨ k = 11)) ∨ (4 ≤ lv ∧ (k = 12 ∨ k = 13 ∨ k = 14))
abbrev isLeaf (k : Nat) : Prop := k = 3 ∨ k = 31 ∨ k = 24 ∨ k = 32 ∨ k = 33
def opC (k : Nat) : Nat := if k = 28 then 124 else if k = 29 then 38 else srt k
abbrev oSign (a : Nat) : Prop := a = 124 ∨ a = 38 ∨ a = 60 ∨ a = 62 ∨ a = 61 ∨ a = 43 ∨ a = 45 ∨ a = 42 ∨ a = 47 ∨ a = 37
theorem opC_sign {k lv : Nat} (h : isOp k lv) : oSign (opC k) := by
  have key : ∀ k, k < 30 → (k = 28 ∨ k = 29 ∨ k = 7 ∨ k = 8 ∨ k = 9 ∨ k = 10 ∨ k = 11 ∨ k = 12 ∨ k = 13 ∨ k = 14) → oSign (opC k) := by decide +kernel
  exact key k (by omega) (by omega)
def leafS (N : Nat) (T : Nat → Int32) (j : Nat) : Nat × Nat := if kK N T j = 3 then (0, kV N T j) else if kK N T j = 31 then (1, 0) else if kK N T j = 24 then (1, 1) else if kK N T j = 32 then (1, 2) else (1, 3)
abbrev unOk (N : Nat) (T : Nat → Int32) (wi : Nat) (s : pS) : Prop := s.1.2.1 = 0 ∧ (kK N T s.1.1 = 5 ∨ isLeaf (kK N T s.1.1)) ∧ ¬ (kK N T s.1.1 = 5 ∧ 6 < wi) ∧ s.2.2 < 30
def pU (N : Nat) (T : Nat → Int32) (F : pS → pS) (wi : Nat) (s : pS) : pS :=
  if unOk N T wi s then
    (if kK N T s.1.1 = 5 then (pWant N T 6 (F (pAdv s.1, s.2.1, s.2.2 + 1)).1, (F (pAdv s.1, s.2.1, s.2.2 + 1)).2) else (pAdv s.1, leafS N T s.1.1 :: s.2.1, s.2.2 + 1))
  else (pFail N T 2 s.1, s.2)
def pNt (N : Nat) (T : Nat → Int32) (F : pS → pS) (wi : Nat) (s : pS) : pS :=
  if 6 < wi then (pFail N T 2 s.1, s.2) else ((F (pAdv s.1, s.2)).1, (2, 0) :: (F (pAdv s.1, s.2)).2.1, (F (pAdv s.1, s.2)).2.2)
def opPut (N : Nat) (T : Nat → Int32) (j : Nat) (t : pS) : pS := (t.1, (3, opC (kK N T j)) :: t.2.1, t.2.2)
def lpF (N : Nat) (T : Nat → Int32) (F : pS → pS) (lv : Nat) : Nat → pS → pS
  | 0, s => s
  | m + 1, s => if s.1.2.1 = 0 ∧ isOp (kK N T s.1.1) lv then lpF N T F lv m (opPut N T s.1.1 (F (pAdv s.1, s.2))) else s
def pF (N : Nat) (T : Nat → Int32) : Nat → Nat → Nat → pS → pS
  | 0, _, _, s => s
  | f + 1, lv, wi, s => if 4 < lv then pU N T (pF N T f 0 (wi + 1)) wi s else if lv = 2 ∧ pSee N T 30 s.1 then pNt N T (pF N T f 2 (wi + 1)) wi s else lpF N T (pF N T f (lv + 1) wi) lv (if lv = 2 then 1 else 1600) (pF N T f (lv + 1) wi s)
/-- how deep the recursion may go -/
def nd (lv wi : Nat) : Nat := 6 * (7 - wi) + (6 - lv)
/-- the steps are those of a formula -/
def sd : List (Nat × Nat) → Nat
  | [] => 0
  | x :: S => if x.1 = 0 ∨ x.1 = 1 then sd S + 1 else if x.1 = 2 then sd S else sd S - 1
def okS : List (Nat × Nat) → Prop
  | [] => True
  | x :: S => okS S ∧ sd (x :: S) ≤ 30 ∧ ((x.1 = 0 ∧ x.2 < 10000) ∨ (x.1 = 1 ∧ x.2 < 4) ∨ (x.1 = 2 ∧ 1 ≤ sd S) ∨ (x.1 = 3 ∧ oSign x.2 ∧ 2 ≤ sd S))
def inS (M : Nat) (s : pS) : Prop := s.1.1 ≤ M ∧ okS s.2.1 ∧ sd s.2.1 ≤ s.2.2 ∧ s.2.1.length ≤ 9 * s.2.2 ∧ s.2.2 ≤ 30
def gd (M sl : Nat) (s t : pS) : Prop := t.1.2.1 = 0 → s.1.1 < t.1.1 ∧ t.1.1 ≤ M ∧ okS t.2.1 ∧ sd t.2.1 = sd s.2.1 + 1 ∧ s.2.2 < t.2.2 ∧ t.2.2 ≤ 30 ∧ sd t.2.1 ≤ t.2.2 ∧ t.2.1.length + sl + 9 * s.2.2 ≤ s.2.1.length + 9 * t.2.2
def sl (lv wi : Nat) : Nat := if lv ≤ 2 then 1 + wi else 8
theorem gd.inS {M k : Nat} {s t : pS} (h : gd M k s t) (hs : inS M s) (h0 : t.1.2.1 = 0) : inS M t := by
  obtain ⟨a1, a2, a3, a4, a5, a6, a7, a8⟩ := h h0
  obtain ⟨b1, b2, b3, b4, b5⟩ := hs
  exact ⟨a2, a3, a7, by omega, a6⟩
theorem gd.less {M k k' : Nat} {s t : pS} (h : gd M k s t) (hk : k' ≤ k) : gd M k' s t := fun h0 => by
  obtain ⟨a1, a2, a3, a4, a5, a6, a7, a8⟩ := h h0
  exact ⟨a1, a2, a3, a4, a5, a6, a7, by omega⟩
theorem kK_end {N M : Nat} {T : Nat → Int32} (hM : kK N T M = 0) {j : Nat} (hj : j ≤ M) (h : ¬ kK N T j = 0) : j + 1 ≤ M := by
  rcases Nat.lt_or_ge j M with y | y
  · exact y
  · have e : j = M := by omega
    rw [e] at h
    exact absurd hM h
theorem inS.adv {N M : Nat} {T : Nat → Int32} {s : pS} (hM : kK N T M = 0) (hs : inS M s) (h : ¬ kK N T s.1.1 = 0) : inS M (pAdv s.1, s.2) := by
  obtain ⟨b1, b2, b3, b4, b5⟩ := hs
  exact ⟨kK_end hM b1 h, b2, b3, b4, b5⟩
theorem gd.op {N M k k2 lv : Nat} {T : Nat → Int32} {s t t2 : pS} (h : gd M k s t) (h0 : t.1.2.1 = 0) (h2 : gd M k2 (pAdv t.1, t.2) t2) (hk : 1 ≤ k2) (ho : isOp (kK N T t.1.1) lv) : gd M k s (opPut N T t.1.1 t2) := fun z => by
  have z2 : t2.1.2.1 = 0 := z
  obtain ⟨a1, a2, a3, a4, a5, a6, a7, a8⟩ := h h0
  obtain ⟨b1, b2, b3, b4, b5, b6, b7, b8⟩ := h2 z2
  have b1' : t.1.1 + 1 < t2.1.1 := b1
  have b4' : sd t2.2.1 = sd t.2.1 + 1 := b4
  have b5' : t.2.2 < t2.2.2 := b5
  have b8' : t2.2.1.length + k2 + 9 * t.2.2 ≤ t.2.1.length + 9 * t2.2.2 := b8
  have eS : sd ((3, opC (kK N T t.1.1)) :: t2.2.1) = sd t2.2.1 - 1 := rfl
  refine ⟨?_, b2, ⟨b3, ?_, Or.inr (Or.inr (Or.inr ⟨rfl, opC_sign ho, by omega⟩))⟩, ?_, ?_, b6, ?_, ?_⟩
  · show s.1.1 < t2.1.1; omega
  · rw [eS]; omega
  · show sd ((3, opC (kK N T t.1.1)) :: t2.2.1) = _; rw [eS]; omega
  · show s.2.2 < t2.2.2; omega
  · show sd ((3, opC (kK N T t.1.1)) :: t2.2.1) ≤ t2.2.2; rw [eS]; omega
  · show ((3, opC (kK N T t.1.1)) :: t2.2.1).length + k + 9 * s.2.2 ≤ s.2.1.length + 9 * t2.2.2
    rw [List.length_cons]; omega
theorem isOp_ne {k lv : Nat} (h : isOp k lv) : ¬ k = 0 := by omega
theorem lpF_ok {N M k k2 lv : Nat} {T : Nat → Int32} {s : pS} {F : pS → pS} (hM : kK N T M = 0) (hs : inS M s) (hk : 1 ≤ k2) (hF : ∀ t, t.1.2.1 = 0 → inS M t → gd M k2 t (F t)) : ∀ m t, gd M k s t → gd M k s (lpF N T F lv m t) := by
  intro m
  induction m with
  | zero => intro t h; exact h
  | succ m ih =>
    intro t h
    rw [lpF]
    by_cases q : t.1.2.1 = 0 ∧ isOp (kK N T t.1.1) lv
    · rw [if_pos q]
      have hi := (h.inS hs q.1).adv hM (isOp_ne q.2)
      exact ih _ (h.op q.1 (hF (pAdv t.1, t.2) q.1 hi) hk q.2)
    · rw [if_neg q]; exact h
theorem leafS_ok (N : Nat) (T : Nat → Int32) (j : Nat) : ((leafS N T j).1 = 0 ∧ (leafS N T j).2 < 10000) ∨ ((leafS N T j).1 = 1 ∧ (leafS N T j).2 < 4) := by
  unfold leafS
  by_cases q : kK N T j = 3
  · rw [if_pos q]; exact Or.inl ⟨rfl, dig_small q⟩
  · rw [if_neg q]
    split
    · exact Or.inr ⟨rfl, by decide⟩
    · split
      · exact Or.inr ⟨rfl, by decide⟩
      · split
        · exact Or.inr ⟨rfl, by decide⟩
        · exact Or.inr ⟨rfl, by decide⟩
theorem pWant_ok {N : Nat} {T : Nat → Int32} {k : Nat} {c : pC} (h : (pWant N T k c).2.1 = 0) : pSee N T k c ∧ pWant N T k c = pAdv c := by
  unfold pWant at h ⊢
  by_cases q : pSee N T k c
  · rw [if_pos q]; exact ⟨q, rfl⟩
  · rw [if_neg q] at h; exact absurd h (pFail_0 (by omega))
theorem pF_ok {N M : Nat} {T : Nat → Int32} (hM : kK N T M = 0) : ∀ f lv wi s, lv ≤ 5 → wi ≤ 7 → nd lv wi ≤ f → s.1.2.1 = 0 → inS M s → gd M (sl lv wi) s (pF N T f lv wi s) := by
  intro f
  induction f with
  | zero =>
    intro lv wi s h1 h2 h3
    unfold nd at h3
    omega
  | succ f ih =>
    intro lv wi s h1 h2 h3 h0 hs
    unfold nd at h3
    rw [pF]
    by_cases q5 : 4 < lv
    · rw [if_pos q5]
      have esl : sl lv wi = 8 := if_neg (by omega)
      rw [esl]
      unfold pU
      by_cases qu : unOk N T wi s
      · rw [if_pos qu]
        obtain ⟨b1, b2, b3, b4, b5⟩ := hs
        have u30 : s.2.2 < 30 := qu.2.2.2
        have nz : ¬ kK N T s.1.1 = 0 := by have := qu.2.1; omega
        by_cases qb : kK N T s.1.1 = 5
        · rw [if_pos qb]
          have w6 : wi ≤ 6 := by have := qu.2.2.1; omega
          have hi : inS M (pAdv s.1, s.2.1, s.2.2 + 1) := ⟨kK_end hM b1 nz, b2, by show sd s.2.1 ≤ s.2.2 + 1; omega, by show s.2.1.length ≤ 9 * (s.2.2 + 1); omega, by show s.2.2 + 1 ≤ 30; omega⟩
          have g := ih 0 (wi + 1) (pAdv s.1, s.2.1, s.2.2 + 1) (by omega) (by omega) (by unfold nd; omega) h0 hi
          generalize pF N T f 0 (wi + 1) (pAdv s.1, s.2.1, s.2.2 + 1) = t at g
          intro z
          have z1 : (pWant N T 6 t.1).2.1 = 0 := z
          obtain ⟨e1, e2⟩ := pWant_ok z1
          obtain ⟨a1, a2, a3, a4, a5, a6, a7, a8⟩ := g e1.1
          have a1' : s.1.1 + 1 < t.1.1 := a1
          have a4' : sd t.2.1 = sd s.2.1 + 1 := a4
          have a5' : s.2.2 + 1 < t.2.2 := a5
          have a8' : t.2.1.length + sl 0 (wi + 1) + 9 * (s.2.2 + 1) ≤ s.2.1.length + 9 * t.2.2 := a8
          have esl0 : sl 0 (wi + 1) = 1 + (wi + 1) := if_pos (by omega)
          rw [esl0] at a8'
          have e3 : (pWant N T 6 t.1).1 = t.1.1 + 1 := by rw [e2]; rfl
          refine ⟨?_, ?_, a3, a4', ?_, a6, a7, ?_⟩
          · show s.1.1 < (pWant N T 6 t.1).1; omega
          · show (pWant N T 6 t.1).1 ≤ M
            rw [e3]
            exact kK_end hM a2 (by rw [e1.2]; decide)
          · show s.2.2 < t.2.2; omega
          · show t.2.1.length + 8 + 9 * s.2.2 ≤ s.2.1.length + 9 * t.2.2; omega
        · rw [if_neg qb]
          intro _
          have lf := leafS_ok N T s.1.1
          have eS : sd (leafS N T s.1.1 :: s.2.1) = sd s.2.1 + 1 := by rw [sd, if_pos (by omega)]
          refine ⟨Nat.lt_succ_self _, kK_end hM b1 nz, ⟨b2, by rw [eS]; omega, ?_⟩, eS, Nat.lt_succ_self _, by show s.2.2 + 1 ≤ 30; omega, ?_, ?_⟩
          · rcases lf with y | y
            · exact Or.inl y
            · exact Or.inr (Or.inl y)
          · show sd (leafS N T s.1.1 :: s.2.1) ≤ s.2.2 + 1; rw [eS]; omega
          · show (leafS N T s.1.1 :: s.2.1).length + 8 + 9 * s.2.2 ≤ s.2.1.length + 9 * (s.2.2 + 1)
            rw [List.length_cons]; omega
      · rw [if_neg qu]
        exact fun z => absurd z (pFail_0 (by omega))
    · rw [if_neg q5]
      by_cases qn : lv = 2 ∧ pSee N T 30 s.1
      · rw [if_pos qn]
        have esl : sl lv wi = 1 + wi := if_pos (by omega)
        rw [esl]
        unfold pNt
        by_cases qw : 6 < wi
        · rw [if_pos qw]; exact fun z => absurd z (pFail_0 (by omega))
        · rw [if_neg qw]
          have hi := hs.adv hM (by rw [qn.2.2]; decide)
          have g := ih 2 (wi + 1) (pAdv s.1, s.2) (by omega) (by omega) (by unfold nd; omega) h0 hi
          generalize pF N T f 2 (wi + 1) (pAdv s.1, s.2) = t at g
          intro z
          obtain ⟨a1, a2, a3, a4, a5, a6, a7, a8⟩ := g z
          have a1' : s.1.1 + 1 < t.1.1 := a1
          have a4' : sd t.2.1 = sd s.2.1 + 1 := a4
          have a5' : s.2.2 < t.2.2 := a5
          have a8' : t.2.1.length + sl 2 (wi + 1) + 9 * s.2.2 ≤ s.2.1.length + 9 * t.2.2 := a8
          have esl0 : sl 2 (wi + 1) = 1 + (wi + 1) := if_pos (by omega)
          rw [esl0] at a8'
          have eS : sd ((2, 0) :: t.2.1) = sd t.2.1 := rfl
          refine ⟨?_, a2, ⟨a3, by rw [eS]; omega, Or.inr (Or.inr (Or.inl ⟨rfl, by omega⟩))⟩, ?_, a5', a6, ?_, ?_⟩
          · show s.1.1 < t.1.1; omega
          · show sd ((2, 0) :: t.2.1) = _; rw [eS]; exact a4'
          · show sd ((2, 0) :: t.2.1) ≤ t.2.2; rw [eS]; exact a7
          · show ((2, 0) :: t.2.1).length + (1 + wi) + 9 * s.2.2 ≤ s.2.1.length + 9 * t.2.2
            rw [List.length_cons]; omega
      · rw [if_neg qn]
        have k1 : sl lv wi ≤ sl (lv + 1) wi := by unfold sl; split <;> split <;> omega
        have k2 : 1 ≤ sl (lv + 1) wi := by unfold sl; split <;> omega
        have hF : ∀ t : pS, t.1.2.1 = 0 → inS M t → gd M (sl (lv + 1) wi) t (pF N T f (lv + 1) wi t) := fun t y1 y2 => ih (lv + 1) wi t (by omega) h2 (by unfold nd; omega) y1 y2
        exact lpF_ok hM hs k2 hF _ _ ((hF s h0 hs).less k1)
