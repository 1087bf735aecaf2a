/-! TOKENS of a tape, as numbers -/
def runF (q : Nat → Bool) : Nat → Nat → Nat
  | 0, p => p
  | f + 1, p => if q p = true then runF q f (p + 1) else p
theorem runF_spec (q : Nat → Bool) : ∀ f p, p ≤ runF q f p ∧ runF q f p ≤ p + f ∧ (∀ j, p ≤ j → j < runF q f p → q j = true) ∧ (runF q f p < p + f → q (runF q f p) = false) := by
  intro f
  induction f with
  | zero => intro p; exact ⟨Nat.le_refl _, Nat.le_refl _, fun j h1 h2 => absurd h2 (Nat.not_lt.mpr h1), fun h => absurd h (Nat.lt_irrefl _)⟩
  | succ f ih =>
    intro p
    unfold runF
    by_cases h : q p = true
    · rw [if_pos h]
      obtain ⟨h1, h2, h3, h4⟩ := ih (p + 1)
      refine ⟨by omega, by omega, fun j j1 j2 => ?_, fun y => h4 (by omega)⟩
      by_cases e : j = p
      · subst e; exact h
      · exact h3 j (by omega) j2
    · rw [if_neg h]
      exact ⟨Nat.le_refl _, by omega, fun j h1 h2 => absurd h2 (Nat.not_lt.mpr h1), fun _ => Bool.eq_false_iff.mpr h⟩
/-- the first from p on that isn't so -/
def run (q : Nat → Bool) (N p : Nat) : Nat := runF q (N - p) p
theorem run_ge (q : Nat → Bool) (N p : Nat) : p ≤ run q N p := (runF_spec q (N - p) p).1
theorem run_le (q : Nat → Bool) {N p : Nat} (h : p ≤ N) : run q N p ≤ N := by
  have h1 := (runF_spec q (N - p) p).2.1
  unfold run
  omega
theorem run_in (q : Nat → Bool) {N p j : Nat} (h1 : p ≤ j) (h2 : j < run q N p) : q j = true := (runF_spec q (N - p) p).2.2.1 j h1 h2
theorem run_out {q : Nat → Bool} {N p : Nat} (h : p ≤ N) (hN : q N = false) : q (run q N p) = false := by
  have h1 := run_le q h
  have h2 := (runF_spec q (N - p) p).2.2.2
  by_cases e : run q N p = N
  · rw [e]; exact hN
  · exact h2 (by unfold run at e h1; omega)
theorem run_eq {q : Nat → Bool} {N p e : Nat} (hN : q N = false) (h1 : p ≤ e) (h2 : e ≤ N) (h3 : ∀ j, p ≤ j → j < e → q j = true) (h4 : q e = false) : run q N p = e := by
  have a1 := run_ge q N p
  have a3 : q (run q N p) = false := run_out (by omega) hN
  rcases Nat.lt_trichotomy (run q N p) e with y | y | y
  · rw [h3 _ a1 y] at a3; exact absurd a3 (by decide)
  · exact y
  · rw [run_in q h1 y] at h4; exact absurd h4 (by decide)
theorem run_step {q : Nat → Bool} {N p : Nat} (hN : q N = false) (hp : p < N) (h : q p = true) : run q N (p + 1) = run q N p := by
  have a3 : q (run q N p) = false := run_out (by omega) hN
  refine run_eq hN ?_ (run_le q (by omega)) (fun j j1 j2 => run_in q (by omega) j2) a3
  have a1 := run_ge q N p
  by_cases e : run q N p = p
  · rw [e, h] at a3; exact absurd a3 (by decide)
  · omega
theorem run_stop {q : Nat → Bool} {N p : Nat} (hN : q N = false) (hp : p ≤ N) (h : q p = false) : run q N p = p := run_eq hN (Nat.le_refl _) hp (fun j j1 j2 => absurd j2 (Nat.not_lt.mpr j1)) h
/-- a byte of the tape; 256 behind its end -/
def tb (N : Nat) (T : Nat → Int32) (i : Nat) : Nat := if i < N then (T i).toNatClampNeg else 256
abbrev cDig (c : Nat) : Prop := 48 ≤ c ∧ c ≤ 57
abbrev cWs (c : Nat) : Prop := c = 32 ∨ c = 10
def qWs (N : Nat) (T : Nat → Int32) (i : Nat) : Bool := decide (cWs (tb N T i))
def qLet (N : Nat) (T : Nat → Int32) (i : Nat) : Bool := decide (cLet (tb N T i))
def qDig (N : Nat) (T : Nat → Int32) (i : Nat) : Bool := decide (cDig (tb N T i))
theorem tb_in {N : Nat} {T : Nat → Int32} (h : tpOk N T) {i : Nat} (hi : i < N) : T i = nI (tb N T i) ∧ tb N T i < 256 := by
  obtain ⟨k, hk, e⟩ := h.2 i hi
  unfold tb
  rw [if_pos hi, e, nc (by omega)]
  exact ⟨rfl, hk⟩
theorem tb_out {N : Nat} {T : Nat → Int32} {i : Nat} (hi : N ≤ i) : tb N T i = 256 := if_neg (Nat.not_lt.mpr hi)
theorem qWs_N (N : Nat) (T : Nat → Int32) : qWs N T N = false := by unfold qWs; rw [tb_out (Nat.le_refl _)]; decide
theorem qLet_N (N : Nat) (T : Nat → Int32) : qLet N T N = false := by unfold qLet; rw [tb_out (Nat.le_refl _)]; decide
theorem qDig_N (N : Nat) (T : Nat → Int32) : qDig N T N = false := by unfold qDig; rw [tb_out (Nat.le_refl _)]; decide
/-- what kind a sign is -/
def sgn (c : Nat) : Nat := if c = 59 then 4 else if c = 40 then 5 else if c = 41 then 6 else if c = 60 then 7 else if c = 62 then 8 else if c = 61 then 9 else if c = 43 then 10 else if c = 45 then 11 else if c = 42 then 12 else if c = 47 then 13 else if c = 37 then 14 else 1
/-- the words of the document, as the reference packs them -/
def wd (i : Nat) : Nat := if i = 0 then 0x76696c6c616765 else if i = 1 then 0x776179 else if i = 2 then 0x62696572 else if i = 3 then 0x6c6574746572 else if i = 4 then 0x77616974 else if i = 5 then 0x77696e746572 else if i = 6 then 0x66726f6d else if i = 7 then 0x746f else if i = 8 then 0x6f6e else if i = 9 then 0x686f6c6473 else if i = 10 then 0x6174 else if i = 11 then 0x6279 else if i = 12 then 0x776f727468 else if i = 13 then 0x6f72 else if i = 14 then 0x616e64 else if i = 15 then 0x6e6f74 else if i = 16 then 0x646179 else if i = 17 then 0x77617973 else 0x72657374
/-- the place among the words, 19 for none -/
def wdF (x : Nat) : Nat → Nat
  | 0 => 19
  | k + 1 => if x = wd (18 - k) then 18 - k else wdF x k
def kwd (x : Nat) : Nat := if wdF x 19 = 19 then 2 else 15 + wdF x 19
/-- the sort of the reference -/
def srt (k : Nat) : Nat := if k = 0 then 0 else if k = 1 then 3 else if k = 2 then 1 else if k = 3 then 2 else if k = 4 then 59 else if k = 5 then 40 else if k = 6 then 41 else if k = 7 then 60 else if k = 8 then 62 else if k = 9 then 61 else if k = 10 then 43 else if k = 11 then 45 else if k = 12 then 42 else if k = 13 then 47 else if k = 14 then 37 else 1
def dN (f : Nat → Nat) : Nat → Nat
  | 0 => 0
  | k + 1 => dN f k * 10 + (f k - 48)
/-- the token from p on: where it begins, its kind, what it says, what lies behind it -/
def tkS (N : Nat) (T : Nat → Int32) (p : Nat) : Nat := run (qWs N T) N p
def tkL (N : Nat) (T : Nat → Int32) (p : Nat) : Nat := run (qLet N T) N (tkS N T p)
def tkD (N : Nat) (T : Nat → Int32) (p : Nat) : Nat := run (qDig N T) N (tkS N T p)
def tkB (N : Nat) (T : Nat → Int32) (p i : Nat) : Nat := tb N T (tkS N T p + i)
def tkW (b o N : Nat) (T : Nat → Int32) (p : Nat) : Nat := pkW b o (tkB N T p) (tkL N T p - tkS N T p)
def tkC (N : Nat) (T : Nat → Int32) (p : Nat) : Nat := tb N T (tkS N T p)
def tkK (N : Nat) (T : Nat → Int32) (p : Nat) : Nat :=
  if tkC N T p = 256 then 0
  else if cLet (tkC N T p) then (if tkL N T p - tkS N T p ≤ 8 then kwd (tkW 256 0 N T p) else 1)
  else if cDig (tkC N T p) then (if tkD N T p - tkS N T p ≤ 4 ∧ ¬ cLet (tb N T (tkD N T p)) then 3 else 1)
  else sgn (tkC N T p)
def tkV (N : Nat) (T : Nat → Int32) (p : Nat) : Nat := if cLet (tkC N T p) then tkW 256 0 N T p else dN (tkB N T p) (tkD N T p - tkS N T p)
def tkE (N : Nat) (T : Nat → Int32) (p : Nat) : Nat :=
  if tkC N T p = 256 then tkS N T p
  else if cLet (tkC N T p) then tkL N T p
  else if cDig (tkC N T p) then tkD N T p
  else tkS N T p + 1
theorem kwd_ge (x : Nat) : kwd x = 2 ∨ (15 ≤ kwd x ∧ kwd x ≤ 33) := by
  have key : ∀ k, k ≤ 19 → wdF x k = 19 ∨ wdF x k ≤ 18 := by
    intro k
    induction k with
    | zero => intro _; exact Or.inl rfl
    | succ k ih =>
      intro h
      unfold wdF
      split
      · exact Or.inr (by omega)
      · exact ih (by omega)
  unfold kwd
  split
  · exact Or.inl rfl
  · next h => rcases key 19 (Nat.le_refl _) with y | y <;> omega
theorem sgn_no {c : Nat} (h : cLet c ∨ cDig c ∨ c = 256 ∨ cWs c) : sgn c = 1 := by
  unfold sgn
  have e : ¬ c = 59 ∧ ¬ c = 40 ∧ ¬ c = 41 ∧ ¬ c = 60 ∧ ¬ c = 62 ∧ ¬ c = 61 ∧ ¬ c = 43 ∧ ¬ c = 45 ∧ ¬ c = 42 ∧ ¬ c = 47 ∧ ¬ c = 37 := by omega
  obtain ⟨e1, e2, e3, e4, e5, e6, e7, e8, e9, e10, e11⟩ := e
  rw [if_neg e1, if_neg e2, if_neg e3, if_neg e4, if_neg e5, if_neg e6, if_neg e7, if_neg e8, if_neg e9, if_neg e10, if_neg e11]
abbrev isSg (c : Nat) : Prop := c = 59 ∨ c = 40 ∨ c = 41 ∨ c = 60 ∨ c = 62 ∨ c = 61 ∨ c = 43 ∨ c = 45 ∨ c = 42 ∨ c = 47 ∨ c = 37
theorem sgn_yes {c : Nat} (h : isSg c) : srt (sgn c) = c ∧ 4 ≤ sgn c ∧ sgn c ≤ 14 := by
  rcases h with h | h | h | h | h | h | h | h | h | h | h <;> subst h <;> decide
theorem sgn_not {c : Nat} (h : ¬ isSg c) : sgn c = 1 := by
  unfold sgn
  have e : ¬ c = 59 ∧ ¬ c = 40 ∧ ¬ c = 41 ∧ ¬ c = 60 ∧ ¬ c = 62 ∧ ¬ c = 61 ∧ ¬ c = 43 ∧ ¬ c = 45 ∧ ¬ c = 42 ∧ ¬ c = 47 ∧ ¬ c = 37 := by omega
  obtain ⟨e1, e2, e3, e4, e5, e6, e7, e8, e9, e10, e11⟩ := e
  rw [if_neg e1, if_neg e2, if_neg e3, if_neg e4, if_neg e5, if_neg e6, if_neg e7, if_neg e8, if_neg e9, if_neg e10, if_neg e11]
theorem kwd_srt (x : Nat) : srt (kwd x) = 1 := by
  rcases kwd_ge x with h | ⟨h1, h2⟩
  · rw [h]; rfl
  · unfold srt
    rw [if_neg (by omega), if_neg (by omega), if_neg (by omega), if_neg (by omega), if_neg (by omega), if_neg (by omega), if_neg (by omega), if_neg (by omega), if_neg (by omega), if_neg (by omega), if_neg (by omega), if_neg (by omega), if_neg (by omega), if_neg (by omega), if_neg (by omega)]
theorem tkS_le {N p : Nat} {T : Nat → Int32} (h : p ≤ N) : tkS N T p ≤ N := run_le _ h
theorem tkS_ge (N p : Nat) (T : Nat → Int32) : p ≤ tkS N T p := run_ge _ _ _
theorem tkE_le {N p : Nat} {T : Nat → Int32} (h : p ≤ N) : tkE N T p ≤ N := by
  have h1 := tkS_le (T := T) h
  unfold tkE
  split
  · exact h1
  · next hc =>
    split
    · exact run_le _ h1
    · split
      · exact run_le _ h1
      · by_cases e : tkS N T p < N
        · omega
        · exact absurd (tb_out (by omega)) hc
theorem tkE_gt {N p : Nat} {T : Nat → Int32} (h : p ≤ N) (hk : ¬ tkK N T p = 0) : tkS N T p < tkE N T p := by
  have h1 := tkS_le (T := T) h
  have hc : ¬ tkC N T p = 256 := fun z => hk (if_pos z)
  unfold tkE
  rw [if_neg hc]
  split
  · next hl =>
    have a3 : qLet N T (tkL N T p) = false := run_out h1 (qLet_N N T)
    have a1 : tkS N T p ≤ tkL N T p := run_ge _ _ _
    by_cases e : tkL N T p = tkS N T p
    · rw [e] at a3
      have : qLet N T (tkS N T p) = true := decide_eq_true hl
      rw [this] at a3; exact absurd a3 (by decide)
    · omega
  · split
    · next hl =>
      have a3 : qDig N T (tkD N T p) = false := run_out h1 (qDig_N N T)
      have a1 : tkS N T p ≤ tkD N T p := run_ge _ _ _
      by_cases e : tkD N T p = tkS N T p
      · rw [e] at a3
        have : qDig N T (tkS N T p) = true := decide_eq_true hl
        rw [this] at a3; exact absurd a3 (by decide)
      · omega
    · omega
theorem sgn_pos (c : Nat) : ¬ sgn c = 0 := by
  by_cases h : isSg c
  · have := sgn_yes h; omega
  · rw [sgn_not h]; decide
theorem tkK_0 {N p : Nat} {T : Nat → Int32} (ok : tpOk N T) (h : p ≤ N) : tkK N T p = 0 ↔ tkS N T p = N := by
  have h1 := tkS_le (T := T) h
  constructor
  · intro z
    refine Classical.byContradiction (fun e => ?_)
    have hc : ¬ tkC N T p = 256 := fun y => by
      have := (tb_in ok (show tkS N T p < N by omega)).2
      unfold tkC at y; omega
    unfold tkK at z
    rw [if_neg hc] at z
    split at z
    · split at z
      · rcases kwd_ge (tkW 256 0 N T p) with y | y <;> omega
      · omega
    · split at z
      · split at z <;> omega
      · exact sgn_pos _ z
  · intro z
    unfold tkK tkC
    rw [z, tb_out (Nat.le_refl _), if_pos rfl]
theorem tkS_ws {N p : Nat} {T : Nat → Int32} (h : p ≤ N) : ¬ cWs (tkC N T p) := by
  have a3 : qWs N T (tkS N T p) = false := run_out h (qWs_N N T)
  exact fun z => by
    have : qWs N T (tkS N T p) = true := decide_eq_true z
    rw [this] at a3; exact absurd a3 (by decide)
