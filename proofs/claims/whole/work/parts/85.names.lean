/-! NAMES that were told: by the numbers of their tokens -/
/-- which of the first k names is the word of token j; 100 for none -/
def fd (N : Nat) (T : Nat → Int32) (nm : Nat → Nat) (j : Nat) : Nat → Nat
  | 0 => 100
  | k + 1 => if kV N T (nm k) = kV N T j then k else fd N T nm j k
def aFd (x : Nat) : Int32 := if x = 100 then -1 else nI x
def nmOk (N : Nat) (T : Nat → Int32) (nm : Nat → Nat) (n : Nat) : Prop := n ≤ 8 ∧ (∀ i, i < n → kK N T (nm i) = 2) ∧ ∀ i j, i < j → j < n → ¬ kV N T (nm i) = kV N T (nm j)
/-- the names as the class keeps them at o, and as the reference does from b on -/
def cNm (N : Nat) (T : Nat → Int32) (o : Nat) (nm : Nat → Nat) (n : Nat) (u : xU) (w : xW) : Prop := u o 1 = nI n ∧ ∀ i, i < n → w (o + 1) i = lN (tkW 27 96 N T (ps N T (nm i)))
def rNm (N : Nat) (T : Nat → Int32) (b : Nat) (nm : Nat → Nat) (n : Nat) (w : xW) : Prop := ∀ i, i < n → w 657 (b + i) = lN (kV N T (nm i))
theorem fd_or {N : Nat} {T : Nat → Int32} {nm : Nat → Nat} {j : Nat} : ∀ k, (fd N T nm j k = 100 ∧ ∀ i, i < k → ¬ kV N T (nm i) = kV N T j) ∨ (fd N T nm j k < k ∧ kV N T (nm (fd N T nm j k)) = kV N T j) := by
  intro k
  induction k with
  | zero => exact Or.inl ⟨rfl, fun i hi => absurd hi (Nat.not_lt_zero _)⟩
  | succ k ih =>
    by_cases q : kV N T (nm k) = kV N T j
    · have e : fd N T nm j (k + 1) = k := by rw [fd, if_pos q]
      rw [e]
      exact Or.inr ⟨by omega, q⟩
    · have e : fd N T nm j (k + 1) = fd N T nm j k := by rw [fd, if_neg q]
      rw [e]
      rcases ih with ⟨a1, a2⟩ | ⟨a1, a2⟩
      · refine Or.inl ⟨a1, fun i hi => ?_⟩
        by_cases y : i = k
        · subst y; exact q
        · exact a2 i (by omega)
      · exact Or.inr ⟨by omega, a2⟩
theorem fd_le {N : Nat} {T : Nat → Int32} {nm : Nat → Nat} {j k : Nat} (hk : k ≤ 8) : fd N T nm j k = 100 ∨ fd N T nm j k < 8 := by
  rcases fd_or (N := N) (T := T) (nm := nm) (j := j) k with ⟨a1, a2⟩ | ⟨a1, a2⟩ <;> omega
/-- a name's letters -/
theorem name_word {N p : Nat} {T : Nat → Int32} (h : tkK N T p = 2) : cLet (tkC N T p) ∧ tkL N T p - tkS N T p ≤ 8 ∧ tkV N T p = tkW 256 0 N T p := by
  by_cases c0 : tkC N T p = 256
  · have eK : tkK N T p = 0 := if_pos c0
    omega
  · by_cases cl : cLet (tkC N T p)
    · have eK : tkK N T p = if tkL N T p - tkS N T p ≤ 8 then kwd (tkW 256 0 N T p) else 1 := by unfold tkK; rw [if_neg c0, if_pos cl]
      by_cases q : tkL N T p - tkS N T p ≤ 8
      · exact ⟨cl, q, if_pos cl⟩
      · rw [eK, if_neg q] at h; omega
    · by_cases cd : cDig (tkC N T p)
      · have eK : tkK N T p = if tkD N T p - tkS N T p ≤ 4 ∧ ¬ cLet (tb N T (tkD N T p)) then 3 else 1 := by unfold tkK; rw [if_neg c0, if_neg cl, if_pos cd]
        by_cases q : tkD N T p - tkS N T p ≤ 4 ∧ ¬ cLet (tb N T (tkD N T p))
        · rw [eK, if_pos q] at h; omega
        · rw [eK, if_neg q] at h; omega
      · have eK : tkK N T p = sgn (tkC N T p) := by unfold tkK; rw [if_neg c0, if_neg cl, if_neg cd]
        by_cases q : isSg (tkC N T p)
        · have := sgn_yes q; omega
        · rw [eK, sgn_not q] at h; omega
theorem name_same {N : Nat} {T : Nat → Int32} {p p' : Nat} (h : tkK N T p = 2) (h' : tkK N T p' = 2) : lN (tkW 27 96 N T p) = lN (tkW 27 96 N T p') ↔ tkV N T p = tkV N T p' := by
  obtain ⟨a1, a2, a3⟩ := name_word h
  obtain ⟨b1, b2, b3⟩ := name_word h'
  have l1 : ∀ i, i < tkL N T p - tkS N T p → cLet (tkB N T p i) := fun i hi => tb_let (p := p) (by omega) (by omega)
  have l2 : ∀ i, i < tkL N T p' - tkS N T p' → cLet (tkB N T p' i) := fun i hi => tb_let (p := p') (by omega) (by omega)
  have s1 : tkW 27 96 N T p < 2 ^ 64 := pkW_8 (by omega) (by omega) a2 (fun i hi => by have := l1 i hi; omega)
  have s2 : tkW 27 96 N T p' < 2 ^ 64 := pkW_8 (by omega) (by omega) b2 (fun i hi => by have := l2 i hi; omega)
  rw [lN_inj s1 s2, a3, b3]
  exact pkW_same l1 l2
/-- a village that was told, another one than x -/
def pVil (N : Nat) (T : Nat → Int32) (nm : Nat → Nat) (n x : Nat) (c : pC) : pC := if pSee N T 2 c then (if fd N T nm c.1 n = 100 then pFail N T 5 c else if fd N T nm c.1 n = x then pFail N T 3 c else pAdv c) else pFail N T 2 c
def pOld (N : Nat) (T : Nat → Int32) (nm : Nat → Nat) (n : Nat) (c : pC) : pC := if pSee N T 2 c then (if fd N T nm c.1 n = 100 then pFail N T 5 c else c) else pFail N T 2 c
section NAMES
variable {g : xGT} {d : Nat} {w : xW} {r : xQ} {N : Nat} {T : Nat → Int32} {c : pC} {nm : Nat → Nat} {n : Nat}
theorem K_find_2 {u : xU} {P : xPost} {o m j : Nat} (h_n : xNm o m) (q_n : xNr o r) (hm : m ≤ 8) (hn : n ≤ m) (hok : nmOk N T nm n) (hc : cNm N T o nm n u w) (hj : kK N T j = 2) (kk : P (some (.int (aFd (fd N T nm j n)))) u w r) : ∀ k i, k + i = n → (∀ i', i' < i → ¬ kV N T (nm i') = kV N T j) →
    xEv g d mX5_find 2 [some (.ref o), some (.long (lN (tkW 27 96 N T (ps N T j)))), none, some (.int (nI i))] [] 698 u w r 698 P := by
  intro k
  induction k with
  | zero =>
    intro i hi hb
    have ei : i = n := by omega
    subst ei
    refine TX5_find_2 h_n q_n (brT (by rw [hc.1]; exact nI_le (Nat.le_refl _) (by omega)) ?_)
    rcases fd_or (N := N) (T := T) (nm := nm) (j := j) i with ⟨a1, a2⟩ | ⟨a1, a2⟩
    · rw [a1] at kk; exact kk
    · exact absurd a2 (hb _ a1)
  | succ k ih =>
    intro i hi hb
    refine TX5_find_2 h_n q_n (brF (by rw [hc.1]; exact nI_ge (by omega) (by omega)) ⟨vpn (by omega) (by omega), ?_⟩)
    rw [nc (by omega), hc.2 i (by omega), lg_cmp_eq, name_same (hok.2.1 i (by omega)) hj]
    by_cases q : kV N T (nm i) = kV N T j
    · refine brT q ?_
      have e : fd N T nm j n = i := by
        rcases fd_or (N := N) (T := T) (nm := nm) (j := j) n with ⟨a1, a2⟩ | ⟨a1, a2⟩
        · exact absurd q (a2 i (by omega))
        · rcases Nat.lt_trichotomy (fd N T nm j n) i with y | y | y
          · exact absurd a2 (hb _ y)
          · exact y
          · exact absurd (q.trans a2.symm) (hok.2.2 i _ y a1)
      rw [e] at kk
      unfold aFd at kk
      rw [if_neg (by have := hok.1; omega)] at kk
      exact kk
    · refine brF q ?_
      rw [nI_one]
      refine ih (i + 1) (by omega) (fun i' hi' => ?_)
      by_cases y : i' = i
      · subst y; exact q
      · exact hb i' (by omega)
theorem K_find {u : xU} {o m j : Nat} (h_n : xNm o m) (q_n : xNr o r) (hm : m ≤ 8) (hn : n ≤ m) (hok : nmOk N T nm n) (hc : cNm N T o nm n u w) (hj : kK N T j = 2) : xCall g d mX5_find [.ref o, .long (lN (tkW 27 96 N T (ps N T j)))] 698 u w r 698 (xPr (aFd (fd N T nm j n)) u w r) :=
  CX5_find (K_find_2 (i := 0) (k := n) h_n q_n hm hn hok hc hj ⟨rfl, rfl, rfl, rfl⟩ rfl (fun i' hi' => absurd hi' (Nat.not_lt_zero _)))
theorem R_find {u : xU} {b j : Nat} (hr : xRf r) (ok : tpOk N T) (hb : b + n ≤ 21) (hn8 : n ≤ 8) (hok : nmOk N T nm n) (hc : rNm N T b nm n w) (hj : kK N T j = 2) (hw : w 655 9 = lN (kV N T j)) : xCall g d mX12_find [.ref 655, .int (nI b), .int (nI n)] 698 u w r 698 (xPr (aFd (fd N T nm j n)) u w r) := by
  refine CX12_find ?_
  refine xlq (N := n) (G := fun k => xEv g d mX12_find 5 [some (.ref 655), some (.int (nI b)), some (.int (nI n)), some (.int (aFd (fd N T nm j k))), some (.int (nI k))] [] 698 u w r 698 _) ?_ ?_
  · exact TX12_find_5 hr (brT (nI_le (Nat.le_refl _) (by omega)) ⟨rfl, rfl, rfl, rfl⟩)
  · intro k hk kk
    refine TX12_find_5 hr (brF (nI_ge (by omega) (by omega)) ⟨by rw [nI_add]; exact vpn (by omega) (by omega), ?_⟩)
    have k2 := hok.2.1 k hk
    have w1 : kV N T (nm k) < 2 ^ 64 := (tk_word ok (ps_le N T (nm k)) (srt_one.2 (Or.inl k2))).2
    have w2 : kV N T j < 2 ^ 64 := (tk_word ok (ps_le N T j) (srt_one.2 (Or.inl hj))).2
    rw [nI_add, nc (by omega), hc k hk, hw, nI_one]
    have e : lg_cmp (lN (kV N T (nm k))) (lN (kV N T j)) = 0 ↔ kV N T (nm k) = kV N T j := by rw [lg_cmp_eq, lN_inj w1 w2]
    by_cases q : kV N T (nm k) = kV N T j
    · have ef : fd N T nm j (k + 1) = k := by rw [fd, if_pos q]
      rw [ef] at kk
      rw [if_pos (e.2 q)]
      unfold aFd at kk
      rw [if_neg (by omega)] at kk
      exact kk
    · have ef : fd N T nm j (k + 1) = fd N T nm j k := by rw [fd, if_neg q]
      rw [ef] at kk
      rw [if_neg (fun z => q (e.1 z))]
      exact kk
theorem aFd_m1 {x : Nat} (h : x = 100 ∨ x < 8) : aFd x = -1 ↔ x = 100 := by
  unfold aFd
  by_cases q : x = 100
  · rw [if_pos q]; exact ⟨fun _ => q, fun _ => rfl⟩
  · rw [if_neg q]
    exact ⟨fun z => by have := nI_nn (k := x) (by omega); rw [z] at this; exact absurd m1_neg this, fun z => absurd z q⟩
theorem aFd_neg {x : Nat} (h : x = 100 ∨ x < 8) : aFd x < 0 ↔ x = 100 := by
  unfold aFd
  by_cases q : x = 100
  · rw [if_pos q]; exact ⟨fun _ => q, fun _ => m1_neg⟩
  · rw [if_neg q]; exact ⟨fun z => absurd z (nI_nn (by omega)), fun z => absurd z q⟩
theorem K_readVillage {u : xU} {M x : Nat} {i1 : Int32} (hr : xRf r) (ok : tpOk N T) (h : cP N T M c u w) (hn : n ≤ 7) (hok : nmOk N T nm n) (hc : cNm N T 16 nm n u w) (hx : x = 100 ∨ x < 8) (hi : c.2.1 = 0 → i1 = aFd x) : xCall g (d + 2) mX7_readVillage [.ref 9, .int i1] 698 u w r 698 (fun rv u' w' r' => ∃ v : Int32, rv = some (.int v) ∧ w = w' ∧ r = r' ∧ ((pVil N T nm n x c).2.1 = 0 → v = nI (fd N T nm c.1 n) ∧ fd N T nm c.1 n < n ∧ ¬ fd N T nm c.1 n = x) ∧ cP N T M (pVil N T nm n x c) u' w ∧ xSn fPc u u') := by
  have n16 := ok.1
  have m1 := h.1.1
  have a1 := h.2.1
  refine CX7_readVillage hr (xPr.use (K_sees (k := 2) hr ok h (by omega)) ⟨_, rfl, rfl, rfl, rfl, ?_⟩)
  unfold pVil
  by_cases q : pSee N T 2 c
  · rw [if_pos q]
    refine brF (by rw [xb_pos q]; decide) ?_
    rw [h.2.2.2.1]
    refine K_valueAt hr h.1.2.2.2.1 (by omega) (by omega) ⟨_, rfl, rfl, rfl, rfl, ?_⟩
    rw [(h.1.2.2.2.2 c.1 h.2.1).2.2.1 q.2]
    have f8 := fd_le (N := N) (T := T) (nm := nm) (j := c.1) (show n ≤ 8 by omega)
    refine xPr.use (K_find nm16 (nr16 hr) (by omega) (by omega) hok hc q.2) ⟨_, rfl, rfl, rfl, rfl, ?_⟩
    rw [aFd_m1 f8]
    by_cases q2 : fd N T nm c.1 n = 100
    · rw [if_pos q2]
      exact brT q2 (xVd.use (K_fail (x := 5) hr ok h (by omega)) (fun u1 h1 => ⟨rfl, rfl, rfl, _, rfl, rfl, rfl, fun z => absurd z (pFail_0 (by omega)), h1⟩))
    · rw [if_neg q2]
      refine brF q2 ?_
      rw [hi q.1]
      have e : aFd (fd N T nm c.1 n) = aFd x ↔ fd N T nm c.1 n = x := by
        refine ⟨fun z => ?_, fun z => by rw [z]⟩
        have ex : ¬ x = 100 := fun y => by
          rw [y] at z
          exact q2 ((aFd_m1 f8).1 (z.trans rfl))
        unfold aFd at z
        rw [if_neg q2, if_neg ex] at z
        exact (eq_nI (by omega) (by omega)).1 z
      rw [e]
      by_cases q3 : fd N T nm c.1 n = x
      · rw [if_pos q3]
        exact brT q3 (xVd.use (K_fail (x := 3) hr ok h (by omega)) (fun u1 h1 => ⟨rfl, rfl, rfl, _, rfl, rfl, rfl, fun z => absurd z (pFail_0 (by omega)), h1⟩))
      · rw [if_neg q3]
        have fl : fd N T nm c.1 n < n := by
          rcases fd_or (N := N) (T := T) (nm := nm) (j := c.1) n with ⟨y1, y2⟩ | ⟨y1, y2⟩
          · exact absurd y1 q2
          · exact y1
        refine brF q3 ⟨_, rfl, rfl, rfl, fun _ => ⟨if_neg q2, fl, q3⟩, ?_⟩
        have := h.adv (by rw [q.2]; decide)
        rw [h.2.2.2.1] at this
        exact this
  · rw [if_neg q]
    exact brT (xb_neg q) (xVd.use (K_fail (x := 2) hr ok h (by omega)) (fun u1 h1 => ⟨rfl, rfl, rfl, _, rfl, rfl, rfl, fun z => absurd z (pFail_0 (by omega)), h1⟩))
theorem R_oldVillage {u : xU} (hr : xRf r) (ok : tpOk N T) (h : rP N T c u w) (hn : n ≤ 7) (h43 : u 655 43 = nI n) (hok : nmOk N T nm n) (hc : rNm N T 0 nm n w) : xCall g (d + 2) mX12_oldVillage [.ref 655] 698 u w r 698 (fun rv u' w' r' => ∃ v : Int32, rv = some (.int v) ∧ w = w' ∧ r = r' ∧ ((pOld N T nm n c).2.1 = 0 → v = nI (fd N T nm c.1 n) ∧ fd N T nm c.1 n < n) ∧ rP N T (pOld N T nm n c) u' w ∧ xSn fPr u u') := by
  refine CX12_oldVillage ?_
  rw [h.2.2.2.1, f9_le h.2.2.1]
  have f8 := fd_le (N := N) (T := T) (nm := nm) (j := c.1) (show n ≤ 8 by omega)
  by_cases q : c.2.1 = 0
  · refine brT q (xPr.use (R_isName h ok) ⟨_, rfl, rfl, rfl, rfl, ?_⟩)
    -- behind the tests
    have bad : ∀ (x : Nat) (u1 : xU), ¬ x = 0 → pOld N T nm n c = pFail N T x c → rP N T (pFail N T x c) u1 w → xSn fPr u u1 → xEv g (d + 2) mX12_oldVillage 41 [some (.ref 655)] [] 698 u1 w r 698 (fun rv u' w' r' => ∃ v : Int32, rv = some (.int v) ∧ w = w' ∧ r = r' ∧ ((pOld N T nm n c).2.1 = 0 → v = nI (fd N T nm c.1 n) ∧ fd N T nm c.1 n < n) ∧ rP N T (pOld N T nm n c) u' w ∧ xSn fPr u u') := by
      intro x u1 hx ep h1 f1
      refine TX12_oldVillage_41 ?_
      rw [h1.2.2.2.1, f9_le h1.2.2.1]
      refine brF (pFail_0 hx) ⟨_, rfl, rfl, rfl, fun z => ?_, by rw [ep]; exact h1, f1⟩
      rw [ep] at z
      exact absurd z (pFail_0 hx)
    by_cases q2 : kK N T c.1 = 2
    · have hw : w 655 9 = lN (kV N T c.1) := h.2.1.2.2.1 (srt_one.2 (Or.inl q2))
      have find : ∀ u1 : xU, xCall g (d + 1) mX12_find [.ref 655, .int (0 : Int32), .int (nI n)] 698 u1 w r 698 (xPr (aFd (fd N T nm c.1 n)) u1 w r) := fun u1 => R_find (b := 0) hr ok (by omega) (by omega) hok hc q2 hw
      refine brF (by rw [xb_pos q2]; decide) ?_
      rw [h43]
      refine xPr.use (find u) ⟨_, rfl, rfl, rfl, rfl, ?_⟩
      have e0 : 0 ≤ aFd (fd N T nm c.1 n) ↔ ¬ fd N T nm c.1 n = 100 := by rw [← aFd_neg f8, Int32.not_lt]
      rw [e0]
      by_cases q3 : fd N T nm c.1 n = 100
      · have ep : pOld N T nm n c = pFail N T 5 c := by unfold pOld; rw [if_pos ⟨q, q2⟩, if_pos q3]
        exact brF (fun z => z q3) (xVd.use (R_wrong (x := 5) h (by omega)) (fun u1 h1 => ⟨rfl, rfl, rfl, bad 5 u1 (by omega) ep h1.1 h1.2⟩))
      · have ep : pOld N T nm n c = c := by unfold pOld; rw [if_pos ⟨q, q2⟩, if_neg q3]
        refine brT q3 (TX12_oldVillage_41 ?_)
        rw [h.2.2.2.1, f9_le h.2.2.1, h43]
        have fl : fd N T nm c.1 n < n := by
          rcases fd_or (N := N) (T := T) (nm := nm) (j := c.1) n with ⟨y1, y2⟩ | ⟨y1, y2⟩
          · exact absurd y1 q3
          · exact y1
        exact brT q (xPr.use (find u) ⟨_, rfl, rfl, rfl, rfl, _, rfl, rfl, rfl, fun _ => ⟨if_neg q3, fl⟩, by rw [ep]; exact h, xSn.rf⟩)
    · have ep : pOld N T nm n c = pFail N T 2 c := by unfold pOld; rw [if_neg (fun z => q2 z.2)]
      exact brT (xb_neg q2) (xVd.use (R_wrong (x := 2) h (by omega)) (fun u1 h1 => ⟨rfl, rfl, rfl, bad 2 u1 (by omega) ep h1.1 h1.2⟩))
  · have ep : pOld N T nm n c = c := by unfold pOld; rw [if_neg (fun z => q z.1), pFail_f q]
    refine brF q ⟨_, rfl, rfl, rfl, fun z => ?_, by rw [ep]; exact h, xSn.rf⟩
    rw [ep] at z
    exact absurd z q
end NAMES
