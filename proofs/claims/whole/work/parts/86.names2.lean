/-! NAMES that are told: new ones; villages behind a word -/
def pNew (N : Nat) (T : Nat → Int32) (nm : Nat → Nat) (n : Nat) (c : pC) : pC := if pSee N T 2 c then (if fd N T nm c.1 n = 100 then pAdv c else pFail N T 3 c) else pFail N T 2 c
def nmAdd (nm : Nat → Nat) (n j : Nat) : Nat → Nat := fun i => if i = n then j else nm i
theorem nmAdd_same (nm : Nat → Nat) (n j : Nat) : nmAdd nm n j n = j := if_pos rfl
theorem nmAdd_ne (nm : Nat → Nat) {n i : Nat} (j : Nat) (h : ¬ i = n) : nmAdd nm n j i = nm i := if_neg h
theorem pNew_ok {N : Nat} {T : Nat → Int32} {nm : Nat → Nat} {n : Nat} {c : pC} (h : (pNew N T nm n c).2.1 = 0) : pSee N T 2 c ∧ fd N T nm c.1 n = 100 ∧ pNew N T nm n c = pAdv c := by
  unfold pNew at h ⊢
  by_cases q : pSee N T 2 c
  · rw [if_pos q] at h ⊢
    by_cases q2 : fd N T nm c.1 n = 100
    · rw [if_pos q2]; exact ⟨q, q2, rfl⟩
    · rw [if_neg q2] at h; exact absurd h (pFail_0 (by omega))
  · rw [if_neg q] at h; exact absurd h (pFail_0 (by omega))
theorem nmOk.add {N : Nat} {T : Nat → Int32} {nm : Nat → Nat} {n : Nat} {c : pC} (h : nmOk N T nm n) (hn : n < 8) (hq : (pNew N T nm n c).2.1 = 0) : nmOk N T (nmAdd nm n c.1) (n + 1) := by
  obtain ⟨q1, q2, -⟩ := pNew_ok hq
  refine ⟨by omega, fun i hi => ?_, fun i j hij hj => ?_⟩
  · by_cases y : i = n
    · rw [y, nmAdd_same]; exact q1.2
    · rw [nmAdd_ne _ _ y]; exact h.2.1 i (by omega)
  · rw [nmAdd_ne _ _ (show ¬ i = n by omega)]
    by_cases y : j = n
    · rw [y, nmAdd_same]
      rcases fd_or (N := N) (T := T) (nm := nm) (j := c.1) n with ⟨a1, a2⟩ | ⟨a1, a2⟩
      · exact a2 i (by omega)
      · have := h.1; omega
    · rw [nmAdd_ne _ _ y]; exact h.2.2 i j hij (by omega)
theorem pOld_0 {N : Nat} {T : Nat → Int32} {nm : Nat → Nat} {n x : Nat} {c : pC} (h : (pOld N T nm n c).2.1 = 0) : pOld N T nm n c = c ∧ kK N T c.1 = 2 ∧ pVil N T nm n x c = if fd N T nm c.1 n = x then pFail N T 3 c else pAdv c := by
  unfold pOld at h
  by_cases q : pSee N T 2 c
  · rw [if_pos q] at h
    by_cases q2 : fd N T nm c.1 n = 100
    · rw [if_pos q2] at h; exact absurd h (pFail_0 (by omega))
    · unfold pOld pVil
      rw [if_pos q, if_neg q2, if_pos q, if_neg q2]
      exact ⟨rfl, q.2, rfl⟩
  · rw [if_neg q] at h; exact absurd h (pFail_0 (by omega))
theorem pOld_1 {N : Nat} {T : Nat → Int32} {nm : Nat → Nat} {n x : Nat} {c : pC} (h : ¬ (pOld N T nm n c).2.1 = 0) : pVil N T nm n x c = pOld N T nm n c := by
  unfold pOld at h ⊢
  unfold pVil
  by_cases q : pSee N T 2 c
  · rw [if_pos q] at h ⊢
    rw [if_pos q]
    by_cases q2 : fd N T nm c.1 n = 100
    · rw [if_pos q2, if_pos q2]
    · rw [if_neg q2] at h; exact absurd q.1 h
  · rw [if_neg q, if_neg q]
section NAMES2
variable {g : xGT} {d : Nat} {w : xW} {r : xQ} {N : Nat} {T : Nat → Int32} {c : pC} {nm : Nat → Nat} {n : Nat}
theorem rNm.kept {b : Nat} {w' : xW} (h : rNm N T b nm n w) (f : wSn fTw w w') : rNm N T b nm n w' := fun i hi => by
  rw [f 657 (b + i) (by omega)]
  exact h i hi
theorem R_villageBy {u : xU} {P : xPost} {i : Nat} (hr : xRf r) (ok : tpOk N T) (h : rP N T c u w) (hi9 : i < 19) (hn : n ≤ 7) (h43 : u 655 43 = nI n) (hok : nmOk N T nm n) (hc : rNm N T 0 nm n w)
    (kk : ∀ v u' w', ((pVil N T nm n 100 (pWant N T (15 + i) c)).2.1 = 0 → v = nI (fd N T nm (pWant N T (15 + i) c).1 n) ∧ fd N T nm (pWant N T (15 + i) c).1 n < n) → rP N T (pVil N T nm n 100 (pWant N T (15 + i) c)) u' w' → xSn fPr u u' → wSn fTw w w' → P (some (.int v)) u' w' r) :
    xCall g (d + 3) mX12_villageBy [.ref 655, .long (lN (wd i))] 698 u w r 698 P := by
  refine CX12_villageBy (R_want hr ok h hi9 (fun u1 w1 y1 y2 y3 => ⟨rfl, rfl, ?_⟩))
  generalize pWant N T (15 + i) c = c1 at y1 kk
  refine xCall.mono (R_oldVillage (d := d) hr ok y1 hn ((y2 _ _ (by omega)).trans h43) hok (hc.kept y3)) (fun rv u2 w2 r2 q => ?_)
  obtain ⟨v, rfl, rfl, rfl, z1, z2, z3⟩ := q
  refine ⟨v, rfl, rfl, rfl, ?_⟩
  rw [z2.2.2.2.1, f9_0 z2.2.2.1]
  by_cases q : (pOld N T nm n c1).2.1 = 0
  · obtain ⟨e1, e2, e3⟩ := pOld_0 (x := 100) q
    obtain ⟨v1, v2⟩ := z1 q
    rw [if_neg (by omega)] at e3
    rw [e3] at kk
    refine brT q (R_adv hr ok z2 (by rw [e1, e2]; decide) (fun u' w' x1 x2 x3 => ⟨rfl, rfl, kk v u' w' (fun _ => ⟨v1, v2⟩) ?_ ((y2.tr z3).tr x2) (y3.tr x3)⟩))
    rw [e1] at x1
    exact x1
  · have e3 := pOld_1 (x := 100) q
    rw [e3] at kk
    exact brF q (kk v u2 w1 (fun z => absurd z q) z2 (y2.tr z3) y3)
theorem R_goalBut {u : xU} {P : xPost} {x : Nat} {i1 : Int32} (hr : xRf r) (ok : tpOk N T) (h : rP N T c u w) (hn : n ≤ 7) (h43 : u 655 43 = nI n) (hok : nmOk N T nm n) (hc : rNm N T 0 nm n w) (hx : x < 8) (hi : c.2.1 = 0 → i1 = nI x)
    (kk : ∀ v u' w', ((pVil N T nm n x (pWant N T 22 c)).2.1 = 0 → v = nI (fd N T nm (pWant N T 22 c).1 n) ∧ fd N T nm (pWant N T 22 c).1 n < n) → rP N T (pVil N T nm n x (pWant N T 22 c)) u' w' → xSn fPr u u' → wSn fTw w w' → P (some (.int v)) u' w' r) :
    xCall g (d + 3) mX12_goalBut [.ref 655, .int i1] 698 u w r 698 P := by
  refine CX12_goalBut (R_want (i := 7) hr ok h (by omega) (fun u1 w1 y1 y2 y3 => ⟨rfl, rfl, ?_⟩))
  have ew : ∀ k, (pWant N T k c).2.1 = 0 → c.2.1 = 0 := fun k z => by
    refine Classical.byContradiction (fun y => ?_)
    unfold pWant at z
    rw [if_neg (fun t => y t.1), pFail_f y] at z
    exact y z
  have hi' : (pWant N T 22 c).2.1 = 0 → i1 = nI x := fun z => hi (ew 22 z)
  have y1' : rP N T (pWant N T 22 c) u1 w1 := y1
  clear y1 ew
  generalize pWant N T 22 c = c1 at y1' kk hi'
  refine xCall.mono (R_oldVillage (d := d) hr ok y1' hn ((y2 _ _ (by omega)).trans h43) hok (hc.kept y3)) (fun rv u2 w2 r2 q => ?_)
  obtain ⟨v, rfl, rfl, rfl, z1, z2, z3⟩ := q
  refine ⟨v, rfl, rfl, rfl, ?_⟩
  rw [z2.2.2.2.1, f9_0 z2.2.2.1]
  by_cases q : (pOld N T nm n c1).2.1 = 0
  · obtain ⟨e1, e2, e3⟩ := pOld_0 (x := x) q
    obtain ⟨v1, v2⟩ := z1 q
    have c10 : c1.2.1 = 0 := by rw [e1] at q; exact q
    rw [e1] at z2
    have ev : v = i1 ↔ fd N T nm c1.1 n = x := by rw [v1, hi' c10, eq_nI (by omega) (by omega)]
    by_cases q2 : fd N T nm c1.1 n = x
    · rw [if_pos q2] at e3
      rw [e3] at kk
      refine brT ⟨q, ev.2 q2⟩ (xVd.use (R_wrong (x := 3) z2 (by omega)) (fun u3 h3 => ⟨rfl, rfl, rfl, TX12_goalBut_29 ?_⟩))
      rw [h3.1.2.2.2.1, f9_0 h3.1.2.2.1]
      exact brF (pFail_0 (by omega)) (kk v u3 w1 (fun z => absurd z (pFail_0 (by omega))) h3.1 ((y2.tr z3).tr h3.2) y3)
    · rw [if_neg q2] at e3
      rw [e3] at kk
      refine brF (fun z => q2 (ev.1 z.2)) (TX12_goalBut_29 ?_)
      rw [z2.2.2.2.1, f9_0 z2.2.2.1]
      exact brT c10 (R_adv hr ok z2 (by rw [e2]; decide) (fun u' w' x1 x2 x3 => ⟨rfl, rfl, kk v u' w' (fun _ => ⟨v1, v2⟩) x1 ((y2.tr z3).tr x2) (y3.tr x3)⟩))
  · have e3 := pOld_1 (x := x) q
    rw [e3] at kk
    refine brF (fun z => q z.1) (TX12_goalBut_29 ?_)
    rw [z2.2.2.2.1, f9_0 z2.2.2.1]
    exact brF q (kk v u2 w1 (fun z => absurd z q) z2 (y2.tr z3) y3)
theorem R_newName {u : xU} {P : xPost} {b : Nat} (hr : xRf r) (ok : tpOk N T) (h : rP N T c u w) (h1 : ¬ kK N T c.1 = 1) (hb : b + n + 1 ≤ 21) (hn : n < 8) (hok : nmOk N T nm n) (hc : rNm N T b nm n w)
    (kk : ∀ u' w', ((pNew N T nm n (pAdv c)).2.1 = 0 → rNm N T b (nmAdd nm n (c.1 + 1)) (n + 1) w') → rP N T (pNew N T nm n (pAdv c)) u' w' → xSn fPr u u' → wSn (fun b2 i => fTw b2 i ∨ (b2 = 657 ∧ i = b + n)) w w' → P none u' w' r) :
    xCall g (d + 3) mX12_newName [.ref 655, .int (nI b), .int (nI n)] 698 u w r 698 P := by
  refine CX12_newName (R_adv hr ok h h1 (fun u1 w1 y1 y2 y3 => ⟨rfl, rfl, ?_⟩))
  have c1a : (pAdv c).1 = c.1 + 1 := rfl
  have hc1 : rNm N T b nm n w1 := hc.kept y3
  have y3' : wSn (fun b2 i => fTw b2 i ∨ (b2 = 657 ∧ i = b + n)) w w1 := y3.to (fun _ _ z => Or.inl z)
  rw [← c1a] at kk
  clear hc y3
  generalize pAdv c = c1 at y1 kk
  have f8 := fd_le (N := N) (T := T) (nm := nm) (j := c1.1) (show n ≤ 8 by omega)
  -- behind a fault
  have bad : ∀ (u2 : xU) (c2 : pC), pNew N T nm n c1 = c2 → ¬ c2.2.1 = 0 → rP N T c2 u2 w1 → xSn fPr u1 u2 → xEv g (d + 3) mX12_newName 33 [some (.ref 655), some (.int (nI b)), some (.int (nI n))] [] 698 u2 w1 r 698 P := by
    intro u2 c2 ep h0 h2 f2
    refine TX12_newName_33 hr ?_
    rw [h2.2.2.2.1, f9_le h2.2.2.1]
    refine brF h0 (kk u2 w1 (fun z => ?_) (by rw [ep]; exact h2) (y2.tr f2) y3')
    rw [ep] at z
    exact absurd z h0
  refine xPr.use (R_isName y1 ok) ⟨_, rfl, rfl, rfl, rfl, ?_⟩
  by_cases q : kK N T c1.1 = 2
  · have hw : w1 655 9 = lN (kV N T c1.1) := y1.2.1.2.2.1 (srt_one.2 (Or.inl q))
    refine brF (by rw [xb_pos q]; decide) (xPr.use (R_find hr ok (by omega) (by omega) hok hc1 q hw) ⟨_, rfl, rfl, rfl, rfl, ?_⟩)
    rw [aFd_neg f8]
    by_cases q2 : fd N T nm c1.1 n = 100
    · refine brT q2 ?_
      by_cases q0 : c1.2.1 = 0
      · have ep : pNew N T nm n c1 = pAdv c1 := by unfold pNew; rw [if_pos ⟨q0, q⟩, if_pos q2]
        refine TX12_newName_33 hr ?_
        rw [y1.2.2.2.1, f9_le y1.2.2.1]
        refine brT q0 ⟨by rw [nI_add]; exact vpn (by omega) (by omega), ?_⟩
        rw [nI_add, nc (by omega), hw]
        have hp : rP N T c1 u1 (x2 w1 657 (b + n) (lN (kV N T c1.1))) := by
          obtain ⟨a1, ⟨t1, t2, t3, t4⟩, a2⟩ := y1
          exact ⟨a1, ⟨t1, t2, fun z => by rw [x2_a _ _ (by omega)]; exact t3 z, t4⟩, a2⟩
        refine R_adv hr ok hp (by omega) (fun u' w' x1 x2' x3 => ⟨rfl, rfl, kk u' w' (fun _ i hi => ?_) (by rw [ep]; exact x1) (y2.tr x2') ((y3'.put (Or.inr ⟨rfl, rfl⟩)).tr (x3.to (fun _ _ z => Or.inl z)))⟩)
        rw [x3 657 (b + i) (by omega)]
        by_cases y : i = n
        · rw [y, nmAdd_same, x2_same]
        · rw [nmAdd_ne _ _ y, x2_i _ _ (by omega)]; exact hc1 i (by omega)
      · have ep : pNew N T nm n c1 = c1 := by unfold pNew; rw [if_neg (fun z => q0 z.1), pFail_f q0]
        exact bad u1 c1 ep q0 y1 xSn.rf
    · refine brF q2 (xVd.use (R_wrong (x := 3) y1 (by omega)) (fun u2 h2 => ⟨rfl, rfl, rfl, ?_⟩))
      by_cases q0 : c1.2.1 = 0
      · have ep : pNew N T nm n c1 = pFail N T 3 c1 := by unfold pNew; rw [if_pos ⟨q0, q⟩, if_neg q2]
        exact bad u2 _ ep (pFail_0 (by omega)) h2.1 h2.2
      · have ep : pNew N T nm n c1 = c1 := by unfold pNew; rw [if_neg (fun z => q0 z.1), pFail_f q0]
        have h21 := h2.1
        rw [pFail_f q0] at h21
        exact bad u2 c1 ep q0 h21 h2.2
  · have ep : pNew N T nm n c1 = pFail N T 2 c1 := by unfold pNew; rw [if_neg (fun z => q z.2)]
    exact brT (xb_neg q) (xVd.use (R_wrong (x := 2) y1 (by omega)) (fun u2 h2 => ⟨rfl, rfl, rfl, bad u2 _ ep (pFail_0 (by omega)) h2.1 h2.2⟩))
theorem K_readNewName {u : xU} {P : xPost} {M o m : Nat} (hr : xRf r) (ok : tpOk N T) (h_n : xNm o m) (q_n : xNr o r) (ho : o = 16 ∨ o = 18 ∨ o = 20) (hm : m ≤ 8) (h : cP N T M c u w) (hn : n < m) (hok : nmOk N T nm n) (hc : cNm N T o nm n u w)
    (kk : ∀ u' w', ((pNew N T nm n c).2.1 = 0 → cNm N T o (nmAdd nm n c.1) (n + 1) u' w') → cP N T M (pNew N T nm n c) u' w' → xSn (fun b i => fPc b i ∨ (b = o ∧ i = 1)) u u' → wSn (fun b i => b = o + 1 ∧ i = n) w w' → P none u' w' r) :
    xCall g (d + 2) mX7_readNewName [.ref 9, .ref o] 698 u w r 698 P := by
  have n16 := ok.1
  have m1 := h.1.1
  have a1 := h.2.1
  refine CX7_readNewName hr h_n (xPr.use (K_sees (k := 2) hr ok h (by omega)) ⟨_, rfl, rfl, rfl, rfl, ?_⟩)
  by_cases q : pSee N T 2 c
  · refine brF (by rw [xb_pos q]; decide) ?_
    rw [h.2.2.2.1]
    have ev := (h.1.2.2.2.2 c.1 h.2.1).2.2.1 q.2
    refine K_valueAt hr h.1.2.2.2.1 (by omega) (by omega) ⟨_, rfl, rfl, rfl, rfl, ?_⟩
    rw [ev]
    have f8 := fd_le (N := N) (T := T) (nm := nm) (j := c.1) (show n ≤ 8 by omega)
    refine xPr.use (K_find h_n q_n hm (by omega) hok hc q.2) ⟨_, rfl, rfl, rfl, rfl, ?_⟩
    rw [aFd_m1 f8]
    by_cases q2 : fd N T nm c.1 n = 100
    · have ep : pNew N T nm n c = pAdv c := by unfold pNew; rw [if_pos q, if_pos q2]
      refine brT q2 (K_valueAt hr h.1.2.2.2.1 (by omega) (by omega) ⟨_, rfl, rfl, rfl, rfl, ?_⟩)
      rw [ev]
      refine CX5_add h_n q_n ?_
      rw [hc.1, nc (by omega), nI_one]
      refine brT ⟨nI_nn (by omega), nI_ge (by omega) (by omega)⟩ ⟨vpn (by omega) (by omega), rfl, rfl, ?_⟩
      have hp : cP N T M c (x2 u o 1 (nI (n + 1))) (x2 w (o + 1) n (lN (tkW 27 96 N T (ps N T c.1)))) := by
        have f0 : xSn (fun b i => b = o ∧ i = 1) u (x2 u o 1 (nI (n + 1))) := (xSn.rf).put ⟨rfl, rfl⟩
        refine ⟨h.1.kept f0 (fun j => x2_a _ _ (by omega)) (fun j => by omega) (fun j => by omega) (by omega), h.2.1, h.2.2.1, ?_, ?_, ?_⟩
        · rw [x2_a _ _ (by omega)]; exact h.2.2.2.1
        · rw [x2_a _ _ (by omega)]; exact h.2.2.2.2.1
        · rw [x2_a _ _ (by omega)]; exact h.2.2.2.2.2
      have := hp.adv (by rw [q.2]; decide)
      refine kk _ _ (fun _ => ⟨?_, fun i hi => ?_⟩ ) (by rw [ep]; exact this.1) ?_ ((wSn.rf).put ⟨rfl, rfl⟩)
      · rw [x2_a _ _ (by omega), x2_same]
      · by_cases y : i = n
        · rw [y, nmAdd_same, x2_same]
        · rw [nmAdd_ne _ _ y, x2_i _ _ y]; exact hc.2 i (by omega)
      · exact ((xSn.rf).put (Or.inr ⟨rfl, rfl⟩)).put (Or.inl ⟨rfl, Or.inl rfl⟩)
    · have ep : pNew N T nm n c = pFail N T 3 c := by unfold pNew; rw [if_pos q, if_neg q2]
      refine brF q2 (xVd.use (K_fail (x := 3) hr ok h (by omega)) (fun u1 h1 => ⟨rfl, rfl, rfl, kk u1 w (fun z => ?_) (by rw [ep]; exact h1.1) (h1.2.to (fun b i z => Or.inl z)) wSn.rf⟩))
      rw [ep] at z
      exact absurd z (pFail_0 (by omega))
  · have ep : pNew N T nm n c = pFail N T 2 c := by unfold pNew; rw [if_neg q]
    refine brT (xb_neg q) (xVd.use (K_fail (x := 2) hr ok h (by omega)) (fun u1 h1 => ⟨rfl, rfl, rfl, kk u1 w (fun z => ?_) (by rw [ep]; exact h1.1) (h1.2.to (fun b i z => Or.inl z)) wSn.rf⟩))
    rw [ep] at z
    exact absurd z (pFail_0 (by omega))
end NAMES2
