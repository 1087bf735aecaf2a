/-! A WAY is told: the class -/
def cWy (l : Nat) (L : xU) (n : Nat) (u : xU) : Prop := u l 1 = nI n ∧ ∀ k, k < n → u (l + 1) k = L 1 k ∧ u (l + 2) k = L 2 k ∧ u (l + 3) k = L 3 k
def wyPut (L : xU) (n : Nat) (a b c : Int32) : xU := x2 (x2 (x2 L 1 n a) 2 n b) 3 n c
theorem cWy.kept {l n : Nat} {L u u' : xU} (h : cWy l L n u) {F : Nat → Nat → Prop} (f : xSn F u u') (h1 : ∀ b i, l ≤ b → b ≤ l + 3 → ¬ F b i) : cWy l L n u' := by
  refine ⟨(f _ _ (h1 _ _ (by omega) (by omega))).trans h.1, fun k hk => ?_⟩
  rw [f _ _ (h1 (l + 1) k (by omega) (by omega)), f _ _ (h1 (l + 2) k (by omega) (by omega)), f _ _ (h1 (l + 3) k (by omega) (by omega))]
  exact h.2 k hk
/-- where the reading stands behind a way; the way itself -/
def pWay3 (N : Nat) (T : Nat → Int32) (nm : Nat → Nat) (n : Nat) (L : xU) (nw : Nat) (c : pC) : pC :=
  let c1 := pVil N T nm n 100 c
  let c2 := pVil N T nm n (fd N T nm c.1 n) c1
  if c2.2.1 = 0 ∧ wtB (L 1) (L 2) (nI (fd N T nm c.1 n)) (nI (fd N T nm c1.1 n)) nw = true then pFail N T 3 c1 else c2
def pWay (N : Nat) (T : Nat → Int32) (nm : Nat → Nat) (n : Nat) (L : xU) (nw : Nat) (c : pC) : pC := pNum N T 1 9 (pWay3 N T nm n L nw c)
def wayL (N : Nat) (T : Nat → Int32) (nm : Nat → Nat) (n : Nat) (L : xU) (nw : Nat) (c : pC) : xU :=
  wyPut L nw (nI (fd N T nm c.1 n)) (nI (fd N T nm (pVil N T nm n 100 c).1 n)) (nI (kV N T (pWay3 N T nm n L nw c).1))
theorem pVil_0 {N : Nat} {T : Nat → Int32} {nm : Nat → Nat} {n x : Nat} {c : pC} (h : (pVil N T nm n x c).2.1 = 0) : pSee N T 2 c ∧ ¬ fd N T nm c.1 n = 100 ∧ ¬ fd N T nm c.1 n = x ∧ pVil N T nm n x c = pAdv c := by
  unfold pVil at h ⊢
  by_cases q : pSee N T 2 c
  · rw [if_pos q] at h ⊢
    by_cases q2 : fd N T nm c.1 n = 100
    · rw [if_pos q2] at h; exact absurd h (pFail_0 (by omega))
    · rw [if_neg q2] at h ⊢
      by_cases q3 : fd N T nm c.1 n = x
      · rw [if_pos q3] at h; exact absurd h (pFail_0 (by omega))
      · rw [if_neg q3]; exact ⟨q, q2, q3, rfl⟩
  · rw [if_neg q] at h; exact absurd h (pFail_0 (by omega))
theorem pNum_0 {N : Nat} {T : Nat → Int32} {lo hi : Nat} {c : pC} (h : (pNum N T lo hi c).2.1 = 0) : pSee N T 3 c ∧ numOk N T lo hi c ∧ pNum N T lo hi c = pAdv c := by
  unfold pNum at h ⊢
  by_cases q : pSee N T 3 c
  · rw [if_pos q] at h ⊢
    by_cases q2 : numOk N T lo hi c
    · rw [if_pos q2]; exact ⟨q, q2, rfl⟩
    · rw [if_neg q2] at h; exact absurd h (pFail_0 (by omega))
  · rw [if_neg q] at h; exact absurd h (pFail_0 (by omega))
section CWAY
variable {g : xGT} {d : Nat} {w : xW} {r : xQ} {N : Nat} {T : Nat → Int32} {M : Nat} {c : pC} {nm : Nat → Nat} {n l nw : Nat} {L : xU}
theorem cNm.kept {o : Nat} {u u' : xU} (h : cNm N T o nm n u w) {F : Nat → Nat → Prop} (f : xSn F u u') (h1 : ¬ F o 1) : cNm N T o nm n u' w := ⟨(f _ _ h1).trans h.1, h.2⟩
theorem K_readWay_46 {u : xU} {P : xPost} {a b : Int32} (hr : xRf r) (ok : tpOk N T) (h_l : xLd l) (q_l : xLr l r) (h94 : r 9 4 = some l) (hl : l = 22 ∨ l = 37) (h : cP N T M c u w) (hw : cWy l L nw u) (hnw : nw < 12)
    (kk : ∀ u', ((pNum N T 1 9 c).2.1 = 0 → cWy l (wyPut L nw a b (nI (kV N T c.1))) (nw + 1) u') → cP N T M (pNum N T 1 9 c) u' w → xSn (fun x i => fPc x i ∨ (x = l ∧ i = 1) ∨ (l + 1 ≤ x ∧ x ≤ l + 3)) u u' → P none u' w r) :
    xEv g (d + 3) mX7_readWay 46 [some (.ref 9), some (.int a), none, some (.int b), none] [] 698 u w r 698 P := by
  refine TX7_readWay_46 h_l h94 (xCall.mono (K_readNumber (d := d) (lo := 1) (hi := 9) hr ok h (by omega) (by omega)) (fun rv u1 w1 r1 q => ?_))
  obtain ⟨v, rfl, rfl, rfl, z1, z2, z3⟩ := q
  refine ⟨v, rfl, rfl, rfl, ?_⟩
  rw [z2.2.2.2.2.1, f9_0 z2.2.2.1]
  have hw1 : cWy l L nw u1 := hw.kept z3 (fun b i b1 b2 => by omega)
  by_cases q : (pNum N T 1 9 c).2.1 = 0
  · refine brT q (K_addWay h_l q_l hnw hw1.1 ⟨rfl, rfl, rfl, ?_⟩)
    have hv := z1 q
    have f1 : xSn (fun x i => (x = l ∧ i = 1) ∨ (l + 1 ≤ x ∧ x ≤ l + 3)) u1 (x2 (x2 (x2 (x2 u1 (l + 1) nw a) (l + 2) nw b) (l + 3) nw v) l 1 (nI (nw + 1))) := ((((xSn.rf).put (Or.inr ⟨by omega, by omega⟩)).put (Or.inr ⟨by omega, by omega⟩)).put (Or.inr ⟨by omega, by omega⟩)).put (Or.inl ⟨rfl, rfl⟩)
    refine kk _ (fun _ => ⟨x2_same _ _ _ _, fun k hk => ?_⟩) ?_ ((z3.to (fun _ _ z => Or.inl z)).tr (f1.to (fun _ _ z => Or.inr z)))
    · unfold wyPut
      by_cases y : k = nw
      · subst y
        refine ⟨?_, ?_, ?_⟩
        · rw [x2_a _ _ (by omega), x2_a _ _ (by omega), x2_a _ _ (by omega), x2_same, x2_a _ _ (by omega), x2_a _ _ (by omega), x2_same]
        · rw [x2_a _ _ (by omega), x2_a _ _ (by omega), x2_same, x2_a _ _ (by omega), x2_same]
        · rw [x2_a _ _ (by omega), x2_same, x2_same, hv]
      · obtain ⟨a1, a2, a3⟩ := hw1.2 k (by omega)
        refine ⟨?_, ?_, ?_⟩
        · rw [x2_a _ _ (by omega), x2_a _ _ (by omega), x2_a _ _ (by omega), x2_i _ _ y, x2_a _ _ (by omega), x2_a _ _ (by omega), x2_i _ _ y, a1]
        · rw [x2_a _ _ (by omega), x2_a _ _ (by omega), x2_i _ _ y, x2_a _ _ (by omega), x2_a _ _ (by omega), x2_i _ _ y, x2_a _ _ (by omega), a2]
        · rw [x2_a _ _ (by omega), x2_i _ _ y, x2_a _ _ (by omega), x2_a _ _ (by omega), x2_i _ _ y, x2_a _ _ (by omega), x2_a _ _ (by omega), a3]
    · obtain ⟨b1, b2, b3, b4, b5, b6⟩ := z2
      refine ⟨b1.kept f1 (fun _ => rfl) (fun j => by omega) (fun j => by omega) (by omega), b2, b3, ?_, ?_, ?_⟩
      · exact (f1 _ _ (by omega)).trans b4
      · exact (f1 _ _ (by omega)).trans b5
      · exact (f1 _ _ (by omega)).trans b6
  · exact brF q (kk u1 (fun z => absurd z q) z2 (z3.to (fun _ _ z => Or.inl z)))
theorem K_readWay {u : xU} {P : xPost} (hr : xRf r) (ok : tpOk N T) (h_l : xLd l) (q_l : xLr l r) (h94 : r 9 4 = some l) (hl : l = 22 ∨ l = 37) (h : cP N T M c u w) (hn : n ≤ 7) (hok : nmOk N T nm n) (hc : cNm N T 16 nm n u w) (hw : cWy l L nw u) (hnw : nw < 12)
    (kk : ∀ u', ((pWay N T nm n L nw c).2.1 = 0 → cWy l (wayL N T nm n L nw c) (nw + 1) u') → cP N T M (pWay N T nm n L nw c) u' w → xSn (fun x i => fPc x i ∨ (x = l ∧ i = 1) ∨ (l + 1 ≤ x ∧ x ≤ l + 3)) u u' → P none u' w r) :
    xCall g (d + 3) mX7_readWay [.ref 9] 698 u w r 698 P := by
  refine CX7_readWay h_l h94 (xCall.mono (K_readVillage (d := d) (x := 100) (i1 := -1) hr ok h hn hok hc (Or.inl rfl) (fun _ => rfl)) (fun rv u1 w1 r1 q => ?_))
  obtain ⟨v1, rfl, rfl, rfl, z1, z2, z3⟩ := q
  refine ⟨v1, rfl, rfl, rfl, ?_⟩
  have f8 := fd_le (N := N) (T := T) (nm := nm) (j := c.1) (show n ≤ 8 by omega)
  have hi1 : (pVil N T nm n 100 c).2.1 = 0 → v1 = aFd (fd N T nm c.1 n) := fun z => by
    obtain ⟨a1, a2, a3⟩ := z1 z
    unfold aFd
    rw [if_neg (by omega)]; exact a1
  refine xCall.mono (K_readVillage (d := d) (x := fd N T nm c.1 n) hr ok z2 hn hok (hc.kept z3 (by omega)) f8 hi1) (fun rv u2 w2 r2 q => ?_)
  obtain ⟨v2, rfl, rfl, rfl, y1, y2, y3⟩ := q
  refine ⟨v2, rfl, rfl, rfl, ?_⟩
  rw [y2.2.2.2.2.1, f9_0 y2.2.2.1]
  have hw2 : cWy l L nw u2 := hw.kept (z3.tr y3) (fun b i b1 b2 => by omega)
  by_cases q : (pVil N T nm n (fd N T nm c.1 n) (pVil N T nm n 100 c)).2.1 = 0
  · obtain ⟨s1, s2, s3, s4⟩ := pVil_0 q
    have q1 : (pVil N T nm n 100 c).2.1 = 0 := s1.1
    obtain ⟨a1, a2, a3⟩ := z1 q1
    obtain ⟨b1, b2, b3⟩ := y1 q
    have ewt : wtB (u2 (l + 1)) (u2 (l + 2)) v1 v2 nw = wtB (L 1) (L 2) (nI (fd N T nm c.1 n)) (nI (fd N T nm (pVil N T nm n 100 c).1 n)) nw := by
      rw [a1, b1]
      exact wtB_cg nw (fun k hk => ⟨(hw2.2 k hk).1, (hw2.2 k hk).2.1⟩)
    refine brT q (xPr.use (K_hasWay h_l q_l (by omega) hw2.1 v1 v2) ⟨_, rfl, rfl, rfl, rfl, ?_⟩)
    rw [ewt]
    by_cases qt : wtB (L 1) (L 2) (nI (fd N T nm c.1 n)) (nI (fd N T nm (pVil N T nm n 100 c).1 n)) nw = true
    · have e3 : pWay3 N T nm n L nw c = pFail N T 3 (pVil N T nm n 100 c) := if_pos ⟨q, qt⟩
      rw [qt]
      refine brF (by decide) ?_
      rw [z2.2.2.2.1]
      have f1 : xSn fPc u2 (x2 u2 9 7 (nI (pVil N T nm n 100 c).1)) := (xSn.rf).put ⟨rfl, by omega⟩
      have h3 : cP N T M (pVil N T nm n 100 c) (x2 u2 9 7 (nI (pVil N T nm n 100 c).1)) w := by
        refine y2.put f1 (fun _ => rfl) z2.2.1 z2.2.2.1 (x2_same _ _ _ _) ?_ ?_
        · rw [x2_i _ _ (by omega), y2.2.2.2.2.1, s4]; rfl
        · rw [x2_i _ _ (by omega), y2.2.2.2.2.2, s4]; rfl
      refine xVd.use (K_fail (x := 3) hr ok h3 (by omega)) (fun u3 h4 => ⟨rfl, rfl, rfl, ?_⟩)
      refine K_readWay_46 (L := L) (nw := nw) hr ok h_l q_l h94 hl h4.1 (hw2.kept (f1.tr h4.2) (fun b i b1 b2 => by omega)) hnw (fun u' k1 k2 k3 => kk u' (fun z => ?_) ?_ ((((z3.tr y3).tr f1).tr h4.2).to (fun _ _ z => Or.inl z) |>.tr k3))
      · unfold pWay at z
        rw [e3] at z
        exact absurd (pNum_0 z).1.1 (pFail_0 (by omega))
      · unfold pWay; rw [e3]; exact k2
    · have e3 : pWay3 N T nm n L nw c = pVil N T nm n (fd N T nm c.1 n) (pVil N T nm n 100 c) := if_neg (fun z => qt z.2)
      rw [Bool.eq_false_iff.mpr qt]
      refine brT rfl (K_readWay_46 (L := L) (nw := nw) hr ok h_l q_l h94 hl y2 hw2 hnw (fun u' k1 k2 k3 => kk u' (fun z => ?_) ?_ (((z3.tr y3).to (fun _ _ z => Or.inl z)).tr k3)))
      · unfold pWay at z
        unfold wayL
        rw [e3] at z ⊢
        rw [← a1, ← b1]
        exact k1 z
      · unfold pWay; rw [e3]; exact k2
  · have e3 : pWay3 N T nm n L nw c = pVil N T nm n (fd N T nm c.1 n) (pVil N T nm n 100 c) := if_neg (fun z => q z.1)
    refine brF q (K_readWay_46 (L := L) (nw := nw) hr ok h_l q_l h94 hl y2 hw2 hnw (fun u' k1 k2 k3 => kk u' (fun z => ?_) ?_ (((z3.tr y3).to (fun _ _ z => Or.inl z)).tr k3)))
    · unfold pWay at z
      rw [e3] at z
      exact absurd (pNum_0 z).1.1 q
    · unfold pWay; rw [e3]; exact k2
end CWAY
