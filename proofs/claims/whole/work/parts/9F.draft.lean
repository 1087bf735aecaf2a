/-! A LINE goes on, and leaves a lawful draft -/
def mv (M : Nat) (c c' : pC) : Prop := c.1 ≤ M → c.1 ≤ c'.1 ∧ c'.1 ≤ M
theorem mv.rf {M : Nat} {c : pC} : mv M c c := fun h => ⟨Nat.le_refl _, h⟩
theorem mv.tr {M : Nat} {a b c : pC} (h1 : mv M a b) (h2 : mv M b c) : mv M a c := fun h => ⟨Nat.le_trans (h1 h).1 (h2 (h1 h).2).1, (h2 (h1 h).2).2⟩
section MOVES
variable {N M : Nat} {T : Nat → Int32} {c : pC} {nm nb : Nat → Nat} {n k : Nat}
theorem mv_fail (x : Nat) : mv M c (pFail N T x c) := fun h => by rw [pFail_1]; exact ⟨Nat.le_refl _, h⟩
theorem mv_adv (hM : kK N T M = 0) (h : ¬ kK N T c.1 = 0) : mv M c (pAdv c) := fun h1 => ⟨Nat.le_succ _, kK_end hM h1 h⟩
theorem mv_want (hM : kK N T M = 0) {x : Nat} (hx : ¬ x = 0) : mv M c (pWant N T x c) := by
  unfold pWant
  by_cases q : pSee N T x c
  · rw [if_pos q]; exact mv_adv hM (by rw [q.2]; exact hx)
  · rw [if_neg q]; exact mv_fail _
theorem mv_num (hM : kK N T M = 0) (lo hi : Nat) : mv M c (pNum N T lo hi c) := by
  unfold pNum
  by_cases q : pSee N T 3 c
  · rw [if_pos q]
    by_cases q2 : numOk N T lo hi c
    · rw [if_pos q2]; exact mv_adv hM (by rw [q.2]; decide)
    · rw [if_neg q2]; exact mv_fail _
  · rw [if_neg q]; exact mv_fail _
theorem mv_new (hM : kK N T M = 0) : mv M c (pNew N T nm n c) := by
  unfold pNew
  by_cases q : pSee N T 2 c
  · rw [if_pos q]
    by_cases q2 : fd N T nm c.1 n = 100
    · rw [if_pos q2]; exact mv_adv hM (by rw [q.2]; decide)
    · rw [if_neg q2]; exact mv_fail _
  · rw [if_neg q]; exact mv_fail _
theorem mv_vil (hM : kK N T M = 0) (x : Nat) : mv M c (pVil N T nm n x c) := by
  unfold pVil
  by_cases q : pSee N T 2 c
  · rw [if_pos q]
    by_cases q2 : fd N T nm c.1 n = 100
    · rw [if_pos q2]; exact mv_fail _
    · rw [if_neg q2]
      by_cases q3 : fd N T nm c.1 n = x
      · rw [if_pos q3]; exact mv_fail _
      · rw [if_neg q3]; exact mv_adv hM (by rw [q.2]; decide)
  · rw [if_neg q]; exact mv_fail _
theorem mv_opt (hM : kK N T M = 0) {x : Nat} (hx : ¬ x = 0) (lo hi : Nat) : mv M c (pOpt N T x lo hi c) := by
  unfold pOpt
  by_cases q : pSee N T x c
  · rw [if_pos q]; exact (mv_adv hM (by rw [q.2]; exact hx)).tr (mv_num hM _ _)
  · rw [if_neg q]; exact mv.rf
theorem mv_way (hM : kK N T M = 0) (L : xU) : mv M c (pWay N T nm n L k c) := by
  refine mv.tr ?_ (mv_num hM _ _)
  unfold pWay3
  simp only
  split
  · exact (mv_vil hM _).tr (mv_fail _)
  · exact (mv_vil hM _).tr (mv_vil hM _)
theorem mv_b6 (hM : kK N T M = 0) {kw : Nat} (h : ¬ kw = 0) : mv M c (pB6 N T nm n nb k kw c) :=
  ((((mv_new hM).tr (mv_want hM h)).tr (mv_vil hM 100)).tr (mv_want hM (by decide))).tr (mv_vil hM _)
theorem mv_bier (hM : kK N T M = 0) : mv M c (pBier N T nm n nb k c) :=
  (((mv_b6 hM (by decide)).tr (mv_want hM (by decide))).tr (mv_num hM _ _)).tr (mv_opt hM (by decide) _ _)
theorem mv_lett (hM : kK N T M = 0) : mv M c (pLett N T nm n nb k c) :=
  ((mv_b6 hM (by decide)).tr (mv_opt hM (by decide) _ _)).tr (mv_opt hM (by decide) _ _)
theorem mv_win (hM : kK N T M = 0) : mv M c (pWin N T c) :=
  ((mv_num hM _ _).tr (mv_want hM (by decide))).tr (mv_num hM _ _)
theorem pwt_ok (hM : kK N T M = 0) (h0 : c.2.1 = 0) (h : c.1 + 1 ≤ M) : gd M (sl 0 0) (pAdv c, [], 0) (pWt N T c) := pF_ok hM 48 0 0 (pAdv c, [], 0) (by omega) (by omega) (by decide) h0 ⟨h, trivial, Nat.le_refl _, Nat.le_refl _, Nat.zero_le _⟩
end MOVES
section LINEOK
variable {N M : Nat} {T : Nat → Int32} {c : pC} {D : pD}
/-- a line that has no fault goes on -/
theorem pLine_mv (hM : kK N T M = 0) (h0 : c.2.1 = 0) (hc : c.1 ≤ M) (h : (pLine N T D c).1.2.1 = 0) : c.1 < (pLine N T D c).1.1 ∧ (pLine N T D c).1.1 ≤ M := by
  have h' : (pWant N T 4 (pLn N T D c).1).2.1 = 0 := h
  have z1 : (pLn N T D c).1.2.1 = 0 := pWant_0 h'
  obtain ⟨-, e⟩ := pWant_ok h'
  have e' : (pLine N T D c).1 = pAdv (pLn N T D c).1 := e
  have go : c.1 ≤ (pLn N T D c).1.1 ∧ (pLn N T D c).1.1 ≤ M := by
    by_cases q : mayB D (kK N T c.1)
    · have ad : mv M c (pAdv c) := mv_adv hM (by omega)
      rcases q with ⟨q, q2⟩ | ⟨q, q2⟩ | ⟨q, q2⟩ | ⟨q, q2⟩ | ⟨q, q2⟩ | ⟨q, q2⟩
      · rw [pLn_0 q q2]; exact (ad.tr (mv_new hM)) hc
      · rw [pLn_1 q q2]; exact (ad.tr (mv_way hM _)) hc
      · rw [pLn_2 q q2]; exact (ad.tr (mv_bier hM)) hc
      · rw [pLn_3 q q2]; exact (ad.tr (mv_lett hM)) hc
      · rw [pLn_4 q q2] at z1 ⊢
        have g := pwt_ok hM h0 (ad hc).2 z1
        have g1 : c.1 + 1 < (pWt N T c).1.1 := g.1
        exact ⟨by show c.1 ≤ (pWt N T c).1.1; omega, g.2.1⟩
      · rw [pLn_5 q q2]; exact (ad.tr (mv_win hM)) hc
    · rw [pLn_6 q] at z1
      exact absurd z1 (pFail_0 (by omega))
  have nz : ¬ kK N T (pLn N T D c).1.1 = 0 := by
    obtain ⟨s, -⟩ := pWant_ok h'
    rw [s.2]; decide
  have := kK_end hM go.2 nz
  rw [e']
  show c.1 < (pLn N T D c).1.1 + 1 ∧ (pLn N T D c).1.1 + 1 ≤ M
  omega
theorem fd_lt {nm : Nat → Nat} {j n : Nat} (h : ¬ fd N T nm j n = 100) : fd N T nm j n < n := by
  rcases fd_or (N := N) (T := T) (nm := nm) (j := j) n with y | y
  · exact absurd y.1 h
  · exact y.1
theorem b6_0 {nm nb : Nat → Nat} {n k kw : Nat} (h : (pB6 N T nm n nb k kw c).2.1 = 0) : (pNew N T nb k c).2.1 = 0 ∧ fd N T nm (pB3 N T nm n nb k kw c).1 n < n ∧ fd N T nm (pB5 N T nm n nb k kw c).1 n < n := by
  obtain ⟨x1, x2', x3, x4⟩ := pVil_0 h
  have z5 : (pB5 N T nm n nb k kw c).2.1 = 0 := x1.1
  have z4 : (pVil N T nm n 100 (pB3 N T nm n nb k kw c)).2.1 = 0 := pWant_0 z5
  obtain ⟨y1, y2, y3, y4⟩ := pVil_0 z4
  have z3 : (pB3 N T nm n nb k kw c).2.1 = 0 := y1.1
  exact ⟨pWant_0 z3, fd_lt y2, fd_lt x2'⟩
theorem opt_val {x lo hi o : Nat} (h : (pOpt N T x lo hi c).2.1 = 0) (ho : lo ≤ o ∧ o ≤ hi) : ∃ y, (lo ≤ y ∧ y ≤ hi) ∧ (if pSee N T x c then nI (kV N T (c.1 + 1)) else nI o) = nI y := by
  by_cases q : pSee N T x c
  · rw [if_pos q]
    unfold pOpt at h
    rw [if_pos q] at h
    exact ⟨_, (pNum_0 h).2.1, rfl⟩
  · rw [if_neg q]
    exact ⟨o, ho, rfl⟩
theorem oD_new {j : Nat} (hO : oD N T D) (h7 : D.1 0 < 7) (hn : nmOk N T (nmAdd (D.2.1 0) (D.1 0) j) (D.1 0 + 1)) : oD N T (dNew 0 j D) := by
  obtain ⟨⟨n0, n1, n2⟩, ⟨m0, m1, m2, m3⟩, ⟨m4, m5⟩, t0, t1, r1, r2, r3, r4⟩ := hO
  refine ⟨⟨hn, n1, n2⟩, ⟨h7, m1, m2, m3⟩, ⟨m4, m5⟩, t0, t1, fun k hk => ?_, r2, fun k hk => ?_, fun k hk => ?_⟩
  · obtain ⟨a, b, x, y1, y2, y3⟩ := r1 k hk
    exact ⟨a, b, x, Nat.lt_succ_of_lt y1, Nat.lt_succ_of_lt y2, y3⟩
  · obtain ⟨a, b, x, y, y1, y2, y3⟩ := r3 k hk
    exact ⟨a, b, x, y, Nat.lt_succ_of_lt y1, Nat.lt_succ_of_lt y2, y3⟩
  · obtain ⟨a, b, x, y, y1, y2, y3⟩ := r4 k hk
    exact ⟨a, b, x, y, Nat.lt_succ_of_lt y1, Nat.lt_succ_of_lt y2, y3⟩
theorem wyPut_at (L : xU) (n : Nat) (a b c : Int32) : (∀ k, k < n → wyPut L n a b c 1 k = L 1 k ∧ wyPut L n a b c 2 k = L 2 k ∧ wyPut L n a b c 3 k = L 3 k) ∧ wyPut L n a b c 1 n = a ∧ wyPut L n a b c 2 n = b ∧ wyPut L n a b c 3 n = c := by
  unfold wyPut
  refine ⟨fun k hk => ⟨?_, ?_, ?_⟩, ?_, ?_, ?_⟩
  · rw [x2_a _ _ (by omega), x2_a _ _ (by omega), x2_i _ _ (by omega)]
  · rw [x2_a _ _ (by omega), x2_i _ _ (by omega), x2_a _ _ (by omega)]
  · rw [x2_i _ _ (by omega), x2_a _ _ (by omega), x2_a _ _ (by omega)]
  · rw [x2_a _ _ (by omega), x2_a _ _ (by omega), x2_same]
  · rw [x2_a _ _ (by omega), x2_same]
  · rw [x2_same]
theorem oD_way {a b x : Nat} (hO : oD N T D) (h12 : D.1 3 < 12) (ha : a < D.1 0) (hb : b < D.1 0) (hab : ¬ a = b) (hx : 1 ≤ x ∧ x ≤ 9) (kb : wtB (D.2.2.1 1) (D.2.2.1 2) (nI a) (nI b) (D.1 3) = false) : oD N T (dWay (wyPut D.2.2.1 (D.1 3) (nI a) (nI b) (nI x)) D) := by
  obtain ⟨⟨n0, n1, n2⟩, ⟨m0, m1, m2, m3⟩, ⟨m4, m5⟩, t0, t1, r1, r2, r3, r4⟩ := hO
  obtain ⟨p1, p2⟩ := wyPut_at D.2.2.1 (D.1 3) (nI a) (nI b) (nI x)
  have p4 : ∀ y i, 4 ≤ y → wyPut D.2.2.1 (D.1 3) (nI a) (nI b) (nI x) y i = D.2.2.1 y i := fun y i hy => wyPut_hi hy
  generalize wyPut D.2.2.1 (D.1 3) (nI a) (nI b) (nI x) = L' at p1 p2 p4
  refine ⟨⟨n0, n1, n2⟩, ⟨m0, m1, m2, h12⟩, ⟨m4, m5⟩, t0, t1, fun k hk => ?_, fun j k hj hk => ?_, fun k hk => ?_, r4⟩
  · have hk' : k < D.1 3 + 1 := hk
    show ∃ a b x, a < D.1 0 ∧ b < D.1 0 ∧ ¬ a = b ∧ (1 ≤ x ∧ x ≤ 9) ∧ L' 1 k = nI a ∧ L' 2 k = nI b ∧ L' 3 k = nI x
    rcases Nat.lt_or_ge k (D.1 3) with y | y
    · obtain ⟨e1, e2, e3⟩ := p1 k y
      rw [e1, e2, e3]
      exact r1 k y
    · have ek : k = D.1 3 := by omega
      rw [ek]
      exact ⟨a, b, x, ha, hb, hab, hx, p2⟩
  · have hk' : k < D.1 3 + 1 := hk
    show ¬ (L' 1 j = L' 1 k ∧ L' 2 j = L' 2 k) ∧ ¬ (L' 1 j = L' 2 k ∧ L' 2 j = L' 1 k)
    rcases Nat.lt_or_ge k (D.1 3) with y | y
    · obtain ⟨e1, e2, e3⟩ := p1 k y
      obtain ⟨e4, e5, e6⟩ := p1 j (by omega)
      rw [e1, e2, e4, e5]
      exact r2 j k hj y
    · have ek : k = D.1 3 := by omega
      rw [ek] at hj ⊢
      obtain ⟨e4, e5, e6⟩ := p1 j hj
      rw [p2.1, p2.2.1, e4, e5]
      have nb : ¬ ∃ i, i < D.1 3 ∧ wt1 (D.2.2.1 1) (D.2.2.1 2) (nI a) (nI b) i := fun z => by
        rw [(wtB_iff (D.1 3)).2 z] at kb; cases kb
      exact ⟨fun z => nb ⟨j, hj, Or.inl z⟩, fun z => nb ⟨j, hj, Or.inr z⟩⟩
  · show ∃ a b x y, a < D.1 0 ∧ b < D.1 0 ∧ x ≤ 60 ∧ (1 ≤ y ∧ y ≤ 9) ∧ L' 4 k = nI a ∧ L' 5 k = nI b ∧ L' 6 k = nI x ∧ L' 7 k = nI y
    rw [p4 4 k (by omega), p4 5 k (by omega), p4 6 k (by omega), p4 7 k (by omega)]
    exact r3 k hk
theorem biPut_at (L : xU) (n : Nat) (a b c e : Int32) : (∀ k, k < n → ∀ y, biPut L n a b c e y k = L y k) ∧ biPut L n a b c e 4 n = a ∧ biPut L n a b c e 5 n = b ∧ biPut L n a b c e 6 n = c ∧ biPut L n a b c e 7 n = e := by
  unfold biPut
  refine ⟨fun k hk y => ?_, ?_, ?_, ?_, ?_⟩
  · rw [x2_ne _ _ (by omega), x2_ne _ _ (by omega), x2_ne _ _ (by omega), x2_ne _ _ (by omega)]
  · rw [x2_a _ _ (by omega), x2_a _ _ (by omega), x2_a _ _ (by omega), x2_same]
  · rw [x2_a _ _ (by omega), x2_a _ _ (by omega), x2_same]
  · rw [x2_a _ _ (by omega), x2_same]
  · rw [x2_same]
theorem oD_bier {a b x e j : Nat} (hO : oD N T D) (h6 : D.1 1 < 6) (hn : nmOk N T (nmAdd (D.2.1 1) (D.1 1) j) (D.1 1 + 1)) (ha : a < D.1 0) (hb : b < D.1 0) (hx : x ≤ 60) (he : 1 ≤ e ∧ e ≤ 9) : oD N T (dBier j (biPut D.2.2.1 (D.1 1) (nI a) (nI b) (nI x) (nI e)) D) := by
  obtain ⟨⟨n0, n1, n2⟩, ⟨m0, m1, m2, m3⟩, ⟨m4, m5⟩, t0, t1, r1, r2, r3, r4⟩ := hO
  obtain ⟨p1, p2⟩ := biPut_at D.2.2.1 (D.1 1) (nI a) (nI b) (nI x) (nI e)
  have p4 : ∀ y i, y ≤ 3 → biPut D.2.2.1 (D.1 1) (nI a) (nI b) (nI x) (nI e) y i = D.2.2.1 y i := fun y i hy => biPut_lo hy
  generalize biPut D.2.2.1 (D.1 1) (nI a) (nI b) (nI x) (nI e) = L' at p1 p2 p4
  refine ⟨⟨n0, hn, n2⟩, ⟨m0, h6, m2, m3⟩, ⟨m4, m5⟩, t0, t1, fun k hk => ?_, fun j k hj hk => ?_, fun k hk => ?_, r4⟩
  · show ∃ a b x, a < D.1 0 ∧ b < D.1 0 ∧ ¬ a = b ∧ (1 ≤ x ∧ x ≤ 9) ∧ L' 1 k = nI a ∧ L' 2 k = nI b ∧ L' 3 k = nI x
    rw [p4 1 k (by omega), p4 2 k (by omega), p4 3 k (by omega)]
    exact r1 k hk
  · show ¬ (L' 1 j = L' 1 k ∧ L' 2 j = L' 2 k) ∧ ¬ (L' 1 j = L' 2 k ∧ L' 2 j = L' 1 k)
    rw [p4 1 k (by omega), p4 2 k (by omega), p4 1 j (by omega), p4 2 j (by omega)]
    exact r2 j k hj hk
  · have hk' : k < D.1 1 + 1 := hk
    show ∃ a b x y, a < D.1 0 ∧ b < D.1 0 ∧ x ≤ 60 ∧ (1 ≤ y ∧ y ≤ 9) ∧ L' 4 k = nI a ∧ L' 5 k = nI b ∧ L' 6 k = nI x ∧ L' 7 k = nI y
    rcases Nat.lt_or_ge k (D.1 1) with y | y
    · rw [p1 k y 4, p1 k y 5, p1 k y 6, p1 k y 7]
      exact r3 k y
    · have ek : k = D.1 1 := by omega
      rw [ek]
      exact ⟨a, b, x, e, ha, hb, hx, he, p2⟩
theorem ltPut_at (L : xU) (n : Nat) (a b c e : Int32) : (∀ k, k < n → ∀ y, ltPut L n a b c e y k = L y k) ∧ ltPut L n a b c e 0 n = a ∧ ltPut L n a b c e 1 n = b ∧ ltPut L n a b c e 2 n = c ∧ ltPut L n a b c e 3 n = e := by
  unfold ltPut
  refine ⟨fun k hk y => ?_, ?_, ?_, ?_, ?_⟩
  · rw [x2_ne _ _ (by omega), x2_ne _ _ (by omega), x2_ne _ _ (by omega), x2_ne _ _ (by omega)]
  · rw [x2_a _ _ (by omega), x2_a _ _ (by omega), x2_a _ _ (by omega), x2_same]
  · rw [x2_a _ _ (by omega), x2_a _ _ (by omega), x2_same]
  · rw [x2_a _ _ (by omega), x2_same]
  · rw [x2_same]
theorem oD_lett {a b x e j : Nat} (hO : oD N T D) (h8 : D.1 2 < 8) (hn : nmOk N T (nmAdd (D.2.1 2) (D.1 2) j) (D.1 2 + 1)) (ha : a < D.1 0) (hb : b < D.1 0) (hx : x ≤ 200) (he : 1 ≤ e ∧ e ≤ 9) : oD N T (dLett j (ltPut D.2.2.2.1 (D.1 2) (nI a) (nI b) (nI x) (nI e)) D) := by
  obtain ⟨⟨n0, n1, n2⟩, ⟨m0, m1, m2, m3⟩, ⟨m4, m5⟩, t0, t1, r1, r2, r3, r4⟩ := hO
  obtain ⟨p1, p2⟩ := ltPut_at D.2.2.2.1 (D.1 2) (nI a) (nI b) (nI x) (nI e)
  generalize ltPut D.2.2.2.1 (D.1 2) (nI a) (nI b) (nI x) (nI e) = E' at p1 p2
  refine ⟨⟨n0, n1, hn⟩, ⟨m0, m1, h8, m3⟩, ⟨m4, m5⟩, t0, t1, r1, r2, r3, fun k hk => ?_⟩
  have hk' : k < D.1 2 + 1 := hk
  show ∃ a b x y, a < D.1 0 ∧ b < D.1 0 ∧ x ≤ 200 ∧ (1 ≤ y ∧ y ≤ 9) ∧ E' 0 k = nI a ∧ E' 1 k = nI b ∧ E' 2 k = nI x ∧ E' 3 k = nI y
  rcases Nat.lt_or_ge k (D.1 2) with y | y
  · rw [p1 k y 0, p1 k y 1, p1 k y 2, p1 k y 3]
    exact r4 k y
  · have ek : k = D.1 2 := by omega
    rw [ek]
    exact ⟨a, b, x, e, ha, hb, hx, he, p2⟩
theorem way_0 {nm : Nat → Nat} {n k : Nat} {L : xU} (h : (pWay N T nm n L k c).2.1 = 0) : fd N T nm c.1 n < n ∧ fd N T nm (pVil N T nm n 100 c).1 n < n ∧ ¬ fd N T nm c.1 n = fd N T nm (pVil N T nm n 100 c).1 n ∧ (1 ≤ kV N T (pWay3 N T nm n L k c).1 ∧ kV N T (pWay3 N T nm n L k c).1 ≤ 9) ∧ wtB (L 1) (L 2) (nI (fd N T nm c.1 n)) (nI (fd N T nm (pVil N T nm n 100 c).1 n)) k = false := by
  have h' : (pNum N T 1 9 (pWay3 N T nm n L k c)).2.1 = 0 := h
  obtain ⟨x1, x2', -⟩ := pNum_0 h'
  have w3 : (pWay3 N T nm n L k c).2.1 = 0 := x1.1
  have key : (pVil N T nm n (fd N T nm c.1 n) (pVil N T nm n 100 c)).2.1 = 0 ∧ wtB (L 1) (L 2) (nI (fd N T nm c.1 n)) (nI (fd N T nm (pVil N T nm n 100 c).1 n)) k = false := by
    unfold pWay3 at w3
    simp only at w3
    split at w3
    · exact absurd w3 (pFail_0 (by omega))
    · next hn =>
      refine ⟨w3, ?_⟩
      cases hb : wtB (L 1) (L 2) (nI (fd N T nm c.1 n)) (nI (fd N T nm (pVil N T nm n 100 c).1 n)) k
      · rfl
      · exact absurd ⟨w3, hb⟩ hn
  obtain ⟨kz, kb⟩ := key
  obtain ⟨y1, y2, y3, -⟩ := pVil_0 kz
  obtain ⟨y4, y5, -, -⟩ := pVil_0 y1.1
  exact ⟨fd_lt y5, fd_lt y2, fun z => y3 z.symm, x2', kb⟩
theorem bier_0 {nm nb : Nat → Nat} {n k : Nat} (h : (pBier N T nm n nb k c).2.1 = 0) : (pNew N T nb k c).2.1 = 0 ∧ fd N T nm (pB3 N T nm n nb k 21 c).1 n < n ∧ fd N T nm (pB5 N T nm n nb k 21 c).1 n < n ∧ kV N T (pB7 N T nm n nb k c).1 ≤ 60 ∧ ∃ e, (1 ≤ e ∧ e ≤ 9) ∧ (if pSee N T 24 (pB8 N T nm n nb k c) then nI (kV N T ((pB8 N T nm n nb k c).1 + 1)) else nI 2) = nI e := by
  have h' : (pOpt N T 24 1 9 (pB8 N T nm n nb k c)).2.1 = 0 := h
  have z8 : (pNum N T 0 60 (pB7 N T nm n nb k c)).2.1 = 0 := pOpt_0 h'
  obtain ⟨x1, x2', -⟩ := pNum_0 z8
  have x3 : (pWant N T 23 (pB6 N T nm n nb k 21 c)).2.1 = 0 := x1.1
  have z6 := pWant_0 x3
  obtain ⟨y1, y2, y3⟩ := b6_0 z6
  exact ⟨y1, y2, y3, x2'.2, opt_val h' (by omega)⟩
theorem lett_0 {nm nb : Nat → Nat} {n k : Nat} (h : (pLett N T nm n nb k c).2.1 = 0) : (pNew N T nb k c).2.1 = 0 ∧ fd N T nm (pB3 N T nm n nb k 25 c).1 n < n ∧ fd N T nm (pB5 N T nm n nb k 25 c).1 n < n ∧ (∃ x, x ≤ 200 ∧ (if pSee N T 26 (pB6 N T nm n nb k 25 c) then nI (kV N T ((pB6 N T nm n nb k 25 c).1 + 1)) else nI 200) = nI x) ∧ ∃ e, (1 ≤ e ∧ e ≤ 9) ∧ (if pSee N T 27 (pL7 N T nm n nb k c) then nI (kV N T ((pL7 N T nm n nb k c).1 + 1)) else nI 1) = nI e := by
  have h' : (pOpt N T 27 1 9 (pL7 N T nm n nb k c)).2.1 = 0 := h
  have z7 : (pOpt N T 26 0 200 (pB6 N T nm n nb k 25 c)).2.1 = 0 := pOpt_0 h'
  have z6 := pOpt_0 z7
  obtain ⟨y1, y2, y3⟩ := b6_0 z6
  obtain ⟨x, hx, ex⟩ := opt_val (o := 200) z7 (by omega)
  exact ⟨y1, y2, y3, ⟨x, hx.2, ex⟩, opt_val h' (by omega)⟩
theorem pLine_ok (hM : kK N T M = 0) (h0 : c.2.1 = 0) (hc : c.1 ≤ M) (hO : oD N T D) (h : (pLine N T D c).1.2.1 = 0) : oD N T (pLine N T D c).2 := by
  have h' : (pWant N T 4 (pLn N T D c).1).2.1 = 0 := h
  have z1 : (pLn N T D c).1.2.1 = 0 := pWant_0 h'
  show oD N T (pLn N T D c).2
  have hO' := hO
  obtain ⟨⟨n0, n1, n2⟩, ⟨m0, m1, m2, m3⟩, ⟨m4, m5⟩, -⟩ := hO'
  by_cases q : mayB D (kK N T c.1)
  · have ad : mv M c (pAdv c) := mv_adv hM (by omega)
    rcases q with ⟨q, q2⟩ | ⟨q, q2⟩ | ⟨q, q2⟩ | ⟨q, q2⟩ | ⟨q, q2⟩ | ⟨q, q2⟩
    · rw [pLn_0 q q2] at z1 ⊢
      dsimp only at z1 ⊢
      exact oD_new hO q2 (nmOk.add (c := pAdv c) n0 (by omega) z1)
    · rw [pLn_1 q q2] at z1 ⊢
      dsimp only at z1 ⊢
      obtain ⟨x1, x2', x3, x4, x5⟩ := way_0 z1
      exact oD_way hO q2 x1 x2' x3 x4 x5
    · rw [pLn_2 q q2] at z1 ⊢
      dsimp only at z1 ⊢
      obtain ⟨x1, x2', x3, x4, e, x5, x6⟩ := bier_0 z1
      have go := oD_bier (j := c.1 + 1) hO q2 (nmOk.add (c := pAdv c) n1 (by omega) x1) x2' x3 x4 x5
      rw [← x6] at go
      exact go
    · rw [pLn_3 q q2] at z1 ⊢
      dsimp only at z1 ⊢
      obtain ⟨x1, x2', x3, ⟨x, x4, x7⟩, e, x5, x6⟩ := lett_0 z1
      have go := oD_lett (j := c.1 + 1) hO q2 (nmOk.add (c := pAdv c) n2 (by omega) x1) x2' x3 x4 x5
      rw [← x6, ← x7] at go
      exact go
    · rw [pLn_4 q q2] at z1 ⊢
      dsimp only at z1 ⊢
      obtain ⟨-, -, -, -, -, r1, r2, r3, r4⟩ := hO
      obtain ⟨g1, g2, g3, g4, g5, g6, g7, g8⟩ := pwt_ok hM h0 (ad hc).2 z1
      have g4' : sd (pWt N T c).2.1 = 0 + 1 := g4
      have g8' : (pWt N T c).2.1.length + sl 0 0 + 9 * 0 ≤ 0 + 9 * (pWt N T c).2.2 := g8
      have g9 : (pWt N T c).2.1.length ≤ 270 := by omega
      generalize pWt N T c = s at g3 g4' g6 g9
      exact ⟨⟨n0, n1, n2⟩, ⟨m0, m1, m2, m3⟩, ⟨Nat.le_refl 1, m5⟩, fun z => absurd (show (1 : Nat) = 0 from z) (by decide), fun _ => ⟨g3, g4', g9, g6⟩, r1, r2, r3, r4⟩
    · rw [pLn_5 q q2]
      dsimp only
      obtain ⟨-, -, -, t0, t1, r1, r2, r3, r4⟩ := hO
      generalize kV N T (pAdv c).1 = a
      generalize kV N T (pWin2 N T (pAdv c)).1 = b
      exact ⟨⟨n0, n1, n2⟩, ⟨m0, m1, m2, m3⟩, ⟨m4, Nat.le_refl 1⟩, t0, t1, r1, r2, r3, r4⟩
  · rw [pLn_6 q] at z1
    exact absurd z1 (pFail_0 (by omega))
end LINEOK
