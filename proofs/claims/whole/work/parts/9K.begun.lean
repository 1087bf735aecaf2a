/-! A LAND THAT HAS BEGUN, on both sides: the land L and the row of its first day, as the reference has them -/
def lIx (i : Nat) : Nat := if i = 0 then 49 else if i = 1 then 50 else if i = 2 then 51 else if i = 3 then 52 else if i = 4 then 53 else if i = 5 then 21 else if i = 6 then 18 else 56
def lRw (a : Nat) : Nat := if a = 1 then 668 else if a = 2 then 669 else if a = 3 then 670 else if a = 4 then 675 else if a = 5 then 676 else if a = 6 then 677 else if a = 7 then 678 else if a = 8 then 660 else 661
def lOf (u : xU) : xU := fun a i => if a = 0 then u 655 (lIx i) else u (lRw a) i
/-- L is the land of the draft D -/
def lDr (D : pD) (L : xU) : Prop :=
  (L 0 0 = nI (D.1 0) ∧ L 0 1 = nI (D.1 3) ∧ L 0 2 = nI (D.1 1) ∧ (D.1 5 = 0 → L 0 3 = 300 ∧ L 0 4 = 0) ∧ (D.1 5 = 1 → L 0 3 = nI (D.1 7) ∧ L 0 4 = nI (D.1 8)) ∧ L 0 5 = nI (D.1 6) ∧ L 0 7 = nI (D.1 4) ∧ L 0 6 = nI D.2.2.2.2.length) ∧
  (∀ k, k < D.1 3 → L 1 k = D.2.2.1 1 k ∧ L 2 k = D.2.2.1 2 k ∧ L 3 k = D.2.2.1 3 k) ∧
  (∀ k, k < D.1 1 → L 4 k = D.2.2.1 4 k ∧ L 5 k = D.2.2.1 5 k ∧ L 6 k = D.2.2.1 6 k ∧ L 7 k = D.2.2.1 7 k) ∧
  (∀ k, k < D.2.2.2.2.length → L 8 k = nI (stp D.2.2.2.2 k).1 ∧ L 9 k = nI (stp D.2.2.2.2 k).2)
theorem lDr_of {D : pD} {u : xU} (h : rbgn D u) : lDr D (lOf u) := ⟨h.1, h.2.1, h.2.2.1, h.2.2.2.1⟩
theorem rL_of {D : pD} {u : xU} {N : Nat} {T : Nat → Int32} (hO : oD N T D) (h : rbgn D u) : rL u (lOf u) := by
  obtain ⟨-, ⟨m0, m1, m2, m3⟩, -⟩ := hO
  obtain ⟨⟨a1, a2, a3, -⟩, -⟩ := h
  have e : ∀ {x : Int32} {n : Nat}, n ≤ 12 → x = nI n → x = nI x.toNatClampNeg := fun hn hx => by rw [hx, nc (by omega)]
  exact ⟨⟨e (by omega) a1, e (by omega) a2, e (by omega) a3⟩, rfl, rfl, rfl, rfl, rfl, rfl, rfl, rfl, rfl, rfl, rfl, rfl, rfl⟩
theorem gWay_cg {L L' : xU} {c : Int32} {z : Nat → Nat → Int32} {n : Nat} (h : ∀ k, k < n → L 1 k = L' 1 k ∧ L 2 k = L' 2 k ∧ L 3 k = L' 3 k) : gWay L c z n = gWay L' c z n := by
  unfold gWay
  refine xfold_congr (fun k y hk => ?_)
  obtain ⟨e1, e2, e3⟩ := h k hk
  rw [e1, e2, e3]
theorem rRo.cg {u L L' : xU} {c : Int32} {nv n : Nat} (h : rRo u L c nv n) (e : ∀ k, k < n → L 1 k = L' 1 k ∧ L 2 k = L' 2 k ∧ L 3 k = L' 3 k) : rRo u L' c nv n := by
  unfold rRo gDist gDays at h ⊢
  rw [← gWay_cg e, ← gWay_cg e]
  exact h
theorem lS_dr {D : pD} {L : xU} (h : lDr D L) (hn : D.2.2.2.2.length ≤ 270) : lS L = D.2.2.2.2.length := by
  unfold lS
  rw [h.1.2.2.2.2.2.2.2, nc (by omega)]
theorem oSign_f {a : Nat} (h : oSign a) : fSign (nI a) := by
  rcases h with h | h | h | h | h | h | h | h | h | h <;> subst h
  · exact Or.inl rfl
  · exact Or.inr (Or.inl rfl)
  · exact Or.inr (Or.inr (Or.inl rfl))
  · exact Or.inr (Or.inr (Or.inr (Or.inl rfl)))
  · exact Or.inr (Or.inr (Or.inr (Or.inr (Or.inl rfl))))
  · exact Or.inr (Or.inr (Or.inr (Or.inr (Or.inr (Or.inl rfl)))))
  · exact Or.inr (Or.inr (Or.inr (Or.inr (Or.inr (Or.inr (Or.inl rfl))))))
  · exact Or.inr (Or.inr (Or.inr (Or.inr (Or.inr (Or.inr (Or.inr (Or.inl rfl)))))))
  · exact Or.inr (Or.inr (Or.inr (Or.inr (Or.inr (Or.inr (Or.inr (Or.inr (Or.inl rfl))))))))
  · exact Or.inr (Or.inr (Or.inr (Or.inr (Or.inr (Or.inr (Or.inr (Or.inr (Or.inr rfl))))))))
theorem okS_f {L : xU} : ∀ S : List (Nat × Nat), okS S → (∀ k, k < S.length → L 8 k = nI (stp S k).1 ∧ L 9 k = nI (stp S k).2) → (∀ k, k < S.length → fStepOk L k) ∧ (∀ k, k ≤ S.length → fDep L k ≤ 30) ∧ fDep L S.length = sd S := by
  intro S
  induction S with
  | nil =>
    intro _ _
    refine ⟨fun k hk => absurd hk (Nat.not_lt_zero _), fun k hk => ?_, rfl⟩
    have e : k = 0 := Nat.le_zero.mp hk
    rw [e]; exact Nat.zero_le _
  | cons x S ih =>
    intro hS hL
    obtain ⟨h1, h2, h3⟩ := hS
    have hL' : ∀ k, k < S.length → L 8 k = nI (stp S k).1 ∧ L 9 k = nI (stp S k).2 := fun k hk => by
      have := hL k (by rw [List.length_cons]; omega)
      rw [stp_old _ _ hk] at this
      exact this
    obtain ⟨i1, i2, i3⟩ := ih h1 hL'
    obtain ⟨e8, e9⟩ := hL S.length (by rw [List.length_cons]; omega)
    rw [stp_new] at e8 e9
    have x3 : x.1 ≤ 3 := by omega
    have q0 : L 8 S.length = 0 ↔ x.1 = 0 := by rw [e8]; exact eq_nI (b := 0) (by omega) (by omega)
    have q1 : L 8 S.length = 1 ↔ x.1 = 1 := by rw [e8]; exact eq_nI (b := 1) (by omega) (by omega)
    have q2 : L 8 S.length = 2 ↔ x.1 = 2 := by rw [e8]; exact eq_nI (b := 2) (by omega) (by omega)
    have q3 : L 8 S.length = 3 ↔ x.1 = 3 := by rw [e8]; exact eq_nI (b := 3) (by omega) (by omega)
    have dS : fDep L (S.length + 1) = sd (x :: S) := by
      show (if L 8 S.length = 0 ∨ L 8 S.length = 1 then fDep L S.length + 1 else if L 8 S.length = 2 then fDep L S.length else fDep L S.length - 1) = (if x.1 = 0 ∨ x.1 = 1 then sd S + 1 else if x.1 = 2 then sd S else sd S - 1)
      simp only [q0, q1, q2, i3]
    refine ⟨fun k hk => ?_, fun k hk => ?_, dS⟩
    · rw [List.length_cons] at hk
      rcases Nat.lt_or_ge k S.length with y | y
      · exact i1 k y
      · have ek : k = S.length := by omega
        rw [ek]
        unfold fStepOk
        rw [q0, q1, q2, q3, i3, e9]
        rcases h3 with ⟨z1, z2⟩ | ⟨z1, z2⟩ | ⟨z1, z2⟩ | ⟨z1, z2, z3⟩
        · exact Or.inl ⟨z1, x.2, z2, rfl⟩
        · exact Or.inr (Or.inl ⟨z1, x.2, z2, rfl⟩)
        · exact Or.inr (Or.inr (Or.inl ⟨z1, z2⟩))
        · exact Or.inr (Or.inr (Or.inr ⟨z1, oSign_f z2, z3⟩))
    · rw [List.length_cons] at hk
      rcases Nat.lt_or_ge k (S.length + 1) with y | y
      · exact i2 k (by omega)
      · have ek : k = S.length + 1 := by omega
        rw [ek, dS]; exact h2
section BEGUN
variable {N : Nat} {T : Nat → Int32} {D : pD} {L : xU} {σ : Nat → Int32}
theorem lDr.nums (hO : oD N T D) (h : lDr D L) : lV L = D.1 0 ∧ lW L = D.1 3 ∧ lB L = D.1 1 ∧ lS L = D.2.2.2.2.length := by
  obtain ⟨-, ⟨m0, m1, m2, m3⟩, ⟨m4, m5⟩, t0, t1, -⟩ := hO
  have n270 : D.2.2.2.2.length ≤ 270 := by
    by_cases z : D.1 4 = 1
    · exact (t1 z).2.2.1
    · by_cases z0 : D.1 4 = 0
      · rw [(t0 z0).2]; exact Nat.zero_le _
      · omega
  refine ⟨?_, ?_, ?_, lS_dr h n270⟩
  · unfold lV; rw [h.1.1, nc (by omega)]
  · unfold lW; rw [h.1.2.1, nc (by omega)]
  · unfold lB; rw [h.1.2.2.1, nc (by omega)]
theorem lDr.ok (hO : oD N T D) (h : lDr D L) : lOkk L := by
  obtain ⟨nV, nW, nB, nS⟩ := lDr.nums hO h
  obtain ⟨-, ⟨m0, m1, m2, m3⟩, ⟨m4, m5⟩, t0, t1, r1, r2, r3, r4⟩ := hO
  obtain ⟨⟨a1, a2, a3, a4, a5, a6, a7, a8⟩, b1, b2, b3⟩ := h
  refine ⟨⟨by rw [nV]; exact m0, by rw [nW]; exact m3, fun k hk => ?_⟩, fun j k hj hk => ?_, ⟨by rw [nB]; exact m1, fun b hb => ?_⟩, ?_⟩
  · rw [nW] at hk
    obtain ⟨a, b, x, y1, y2, y3, ⟨y4, y5⟩, y6, y7, y8⟩ := r1 k hk
    obtain ⟨e1, e2, e3⟩ := b1 k hk
    rw [nV]
    exact ⟨a, b, y1, y2, y3, e1.trans y6, e2.trans y7, by rw [e3, y8, nI_toInt (by omega)]; omega, by rw [e3, y8, nI_toInt (by omega)]; omega⟩
  · rw [nW] at hk
    obtain ⟨e1, e2, e3⟩ := b1 k hk
    obtain ⟨e4, e5, e6⟩ := b1 j (by omega)
    rw [e1, e2, e4, e5]
    exact r2 j k hj hk
  · rw [nB] at hb
    obtain ⟨a, c, x, y, y1, y2, y3, y4, y5, y6, y7, y8⟩ := r3 b hb
    obtain ⟨e1, e2, e3, e4⟩ := b2 b hb
    rw [nV]
    exact ⟨⟨a, y1, e1.trans y5⟩, ⟨c, y2, e2.trans y6⟩, y, y4.1, y4.2, e4.trans y8⟩
  · unfold fOk
    rw [nS]
    by_cases z : D.1 4 = 1
    · obtain ⟨s1, s2, s3, s4⟩ := t1 z
      obtain ⟨f1, f2, f3⟩ := okS_f (L := L) D.2.2.2.2 s1 b3
      exact ⟨a8, s3, f1, f2, Or.inr ⟨by rw [a7, z]; rfl, by rw [f3, s2]; exact Nat.le_refl 1⟩⟩
    · have z0 : D.1 4 = 0 := by omega
      have eS := (t0 z0).2
      rw [eS] at a8 ⊢
      refine ⟨a8, Nat.zero_le _, fun k hk => absurd hk (Nat.not_lt_zero _), fun k hk => ?_, Or.inl ⟨by rw [a7, z0]; rfl, rfl⟩⟩
      have ek : k = 0 := Nat.le_zero.mp hk
      rw [ek]; exact Nat.zero_le _
theorem sRow.fin (h : sRow D σ) (b : Nat) (hb : b ≤ 100) : fIn (D.1 2) σ b = 0 := by
  unfold fIn
  refine cn_0.2 (fun l hl => decide_eq_false (fun z => ?_))
  rw [(h.2.1 l hl).2.1] at z
  have y := m1_neg
  rw [z] at y
  exact nI_nn (by omega) y
theorem lDr.row (hO : oD N T D) (h : lDr D L) (hs : sRow D σ) : rXn L (D.1 2) 0 σ := by
  obtain ⟨nV, nW, nB, nS⟩ := lDr.nums hO h
  have fin := hs.fin
  obtain ⟨-, ⟨m0, m1, m2, m3⟩, ⟨m4, m5⟩, t0, t1, r1, r2, r3, r4⟩ := hO
  obtain ⟨s1, s2, s3, s4, s5⟩ := hs
  obtain ⟨-, b1, b2, b3⟩ := h
  refine ⟨⟨⟨s3, by omega⟩, rfl, ⟨s5, by omega⟩, fun b hb => ⟨fun hb' => ?_, fun _ => (s1 b hb).1⟩, fun l hl => ?_, fun b hb => by rw [fin b (by omega)]; exact Nat.zero_le _⟩, fun l hl => ?_, fun b hb _ => ?_⟩
  · rw [nB] at hb'
    obtain ⟨x1, x2', x3⟩ := s1 b hb
    rw [if_pos hb'] at x2'
    obtain ⟨a, c, x, y, y1, y2, y3, y4, y5, y6, y7, y8⟩ := r3 b hb'
    rw [nV]
    exact ⟨⟨a, y1, x2'.trans y5⟩, Or.inl ⟨x1, x2'.trans (b2 b hb').1.symm⟩⟩
  · obtain ⟨x1, x2', x3, x4, x5, x6, x7⟩ := s2 l hl
    obtain ⟨a, c, x, y, y1, y2, y3, y4, y5, y6, y7, y8⟩ := r4 l hl
    unfold sL1
    rw [nV]
    exact ⟨⟨c, y2, x5.trans y6⟩, Or.inl ⟨x2', x3, a, y1, x1.trans y5⟩⟩
  · obtain ⟨x1, x2', x3, x4, x5, x6, x7⟩ := s2 l hl
    obtain ⟨a, c, x, y, y1, y2, y3, y4, y5, y6, y7, y8⟩ := r4 l hl
    exact ⟨y, y4.2, x7.trans y8⟩
  · rw [nB] at hb
    exact (s1 b (by omega)).2.2 hb
theorem sRaw.st {l s : Nat} {u : xU} (hO : oD N T D) (h : lDr D L) (hs : sRow D σ) (hb : cBi l D.2.2.1 (D.1 1) u) (hr : sRaw l (D.1 2) D.2.2.2.1 u s) : kSt L (D.1 2) u s σ (fun _ => -1) := by
  obtain ⟨nV, nW, nB, nS⟩ := lDr.nums hO h
  have fin := hs.fin
  obtain ⟨-, ⟨m0, m1, m2, m3⟩, -⟩ := hO
  obtain ⟨s1, s2, s3, s4, s5⟩ := hs
  obtain ⟨⟨c1, c2, c3⟩, c4, c5⟩ := hr
  refine ⟨⟨c1.trans s5.symm, c2.trans s4.symm, c3.trans s3.symm⟩, fun b hb6 => (c4 b hb6).1.trans (s1 b hb6).1.symm, fun b hbB => ?_, fun i hi => ?_⟩
  · rw [nB] at hbB
    obtain ⟨x1, x2', x3⟩ := s1 b (by omega)
    rw [if_pos hbB] at x2'
    obtain ⟨y1, y2, y3, y4⟩ := c4 b (by omega)
    refine ⟨(y2.trans (hb.2 b hbB).1).trans x2'.symm, fun _ => y3.trans (x3 hbB).symm, fun _ => y3, ?_⟩
    rw [fin b (by omega)]; exact y4
  · obtain ⟨x1, x2', x3, x4, x5, x6, x7⟩ := s2 i hi
    obtain ⟨y1, y2, y3, y4, y5, y6, y7⟩ := c5 i hi
    exact ⟨⟨y1.trans x1.symm, y2.trans x2'.symm, y3.trans x3.symm, y7.trans x4.symm⟩, y4.trans x5.symm, y5.trans x6.symm, y6.trans x7.symm⟩
theorem land_k {l : Nat} {u : xU} {w : xW} (hO : oD N T D) (h : lDr D L) (hs : sRow D σ) (hb : bgn N T l D u w) : kN L l (D.1 2) 0 u σ ∧ cRg L u 0 0 0 (fun _ => σ) := by
  obtain ⟨nV, nW, nB, nS⟩ := lDr.nums hO h
  have hX := lDr.row hO h hs
  obtain ⟨hD, r105, r119, hro, ⟨p1, p2, p3⟩, -⟩ := hb
  have k105 := sRaw.st hO h hs hD.2.2.2.2.2.1 r105
  have k119 := sRaw.st hO h hs hD.2.2.2.2.2.1 r119
  have hO2 := hO
  obtain ⟨-, ⟨m0, m1, m2, m3⟩, ⟨m4, m5⟩, t0, t1, -⟩ := hO
  obtain ⟨⟨a1, a2, a3, a4, a5, a6, a7, a8⟩, b1, b2, b3⟩ := h
  obtain ⟨d1, d2, d3, d4, d5, d6, d7, d8, d9, e1, e2, e3, e4, e5⟩ := hD
  have s89 : σ 89 = 0 := hs.2.2.2.1
  refine ⟨⟨⟨⟨⟨?_, ?_, ?_⟩, ⟨?_, fun k hk => ?_⟩, fun b hb => ?_, fun x => ?_, ⟨?_, ?_, fun k hk => ?_⟩⟩, ?_⟩, ⟨_, k105⟩, hX.1⟩, ⟨p1, p2, p3⟩, fun i hi => ?_⟩
  · rw [nV]; exact d4
  · rw [nW]; exact d5.1
  · rw [nB]; exact d6.1
  · rw [nW]; exact d5.1
  · rw [nW] at hk
    obtain ⟨x1, x2', x3⟩ := d5.2 k hk
    obtain ⟨y1, y2, y3⟩ := b1 k hk
    exact ⟨x1.trans y1.symm, x2'.trans y2.symm, x3.trans y3.symm⟩
  · rw [nB] at hb
    obtain ⟨x1, x2', x3, x4⟩ := d6.2 b hb
    obtain ⟨y1, y2, y3, y4⟩ := b2 b hb
    exact ⟨x1.trans y1.symm, x2'.trans y2.symm, x3.trans y3.symm, x4.trans y4.symm⟩
  · unfold fWin
    by_cases z : D.1 5 = 0
    · rw [(a4 z).1, (a4 z).2, (e1 z).1, (e1 z).2]
      constructor
      · intro ⟨z1, z2⟩
        rw [ti_lt, show (0 : Int32).toInt = 0 from rfl] at z1
        rw [ti_lt, show (-1 : Int32).toInt = -1 from rfl] at z2
        omega
      · intro ⟨z1, z2⟩
        rw [ti_lt, show (300 : Int32).toInt = 300 from rfl] at z1
        rw [ti_lt, show (0 : Int32).toInt = 0 from rfl] at z2
        omega
    · have z1 : D.1 5 = 1 := by omega
      rw [(a5 z1).1, (a5 z1).2, (e2 z1).1, (e2 z1).2]
  · rw [nS]; exact e3
  · exact e4.trans a6.symm
  · rw [nS] at hk
    obtain ⟨y1, y2⟩ := b3 k hk
    rw [y1, y2]
    exact e5 k hk
  · rw [nV, nW, s89]
    exact hro.cg (fun k hk => by
      obtain ⟨y1, y2, y3⟩ := b1 k hk
      exact ⟨y1.symm, y2.symm, y3.symm⟩)
  · have ei : i = 0 := by omega
    subst ei
    exact ⟨_, _, _, hX, k119⟩
theorem land_r {u : xU} (hO : oD N T D) (h : rbgn D u) (h91 : ∀ j, 91 ≤ j → u 684 j = u 683 j) : rN1 (lOf u) (D.1 2) 0 u (u 683) ∧ ∀ RS, rRg u 0 0 RS := by
  have hX := lDr.row hO (lDr_of h) h.2.2.2.2.1
  refine ⟨⟨rL_of hO h, rfl, hX.1, h91⟩, fun RS => ⟨⟨h.2.2.2.2.2.1.1, h.2.2.2.2.2.1.2.1⟩, fun i j hj => ⟨fun z => absurd z (Nat.not_lt_zero _), fun z1 z2 => by omega⟩⟩⟩
end BEGUN
