/-! A LAND BEGINS: the class -/
/-- the state at s is that of the first day -/
def sRaw (l nL : Nat) (E u : xU) (s : Nat) : Prop :=
  (u s 0 = 0 ∧ u s 1 = 0 ∧ u s 2 = nI nL) ∧ (∀ b, b < 6 → u (s + 1) b = 0 ∧ u (s + 2) b = u (l + 4) b ∧ u (s + 3) b = -1 ∧ u (s + 4) b = 0) ∧
  ∀ i, i < nL → u (s + 5) i = E 0 i ∧ u (s + 6) i = -1 ∧ u (s + 7) i = -1 ∧ u (s + 8) i = E 1 i ∧ u (s + 9) i = E 2 i ∧ u (s + 10) i = E 3 i ∧ u (s + 11) i = 0
theorem sRaw.kept {l nL : Nat} {E u u' : xU} {s : Nat} (h : sRaw l nL E u s) {F : Nat → Prop} (f : xSm F u u') (h1 : ∀ b, s ≤ b → b ≤ s + 11 → ¬ F b) (h2 : ¬ F (l + 4)) : sRaw l nL E u' s := by
  obtain ⟨⟨a1, a2, a3⟩, b, c⟩ := h
  have e : ∀ k i, k ≤ 11 → u' (s + k) i = u (s + k) i := fun k i hk => f _ _ (h1 _ (by omega) (by omega))
  have e0 : ∀ i, u' s i = u s i := fun i => e 0 i (by omega)
  refine ⟨⟨(e0 _).trans a1, (e0 _).trans a2, (e0 _).trans a3⟩, fun k hk => ?_, fun i hi => ?_⟩
  · rw [e 1 k (by omega), e 2 k (by omega), e 3 k (by omega), e 4 k (by omega), f _ _ h2]; exact b k hk
  · rw [e 5 i (by omega), e 6 i (by omega), e 7 i (by omega), e 8 i (by omega), e 9 i (by omega), e 10 i (by omega), e 11 i (by omega)]; exact c i hi
theorem sRaw.copy {l nL : Nat} {E u u' : xU} {s o : Nat} (h : sRaw l nL E u o) (hn : nL ≤ 8) (hc : kCp u u' s o) (he : ∀ b, u' (l + 4) b = u (l + 4) b) : sRaw l nL E u' s := by
  obtain ⟨⟨a1, a2, a3⟩, b, c⟩ := h
  obtain ⟨c1, c2, c3⟩ := hc
  refine ⟨⟨(c1 0 (by omega)).trans a1, (c1 1 (by omega)).trans a2, (c1 2 (by omega)).trans a3⟩, fun k hk => ?_, fun i hi => ?_⟩
  · rw [c2 1 k (by omega) (by omega) hk, c2 2 k (by omega) (by omega) hk, c2 3 k (by omega) (by omega) hk, c2 4 k (by omega) (by omega) hk, he]; exact b k hk
  · have i10 : i < 10 := by omega
    rw [c3 5 i (by omega) (by omega) i10, c3 6 i (by omega) (by omega) i10, c3 7 i (by omega) (by omega) i10, c3 8 i (by omega) (by omega) i10, c3 9 i (by omega) (by omega) i10, c3 10 i (by omega) (by omega) i10, c3 11 i (by omega) (by omega) i10]; exact c i hi
section START
variable {g : xGT} {d : Nat} {w : xW} {r : xQ} {l : Nat} {P : xPost} {D : pD}
theorem K_beg_17 {u0 : xU} (hr : xRf r) (hl : l = 22 ∨ l = 37) (kk : ∀ u, (∀ b, b < 6 → u 106 b = 0 ∧ u 107 b = u (l + 4) b ∧ u 108 b = -1 ∧ u 109 b = 0) → xSm (fun b => 106 ≤ b ∧ b ≤ 109) u0 u → xEv g (d + 1) mX9_begin 64 [some (.ref 105), some (.ref l), some (.int (nI 0))] [] 698 u w r 698 P) :
    xEv g (d + 1) mX9_begin 17 [some (.ref 105), some (.ref l), some (.int (nI 0))] [] 698 u0 w r 698 P := by
  have h_l := ld_of hl
  have q_l := hr.ld hl
  refine xlp (N := 6) (Q := fun k u => (∀ b, b < k → u 106 b = 0 ∧ u 107 b = u (l + 4) b ∧ u 108 b = -1 ∧ u 109 b = 0) ∧ xSm (fun b => 106 ≤ b ∧ b ≤ 109) u0 u) (G := fun k u => xEv g (d + 1) mX9_begin 17 [some (.ref 105), some (.ref l), some (.int (nI k))] [] 698 u w r 698 P) ?_ ?_ ⟨fun b hb => absurd hb (Nat.not_lt_zero _), xSm.rf⟩
  · intro u h
    exact TX9_begin_17 st105 (sr105 hr) h_l q_l (brT (nI_le (a := 6) (Nat.le_refl _) (by omega)) (kk u h.1 h.2))
  · intro k u hk h ih
    refine TX9_begin_17 st105 (sr105 hr) h_l q_l (brF (nI_ge (b := 6) (by omega) (by omega)) ⟨vpn hk (by omega), ?_⟩)
    rw [nc (by omega), nI_one]
    refine ih _ ⟨fun b hb => ?_, (((h.2.put ⟨by omega, by omega⟩).put ⟨by omega, by omega⟩).put ⟨by omega, by omega⟩).put ⟨by omega, by omega⟩⟩
    have e4 : ∀ i, (x2 (x2 (x2 (x2 u 106 k 0) 107 k ((x2 u 106 k 0) (l + 4) k)) 108 k (-1)) 109 k 0) (l + 4) i = u (l + 4) i := fun i => by
      rw [x2_a _ _ (by omega), x2_a _ _ (by omega), x2_a _ _ (by omega), x2_a _ _ (by omega)]
    show (x2 (x2 (x2 (x2 u 106 k 0) 107 k ((x2 u 106 k 0) (l + 4) k)) 108 k (-1)) 109 k 0) 106 b = 0 ∧ (x2 (x2 (x2 (x2 u 106 k 0) 107 k ((x2 u 106 k 0) (l + 4) k)) 108 k (-1)) 109 k 0) 107 b = (x2 (x2 (x2 (x2 u 106 k 0) 107 k ((x2 u 106 k 0) (l + 4) k)) 108 k (-1)) 109 k 0) (l + 4) b ∧ (x2 (x2 (x2 (x2 u 106 k 0) 107 k ((x2 u 106 k 0) (l + 4) k)) 108 k (-1)) 109 k 0) 108 b = -1 ∧ (x2 (x2 (x2 (x2 u 106 k 0) 107 k ((x2 u 106 k 0) (l + 4) k)) 108 k (-1)) 109 k 0) 109 b = 0
    rw [e4]
    by_cases q : b = k
    · subst q
      refine ⟨?_, ?_, ?_, x2_same _ _ _ _⟩
      · rw [x2_a _ _ (by omega), x2_a _ _ (by omega), x2_a _ _ (by omega), x2_same]
      · rw [x2_a _ _ (by omega), x2_a _ _ (by omega), x2_same, x2_a _ _ (by omega)]
      · rw [x2_a _ _ (by omega), x2_same]
    · have o : ∀ a, (x2 (x2 (x2 (x2 u 106 k 0) 107 k ((x2 u 106 k 0) (l + 4) k)) 108 k (-1)) 109 k 0) a b = u a b := fun a => by
        rw [x2_ne _ _ (by omega), x2_ne _ _ (by omega), x2_ne _ _ (by omega), x2_ne _ _ (by omega)]
      rw [o, o, o, o]
      exact h.1 b (by omega)
theorem K_beg_64 {u0 E : xU} {nL : Nat} (hr : xRf r) (hl : l = 22 ∨ l = 37) (hn : nL ≤ 8) (hE : cLt l E nL u0) (h2 : u0 105 2 = 0)
    (kk : ∀ u, u 105 2 = nI nL → (∀ i, i < nL → u 110 i = E 0 i ∧ u 111 i = -1 ∧ u 112 i = -1 ∧ u 113 i = E 1 i ∧ u 114 i = E 2 i ∧ u 115 i = E 3 i ∧ u 116 i = 0) → xSn (fun b i => (b = 105 ∧ i = 2) ∨ (110 ≤ b ∧ b ≤ 116)) u0 u → P none u w r) :
    xEv g (d + 2) mX9_begin 64 [some (.ref 105), some (.ref l), some (.int (nI 0))] [] 698 u0 w r 698 P := by
  have h_l := ld_of hl
  have q_l := hr.ld hl
  refine xlp (N := nL) (Q := fun k u => u 105 2 = nI k ∧ (∀ i, i < k → u 110 i = E 0 i ∧ u 111 i = -1 ∧ u 112 i = -1 ∧ u 113 i = E 1 i ∧ u 114 i = E 2 i ∧ u 115 i = E 3 i ∧ u 116 i = 0) ∧ xSn (fun b i => (b = 105 ∧ i = 2) ∨ (110 ≤ b ∧ b ≤ 116)) u0 u) (G := fun k u => xEv g (d + 2) mX9_begin 64 [some (.ref 105), some (.ref l), some (.int (nI k))] [] 698 u w r 698 P) ?_ ?_ ⟨h2, fun b hb => absurd hb (Nat.not_lt_zero _), xSn.rf⟩
  · intro u h
    have e10 : u l 10 = nI nL := (h.2.2 _ _ (by omega)).trans hE.1
    refine TX9_begin_64 st105 h_l q_l ?_
    rw [e10]
    exact brT (nI_le (Nat.le_refl _) (by omega)) (kk u h.1 h.2.1 h.2.2)
  · intro k u hk h ih
    obtain ⟨a1, a2, a3⟩ := h
    have e10 : u l 10 = nI nL := (a3 _ _ (by omega)).trans hE.1
    obtain ⟨b1, b2, b3, b4⟩ := hE.2 k hk
    refine TX9_begin_64 st105 h_l q_l ?_
    rw [e10, nc (by omega), a3 (l + 8) k (by omega), a3 (l + 9) k (by omega), a3 (l + 10) k (by omega), a3 (l + 11) k (by omega), b1, b2, b3, b4, nI_one]
    refine brF (nI_ge (by omega) (by omega)) ⟨vpn (by omega) (by omega), CX9_addLetter (d := d) st105 (sr105 hr) (xPr.use (K_isOneOf _ _) ⟨_, rfl, rfl, rfl, rfl, ?_⟩)⟩
    rw [a1]
    have in10 : ¬ xb (¬ (nI k < 0) ∧ ¬ ((10 : Int32) ≤ nI k)) = 0 := by
      rw [xb_eq0, Classical.not_not]
      exact ⟨nI_nn (by omega), nI_ge (b := 10) (by omega) (by omega)⟩
    rw [nc (by omega)]
    refine brF in10 ⟨vpn (by omega) (by omega), _, rfl, rfl, rfl, ?_⟩
    have eu : ∀ (X : xU), X = x2 (x2 (x2 (x2 (x2 (x2 (x2 u (105 + 5) k (E 0 k)) (105 + 6) k (-1)) (105 + 7) k (-1)) (105 + 8) k (E 1 k)) (105 + 9) k (E 2 k)) (105 + 10) k (E 3 k)) (105 + 11) k 0 → xEv g (d + 2) mX9_begin 64 [some (.ref 105), some (.ref l), some (.int (nI (k + 1)))] [] 698 (x2 X 105 2 (X 105 2 + 1)) w r 698 P := by
      intro X hX
      have f1 : xSn (fun b i => (110 ≤ b ∧ b ≤ 116) ∧ i = k) u X := by
        rw [hX]
        exact (((((((xSn.rf).put (by omega)).put (by omega)).put (by omega)).put (by omega)).put (by omega)).put (by omega)).put (by omega)
      have v : X 110 k = E 0 k ∧ X 111 k = -1 ∧ X 112 k = -1 ∧ X 113 k = E 1 k ∧ X 114 k = E 2 k ∧ X 115 k = E 3 k ∧ X 116 k = 0 := by
        rw [hX]
        refine ⟨?_, ?_, ?_, ?_, ?_, ?_, ?_⟩
        · rw [x2_a _ _ (by omega), x2_a _ _ (by omega), x2_a _ _ (by omega), x2_a _ _ (by omega), x2_a _ _ (by omega), x2_a _ _ (by omega)]; exact x2_same _ _ _ _
        · rw [x2_a _ _ (by omega), x2_a _ _ (by omega), x2_a _ _ (by omega), x2_a _ _ (by omega), x2_a _ _ (by omega)]; exact x2_same _ _ _ _
        · rw [x2_a _ _ (by omega), x2_a _ _ (by omega), x2_a _ _ (by omega), x2_a _ _ (by omega)]; exact x2_same _ _ _ _
        · rw [x2_a _ _ (by omega), x2_a _ _ (by omega), x2_a _ _ (by omega)]; exact x2_same _ _ _ _
        · rw [x2_a _ _ (by omega), x2_a _ _ (by omega)]; exact x2_same _ _ _ _
        · rw [x2_a _ _ (by omega)]; exact x2_same _ _ _ _
        · exact x2_same _ _ _ _
      have e1 : X 105 2 + 1 = nI (k + 1) := by rw [f1 _ _ (by omega), a1, nI_one]
      rw [e1]
      have o : ∀ a i, 110 ≤ a → (x2 X 105 2 (nI (k + 1))) a i = X a i := fun a i ha => x2_a _ _ (by omega)
      refine ih _ ⟨x2_same _ _ _ _, fun i hi => ?_, (a3.tr (f1.to (fun b i z => by omega))).put (by omega)⟩
      rw [o 110 i (by omega), o 111 i (by omega), o 112 i (by omega), o 113 i (by omega), o 114 i (by omega), o 115 i (by omega), o 116 i (by omega)]
      by_cases q : i = k
      · subst q; exact v
      · rw [f1 110 i (by omega), f1 111 i (by omega), f1 112 i (by omega), f1 113 i (by omega), f1 114 i (by omega), f1 115 i (by omega), f1 116 i (by omega)]
        exact a2 i (by omega)
    exact eu _ rfl
theorem K_begin9 {u E : xU} {nL : Nat} (hr : xRf r) (hl : l = 22 ∨ l = 37) (hn : nL ≤ 8) (hE : cLt l E nL u) (kk : ∀ u', sRaw l nL E u' 105 → xSm (fSt 105) u u' → P none u' w r) : xCall g (d + 2) mX9_begin [.ref 105, .ref l] 698 u w r 698 P := by
  refine CX9_begin st105 ?_
  have f0 : xSm (fun b => b = 105) u (x2 (x2 (x2 u 105 0 0) 105 1 0) 105 2 0) := (((xSm.rf (F := fun b : Nat => b = 105)).put rfl).put rfl).put rfl
  have e0 : (x2 (x2 (x2 u 105 0 0) 105 1 0) 105 2 0) 105 0 = 0 ∧ (x2 (x2 (x2 u 105 0 0) 105 1 0) 105 2 0) 105 1 = 0 ∧ (x2 (x2 (x2 u 105 0 0) 105 1 0) 105 2 0) 105 2 = 0 := ⟨rfl, rfl, rfl⟩
  generalize x2 (x2 (x2 u 105 0 0) 105 1 0) 105 2 0 = u1 at f0 e0
  refine K_beg_17 (d := d + 1) hr hl (fun u2 x1 x2' => K_beg_64 (E := E) (nL := nL) hr hl hn ⟨?_, fun k hk => ?_⟩ ?_ (fun u3 y1 y2 y3 => kk u3 ⟨⟨?_, ?_, y1⟩, fun b hb => ?_, y2⟩ ?_))
  · rw [x2' _ _ (by omega), f0 _ _ (by omega)]; exact hE.1
  · rw [x2' _ _ (by omega), f0 _ _ (by omega), x2' _ _ (by omega), f0 _ _ (by omega), x2' _ _ (by omega), f0 _ _ (by omega), x2' _ _ (by omega), f0 _ _ (by omega)]; exact hE.2 k hk
  · exact (x2' _ _ (by omega)).trans e0.2.2
  · rw [y3 _ _ (by omega), x2' _ _ (by omega)]; exact e0.1
  · rw [y3 _ _ (by omega), x2' _ _ (by omega)]; exact e0.2.1
  · show u3 106 b = 0 ∧ u3 107 b = u3 (l + 4) b ∧ u3 108 b = -1 ∧ u3 109 b = 0
    rw [y3 106 b (by omega), y3 107 b (by omega), y3 108 b (by omega), y3 109 b (by omega), y3 (l + 4) b (by omega)]
    exact x1 b hb
  · intro b i hb
    have hb' : ¬ (105 ≤ b ∧ b ≤ 105 + 11) := hb
    rw [y3 b i (by omega), x2' b i (by omega), f0 b i (by omega)]
/-- how all stands when a land has begun -/
def bgn (N : Nat) (T : Nat → Int32) (l : Nat) (D : pD) (u : xU) (w : xW) : Prop :=
  cD N T l D u w ∧ sRaw l (D.1 2) D.2.2.2.1 u 105 ∧ sRaw l (D.1 2) D.2.2.2.1 u 119 ∧ rRo u D.2.2.1 0 (D.1 0) (D.1 3) ∧ (u 117 1 = 0 ∧ u 117 2 = 0 ∧ u 117 3 = 0) ∧ u 611 4 = 0 ∧ u 8 9 = 0 ∧ ∀ i, i < 3 → u 653 i = 0
abbrev fBe : Nat → Prop := fun b => b = 8 ∨ (55 ≤ b ∧ b < 79) ∨ (105 ≤ b ∧ b ≤ 116) ∨ b = 117 ∨ (119 ≤ b ∧ b ≤ 130) ∨ b = 611 ∨ b = 653
theorem K_sa_69 {u0 : xU} (hr : xRf r) (kk : ∀ u, (∀ i, i < 3 → u 653 i = 0) → xSm (fun b => b = 653) u0 u → P none u w r) : xEv g d mX11_startAnew 69 [some (.ref 8), some (.int (nI 0))] [] 698 u0 w r 698 P := by
  refine xlp (N := 3) (Q := fun k u => (∀ i, i < k → u 653 i = 0) ∧ xSm (fun b => b = 653) u0 u) (G := fun k u => xEv g d mX11_startAnew 69 [some (.ref 8), some (.int (nI k))] [] 698 u w r 698 P) ?_ ?_ ⟨fun b hb => absurd hb (Nat.not_lt_zero _), xSm.rf⟩
  · intro u h
    refine xe_iload_n dX11_startAnew_69 rfl (xe_iconst (v := 3) dX11_startAnew_70 rfl ?_)
    exact xe_icmp_ge (tgt := 87) dX11_startAnew_71 rfl (fun _ => xe_return dX11_startAnew_87 trivial (kk u h.1 h.2)) (fun z => absurd (nI_le (a := 3) (b := 3) (Nat.le_refl _) (by omega)) z)
  · intro k u hk h ih
    refine xe_iload_n dX11_startAnew_69 rfl (xe_iconst (v := 3) dX11_startAnew_70 rfl ?_)
    refine xe_icmp_ge (tgt := 87) dX11_startAnew_71 rfl (fun z => absurd z (nI_ge (b := 3) (by omega) (by omega))) (fun _ => ?_)
    refine xe_aload_n dX11_startAnew_74 rfl ?_
    refine xe_getR (b := 653) dX11_startAnew_75 flX11_69 kk8 (xKK_lt kk8) rfl (rf8_7 hr) ?_
    refine xe_iload_n dX11_startAnew_78 rfl (xe_iconst (v := 0) dX11_startAnew_79 rfl ?_)
    refine xe_zast dX11_startAnew_80 kk653 (xKK_lt kk653) (vpn hk (by omega)) (Or.inl rfl) ?_
    refine xe_iinc (v := nI (k + 1)) (ls' := [some (.ref 8), some (.int (nI (k + 1)))]) dX11_startAnew_81 rfl (by decide) (nI_one k) rfl ?_
    refine xe_goto (tgt := 69) dX11_startAnew_84 rfl (ih _ ⟨fun i hi => ?_, h.2.put rfl⟩)
    rw [nc (by omega)]
    by_cases q : i = k
    · rw [q, x2_same]
    · rw [x2_i _ _ q]; exact h.1 i (by omega)
theorem K_startAnew {u : xU} {N : Nat} {T : Nat → Int32} (hr : xRf r) (hl : l = 22 ∨ l = 37) (ht : r 8 10 = some l) (hO : oD N T D) (hD : cD N T l D u w)
    (kk : ∀ u', bgn N T l D u' w → xSm fBe u u' → u' 611 5 = u 611 5 → P none u' w (x2 r 52 1 (some l))) : xCall g (d + 4) mX11_startAnew [.ref 8] 698 u w r 698 P := by
  obtain ⟨-, ⟨o1, o2, o3, o4⟩, -, -, -, ow, -⟩ := hO
  have h_l := ld_of hl
  refine xCall.of (ls := [some (.ref 8), none]) plX11 (Nat.le_of_ble_eq_true rfl) rfl ?_
  refine xe_aload_n dX11_startAnew_0 rfl ?_
  refine xe_getR (b := 52) dX11_startAnew_1 flX11_31 kk8 (xKK_lt kk8) rfl (rf8_1 hr) ?_
  refine xe_aload_n dX11_startAnew_4 rfl ?_
  refine xe_getR (b := l) dX11_startAnew_5 flX11_19 kk8 (xKK_lt kk8) rfl ht ?_
  refine xe_putR (b := l) dX11_startAnew_8 flX11_353 kk52 (xKK_lt kk52) nf0_1 rfl ?_
  have hr' : xRf (x2 r 52 1 (some l)) := hr.upd (fun b i h1 h2 h3 => x2_ne _ _ h2)
  have ht' : (x2 r 52 1 (some l)) 8 10 = some l := (x2_ne _ _ (by omega)).trans ht
  generalize x2 r 52 1 (some l) = r' at hr' ht' kk
  have q_l := hr'.ld hl
  refine xe_aload_n dX11_startAnew_11 rfl ?_
  refine xe_getR (b := 105) dX11_startAnew_12 flX11_47 kk8 (xKK_lt kk8) rfl (rf8_3 hr') ?_
  refine xe_aload_n dX11_startAnew_15 rfl ?_
  refine xe_getR (b := l) dX11_startAnew_16 flX11_19 kk8 (xKK_lt kk8) rfl ht' ?_
  refine xe_callV (args := [.ref l]) (P1 := fun rv u' w' r1 => rv = none ∧ w = w' ∧ r' = r1 ∧ (sRaw l (D.1 2) D.2.2.2.1 u' 105 ∧ xSm (fSt 105) u u')) dX11_startAnew_19 vlX11_356 rfl rfl (Nat.le_of_ble_eq_true rfl) st105.k0 (xKK_lt st105.k0) rfl rfl (K_begin9 (d := d + 1) hr' hl o3 hD.2.2.2.2.2.2.1 (fun u' y1 y2 => ⟨rfl, rfl, rfl, y1, y2⟩)) (Nat.le_refl _) (fun rv1 u1 w1 r1 k => ?_)
  obtain ⟨rfl, rfl, rfl, s1, f1⟩ := k
  have hD1 : cD N T l D u1 w := hD.kept (f1.n (G := fun b _ => fSt 105 b) (fun b i z => z)) (fun b i z => by
    show ¬ (105 ≤ b ∧ b ≤ 105 + 11); omega)
  refine xe_aload_n dX11_startAnew_22 rfl ?_
  refine xe_getR (b := 52) dX11_startAnew_23 flX11_31 kk8 (xKK_lt kk8) rfl (rf8_1 hr') ?_
  refine xe_getR (b := 53) dX11_startAnew_26 flX11_165 kk52 (xKK_lt kk52) rfl (rf52_0 hr') ?_
  refine xe_aload_n dX11_startAnew_29 rfl ?_
  refine xe_getR (b := l) dX11_startAnew_30 flX11_19 kk8 (xKK_lt kk8) rfl ht' ?_
  refine xe_aload_n dX11_startAnew_33 rfl ?_
  refine xe_getR (b := 105) dX11_startAnew_34 flX11_47 kk8 (xKK_lt kk8) rfl (rf8_3 hr') ?_
  refine xe_getI dX11_startAnew_37 flX11_212 st105.k0 (xKK_lt st105.k0) rfl ?_
  rw [s1.1.2.1]
  have hL : gLandW D.2.2.1 (D.1 0) (D.1 3) := ⟨o1, o4, fun k hk => by
    obtain ⟨a, b, x, h1, h2, h3, ⟨h4, h5⟩, h6, h7, h8⟩ := ow k hk
    exact ⟨a, b, h1, h2, h3, h6, h7, by rw [h8, nI_toInt (by omega)]; omega, by rw [h8, nI_toInt (by omega)]; omega⟩⟩
  refine xe_callV (args := [.ref l, .int 0]) dX11_startAnew_40 vlX11_215 rfl rfl (Nat.le_of_ble_eq_true rfl) kk53 (xKK_lt kk53) rfl rfl (K_lay (d := d + 1) hr' (c := 0) h_l q_l (by omega) hL hD1.2.2.2.2.1) (Nat.le_refl _) (fun rv1 u2 w1 r1 k => ?_)
  obtain ⟨rfl, ⟨s2, f2⟩, rfl, rfl⟩ := k
  refine xe_aload_n dX11_startAnew_43 rfl ?_
  refine xe_getR (b := 117) dX11_startAnew_44 flX11_54 kk8 (xKK_lt kk8) rfl (rf8_4 hr') ?_
  refine xe_aload_n dX11_startAnew_47 rfl ?_
  refine xe_getR (b := 105) dX11_startAnew_48 flX11_47 kk8 (xKK_lt kk8) rfl (rf8_3 hr') ?_
  have fP : xSm (fun b => b = 117) u2 (x2 (x2 (x2 u2 117 1 0) 117 2 0) 117 3 0) := (((xSm.rf (F := fun b : Nat => b = 117)).put rfl).put rfl).put rfl
  have eP : (x2 (x2 (x2 u2 117 1 0) 117 2 0) 117 3 0) 117 1 = 0 ∧ (x2 (x2 (x2 u2 117 1 0) 117 2 0) 117 3 0) 117 2 = 0 ∧ (x2 (x2 (x2 u2 117 1 0) 117 2 0) 117 3 0) 117 3 = 0 := ⟨rfl, rfl, rfl⟩
  refine xe_callV (args := [.ref 105]) (P1 := fun rv u' w' r1 => rv = none ∧ w = w' ∧ r' = r1 ∧ (kCp (x2 (x2 (x2 u2 117 1 0) 117 2 0) 117 3 0) u' 119 105 ∧ xSm (fSt 119) (x2 (x2 (x2 u2 117 1 0) 117 2 0) 117 3 0) u')) dX11_startAnew_51 vlX11_338 rfl rfl (Nat.le_of_ble_eq_true rfl) kk117 (xKK_lt kk117) rfl rfl (CX6_begin (d := d + 2) hr' (xVd.use (K_copyFrom (d := d + 1) (s := 119) (o := 105) (stAll 119 (by decide)) (hr'.2.1 119 (by decide)) st105 (sr105 hr') (Or.inr (by omega))) (fun u' y => ⟨rfl, rfl, rfl, rfl, rfl, rfl, y.1, y.2⟩))) (Nat.le_refl _) (fun rv1 u4 w1 r1 k => ?_)
  obtain ⟨rfl, rfl, rfl, s4, f4⟩ := k
  generalize x2 (x2 (x2 u2 117 1 0) 117 2 0) 117 3 0 = u3 at fP eP s4 f4
  refine xe_aload_n dX11_startAnew_54 rfl ?_
  refine xe_getR (b := 611) dX11_startAnew_55 flX11_61 kk8 (xKK_lt kk8) rfl (rf8_5 hr') ?_
  refine xe_iconst (v := 0) dX11_startAnew_58 rfl ?_
  refine xe_putI dX11_startAnew_59 flX11_315 kk611 (xKK_lt kk611) nf4_4 rfl ?_
  refine xe_aload_n dX11_startAnew_62 rfl (xe_iconst (v := 0) dX11_startAnew_63 rfl ?_)
  refine xe_putI dX11_startAnew_64 flX11_296 kk8 (xKK_lt kk8) nf11_9 rfl ?_
  refine xe_iconst (v := nI 0) dX11_startAnew_67 rfl ?_
  refine xe_istore_n (ls' := [some (.ref 8), some (.int (nI 0))]) dX11_startAnew_68 rfl (by decide) rfl ?_
  have f5 : xSm (fun b => b = 611 ∨ b = 8) u4 (x2 (x2 u4 611 4 0) 8 9 0) := (xSm.rf.put (Or.inl rfl)).put (Or.inr rfl)
  have e5 : (x2 (x2 u4 611 4 0) 8 9 0) 611 4 = 0 ∧ (x2 (x2 u4 611 4 0) 8 9 0) 8 9 = 0 ∧ (x2 (x2 u4 611 4 0) 8 9 0) 611 5 = u4 611 5 := ⟨rfl, rfl, rfl⟩
  generalize x2 (x2 u4 611 4 0) 8 9 0 = u5 at f5 e5
  refine K_sa_69 hr' (fun u6 s6 f6 => kk u6 ?_ ?_ ?_)
  · have g25 : xSm (fun b => b = 117 ∨ fSt 119 b ∨ b = 611 ∨ b = 8 ∨ b = 653) u2 u6 := (fP.to (fun b z => Or.inl z)).tr ((f4.to (fun b z => Or.inr (Or.inl z))).tr ((f5.to (fun b z => by omega)).tr (f6.to (fun b z => by omega))))
    have nf : ∀ b, ¬ b = 117 → ¬ (119 ≤ b ∧ b ≤ 130) → ¬ b = 611 → ¬ b = 8 → ¬ b = 653 → ¬ (b = 117 ∨ fSt 119 b ∨ b = 611 ∨ b = 8 ∨ b = 653) := fun b h1 h2 h3 h4 h5 z => by
      have z' : b = 117 ∨ (119 ≤ b ∧ b ≤ 119 + 11) ∨ b = 611 ∨ b = 8 ∨ b = 653 := z
      omega
    have hD6 : cD N T l D u6 w := (hD1.kept (f2.n (G := fun b _ => fRo b) (fun b i z => z)) (fun b i z => by show ¬ (55 ≤ b ∧ b < 79); omega)).kept (g25.n (G := fun b _ => b = 117 ∨ fSt 119 b ∨ b = 611 ∨ b = 8 ∨ b = 653) (fun b i z => z)) (fun b i z => nf b (by omega) (by omega) (by omega) (by omega) (by omega))
    have s2' : sRaw l (D.1 2) D.2.2.2.1 u2 105 := s1.kept f2 (fun b h1 h2 => by show ¬ (55 ≤ b ∧ b < 79); omega) (by show ¬ (55 ≤ l + 4 ∧ l + 4 < 79); omega)
    have s3 : sRaw l (D.1 2) D.2.2.2.1 u3 105 := s2'.kept fP (fun b h1 h2 => by omega) (by omega)
    have s4' : sRaw l (D.1 2) D.2.2.2.1 u4 119 := s3.copy o3 s4 (fun b => f4 _ _ (by show ¬ (119 ≤ l + 4 ∧ l + 4 ≤ 119 + 11); omega))
    refine ⟨hD6, s2'.kept g25 (fun b h1 h2 => nf b (by omega) (by omega) (by omega) (by omega) (by omega)) (nf _ (by omega) (by omega) (by omega) (by omega) (by omega)), ?_, ?_, ⟨?_, ?_, ?_⟩, ?_, ?_, s6⟩
    · exact (s4'.kept f5 (fun b h1 h2 => by omega) (by omega)).kept f6 (fun b h1 h2 => by omega) (by omega)
    · obtain ⟨r1, r2, r3, r4⟩ := s2
      refine ⟨fun a b ha hb => ?_, fun a b ha hb => ?_, fun a ha => ?_, fun a b ha hb => ?_⟩
      · rw [g25 _ _ (nf _ (by omega) (by omega) (by omega) (by omega) (by omega))]; exact r1 a b ha hb
      · rw [g25 _ _ (nf _ (by omega) (by omega) (by omega) (by omega) (by omega))]; exact r2 a b ha hb
      · rw [g25 _ _ (nf _ (by omega) (by omega) (by omega) (by omega) (by omega))]; exact r3 a ha
      · rw [g25 _ _ (nf _ (by omega) (by omega) (by omega) (by omega) (by omega))]; exact r4 a b ha hb
    · rw [f6 _ _ (by omega), f5 _ _ (by omega), f4 _ _ (by show ¬ (119 ≤ 117 ∧ 117 ≤ 119 + 11); omega)]; exact eP.1
    · rw [f6 _ _ (by omega), f5 _ _ (by omega), f4 _ _ (by show ¬ (119 ≤ 117 ∧ 117 ≤ 119 + 11); omega)]; exact eP.2.1
    · rw [f6 _ _ (by omega), f5 _ _ (by omega), f4 _ _ (by show ¬ (119 ≤ 117 ∧ 117 ≤ 119 + 11); omega)]; exact eP.2.2
    · rw [f6 _ _ (by omega)]; exact e5.1
    · rw [f6 _ _ (by omega)]; exact e5.2.1
  · exact (((((f1.to (fun b z => by have z' : 105 ≤ b ∧ b ≤ 105 + 11 := z; show b = 8 ∨ (55 ≤ b ∧ b < 79) ∨ (105 ≤ b ∧ b ≤ 116) ∨ b = 117 ∨ (119 ≤ b ∧ b ≤ 130) ∨ b = 611 ∨ b = 653; omega)).tr (f2.to (fun b z => by have z' : 55 ≤ b ∧ b < 79 := z; show b = 8 ∨ (55 ≤ b ∧ b < 79) ∨ (105 ≤ b ∧ b ≤ 116) ∨ b = 117 ∨ (119 ≤ b ∧ b ≤ 130) ∨ b = 611 ∨ b = 653; omega))).tr (fP.to (fun b z => by omega))).tr (f4.to (fun b z => by have z' : 119 ≤ b ∧ b ≤ 119 + 11 := z; show b = 8 ∨ (55 ≤ b ∧ b < 79) ∨ (105 ≤ b ∧ b ≤ 116) ∨ b = 117 ∨ (119 ≤ b ∧ b ≤ 130) ∨ b = 611 ∨ b = 653; omega))).tr (f5.to (fun b z => by omega))).tr (f6.to (fun b z => by omega))
  · rw [f6 _ _ (by omega), e5.2.2, f4 _ _ (by show ¬ (119 ≤ 611 ∧ 611 ≤ 119 + 11); omega), fP _ _ (by omega), f2 _ _ (by show ¬ (55 ≤ 611 ∧ 611 < 79); omega), f1 _ _ (by show ¬ (105 ≤ 611 ∧ 611 ≤ 105 + 11); omega)]
/-- a text is read, and begins -/
abbrev fLa (l : Nat) : Nat → Nat → Prop := fun b i => fRe l b i ∨ fBe b ∨ (b = 10 ∧ i = 1)
theorem K_land {u : xU} {N l2 : Nat} {T : Nat → Int32} (hr : xRf r) (ok : tpOk N T) (hl : l = 22 ∨ l = 37) (h10 : r 8 10 = some l2) (h11 : r 8 11 = some l) (hT : cTp N T u) (hw : kWd w)
    (kf : ¬ (pAll N T).1.2.1 = 0 → ∀ u' w', u' 9 8 = nI (pAll N T).1.2.1 → u' 9 9 = (pAll N T).1.2.2 → u' 10 1 = 0 → xSn (fun b i => fRe l b i ∨ (b = 10 ∧ i = 1)) u u' → wSn fRew w w' → P (some (.int (-1))) u' w' (x2 r 9 4 (some l)))
    (kk : (pAll N T).1.2.1 = 0 → oD N T (pAll N T).2 → ∀ u' w', u' 9 8 = nI (pAll N T).1.2.1 → u' 9 9 = (pAll N T).1.2.2 → u' 10 1 = 0 → bgn N T l (pAll N T).2 u' w' → xSn (fLa l) u u' → u' 611 5 = u 611 5 → wSn fRew w w' → P (some (.int (nI ((pAll N T).2.1 2)))) u' w' (x2 (x2 (x2 (x2 r 9 4 (some l)) 8 10 (some l)) 8 11 (some l2)) 52 1 (some l))) :
    xCall g (d + 103) mX11_land [.ref 8] 698 u w r 698 P := by
  have h_l := ld_of hl
  refine xCall.of (ls := [some (.ref 8), none, none]) plX11 (Nat.le_of_ble_eq_true rfl) rfl ?_
  refine xe_aload_n dX11_land_0 rfl ?_
  refine xe_getR (b := 9) dX11_land_1 flX11_10 kk8 (xKK_lt kk8) rfl (rf8_0 hr) ?_
  refine xe_aload_n dX11_land_4 rfl ?_
  refine xe_getR (b := l) dX11_land_5 flX11_23 kk8 (xKK_lt kk8) rfl h11 ?_
  have hr1 : xRf (x2 r 9 4 (some l)) := hr.upd (fun b i h1 h2 h3 => x2_ne _ _ h1)
  have t10 : (x2 r 9 4 (some l)) 8 10 = some l2 := (x2_ne _ _ (by omega)).trans h10
  have t11 : (x2 r 9 4 (some l)) 8 11 = some l := (x2_ne _ _ (by omega)).trans h11
  have go := K_read (g := g) (d := d) (P := fun rv u' w' r1 => rv = some (.int (xb ((pAll N T).1.2.1 = 0))) ∧ x2 r 9 4 (some l) = r1 ∧ (u' 9 8 = nI (pAll N T).1.2.1 ∧ u' 9 9 = (pAll N T).1.2.2 ∧ ((pAll N T).1.2.1 = 0 → oD N T (pAll N T).2 ∧ cD N T l (pAll N T).2 u' w') ∧ xSn (fRe l) u u' ∧ wSn fRew w w')) hr ok hl hT hw (fun u' w' y1 y2 y3 y4 y5 => ⟨rfl, rfl, y1, y2, y3, y4, y5⟩)
  generalize x2 r 9 4 (some l) = ra at hr1 t10 t11 go kf kk
  refine xe_callV (args := [.ref l]) dX11_land_8 vlX11_94 rfl rfl (Nat.le_of_ble_eq_true rfl) kk9 (xKK_lt kk9) rfl rfl go (Nat.le_refl _) (fun rv1 u1 w1 r1 k => ?_)
  obtain ⟨rfl, rfl, y1, y2, y3, y4, y5⟩ := k
  refine xe_istore_n (ls' := [some (.ref 8), some (.int (xb ((pAll N T).1.2.1 = 0))), none]) dX11_land_11 rfl (by decide) rfl ?_
  refine xe_aload_n dX11_land_12 rfl ?_
  refine xe_getR (b := 9) dX11_land_13 flX11_10 kk8 (xKK_lt kk8) rfl (rf8_0 hr1) ?_
  refine xe_getR (b := 10) dX11_land_16 flX11_80 kk9 (xKK_lt kk9) rfl (rf9_0 hr1) ?_
  refine xe_iconst (v := 0) dX11_land_19 rfl ?_
  refine xe_putI dX11_land_20 flX11_84 kk10 (xKK_lt kk10) nf10_1 rfl ?_
  have f2 : xSn (fun b i => b = 10 ∧ i = 1) u1 (x2 u1 10 1 0) := (xSn.rf).put ⟨rfl, rfl⟩
  have e2 : (x2 u1 10 1 0) 10 1 = 0 := x2_same _ _ _ _
  generalize x2 u1 10 1 0 = u2 at f2 e2
  refine xe_iload_n dX11_land_23 rfl ?_
  refine xe_if_ne (tgt := 29) dX11_land_24 rfl (fun z => ?_) (fun z => ?_)
  · have q : (pAll N T).1.2.1 = 0 := Classical.byContradiction (fun y => z (xb_neg y))
    obtain ⟨hO, hD⟩ := y3 q
    have kk' := kk q hO
    refine xe_aload_n dX11_land_29 rfl ?_
    refine xe_getR (b := l2) dX11_land_30 flX11_19 kk8 (xKK_lt kk8) rfl t10 ?_
    refine xe_astore_n (ls' := [some (.ref 8), some (.int (xb ((pAll N T).1.2.1 = 0))), some (.ref l2)]) dX11_land_33 rfl (by decide) rfl ?_
    refine xe_aload_n dX11_land_34 rfl (xe_aload_n dX11_land_35 rfl ?_)
    refine xe_getR (b := l) dX11_land_36 flX11_23 kk8 (xKK_lt kk8) rfl t11 ?_
    refine xe_putR (b := l) dX11_land_39 flX11_19 kk8 (xKK_lt kk8) nf11_10 rfl ?_
    refine xe_aload_n dX11_land_42 rfl (xe_aload_n dX11_land_43 rfl ?_)
    refine xe_putR (b := l2) dX11_land_44 flX11_23 kk8 (xKK_lt kk8) nf11_11 rfl ?_
    have hr2 : xRf (x2 (x2 ra 8 10 (some l)) 8 11 (some l2)) := hr1.upd (fun b i h1 h2 h3 => by rw [x2_ne _ _ (by omega), x2_ne _ _ (by omega)])
    have s10 : (x2 (x2 ra 8 10 (some l)) 8 11 (some l2)) 8 10 = some l := by rw [x2_i _ _ (by omega), x2_same]
    generalize x2 (x2 ra 8 10 (some l)) 8 11 (some l2) = rb at hr2 s10 kk'
    refine xe_aload_n dX11_land_47 rfl ?_
    have hD2 : cD N T l (pAll N T).2 u2 w1 := hD.kept f2 (fun b i z => by omega)
    have go2 := K_startAnew (g := g) (d := d + 98) (P := fun rv u' w' r1 => rv = none ∧ w1 = w' ∧ x2 rb 52 1 (some l) = r1 ∧ (bgn N T l (pAll N T).2 u' w1 ∧ xSm fBe u2 u' ∧ u' 611 5 = u2 611 5)) hr2 hl s10 hO hD2 (fun u' x1 x2' x3' => ⟨rfl, rfl, rfl, x1, x2', x3'⟩)
    have hr3 : xRf (x2 rb 52 1 (some l)) := hr2.upd (fun b i h1 h2 h3 => x2_ne _ _ h2)
    have s10' : (x2 rb 52 1 (some l)) 8 10 = some l := (x2_ne _ _ (by omega)).trans s10
    generalize x2 rb 52 1 (some l) = rc at hr3 s10' kk' go2
    refine xe_callV (args := []) dX11_land_48 vlX11_77 rfl rfl (Nat.le_of_ble_eq_true rfl) kk8 (xKK_lt kk8) rfl rfl go2 (Nat.le_refl _) (fun rv1 u3 w3 r1 k => ?_)
    obtain ⟨rfl, rfl, rfl, s3, f3, g3⟩ := k
    refine xe_aload_n dX11_land_51 rfl ?_
    refine xe_getR (b := l) dX11_land_52 flX11_19 kk8 (xKK_lt kk8) rfl s10' ?_
    refine xe_getI dX11_land_55 flX11_98 h_l.k0 (xKK_lt h_l.k0) rfl ?_
    rw [s3.1.2.2.2.2.2.2.1.1]
    refine xe_ireturn dX11_land_58 rfl (kk' u3 w1 ?_ ?_ ?_ s3 ?_ ?_ y5)
    · rw [f3 _ _ (by omega), f2 _ _ (by omega)]; exact y1
    · rw [f3 _ _ (by omega), f2 _ _ (by omega)]; exact y2
    · rw [f3 _ _ (by omega)]; exact e2
    · exact ((y4.to (fun b i z => Or.inl z)).tr (f2.to (fun b i z => Or.inr (Or.inr z)))).tr (f3.n (fun b i z => Or.inr (Or.inl z)))
    · rw [g3, f2 _ _ (by omega), y4 611 5 (by omega)]
  · have q : ¬ (pAll N T).1.2.1 = 0 := xb_eq0.1 z
    refine xe_iconst (v := -1) dX11_land_27 rfl (xe_ireturn dX11_land_28 rfl (kf q u2 w1 ?_ ?_ e2 ((y4.to (fun b i z => Or.inl z)).tr (f2.to (fun b i z => Or.inr z))) y5))
    · rw [f2 _ _ (by omega)]; exact y1
    · rw [f2 _ _ (by omega)]; exact y2
end START
