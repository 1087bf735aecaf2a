/-! HANDING ON in the reference; a whole day -/
theorem f684 {i : Nat} : fDh 684 i := Or.inr (Or.inr (Or.inl rfl))
theorem f686 {i : Nat} : fDh 686 i := Or.inr (Or.inr (Or.inr (Or.inl rfl)))
theorem f61 : fDh 655 61 := Or.inr (Or.inr (Or.inr (Or.inr ⟨rfl, rfl⟩)))
/-- the note of whom letter 0 was handed to: nothing new, or one more -/
def hNo (u u' : xU) : Prop := u' 655 61 = u 655 61 ∧ u' 686 = u 686
def hRec (x : Int32) (u u' : xU) : Prop := (u 655 61 = nI 20 ∧ hNo u u') ∨ ∃ m, m < 20 ∧ u 655 61 = nI m ∧ u' 655 61 = nI (m + 1) ∧ u' 686 = up (u 686) m x
def hTr (u u' : xU) : Prop := (u' 684 48 = u 684 48 ∧ hNo u u') ∨ (u' 684 48 = u 684 48 + 1 ∧ hRec (u' 684 28) u u')
/-- the note has room -/
def hOk (u : xU) : Prop := ∃ m, m ≤ 20 ∧ u 655 61 = nI m
theorem hNo.ok {u u' : xU} (h : hNo u u') (h0 : hOk u) : hOk u' := by
  obtain ⟨m, m1, m2⟩ := h0
  exact ⟨m, m1, h.1.trans m2⟩
theorem hTr.ok {u u' : xU} (h : hTr u u') (h0 : hOk u) : hOk u' := by
  rcases h with ⟨-, h⟩ | ⟨-, ⟨-, h⟩ | ⟨m, m1, m2, m3, -⟩⟩
  · exact h.ok h0
  · exact h.ok h0
  · exact ⟨m + 1, by omega, m3⟩
section RDAY2
variable {g : xGT} {d : Nat} {w : xW} {r : xQ} {L : xU} {c : Int32}
theorem R_putInto {u : xU} (hr : xRf r) (h0 : hOk u) {l b : Nat} (hl : l < 10) :
    xCall g d mX12_putInto [.ref 655, .int (nI l), .int (nI b)] 698 u w r 698 (xVd (fun u' => u' 684 = fPut l (nI b) (u 684) ∧ xSn fDh u u' ∧ (if l = 0 then (if u 684 28 = nI b then hNo u u' else hRec (nI b) u u') else hNo u u')) w r) := by
  refine CX12_putInto hr ?_
  simp (disch := omega) only [a18, a28, a48, nc]
  refine ⟨vpn (by omega) (by omega), fun q => ⟨rfl, ⟨?_, xSn.rf, ?_⟩, rfl, rfl⟩, fun q => ⟨vpn (by omega) (by omega), vpn (by omega) (by omega), fun q2 => ⟨rfl, ⟨?_, ?_, ?_⟩, rfl, rfl⟩, fun q2 => ⟨?_, rfl, ⟨?_, ?_, ?_⟩, rfl, rfl⟩⟩⟩
  · unfold fPut; rw [if_pos q]
  · by_cases z : l = 0
    · subst z
      rw [if_pos rfl, if_pos q]; exact ⟨rfl, rfl⟩
    · rw [if_neg z]; exact ⟨rfl, rfl⟩
  · unfold fPut
    rw [if_neg q, x2_row, x2_row, x2_row, up_n (show 48 + l ≠ 18 + l by omega), up_n (show 48 + l ≠ 28 + l by omega)]
  · exact ((xSn.rf.put f684).put f684).put f684
  · have no : hNo u (x2 (x2 (x2 u 684 (28 + l) (nI b)) 684 (18 + l) (-1)) 684 (48 + l) ((x2 (x2 u 684 (28 + l) (nI b)) 684 (18 + l) (-1)) 684 (48 + l) + 1)) := by
      refine ⟨?_, ?_⟩
      · rw [x2_a _ _ (by omega), x2_a _ _ (by omega), x2_a _ _ (by omega)]
      · rw [x2_row' _ _ _ (by omega), x2_row' _ _ _ (by omega), x2_row' _ _ _ (by omega)]
    by_cases z : l = 0
    · subst z
      rw [if_pos rfl, if_neg q]
      rcases q2 with q2 | q2
      · exact absurd q2 (by decide)
      · exact Or.inl ⟨q2, no⟩
    · rw [if_neg z]; exact no
  · obtain ⟨m, m1, m2⟩ := h0
    have : m ≠ 20 := fun y => q2 (Or.inr (by rw [m2, y]; rfl))
    rw [m2]
    exact vpn (by omega) (by omega)
  · unfold fPut
    rw [if_neg q, x2_row' _ _ _ (by omega), x2_row' _ _ _ (by omega), x2_row, x2_row, x2_row, up_n (show 48 + l ≠ 18 + l by omega), up_n (show 48 + l ≠ 28 + l by omega)]
  · exact ((((xSn.rf.put f684).put f684).put f684).put f686).put f61
  · have z : l = 0 := Classical.byContradiction (fun z => q2 (Or.inl (by
      have := (lt_nI (a := 0) (b := l) (by omega) (by omega)).mpr (by omega)
      exact this)))
    subst z
    rw [if_pos rfl, if_neg q]
    obtain ⟨m, m1, m2⟩ := h0
    have : m ≠ 20 := fun y => q2 (Or.inr (by rw [m2, y]; rfl))
    refine Or.inr ⟨m, by omega, m2, ?_, ?_⟩
    · rw [x2_same, m2, nI_one]
    · rw [x2_row' _ _ _ (by omega), x2_row, x2_row' _ _ _ (by omega), x2_row' _ _ _ (by omega), x2_row' _ _ _ (by omega), m2, nc (by omega)]
theorem R_near {u : xU} {n e : Nat} (hr : xRf r) (hE : rE u L c) (hK : lOkk L) (hS : gSt L c n e (u 684)) {b l : Nat} (hb : b < lB L) (hl : l < n) :
    xCall g (d + 5) mX12_nearOf [.ref 655, .int (nI b), .int (u 684 (58 + l))] 698 u w r 698 (xPr (fNear L c (u 684) b (u 684 (58 + l)).toNatClampNeg) u w r) := by
  have hb6 := hK.2.2.1.1
  have hv7 := hK.1.1
  obtain ⟨⟨v, hv, ev⟩, -⟩ := (hS.2.2.2.1 b (by omega)).1 hb
  obtain ⟨⟨t, ht, et⟩, -⟩ := hS.2.2.2.2.1 l hl
  obtain ⟨ho1, ho2⟩ := hK.2.2.1.home hK.1 hb
  unfold fNear
  rw [et, ev, nc (by omega), nc (by omega)]
  exact R_nearOf hr hE hK.1 (by omega) ev hv ho2 (by omega) (by omega)
theorem R_handOn {u : xU} {n e : Nat} (hr : xRf r) (hE : rE u L c) (hK : lOkk L) (h0 : hOk u) (hS : gSt L c n e (u 684)) {l v : Nat} (hl : l < n) (hv : v < lV L) (hvil : fVil (u 684) l = nI v) :
    xCall g (d + 6) mX12_handOn [.ref 655, .int (nI l), .int (nI v)] 698 u w r 698 (xVd (fun u' => u' 684 = fHand L c n l v (u 684) ∧ xSn fDh u u' ∧ (if l = 0 then hTr u u' else hNo u u')) w r) := by
  have n10 := hS.1.2
  have hb6 := hK.2.2.1.1
  have hv7 := hK.1.1
  obtain ⟨hcame, own⟩ := fVil_own hK.1 hK.2.2.1 hS hl hv hvil
  obtain ⟨⟨t, ht, et⟩, -⟩ := hS.2.2.2.2.1 l hl
  refine CX12_handOn hr ?_
  simp (disch := omega) only [a28, a58, nc]
  refine ⟨vpn (by omega) (by omega), vpn (by omega) (by omega), ?_⟩
  have far : ∀ (dd : Nat), xCall g dd mX12_farOf [.ref 655, .int (nI v), .int (u 684 (58 + l))] 698 u w r 698 (xPr (lF L c v (u 684 (58 + l)).toNatClampNeg) u w r) := by
    intro dd
    rw [et, nc (by omega)]
    exact R_farOf hr hE (by omega) (by omega)
  refine xPr.use (far _) ⟨_, rfl, rfl, rfl, rfl, ?_⟩
  have loop : xEv g (d + 6) mX12_handOn 71 [some (.ref 655), some (.int (nI l)), some (.int (nI v)), some (.int (u 684 (28 + l))), some (.int (fBest0 L c l v (u 684)).1), some (.int (fBest0 L c l v (u 684)).2), none, none] [] 698 u w r 698 (xVd (fun u' => u' 684 = fHand L c n l v (u 684) ∧ xSn fDh u u' ∧ (if l = 0 then hTr u u' else hNo u u')) w r) := by
    refine TX12_handOn_71 ?_
    refine xlq (N := lB L) (G := fun k => xEv g (d + 6) mX12_handOn 74 [some (.ref 655), some (.int (nI l)), some (.int (nI v)), some (.int (u 684 (28 + l))), some (.int (fBestK L c n l v (u 684) k).1), some (.int (fBestK L c n l v (u 684) k).2), some (.int (nI k)), none] [] 698 u w r 698 (xVd (fun u' => u' 684 = fHand L c n l v (u 684) ∧ xSn fDh u u' ∧ (if l = 0 then hTr u u' else hNo u u')) w r)) ?_ ?_
    · refine TX12_handOn_74 hr (brT (by rw [hE.1.1.2.2]; exact nI_le (Nat.le_refl _) (by omega)) ?_)
      simp (disch := omega) only [a18, a28, nc]
      have eb : (fBestK L c n l v (u 684) (lB L)).1 = fBest L c n l v (u 684) := rfl
      rw [eb]
      unfold fHand
      rcases fBest_or hK.1 hK.2.2.1 hS hl hv hvil with q | ⟨b, q1, q2, q3, q4, q5⟩
      · rw [q]
        refine brT m1_neg ⟨vpn (by omega) (by omega), vpn (by omega) (by omega), rfl, ⟨?_, (xSn.rf.put f684).put f684, ?_⟩, rfl, rfl⟩
        · unfold fLay; rw [if_pos m1_neg, x2_row, x2_row]
        · have no : hNo u (x2 (x2 u 684 (28 + l) (-1)) 684 (18 + l) (nI v)) := by
            refine ⟨?_, ?_⟩
            · rw [x2_a _ _ (by omega), x2_a _ _ (by omega)]
            · rw [x2_row' _ _ _ (by omega), x2_row' _ _ _ (by omega)]
          by_cases z : l = 0
          · rw [if_pos z]
            refine Or.inl ⟨?_, no⟩
            rw [x2_i _ _ (by omega), x2_i _ _ (by omega)]
          · rw [if_neg z]; exact no
      · rw [q2]
        refine brF (nI_nn (by omega)) (xVd.use (R_putInto hr h0 (by omega)) (fun u1 h => ⟨rfl, rfl, rfl, rfl, ⟨?_, h.2.1, ?_⟩, rfl, rfl⟩))
        · unfold fLay; rw [if_neg (nI_nn (by omega))]; exact h.1
        · have h3 := h.2.2
          by_cases z : l = 0
          · subst z
            rw [if_pos rfl] at h3 ⊢
            by_cases y : u 684 28 = nI b
            · rw [if_pos y] at h3
              refine Or.inl ⟨?_, h3⟩
              rw [h.1]
              unfold fPut
              rw [if_pos y]
            · rw [if_neg y] at h3
              refine Or.inr ⟨?_, ?_⟩
              · rw [h.1]
                unfold fPut
                rw [if_neg y, up_s]
              · rw [h.1]
                unfold fPut
                rw [if_neg y, up_n (by omega), up_n (by omega), up_s]
                exact h3
          · rw [if_neg z] at h3 ⊢; exact h3
    · intro k hk kk
      refine TX12_handOn_74 hr (brF (by rw [hE.1.1.2.2]; exact nI_ge (by omega) (by omega)) ?_)
      simp (disch := omega) only [a58, nc]
      have e678 : u 678 = L 7 := hE.1.2.2.2.2.2.2.2.1
      rw [e678]
      rw [fBestK_s] at kk
      refine xPr.use (R_standsAt hr (by omega) _) ⟨_, rfl, rfl, rfl, rfl, ?_⟩
      rw [xb_eq0, Classical.not_not]
      refine ⟨fun q => ?_, fun q => ?_⟩
      · refine xPr.use (R_lettersIn hr hS.1.1 n10 k) ⟨_, rfl, rfl, rfl, rfl, vpn (by omega) (by omega), fun q2 => TX12_handOn_153 ?_, fun q2 => ⟨vpn (by omega) (by omega), ?_⟩⟩
        · rw [if_neg (fun z => z.2.1 q2)] at kk
          rw [nI_one]; exact kk
        · refine xPr.use (R_near hr hE hK hS hk hl) ?_
          refine ⟨_, rfl, rfl, rfl, rfl, ?_⟩
          generalize fNear L c (u 684) k (u 684 (58 + l)).toNatClampNeg = nr at kk ⊢
          refine ⟨fun q3 => TX12_handOn_153 ?_, fun q3 => TX12_handOn_153 ?_⟩
          · rw [if_pos ⟨q, q2, q3⟩] at kk
            rw [nI_one]; exact kk
          · rw [if_neg (fun z => q3 z.2.2)] at kk
            rw [nI_one]; exact kk
      · refine TX12_handOn_153 ?_
        rw [if_neg (fun z => q z.1)] at kk
        rw [nI_one]; exact kk
  have eb0 : fBest0 L c l v (u 684) = if u 684 (28 + l) < 0 ∨ lF L c v (u 684 (58 + l)).toNatClampNeg ≤ fNear L c (u 684) (u 684 (28 + l)).toNatClampNeg (u 684 (58 + l)).toNatClampNeg then (-1, lF L c v (u 684 (58 + l)).toNatClampNeg) else (u 684 (28 + l), fNear L c (u 684) (u 684 (28 + l)).toNatClampNeg (u 684 (58 + l)).toNatClampNeg) := rfl
  rw [eb0] at loop
  refine ⟨fun q => ?_, fun q => ?_⟩
  · rw [if_pos (Or.inl q)] at loop; exact loop
  · rcases own with z | ⟨b, b1, b2, b3, b4⟩
    · rw [z] at q; exact absurd m1_neg q
    · have ew : (u 684 (28 + l)).toNatClampNeg = b := by rw [b2, nc (by omega)]
      rw [ew] at loop
      have nr : ∀ P : xPost, P (some (.int (fNear L c (u 684) b (u 684 (58 + l)).toNatClampNeg))) u w r → xCall g (d + 5) mX12_nearOf [.ref 655, .int (u 684 (28 + l)), .int (u 684 (58 + l))] 698 u w r 698 P := by
        intro P h
        rw [b2]
        exact xPr.use (R_near hr hE hK hS b1 hl) h
      generalize fNear L c (u 684) b (u 684 (58 + l)).toNatClampNeg = ne at nr loop
      refine nr _ ⟨_, rfl, rfl, rfl, rfl, fun q2 => ?_, fun q2 => nr _ ⟨_, rfl, rfl, rfl, rfl, ?_⟩⟩
      · rw [if_pos (Or.inr q2)] at loop; exact loop
      · rw [if_neg (fun z => z.elim q q2)] at loop; exact loop
/-- what stands written, when letter 0's turn has or hasn't come -/
def hSo (done : Prop) (u u' : xU) : Prop := (done → hTr u u') ∧ (¬ done → hNo u u' ∧ u' 684 48 = u 684 48)
theorem hSo.ok {p : Prop} {u u' : xU} (h : hSo p u u') (h0 : hOk u) : hOk u' := by
  by_cases q : p
  · exact (h.1 q).ok h0
  · exact (h.2 q).1.ok h0
theorem hNo.tr {u v w : xU} (h1 : hNo u v) (h2 : hNo v w) : hNo u w := ⟨h2.1.trans h1.1, h2.2.trans h1.2⟩
theorem hTr.more {u v w : xU} (h : hTr u v) (h2 : hNo v w) (h48 : w 684 48 = v 684 48) (h28 : w 684 28 = v 684 28) : hTr u w := by
  rcases h with ⟨a, b⟩ | ⟨a, b⟩
  · exact Or.inl ⟨h48.trans a, b.tr h2⟩
  · refine Or.inr ⟨h48.trans a, ?_⟩
    rw [h28]
    rcases b with ⟨b1, b2⟩ | ⟨m, b1, b2, b3, b4⟩
    · exact Or.inl ⟨b1, b2.tr h2⟩
    · exact Or.inr ⟨m, b1, b2, h2.1.trans b3, h2.2.trans b4⟩
theorem hTr.later {u v w : xU} (h : hTr v w) (h2 : hNo u v) (h48 : v 684 48 = u 684 48) : hTr u w := by
  rcases h with ⟨a, b⟩ | ⟨a, b⟩
  · exact Or.inl ⟨a.trans h48, h2.tr b⟩
  · refine Or.inr ⟨by rw [a, h48], ?_⟩
    rcases b with ⟨b1, b2⟩ | ⟨m, b1, b2, b3, b4⟩
    · exact Or.inl ⟨h2.1.symm.trans b1, h2.tr b2⟩
    · exact Or.inr ⟨m, b1, h2.1.symm.trans b2, b3, by rw [b4, h2.2]⟩
theorem R_stepThree {u : xU} {n e : Nat} (hr : xRf r) (hE : rE u L c) (hK : lOkk L) (h0 : hOk u) (hS : gSt L c n e (u 684)) :
    xCall g (d + 7) mX12_stepThree [.ref 655] 698 u w r 698 (xVd (fun u' => u' 684 = fThree L c n (u 684) ∧ xSn fDh u u' ∧ hTr u u') w r) := by
  have n10 := hS.1.2
  have hv7 := hK.1.1
  have I := fWv_I hK.1 hK.2.2.1 hS
  generalize hwv : fWv L (u 684) = wv at I
  have eV : ∀ m, m ≤ lV L → xfold m (fThreeV L c n) (u 684) = tA L c n wv m n (u 684) := fun m hm => fThreeK_eq hK.1 hK.2.2.1 I m hm
  refine CX12_stepThree ?_
  refine xlp (N := lV L) (Q := fun v u' => u' 684 = xfold v (fThreeV L c n) (u 684) ∧ xSn fDh u u' ∧ hSo (0 < n ∧ wv 0 < v) u u') (G := fun v u' => xEv g (d + 7) mX12_stepThree 2 [some (.ref 655), some (.int (nI v)), none] [] 698 u' w r 698 _) ?_ ?_ ⟨rfl, xSn.rf, fun q => absurd q.2 (Nat.not_lt_zero _), fun _ => ⟨⟨rfl, rfl⟩, rfl⟩⟩
  · intro u1 ⟨h1, h2, h3⟩
    have E1 := hE.1.kn h2
    refine TX12_stepThree_2 (brT (by rw [E1.1.1]; exact nI_le (Nat.le_refl _) (by omega)) ⟨rfl, ⟨h1, h2, ?_⟩, rfl, rfl⟩)
    by_cases q : 0 < n ∧ wv 0 < lV L
    · exact h3.1 q
    · exact Or.inl ⟨(h3.2 q).2, (h3.2 q).1⟩
  · intro v u1 hv ⟨h1, h2, h3⟩ kk
    have E1 := hE.1.kn h2
    refine TX12_stepThree_2 (brF (by rw [E1.1.1]; exact nI_ge (by omega) (by omega)) ?_)
    generalize hX : xfold v (fThreeV L c n) (u 684) = X at h1
    have IX : tI L c n e wv X := by
      rw [← hX, eV v (by omega)]
      exact tA_I hK.1 hK.2.2.1 I (by omega) (Nat.le_refl _)
    refine xlp (N := n) (Q := fun l u' => u' 684 = xfold l (fun l σ => if fVil σ l = nI v then fHand L c n l v σ else σ) X ∧ xSn fDh u u' ∧ hSo (0 < n ∧ (wv 0 < v ∨ (wv 0 = v ∧ 0 < l))) u u') (G := fun l u' => xEv g (d + 7) mX12_stepThree 12 [some (.ref 655), some (.int (nI v)), some (.int (nI l))] [] 698 u' w r 698 _) ?_ ?_ ⟨h1, h2, ?_⟩
    · intro u2 ⟨g1, g2, g3⟩
      have S2 : gSt L c n e (u2 684) := by
        rw [g1, fThreeVk_eq hK.1 hK.2.2.1 IX hv n (Nat.le_refl _)]
        exact (tP_I hK.1 hK.2.2.1 IX hv (Nat.le_refl _)).1
      refine TX12_stepThree_12 hr (brT (by rw [S2.1.1]; exact nI_le (Nat.le_refl _) (by omega)) ?_)
      rw [nI_one]
      refine kk u2 ⟨?_, g2, ?_⟩
      · rw [g1, xfold_s, hX]; rfl
      · refine ⟨fun q => g3.1 ⟨q.1, ?_⟩, fun q => g3.2 (fun z => q ⟨z.1, ?_⟩)⟩
        · have := q.1; have := q.2; omega
        · have := z.2; omega
    · intro l u2 hl ⟨g1, g2, g3⟩ kk2
      have I2 : tI L c n e wv (u2 684) := by
        rw [g1, fThreeVk_eq hK.1 hK.2.2.1 IX hv l (by omega)]
        exact tP_I hK.1 hK.2.2.1 IX hv (by omega)
      have E2 : rE u2 L c := hE.kn g2 I2.1.2.1
      refine TX12_stepThree_12 hr (brF (by rw [I2.1.1.1]; exact nI_ge (by omega) (by omega)) ?_)
      refine xPr.use (R_villageOf hr hK.2.2.1 I2.1 hl) ⟨_, rfl, rfl, rfl, rfl, fun q => ?_, fun q => TX12_stepThree_38 ?_⟩
      · have hwl : wv l = v := by
          rcases I2.2 l hl with ⟨z1, z2⟩ | ⟨z1, z2⟩
          · rw [q] at z2; exact ((nI_eq (by omega) (by omega)).mp z2).symm
          · rw [q] at z2; exact absurd z2 (nI_m1 (by omega))
        refine xVd.use (R_handOn hr E2 hK (g3.ok h0) I2.1 hl hv q) (fun u3 h => ⟨rfl, rfl, rfl, TX12_stepThree_38 ?_⟩)
        rw [nI_one]
        have fr := fLay_fr l v (fBest L c n l v (u2 684)) (u2 684)
        refine kk2 u3 ⟨?_, g2.tr h.2.1, ?_⟩
        · rw [h.1, xfold_s, ← g1, if_pos q]
        · have h3' := h.2.2
          by_cases z : l = 0
          · subst z
            rw [if_pos rfl] at h3'
            have g := g3.2 (fun y => by have := y.2; omega)
            exact ⟨fun _ => h3'.later g.1 g.2, fun y => absurd ⟨by omega, Or.inr ⟨hwl, by omega⟩⟩ y⟩
          · rw [if_neg z] at h3'
            have e48 : u3 684 48 = u2 684 48 := by rw [h.1]; exact fr 48 (by omega)
            have e28 : u3 684 28 = u2 684 28 := by rw [h.1]; exact fr 28 (by omega)
            refine ⟨fun y => (g3.1 ⟨y.1, ?_⟩).more h3' e48 e28, fun y => ?_⟩
            · have := y.2; omega
            · have g := g3.2 (fun x => y ⟨x.1, by have := x.2; omega⟩)
              exact ⟨g.1.tr h3', e48.trans g.2⟩
      · rw [nI_one]
        refine kk2 u2 ⟨?_, g2, ?_⟩
        · rw [g1, xfold_s, ← g1, if_neg q]
        · by_cases z : l = 0
          · subst z
            have hne : wv 0 ≠ v := fun y => q (by rw [I2.vil hl (by omega), y])
            refine ⟨fun y => g3.1 ⟨y.1, ?_⟩, fun y => g3.2 (fun x => y ⟨x.1, ?_⟩)⟩
            · have := y.2; omega
            · have := x.2; omega
          · refine ⟨fun y => g3.1 ⟨y.1, ?_⟩, fun y => g3.2 (fun x => y ⟨x.1, ?_⟩)⟩
            · have := y.2; omega
            · have := x.2; omega
    · refine ⟨fun q => h3.1 ⟨q.1, ?_⟩, fun q => h3.2 (fun z => q ⟨z.1, Or.inl z.2⟩)⟩
      have := q.2; omega
theorem R_stepFour {u : xU} {n e : Nat} (hr : xRf r) (hE : rE u L c) (hK : lOkk L) (hS : gSt L c n e (u 684)) :
    xCall g (d + 3) mX12_stepFour [.ref 655] 698 u w r 698 (xVd (fun u' => u' 684 = fFour L c (u 684) ∧ xSm (fun b => b = 684) u u') w r) := by
  have hb6 := hK.2.2.1.1
  have hv7 := hK.1.1
  refine CX12_stepFour hr ?_
  refine xlp (N := lB L) (Q := fun k u' => u' 684 = xfold k (fFourB L c) (u 684) ∧ xSm (fun b => b = 684) u u') (G := fun k u' => xEv g (d + 3) mX12_stepFour 10 [some (.ref 655), some (.int (u 684 90)), some (.int (nI k)), none] [] 698 u' w r 698 _) ?_ ?_ ⟨rfl, xSm.rf⟩
  · intro u1 ⟨h1, h2⟩
    have E1 := hE.1.kn (h2.n (fun b i h => Or.inr (Or.inr (Or.inl h))))
    refine TX12_stepFour_10 hr (brT (by rw [E1.1.2.2]; exact nI_le (Nat.le_refl _) (by omega)) ⟨rfl, ⟨?_, h2.put rfl⟩, rfl, rfl⟩)
    rw [x2_row, h1]
    rfl
  · intro k u1 hk ⟨h1, h2⟩ kk
    have S1 : gSt L c n e (u1 684) := by rw [h1]; exact fFourKk_st hK.1 hK.2.2.1 hS (by omega)
    have E1 : rE u1 L c := hE.kn (h2.n (fun b i h => Or.inr (Or.inr (Or.inl h)))) S1.2.1
    have e90 : u 684 90 = u1 684 90 := hS.2.2.1.1.trans S1.2.2.1.1.symm
    refine TX12_stepFour_10 hr (brF (by rw [E1.1.1.2.2]; exact nI_ge (by omega) (by omega)) ?_)
    simp (disch := omega) only [a6, a12, nc]
    have e676 : u1 676 = L 5 := E1.1.2.2.2.2.2.1
    have e52 : u1 655 52 = L 0 3 := E1.1.2.2.2.2.2.2.2.2.2.2.1
    have e53 : u1 655 53 = L 0 4 := E1.1.2.2.2.2.2.2.2.2.2.2.2.1
    rw [e90] at kk
    rw [e90, e676, e52, e53]
    obtain ⟨⟨v, hv, ev⟩, -⟩ := (S1.2.2.2.1 k (by omega)).1 hk
    obtain ⟨ho1, ho2⟩ := hK.2.2.1.home hK.1 hk
    have fin : ∀ u2 : xU, u2 684 = fFourB L c k (u1 684) → xSm (fun b => b = 684) u1 u2 → xEv g (d + 3) mX12_stepFour 128 [some (.ref 655), some (.int (u1 684 90)), some (.int (nI k)), none] [] 698 u2 w r 698 (xVd (fun u' => u' 684 = fFour L c (u 684) ∧ xSm (fun b => b = 684) u u') w r) := by
      intro u2 z1 z2
      refine TX12_stepFour_128 ?_
      rw [nI_one]
      exact kk u2 ⟨by rw [z1, xfold_s, h1], h2.tr z2⟩
    refine ⟨vpn (by omega) (by omega), fun _ => vpn (by omega) (by omega), fun q => ?_, fun q => fin u1 ?_ xSm.rf⟩
    · refine xPr.use (R_isIn _ _ _) ⟨_, rfl, rfl, rfl, rfl, fun q2 => ?_, fun q2 => fin u1 ?_ xSm.rf⟩
      · rw [xb_eq0] at q2
        refine ⟨vpn (by omega) (by omega), vpn (by omega) (by omega), ?_⟩
        rw [ev, ho2]
        refine xPr.use (R_nextFrom hr E1 hK.1 (by omega) (by omega)) ⟨_, rfl, rfl, rfl, rfl, ?_⟩
        have eto : lNx L c v (lH L k) = fTo L c (u1 684) k := by unfold fTo; rw [ev, nc (by omega)]
        rw [eto]
        refine ⟨fun q3 => ?_, fun q3 => fin u1 ?_ xSm.rf⟩
        · rcases fTo_or hK.1 c (u1 684) k with z | ⟨o, o1, o2⟩
          · rw [z] at q3; exact absurd q3 (by decide)
          · have eb : fFourB L c k (u1 684) = up (up (up (u1 684) k 2) (12 + k) (u1 684 90 + lD L c v o)) (6 + k) (nI o) := by
              unfold fFourB
              rw [if_pos ⟨⟨q, q2⟩, Int32.not_lt.mpr q3⟩, o2, ev, nc (by omega), nc (by omega)]
            rw [o2]
            have r2 : x2 u1 684 k 2 684 (6 + k) = nI v := by rw [x2_i _ _ (by omega), ev]
            rw [r2]
            have E2 : rE (x2 u1 684 k 2) L c := E1.kn (xSn.rf.put f684) (by rw [x2_i _ _ (by omega)]; exact E1.2.2)
            refine xPr.use (R_daysBetween hr E2 hK.1 (by omega) (by omega)) ⟨_, rfl, rfl, rfl, rfl, vpn (by omega) (by omega), fin _ ?_ (((xSm.rf.put (F := fun b => b = 684) rfl).put rfl).put rfl)⟩
            rw [x2_row, x2_row, x2_row, eb]
        · unfold fFourB
          rw [if_neg (fun z => q3 (Int32.not_lt.mp z.2))]
      · rw [xb_eq0, Classical.not_not] at q2
        unfold fFourB
        rw [if_neg (fun z => z.1.2 q2)]
    · unfold fFourB
      rw [if_neg (fun z => q z.1.1)]
theorem fTwoL_fr (l : Nat) (p : Int32 × (Nat → Int32)) : rsm (fun j => j = 38 + l ∨ j = 18 + l ∨ j = 28 + l) p.2 (fTwoL l p).2 := by
  intro j hj
  unfold fTwoL
  split
  · rfl
  · show up (up (up p.2 (38 + l) (p.2 90)) (18 + l) (-1)) (28 + l) (-1) j = p.2 j
    rw [up_n (by omega), up_n (by omega), up_n (by omega)]
theorem fOne_fr {n e : Nat} {σ : Nat → Int32} (hW : lWok L) (hB : lBk L) (h : gSt L c n e σ) : rsm (fun j => j < 38) σ (fOne L c σ) := by
  have hb6 := hB.1
  have : ∀ k, k ≤ lB L → rsm (fun j => j < 38) σ (xfold k (fOneB L c) σ) := by
    intro k
    induction k with
    | zero => intro _; exact rsm.rf
    | succ k ih =>
      intro hk
      have S := fOneK_st hW hB h (k := k) (by omega)
      refine (ih (by omega)).tr ?_
      rw [xfold_s]
      unfold fOneB
      split
      · exact (fCome_fr L c (by omega) _ S.1.1 S.1.2).to (fun j hj => by omega)
      · split
        · exact (fCome_fr L c (by omega) _ S.1.1 S.1.2).to (fun j hj => by omega)
        · exact rsm.rf
  exact this (lB L) (Nat.le_refl _)
theorem fTwo_fr {n : Nat} {σ : Nat → Int32} (hn : n ≤ 10) : rsm (fun j => 18 ≤ j ∧ j < 48) σ (fTwo n σ).2 := by
  have : ∀ k, k ≤ n → rsm (fun j => 18 ≤ j ∧ j < 48) σ (xfold k fTwoL (0, σ)).2 := by
    intro k
    induction k with
    | zero => intro _; exact rsm.rf
    | succ k ih =>
      intro hk
      refine (ih (by omega)).tr ?_
      rw [xfold_s]
      exact (fTwoL_fr k _).to (fun j hj => by omega)
  exact this n (Nat.le_refl _)
theorem fFour_fr {σ : Nat → Int32} (hB : lBk L) : rsm (fun j => j < 18 ∨ j = 90) σ (fFour L c σ) := by
  have hb6 := hB.1
  have : ∀ k, k ≤ lB L → rsm (fun j => j < 18 ∨ j = 90) σ (xfold k (fFourB L c) σ) := by
    intro k
    induction k with
    | zero => intro _; exact rsm.rf
    | succ k ih =>
      intro hk
      refine (ih (by omega)).tr ?_
      rw [xfold_s]
      exact (fFourB_fr L c k _).to (fun j hj => by omega)
  exact (this (lB L) (Nat.le_refl _)).up (Or.inr rfl) _
theorem fThree_fr {n e : Nat} {σ : Nat → Int32} (hW : lWok L) (hB : lBk L) (h : gSt L c n e σ) : rsm (fun j => 18 ≤ j ∧ j < 58) σ (fThree L c n σ) := by
  have n10 := h.1.2
  rw [fThree_eq hW hB h]
  have : ∀ k, k ≤ n → rsm (fun j => 18 ≤ j ∧ j < 58) σ (fThreeC L c n k σ) := by
    intro k
    induction k with
    | zero => intro _; exact rsm.rf
    | succ k ih =>
      intro hk
      refine (ih (by omega)).tr ?_
      rw [fThreeC_s]
      split
      · exact rsm.rf
      · exact (fLay_fr k _ _ _).to (fun j hj => by omega)
  exact this n (Nat.le_refl _)
theorem fDay_fr {n e : Nat} {σ : Nat → Int32} (hW : lWok L) (hB : lBk L) (h : gSt L c n e σ) : rsm (fun j => j < 58 ∨ j = 90) σ (fDay L c n σ) := by
  have S1 := fOne_st hW hB h
  have S2 := fTwo_st hB S1
  exact (((fOne_fr hW hB h).to (fun j hj => by omega)).tr ((fTwo_fr h.1.2).to (fun j hj => by omega))).tr (((fThree_fr hW hB S2).to (fun j hj => by omega)).tr ((fFour_fr hB).to (fun j hj => by omega)))
theorem R_goDay {u : xU} {n e : Nat} (hr : xRf r) (hE : rE u L c) (hK : lOkk L) (h0 : hOk u) (hS : gSt L c n e (u 684)) :
    xCall g (d + 8) mX12_goDay [.ref 655] 698 u w r 698 (xIn (fTwo n (fOne L c (u 684))).1 (fun u' => u' 684 = fDay L c n (u 684) ∧ xSn fDh u u' ∧ hTr u u') w r) := by
  have hB := hK.2.2.1
  refine CX12_goDay (xVd.use (R_stepOne hr hE hK hS) (fun u1 h1 => ⟨rfl, rfl, rfl, ?_⟩))
  have S1 : gSt L c n e (u1 684) := by rw [h1.1]; exact fOne_st hK.1 hB hS
  have f1 : xSn fDh u u1 := h1.2.n fDy_h
  have E1 : rE u1 L c := hE.kn f1 S1.2.1
  refine xIn.use (R_stepTwo hr hB S1) (fun u2 h2 => ⟨(fTwo n (u1 684)).1, rfl, rfl, rfl, ?_⟩)
  have S2 : gSt L c n e (u2 684) := by rw [h2.1]; exact fTwo_st hB S1
  have f2 : xSn fDh u1 u2 := h2.2.n (fun b i h => Or.inr (Or.inr (Or.inl h)))
  have E2 : rE u2 L c := E1.kn f2 S2.2.1
  have no : hNo u u2 := by
    have e1 : ∀ b i, b ≠ 663 → b ≠ 664 → b ≠ 684 → u2 b i = u b i := fun b i q1 q2 q3 => (h2.2 b i q3).trans (h1.2 b i (by omega))
    exact ⟨e1 _ _ (by omega) (by omega) (by omega), funext fun i => e1 _ _ (by omega) (by omega) (by omega)⟩
  have e48 : u2 684 48 = u 684 48 := by
    rw [h2.1, fTwo_fr S1.1.2 48 (by omega), h1.1, fOne_fr hK.1 hB hS 48 (by omega)]
  refine xVd.use (R_stepThree hr E2 hK (no.ok h0) S2) (fun u3 h3 => ⟨rfl, rfl, rfl, ?_⟩)
  have S3 : gSt L c n e (u3 684) := by rw [h3.1]; exact fThree_st hK.1 hB S2
  have E3 : rE u3 L c := E2.kn h3.2.1 S3.2.1
  refine xVd.use (R_stepFour hr E3 hK S3) (fun u4 h4 => ⟨rfl, rfl, rfl, by rw [h1.1], ⟨?_, ?_, ?_⟩, rfl, rfl⟩)
  · rw [h4.1, h3.1, h2.1, h1.1]; rfl
  · exact (f1.tr f2).tr (h3.2.1.tr (h4.2.n (fun b i h => Or.inr (Or.inr (Or.inl h)))))
  · refine (h3.2.2.later no e48).more ⟨h4.2 _ _ (by omega), funext fun i => h4.2 _ _ (by omega)⟩ ?_ ?_
    · rw [h4.1]; exact fFour_fr hB 48 (by omega)
    · rw [h4.1]; exact fFour_fr hB 28 (by omega)
/-- beginning to look ahead -/
theorem R_load {u : xU} (hr : xRf r) (hL : rL u L) (hW : lWok L) (h91 : ∀ j, 91 ≤ j → u 684 j = u 683 j) :
    xCall g (d + 2) mX12_load [.ref 655] 698 u w r 698 (xVd (fun u' => u' 684 = u 683 ∧ u' 655 61 = 0 ∧ rE u' L (u 683 89) ∧ xSn (fun b i => b = 684 ∨ b = 685 ∨ (b = 655 ∧ i = 61)) u u') w r) := by
  refine CX12_load ?_
  refine xlp (N := 91) (Q := fun k u' => (∀ j, (j < k ∨ 91 ≤ j) → u' 684 j = u 683 j) ∧ xSm (fun b => b = 684) u u') (G := fun k u' => xEv g (d + 2) mX12_load 2 [some (.ref 655), some (.int (nI k))] [] 698 u' w r 698 _) ?_ ?_ ⟨fun j hj => h91 j (by omega), xSm.rf⟩
  · intro u1 ⟨h1, h2⟩
    refine TX12_load_2 hr (brT (nI_le (a := 91) (Nat.le_refl _) (by omega)) ?_)
    generalize hu2 : x2 u1 655 61 0 = u2
    have f2 : xSn (fun b i => b = 684 ∨ b = 685 ∨ (b = 655 ∧ i = 61)) u u2 := by
      rw [← hu2]
      exact (h2.n (fun b i h => Or.inl h)).put (Or.inr (Or.inr ⟨rfl, rfl⟩))
    have r2 : u2 684 = u 683 := by
      rw [← hu2, x2_row' _ _ _ (by omega)]
      exact funext fun j => h1 j (by omega)
    have L2 : rL u2 L := hL.kn (by rw [← hu2]; exact (h2.n (fun b i h => Or.inr (Or.inr (Or.inl h)))).put f61)
    refine xVd.use (R_layFar hr L2 hW) (fun u3 h3 => ⟨rfl, rfl, rfl, rfl, ⟨?_, ?_, ⟨?_, ?_, ?_⟩, ?_⟩, rfl, rfl⟩)
    · rw [← r2]; exact funext fun i => h3.2 _ _ (by omega)
    · rw [h3.2 _ _ (by omega), ← hu2, x2_same]
    · exact L2.kept _ h3.2 (by omega) (by omega) (by omega)
    · have := h3.1
      rw [r2] at this
      exact this
    · rw [h3.2 _ _ (by omega), r2]
    · exact f2.tr (h3.2.n (fun b i h => Or.inr (Or.inl h)))
  · intro k u1 hk ⟨h1, h2⟩ kk
    refine TX12_load_2 hr (brF (nI_ge (b := 91) (by omega) (by omega)) ⟨vpn (by omega) (by omega), ?_⟩)
    rw [nI_one, nc (by omega)]
    refine kk _ ⟨fun j hj => ?_, h2.put rfl⟩
    rw [x2_row]
    by_cases q : j = k
    · subst q; rw [up_s, h2 _ _ (by omega)]
    · rw [up_n q]; exact h1 j (by omega)
end RDAY2
