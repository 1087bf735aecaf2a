/-! A LETTER MORE in a state of the class -/
def fAdd (k : Nat) (v g ls wo : Int32) (σ : Nat → Int32) : Nat → Int32 := up (up (up (up (up (up (up (up σ (18 + k) v) (28 + k) (-1)) (38 + k) (-1)) (58 + k) g) (68 + k) ls) (78 + k) wo) (48 + k) 0) 88 (nI (k + 1))
theorem fAdd_o {k : Nat} {v g ls wo : Int32} {σ : Nat → Int32} {j : Nat} (h : j ≠ 18 + k ∧ j ≠ 28 + k ∧ j ≠ 38 + k ∧ j ≠ 48 + k ∧ j ≠ 58 + k ∧ j ≠ 68 + k ∧ j ≠ 78 + k ∧ j ≠ 88) : fAdd k v g ls wo σ j = σ j := by
  unfold fAdd
  rw [up_n (by omega), up_n (by omega), up_n (by omega), up_n (by omega), up_n (by omega), up_n (by omega), up_n (by omega), up_n (by omega)]
theorem fAdd_18 {k : Nat} {v g ls wo : Int32} {σ : Nat → Int32} (hk : k < 10) : fAdd k v g ls wo σ (18 + k) = v := by
  unfold fAdd
  rw [up_n (by omega), up_n (by omega), up_n (by omega), up_n (by omega), up_n (by omega), up_n (by omega), up_n (by omega), up_s]
theorem fAdd_28 {k : Nat} {v g ls wo : Int32} {σ : Nat → Int32} (hk : k < 10) : fAdd k v g ls wo σ (28 + k) = -1 := by
  unfold fAdd
  rw [up_n (by omega), up_n (by omega), up_n (by omega), up_n (by omega), up_n (by omega), up_n (by omega), up_s]
theorem fAdd_38 {k : Nat} {v g ls wo : Int32} {σ : Nat → Int32} (hk : k < 10) : fAdd k v g ls wo σ (38 + k) = -1 := by
  unfold fAdd
  rw [up_n (by omega), up_n (by omega), up_n (by omega), up_n (by omega), up_n (by omega), up_s]
theorem fAdd_58 {k : Nat} {v g ls wo : Int32} {σ : Nat → Int32} (hk : k < 10) : fAdd k v g ls wo σ (58 + k) = g := by
  unfold fAdd
  rw [up_n (by omega), up_n (by omega), up_n (by omega), up_n (by omega), up_s]
theorem fAdd_68 {k : Nat} {v g ls wo : Int32} {σ : Nat → Int32} (hk : k < 10) : fAdd k v g ls wo σ (68 + k) = ls := by
  unfold fAdd
  rw [up_n (by omega), up_n (by omega), up_n (by omega), up_s]
theorem fAdd_78 {k : Nat} {v g ls wo : Int32} {σ : Nat → Int32} (hk : k < 10) : fAdd k v g ls wo σ (78 + k) = wo := by
  unfold fAdd
  rw [up_n (by omega), up_n (by omega), up_s]
theorem fAdd_48 {k : Nat} {v g ls wo : Int32} {σ : Nat → Int32} (hk : k < 10) : fAdd k v g ls wo σ (48 + k) = 0 := by
  unfold fAdd
  rw [up_n (by omega), up_s]
theorem fAdd_88 {k : Nat} {v g ls wo : Int32} {σ : Nat → Int32} : fAdd k v g ls wo σ 88 = nI (k + 1) := by
  unfold fAdd
  rw [up_s]
theorem fAdd_in {k b : Nat} {v g ls wo : Int32} {σ : Nat → Int32} (hk : k < 10) (hb : b < 6) : fIn (k + 1) (fAdd k v g ls wo σ) b = fIn k σ b := by
  unfold fIn
  rw [cn_s, if_neg (fun z => by
    have := of_decide_eq_true z
    rw [fAdd_28 hk] at this
    exact nI_m1 (by omega) this.symm)]
  exact cn_congr (fun i hi => by rw [fAdd_o (by omega)])
theorem fAdd_st {L : xU} {c : Int32} {k e v g : Nat} {ls wo : Int32} {σ : Nat → Int32} (hB6 : lB L ≤ 6) (hk : k < 10) (hS : gSt L c k e σ) (hv : v < lV L) (hg : g < lV L) : gSt L c (k + 1) e (fAdd k (nI v) (nI g) ls wo σ) := by
  refine ⟨⟨fAdd_88, by omega⟩, (fAdd_o (by omega)).trans hS.2.1, ⟨(fAdd_o (by omega)).trans hS.2.2.1.1, hS.2.2.1.2⟩, fun b hb => (hS.2.2.2.1 b hb).cg (fAdd_o (by omega)) (fAdd_o (by omega)), fun l hl => ?_, fun b hb => ?_⟩
  · by_cases q : l = k
    · subst q
      exact ⟨⟨g, hg, fAdd_58 hk⟩, Or.inl ⟨fAdd_28 hk, fAdd_38 hk, v, hv, fAdd_18 hk⟩⟩
    · obtain ⟨l1, l2⟩ := hS.2.2.2.2.1 l (by omega)
      unfold sL1
      rw [fAdd_o (j := 58 + l) (by omega), fAdd_o (j := 28 + l) (by omega), fAdd_o (j := 38 + l) (by omega), fAdd_o (j := 18 + l) (by omega)]
      refine ⟨l1, ?_⟩
      rcases l2 with h | ⟨b, hb, h1, h2, h3⟩ | h
      · exact Or.inl h
      · exact Or.inr (Or.inl ⟨b, hb, h1, by rw [fAdd_o (by omega)]; exact h2, h3⟩)
      · exact Or.inr (Or.inr h)
  · rw [fAdd_in hk (by omega)]; exact hS.2.2.2.2.2 b hb
section LETTER
variable {g : xGT} {d : Nat} {w : xW} {r : xQ} {L : xU} {c : Int32} {s : Nat}
theorem K_addLetter {u : xU} {k : Nat} {σ T : Nat → Int32} (h_s : xSt s) (q_s : xSr s r) (hB6 : lB L ≤ 6) (hk : k < 10) (h : kSt L k u s σ T) (h88 : σ 88 = nI k) (v t ls wo : Int32) :
    xCall g (d + 1) mX9_addLetter [.ref s, .int v, .int t, .int ls, .int wo] 698 u w r 698 (xIn (nI k) (fun u' => kSt L (k + 1) u' s (fAdd k v t ls wo σ) T ∧ xSm (fSt s) u u') w r) := by
  have e2 : u s 2 = nI k := h.1.2.2.trans h88
  refine CX9_addLetter h_s q_s (xPr.use (K_isOneOf _ _) ⟨_, rfl, rfl, rfl, rfl, ?_⟩)
  rw [e2]
  have in10 : ¬ xb (¬ (nI k < 0) ∧ ¬ ((10 : Int32) ≤ nI k)) = 0 := by
    rw [xb_eq0, Classical.not_not]
    exact ⟨nI_nn (by omega), nI_ge (b := 10) (by omega) (by omega)⟩
  refine brF in10 ⟨vpn (by omega) (by omega), rfl, ?_, rfl, rfl⟩
  rw [nc (by omega)]
  obtain ⟨⟨a1, a2, a3⟩, b1, b2, b3⟩ := h
  have fr : xSm (fSt s) u (x2 (x2 (x2 (x2 (x2 (x2 (x2 u (s + 5) k v) (s + 6) k (-1)) (s + 7) k (-1)) (s + 8) k t) (s + 9) k ls) (s + 10) k wo) (s + 11) k 0) := ((((((xSm.rf.put ⟨by omega, by omega⟩).put ⟨by omega, by omega⟩).put ⟨by omega, by omega⟩).put ⟨by omega, by omega⟩).put ⟨by omega, by omega⟩).put ⟨by omega, by omega⟩).put ⟨by omega, by omega⟩
  refine ⟨?_, fr.put ⟨by omega, by omega⟩⟩
  have lo : ∀ a i, a ≤ 4 → (a ≠ 0 ∨ i ≠ 2) → (x2 (x2 (x2 (x2 (x2 (x2 (x2 (x2 u (s + 5) k v) (s + 6) k (-1)) (s + 7) k (-1)) (s + 8) k t) (s + 9) k ls) (s + 10) k wo) (s + 11) k 0) s 2 ((x2 (x2 (x2 (x2 (x2 (x2 (x2 u (s + 5) k v) (s + 6) k (-1)) (s + 7) k (-1)) (s + 8) k t) (s + 9) k ls) (s + 10) k wo) (s + 11) k 0) s 2 + 1)) (s + a) i = u (s + a) i := by
    intro a i ha hi
    rw [x2_ne _ _ (by omega), x2_a _ _ (by omega), x2_a _ _ (by omega), x2_a _ _ (by omega), x2_a _ _ (by omega), x2_a _ _ (by omega), x2_a _ _ (by omega), x2_a _ _ (by omega)]
  refine ⟨⟨?_, ?_, ?_⟩, fun b hb => ?_, fun b hb => ?_, fun l hl => ?_⟩
  · exact ((lo 0 0 (by omega) (by omega)).trans a1).trans (fAdd_o (by omega)).symm
  · exact ((lo 0 1 (by omega) (by omega)).trans a2).trans (fAdd_o (by omega)).symm
  · rw [x2_same, x2_a _ _ (by omega), x2_a _ _ (by omega), x2_a _ _ (by omega), x2_a _ _ (by omega), x2_a _ _ (by omega), x2_a _ _ (by omega), x2_a _ _ (by omega), e2, nI_one, fAdd_88]
  · rw [lo 1 b (by omega) (by omega), fAdd_o (by omega)]; exact b1 b hb
  · rw [lo 2 b (by omega) (by omega), lo 3 b (by omega) (by omega), lo 4 b (by omega) (by omega), fAdd_o (j := 6 + b) (by omega), fAdd_o (j := b) (by omega), fAdd_o (j := 12 + b) (by omega), fAdd_in hk (by omega)]
    exact b2 b hb
  · have hi : ∀ a, 5 ≤ a → a ≤ 11 → (x2 (x2 (x2 (x2 (x2 (x2 (x2 (x2 u (s + 5) k v) (s + 6) k (-1)) (s + 7) k (-1)) (s + 8) k t) (s + 9) k ls) (s + 10) k wo) (s + 11) k 0) s 2 ((x2 (x2 (x2 (x2 (x2 (x2 (x2 u (s + 5) k v) (s + 6) k (-1)) (s + 7) k (-1)) (s + 8) k t) (s + 9) k ls) (s + 10) k wo) (s + 11) k 0) s 2 + 1)) (s + a) l = (x2 (x2 (x2 (x2 (x2 (x2 (x2 u (s + 5) k v) (s + 6) k (-1)) (s + 7) k (-1)) (s + 8) k t) (s + 9) k ls) (s + 10) k wo) (s + 11) k 0) (s + a) l := fun a h1 h2 => x2_a _ _ (by omega)
    rw [hi 5 (by omega) (by omega), hi 6 (by omega) (by omega), hi 7 (by omega) (by omega), hi 8 (by omega) (by omega), hi 9 (by omega) (by omega), hi 10 (by omega) (by omega), hi 11 (by omega) (by omega)]
    by_cases q : l = k
    · subst q
      rw [fAdd_18 hk, fAdd_28 hk, fAdd_38 hk, fAdd_48 hk, fAdd_58 hk, fAdd_68 hk, fAdd_78 hk]
      refine ⟨⟨?_, ?_, ?_, ?_⟩, ?_, ?_, ?_⟩
      · rw [x2_a _ _ (by omega), x2_a _ _ (by omega), x2_a _ _ (by omega), x2_a _ _ (by omega), x2_a _ _ (by omega), x2_a _ _ (by omega), x2_same]
      · rw [x2_a _ _ (by omega), x2_a _ _ (by omega), x2_a _ _ (by omega), x2_a _ _ (by omega), x2_a _ _ (by omega), x2_same]
      · rw [x2_a _ _ (by omega), x2_a _ _ (by omega), x2_a _ _ (by omega), x2_a _ _ (by omega), x2_same]
      · rw [x2_same]
      · rw [x2_a _ _ (by omega), x2_a _ _ (by omega), x2_a _ _ (by omega), x2_same]
      · rw [x2_a _ _ (by omega), x2_a _ _ (by omega), x2_same]
      · rw [x2_a _ _ (by omega), x2_same]
    · have o : ∀ a, (x2 (x2 (x2 (x2 (x2 (x2 (x2 u (s + 5) k v) (s + 6) k (-1)) (s + 7) k (-1)) (s + 8) k t) (s + 9) k ls) (s + 10) k wo) (s + 11) k 0) a l = u a l := fun a => by
        rw [x2_ne _ _ (by omega), x2_ne _ _ (by omega), x2_ne _ _ (by omega), x2_ne _ _ (by omega), x2_ne _ _ (by omega), x2_ne _ _ (by omega), x2_ne _ _ (by omega)]
      rw [o, o, o, o, o, o, o, fAdd_o (j := 18 + l) (by omega), fAdd_o (j := 28 + l) (by omega), fAdd_o (j := 38 + l) (by omega), fAdd_o (j := 48 + l) (by omega), fAdd_o (j := 58 + l) (by omega), fAdd_o (j := 68 + l) (by omega), fAdd_o (j := 78 + l) (by omega)]
      exact b3 l (by omega)
/-- no letters, and all biers empty -/
theorem K_leaveOneLetter {u : xU} {n : Nat} {σ T : Nat → Int32} (h_s : xSt s) (q_s : xSr s r) (hB6 : lB L ≤ 6) (h : kSt L n u s σ T) (v t : Int32) :
    xCall g (d + 2) mX9_leaveOneLetter [.ref s, .int v, .int t] 698 u w r 698 (xVd (fun u' => kSt L 1 u' s (fAdd 0 v t 200 1 (up σ 88 0)) T ∧ xSm (fSt s) u u') w r) := by
  refine CX9_leaveOneLetter h_s ?_
  refine xlp (N := 6) (Q := fun k u' => (∀ b, b < k → u' (s + 4) b = 0) ∧ xSm (fun b => b = s + 4) (x2 u s 2 0) u') (G := fun k u' => xEv g (d + 2) mX9_leaveOneLetter 7 [some (.ref s), some (.int v), some (.int t), some (.int (nI k))] [] 698 u' w r 698 _) ?_ ?_ ⟨fun b hb => by omega, xSm.rf⟩
  · intro u1 ⟨h1, f1⟩
    have k0 : kSt L 0 u1 s (up σ 88 0) T := by
      obtain ⟨⟨a1, a2, a3⟩, b1, b2, b3⟩ := h
      refine ⟨⟨?_, ?_, ?_⟩, fun b hb => ?_, fun b hb => ?_, fun l hl => by omega⟩
      · rw [f1 _ _ (by omega), x2_ne _ _ (by omega), up_n (by omega)]; exact a1
      · rw [f1 _ _ (by omega), x2_ne _ _ (by omega), up_n (by omega)]; exact a2
      · rw [f1 _ _ (by omega), x2_same, up_s]
      · rw [f1 _ _ (by omega), x2_a _ _ (by omega), up_n (by omega)]; exact b1 b hb
      · rw [f1 (s + 2) _ (by omega), f1 (s + 3) _ (by omega), x2_a _ _ (by omega), x2_a _ _ (by omega), up_n (by omega), up_n (by omega), up_n (by omega), h1 b (by omega)]
        exact ⟨(b2 b hb).1, (b2 b hb).2.1, (b2 b hb).2.2.1, rfl⟩
    refine TX9_leaveOneLetter_7 h_s q_s (brT (nI_le (a := 6) (Nat.le_refl _) (by omega)) ?_)
    refine xIn.use (K_addLetter h_s q_s hB6 (k := 0) (by omega) k0 (by rw [up_s]; rfl) v t 200 1) (fun u2 ⟨h2, f2⟩ => ⟨_, rfl, rfl, rfl, rfl, ⟨h2, ?_⟩, rfl, rfl⟩)
    have f0 : xSm (fSt s) u (x2 u s 2 0) := xSm.rf.put ⟨by omega, by omega⟩
    exact (f0.tr (f1.to (fun b hb => ⟨by omega, by omega⟩))).tr f2
  · intro k u1 hk ⟨h1, f1⟩ kk
    refine TX9_leaveOneLetter_7 h_s q_s (brF (nI_ge (b := 6) (by omega) (by omega)) ⟨vpn (by omega) (by omega), ?_⟩)
    rw [nI_one, nc (by omega)]
    refine kk _ ⟨fun b hb => ?_, f1.put rfl⟩
    by_cases q : b = k
    · subst q; rw [x2_same]
    · rw [x2_i _ _ q]; exact h1 b (by omega)
end LETTER
