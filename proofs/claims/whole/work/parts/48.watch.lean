/-! WATCHING: both sides -/
theorem wNo_6 {L : xU} {c : Int32} {n e : Nat} {σ : Nat → Int32} {W : Nat → Nat → Int32} (hB6 : lB L ≤ 6) (hS : gSt L c n e σ) : wNo σ 6 W = wNo σ (lB L) W := by
  funext b v
  rw [wNo_at, wNo_at]
  by_cases q : b < lB L
  · have e1 : (b < 6 ∧ (σ b = 1 ∨ σ b = 3) ∧ v = (σ (6 + b)).toNatClampNeg ∧ W b v = -1) ↔ (b < lB L ∧ (σ b = 1 ∨ σ b = 3) ∧ v = (σ (6 + b)).toNatClampNeg ∧ W b v = -1) := ⟨fun z => ⟨q, z.2⟩, fun z => ⟨by omega, z.2⟩⟩
    simp only [e1]
  · rw [if_neg (show ¬ (b < lB L ∧ (σ b = 1 ∨ σ b = 3) ∧ v = (σ (6 + b)).toNatClampNeg ∧ W b v = -1) from fun z => q z.1)]
    by_cases h6 : b < 6
    · have z := (hS.2.2.2.1 b h6).2 q
      rw [if_neg]
      rintro ⟨-, y | y, -⟩ <;> rw [z] at y <;> exact absurd y (by decide)
    · rw [if_neg (show ¬ (b < 6 ∧ (σ b = 1 ∨ σ b = 3) ∧ v = (σ (6 + b)).toNatClampNeg ∧ W b v = -1) from fun z => h6 z.1)]
def cW (u : xU) (W : Nat → Nat → Int32) : Prop := ∀ b v, b < 6 → v < 7 → u (96 + b) v = W b v
def qW (u : xU) (W : Nat → Nat → Int32) : Prop := ∀ b v, b < 6 → v < 7 → u 688 (7 * b + v) = tR (W b v)
abbrev fW6 : Nat → Prop := fun b => 96 ≤ b ∧ b < 102
section WATCH
variable {g : xGT} {d : Nat} {w : xW} {r : xQ} {L : xU} {c : Int32} {l n e : Nat} {σ : Nat → Int32}
theorem K_noteStanding {u : xU} {Tb : Nat → Int32} {W : Nat → Nat → Int32} (hr : xRf r) (hK : lOkk L) (hk : kSt L n u 80 σ Tb) (hS : gSt L c n e σ) (hT : cW u W) :
    xCall g (d + 1) mX3_noteStanding [.ref 79] 698 u w r 698 (xVd (fun u' => cW u' (wNo σ (lB L) W) ∧ xSm fW6 u u') w r) := by
  have hb6 := hK.2.2.1.1
  have hv7 := hK.1.1
  rw [← wNo_6 hb6 hS]
  refine CX3_noteStanding ?_
  refine xlp (N := 6) (Q := fun k u' => cW u' (wNo σ k W) ∧ xSm fW6 u u') (G := fun k u' => xEv g (d + 1) mX3_noteStanding 2 [some (.ref 79), some (.int (nI k)), none, none] [] 698 u' w r 698 _) ?_ ?_ ⟨hT, xSm.rf⟩
  · intro u1 ⟨h1, h2⟩
    exact TX3_noteStanding_2 hr (brT (nI_le (a := 6) (Nat.le_refl _) (by omega)) ⟨rfl, ⟨h1, h2⟩, rfl, rfl⟩)
  · intro k u1 hkk ⟨h1, h2⟩ kk
    have k1 := hk.kept h2 (by omega)
    refine TX3_noteStanding_2 hr (brF (nI_ge (b := 6) (by omega) (by omega)) ⟨vpn (by omega) (by omega), ?_⟩)
    rw [nc (by omega), k1.2.1 k hkk, k1.1.1, xb_eq0, Classical.not_not]
    rw [wNo_s] at kk
    generalize wNo σ k W = U at h1 kk
    refine ⟨fun q => TX3_noteStanding_90 ?_, fun q => xPr.use (K_isOneOf _ _) ⟨_, rfl, rfl, rfl, rfl, ?_⟩⟩
    · unfold wNoB at kk
      rw [if_neg (fun z => q z.1)] at kk
      rw [nI_one]
      exact kk u1 ⟨h1, h2⟩
    · have kb : k < lB L := Nat.lt_of_not_le (fun z => by
        have y := (hS.2.2.2.1 k hkk).2 (by omega)
        rcases q with x | x <;> rw [y] at x <;> exact absurd x (by decide))
      obtain ⟨⟨v, hv, ev⟩, -⟩ := (hS.2.2.2.1 k hkk).1 kb
      rw [(k1.2.2.1 k kb).1, ev, nc (by omega), h1 k v hkk (by omega)]
      unfold wNoB at kk
      rw [ev, nc (by omega)] at kk
      have in7 : ¬ xb (¬ (nI v < 0) ∧ ¬ ((7 : Int32) ≤ nI v)) = 0 := by
        rw [xb_eq0, Classical.not_not]
        exact ⟨nI_nn (by omega), nI_ge (b := 7) (by omega) (by omega)⟩
      refine ⟨fun _ => vpn (by omega) (by omega), fun q2 => ⟨vpn (by omega) (by omega), TX3_noteStanding_90 ?_⟩, fun q2 => TX3_noteStanding_90 ?_⟩
      · rw [if_pos ⟨q, q2.2⟩] at kk
        rw [nI_one]
        refine kk _ ⟨fun b' v' hb' hv' => ?_, h2.put ⟨by omega, by omega⟩⟩
        unfold x2
        by_cases z : b' = k ∧ v' = v
        · rw [if_pos (by omega), if_pos z]
        · rw [if_neg (by omega), if_neg z]; exact h1 b' v' hb' hv'
      · rw [if_neg (fun z => q2 ⟨in7, z.2⟩)] at kk
        rw [nI_one]
        exact kk u1 ⟨h1, h2⟩
theorem K_watch_loop {P : xPost} (hr : xRf r) (h_l : xLd l) (q_l : xLr l r) (hm : r 52 1 = some l) (hl : l + 14 < 52) (hK : lOkk L) : ∀ (m i e n : Nat) (σ Tb : Nat → Int32) (W : Nat → Nat → Int32) (u : xU), e + m = 300 → i + m ≤ 300 → kE u l L c → kSt L n u 80 σ Tb → gSt L c n e σ → cW u W →
    (∀ (u' : xU), xSm (fLk l) u u' → cW u' (wt L c m σ W) → P none u' w r) →
    xEv g (d + 4) mX3_watch 47 [some (.ref 79), none, some (.int (nI i)), none] [] 698 u w r 698 P := by
  have hW := hK.1
  have hB := hK.2.2.1
  have hb6 := hB.1
  intro m
  induction m with
  | zero =>
    intro i e n σ Tb W u he hi hE hk hS hT kk
    refine TX3_watch_47 hr (brF (fun q => q.2 ?_) (kk u xSm.rf hT))
    rw [hk.1.1, hS.2.2.1.1]
    exact nI_le (a := 300) (by omega) (by omega)
  | succ m ih =>
    intro i e n σ Tb W u he hi hE hk hS hT kk
    have S1 := fOne_st hW hB hS
    have S2 := fFour_st hW hB S1 (by omega)
    refine TX3_watch_47 hr (brT ⟨nI_ge (b := 300) (by omega) (by omega), ?_⟩ ?_)
    · rw [hk.1.1, hS.2.2.1.1]
      exact nI_ge (b := 300) (by omega) (by omega)
    · refine xVd.use (K_arrive hr st80 (sr80 hr) h_l q_l hm hl (by omega) hE hK hk hS) (fun u1 ⟨⟨T1, k1, t1⟩, f1⟩ => ⟨rfl, rfl, rfl, ?_⟩)
      have E1 : kE u1 l L c := hE.kept f1 (by omega) (by omega)
      have hT1 : cW u1 W := fun b v hb hv => (f1 _ _ (by omega)).trans (hT b v hb hv)
      refine xVd.use (K_noteStanding hr hK k1 S1 hT1) (fun u2 ⟨hT2, f2⟩ => ⟨rfl, rfl, rfl, ?_⟩)
      have k2 := k1.kept f2 (by omega)
      have E2 : kE u2 l L c := E1.kept f2 (by omega) (by omega)
      refine xVd.use (K_depart hr st80 (sr80 hr) h_l q_l hm hl (by omega) E2 hK k2 S1) (fun u3 ⟨k3, f3⟩ => ⟨rfl, rfl, rfl, ?_⟩)
      have E3 : kE u3 l L c := E2.kept f3 (by omega) (by omega)
      have hT3 : cW u3 (wNo (fOne L c σ) (lB L) W) := fun b v hb hv => (f3 _ _ (by omega)).trans (hT2 b v hb hv)
      have f123 : xSm (fLk l) u u3 := ((f1.to (fun b hb => fCd80 hb)).tr (f2.to (fun b hb => Or.inl (by omega)))).tr (f3.to (fun b hb => fSt80 hb))
      rw [wt_s] at kk
      refine xPr.use (K_isStill hr st80 (sr80 hr) h_l q_l hm E3 hK k3 S2) ⟨_, rfl, rfl, rfl, rfl, fun q => ?_, fun q => ?_⟩
      · rw [nI_one]
        exact ih (i + 1) (e + 1) n _ T1 _ u3 (by omega) (by omega) E3 k3 S2 hT3 (fun u4 f4 h => kk u4 (f123.tr f4) h)
      · rw [xb_eq0, Classical.not_not] at q
        have k4 := fFour_still hb6 q
        have fx : wFix L (fOne L c σ) (wNo (fOne L c σ) (lB L) W) := wFix_one (by rw [S1.2.2.1.1]; exact nI_m1 (by omega))
        rw [wt_still hb6 m _ _ q (fun b hb => by
          unfold fFour
          rw [k4, up_n (show b ≠ 90 by omega), up_n (show 6 + b ≠ 90 by omega)]
          exact fx b hb)] at kk
        exact kk u3 f123 hT3
theorem K_watch {u : xU} (hK : lOkk L) (hR : kR r l) (hN : kN L l n e u σ) :
    xCall g (d + 5) mX3_watch [.ref 79, .ref 105] 698 u w r 698 (xVd (fun u' => cW u' (wE L e σ) ∧ xSm (fLk l) u u') w r) := by
  obtain ⟨hr, h_l, q_l, hm, ht, hl⟩ := hR
  obtain ⟨hE, ⟨Tb, hk⟩, hS⟩ := hN
  have hb6 := hK.2.2.1.1
  have he := hS.2.2.1.2
  refine CX3_watch ?_
  refine xlp (N := 6) (Q := fun k u' => (∀ b v, b < k → v < 7 → u' (96 + b) v = -1) ∧ xSm fW6 u u') (G := fun k u' => xEv g (d + 5) mX3_watch 2 [some (.ref 79), some (.ref 105), some (.int (nI k)), none] [] 698 u' w r 698 _) ?_ ?_ ⟨fun b v hb => by omega, xSm.rf⟩
  · intro u1 ⟨h1, f1⟩
    refine TX3_watch_2 hr (brT (nI_le (a := 6) (Nat.le_refl _) (by omega)) ?_)
    refine xVd.use (K_copyFrom st80 (sr80 hr) st105 (sr105 hr) (by omega)) (fun u3 ⟨h3, f3⟩ => ⟨rfl, rfl, rfl, ?_⟩)
    have f13 : xSm (fLk l) u u3 := (f1.to (fun b hb => Or.inl (by omega))).tr (f3.to (fun b hb => fSt80 hb))
    exact K_watch_loop hr h_l q_l hm hl hK (300 - e) 0 e n σ Tb (fun _ _ => -1) u3 (by omega) (by omega) ((hE.kept f1 (by omega) (by omega)).kept f3 (by omega) (by omega)) (h3.st (hk.kept f1 (by omega)) hb6 hS.1.2) hS (fun b v hb hv => (f3 _ _ (by omega)).trans (h1 b v hb hv)) (fun u4 f4 h => ⟨rfl, ⟨h, f13.tr f4⟩, rfl, rfl⟩)
  · intro k u1 hkk ⟨h1, f1⟩ kk
    refine TX3_watch_2 hr (brF (nI_ge (b := 6) (by omega) (by omega)) ?_)
    refine xlp (N := 7) (Q := fun j u' => (∀ b v, (b < k ∨ (b = k ∧ v < j)) → v < 7 → u' (96 + b) v = -1) ∧ xSm fW6 u u') (G := fun j u' => xEv g (d + 5) mX3_watch 10 [some (.ref 79), some (.ref 105), some (.int (nI k)), some (.int (nI j))] [] 698 u' w r 698 _) ?_ ?_ ⟨fun b v hb hv => h1 b v (by omega) hv, f1⟩
    · intro u2 ⟨h2, f2⟩
      refine TX3_watch_10 hr (brT (nI_le (a := 7) (Nat.le_refl _) (by omega)) ?_)
      rw [nI_one]
      exact kk u2 ⟨fun b v hb hv => h2 b v (by omega) hv, f2⟩
    · intro j u2 hj ⟨h2, f2⟩ kk2
      refine TX3_watch_10 hr (brF (nI_ge (b := 7) (by omega) (by omega)) ⟨vpn (by omega) (by omega), vpn (by omega) (by omega), ?_⟩)
      rw [nI_one, nc (by omega), nc (by omega)]
      refine kk2 _ ⟨fun b v hb hv => ?_, f2.put ⟨by omega, by omega⟩⟩
      by_cases z : b = k ∧ v = j
      · rw [z.1, z.2, x2_same]
      · rw [x2_ne _ _ (by omega)]; exact h2 b v (by omega) hv
end WATCH
