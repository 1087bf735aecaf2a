/-! QUESTIONS: soon, heard, deaf: the reference -/
theorem tR_300 {x0 s v : Nat} {T : Nat → Int32} (h : sOk x0 s T) (hx : x0 < 300 ∨ v ≠ s) : tR (T v) = 300 ↔ T v = -1 := by
  unfold tR
  rcases h.2 v with q | ⟨x, h1, h2, h3, h4⟩
  · rw [q, if_pos rfl]; exact ⟨fun _ => rfl, fun _ => rfl⟩
  · rw [h3, if_neg (nI_m1 (by omega))]
    refine ⟨fun q => ?_, fun q => absurd q (nI_m1 (by omega))⟩
    exfalso
    have := nI_inv (a := x) (b := 300) (by omega) (by omega) q
    by_cases z : v = s
    · subst z
      have := h.1
      rw [h3] at this
      have := nI_inv (by omega) (by omega) this
      omega
    · have := h4 z; omega
theorem tR_lt {x0 s v : Nat} {T : Nat → Int32} (h : sOk x0 s T) (hx : x0 < 300 ∨ v ≠ s) : ¬ (300 : Int32) ≤ tR (T v) ↔ ¬ T v = -1 := by
  unfold tR
  rcases h.2 v with q | ⟨x, h1, h2, h3, h4⟩
  · rw [q, if_pos rfl]
    exact ⟨fun z => absurd (Int32.le_refl _) z, fun z => absurd rfl z⟩
  · rw [h3, if_neg (nI_m1 (by omega)), show (300 : Int32) = nI 300 from rfl, le_nI (by omega) (by omega)]
    refine ⟨fun _ => nI_m1 (by omega), fun _ => ?_⟩
    by_cases z : v = s
    · subst z
      have := h.1
      rw [h3] at this
      have := nI_inv (by omega) (by omega) this
      omega
    · have := h4 z; omega
section SOON4
variable {g : xGT} {d : Nat} {w : xW} {r : xQ} {L : xU} {c : Int32} {l n e : Nat} {σ : Nat → Int32}
abbrev fDs : Nat → Prop := fun b => b = 663 ∨ b = 664 ∨ b = 684 ∨ b = 689
theorem R_laySoon_loop {P : xPost} (hr : xRf r) (hK : lOkk L) {x0 s : Nat} : ∀ (m e n : Nat) (τ T : Nat → Int32) (cy : Int32) (u : xU), e + m = 300 → x0 ≤ e → sOk x0 s T → rE u L c → u 684 = τ → gSt L c n e τ → qT u T →
    (∀ u' : xU, xSm fDs u u' → (∀ j, 91 ≤ j → u' 684 j = τ j) → qT u' (sp L c m τ T cy) → P none u' w r) →
    xEv g (d + 5) mX12_laySoon 44 [some (.ref 655), none, some (.int cy), none] [] 698 u w r 698 P := by
  have hW := hK.1
  have hB := hK.2.2.1
  have hb6 := hB.1
  have hv7 := hW.1
  intro m
  induction m with
  | zero =>
    intro e n τ T cy u he hx hs hE hτ hS hT kk
    refine TX12_laySoon_44 hr (brT ?_ (kk u xSm.rf (fun j _ => by rw [hτ]) hT))
    rw [hτ, hS.2.2.1.1]
    exact nI_le (a := 300) (by omega) (by omega)
  | succ m ih =>
    intro e n τ T cy u he hx hs hE hτ hS hT kk
    subst hτ
    have S1 := fOne_st hW hB hS
    have S2 := fFour_st hW hB S1 (by omega)
    refine TX12_laySoon_44 hr (brF ?_ ?_)
    · rw [hS.2.2.1.1]
      exact nI_ge (b := 300) (by omega) (by omega)
    · refine xVd.use (R_stepOne hr hE hK hS) (fun u1 ⟨h1, f1⟩ => ⟨rfl, rfl, rfl, ?_⟩)
      have E1 : rE u1 L c := hE.kn (f1.n fDy_h) (by rw [h1]; exact S1.2.1)
      have k1 := fOne_fr hW hB hS
      rw [sp_s] at kk
      have ok1 : ∀ k, sOk x0 s (sLay (fOne L c (u 684)) cy k T) := fun k => sLay_ok hs S1.2.2.1.1 hx (by omega) k
      generalize hσ1 : fOne L c (u 684) = σ1 at *
      have e90 : σ1 90 = nI e := S1.2.2.1.1
      refine xlp (N := lB L) (Q := fun k u' => qT u' (sLay σ1 cy k T) ∧ xSm (fun b => b = 689) u1 u') (G := fun k u' => xEv g (d + 5) mX12_laySoon 63 [some (.ref 655), none, some (.int cy), some (.int (nI k))] [] 698 u' w r 698 P) ?_ ?_ ⟨fun v hv => (f1 _ _ (by omega)).trans (hT v hv), xSm.rf⟩
      · intro u2 ⟨t2, f2⟩
        have L2 : rL u2 L := E1.1.kept _ f2 (by omega) (by omega) (by omega)
        refine TX12_laySoon_63 hr (brT (by rw [L2.1.2.2]; exact nI_le (Nat.le_refl _) (by omega)) ?_)
        have h2 : u2 684 = σ1 := by rw [← h1]; exact funext fun i => f2 _ _ (by omega)
        have o1 := ok1 (lB L)
        have lk : xEv g (d + 5) mX12_laySoon 149 [some (.ref 655), none, some (.int (sTak σ1 (sLay σ1 cy (lB L) T) 0 cy)), some (.int (nI 0))] [] 698 u2 w r 698 P := by
          refine xlq (N := lB L) (G := fun k => xEv g (d + 5) mX12_laySoon 149 [some (.ref 655), none, some (.int (sTak σ1 (sLay σ1 cy (lB L) T) k cy)), some (.int (nI k))] [] 698 u2 w r 698 P) ?_ ?_
          · refine TX12_laySoon_149 hr (brT (by rw [L2.1.2.2]; exact nI_le (Nat.le_refl _) (by omega)) ?_)
            have E2 : rE u2 L c := ⟨L2, fun a b ha hb => (f2 _ _ (by omega)).trans (E1.2.1 a b ha hb), by rw [h2]; exact S1.2.1⟩
            refine xVd.use (R_stepFour hr E2 hK (by rw [h2]; exact S1)) (fun u3 ⟨h3, f3⟩ => ⟨rfl, rfl, rfl, ?_⟩)
            rw [h2] at h3
            have f23 : xSm fDs u u3 := ((f1.to (fun b hb => by unfold fDs; unfold fDy at hb; omega)).tr (f2.to (fun b hb => by unfold fDs; omega))).tr (f3.to (fun b hb => by unfold fDs; omega))
            refine ih (e + 1) n _ _ _ u3 (by omega) (by omega) o1 (E2.kn (f3.n (fun b i h => Or.inr (Or.inr (Or.inl h)))) (by rw [h3]; exact S2.2.1)) h3 S2 (fun v hv => (f3 _ _ (by omega)).trans (t2 v hv)) (fun u4 f4 h4 t4 => kk u4 (f23.tr f4) (fun j hj => ?_) t4)
            rw [h4 j hj, fFour_fr hB j (by omega), k1 j (by omega)]
          · intro k hk kk2
            refine TX12_laySoon_149 hr (brF (by rw [L2.1.2.2]; exact nI_ge (by omega) (by omega)) ?_)
            simp (disch := omega) only [a6, nc]
            rw [h2]
            obtain ⟨⟨v, hv, ev⟩, -⟩ := (S1.2.2.2.1 k (by omega)).1 hk
            rw [ev, nc (by omega), t2 v (by omega)]
            rw [sTak_s] at kk2
            have ep : sTakP σ1 (sLay σ1 cy (lB L) T) k = true ↔ (σ1 k = 1 ∧ ¬ (300 : Int32) ≤ tR (sLay σ1 cy (lB L) T v)) := by
              unfold sTakP
              rw [decide_eq_true_iff, ev, nc (by omega), tR_lt o1 (Or.inl (by omega))]
            refine ⟨vpn (by omega) (by omega), fun _ => vpn (by omega) (by omega), fun _ => vpn (by omega) (by omega), fun q => TX12_laySoon_193 ?_, fun q => TX12_laySoon_193 ?_⟩
            · rw [if_pos (ep.mpr q)] at kk2; rw [nI_one]; exact kk2
            · rw [if_neg (fun z => q (ep.mp z))] at kk2; rw [nI_one]; exact kk2
        exact lk
      · intro k u2 hk ⟨t2, f2⟩ kk2
        have L2 : rL u2 L := E1.1.kept _ f2 (by omega) (by omega) (by omega)
        have h2 : u2 684 = σ1 := by rw [← h1]; exact funext fun i => f2 _ _ (by omega)
        refine TX12_laySoon_63 hr (brF (by rw [L2.1.2.2]; exact nI_ge (by omega) (by omega)) ?_)
        simp (disch := omega) only [a6, nc]
        obtain ⟨⟨v, hv, ev⟩, -⟩ := (S1.2.2.2.1 k (by omega)).1 hk
        rw [h2, ev, nc (by omega), t2 v (by omega), test_1 (by omega)]
        have o1 := ok1 k
        rw [sLay_s] at kk2
        generalize sLay σ1 cy k T = U at t2 kk2 o1 ⊢
        have e300 := tR_300 o1 (v := v) (Or.inl (by omega))
        rw [e300]
        have eb : sLayB σ1 cy k U = if bt cy k = true ∧ (σ1 k = 1 ∨ σ1 k = 3) ∧ U v = -1 then up U v (σ1 90) else U := by
          unfold sLayB
          rw [ev, nc (by omega)]
        rw [eb] at kk2
        refine ⟨fun q => ⟨vpn (by omega) (by omega), fun _ => vpn (by omega) (by omega), fun _ => vpn (by omega) (by omega), fun _ _ => vpn (by omega) (by omega), fun _ _ => vpn (by omega) (by omega), fun q2 => ⟨vpn (by omega) (by omega), vpn (by omega) (by omega), TX12_laySoon_141 ?_⟩, fun q2 => TX12_laySoon_141 ?_⟩, fun q => TX12_laySoon_141 ?_⟩
        · have hc : bt cy k = true ∧ (σ1 k = 1 ∨ σ1 k = 3) ∧ U v = -1 := by
            rcases q2 with y | y
            · exact ⟨q, Or.inl y.1, y.2⟩
            · exact ⟨q, Or.inr y.2.1, y.2.2⟩
          rw [if_pos hc] at kk2
          rw [nI_one]
          refine kk2 _ ⟨fun v' hv' => ?_, f2.put rfl⟩
          unfold up
          by_cases z : v' = v
          · subst z
            rw [x2_same, if_pos rfl, e90]
            unfold tR
            rw [if_neg (nI_m1 (by omega))]
          · rw [x2_i _ _ z, if_neg z]; exact t2 v' hv'
        · rw [if_neg (fun z => q2 (by
            rcases z.2.1 with y | y
            · exact Or.inl ⟨y, z.2.2⟩
            · exact Or.inr ⟨by rw [y]; decide, y, z.2.2⟩))] at kk2
          rw [nI_one]
          exact kk2 u2 ⟨t2, f2⟩
        · rw [if_neg (fun z => q z.1)] at kk2
          rw [nI_one]
          exact kk2 u2 ⟨t2, f2⟩
end SOON4
