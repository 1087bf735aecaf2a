/-! WATCHING: the reference -/
theorem tW_300 {W : Nat → Nat → Int32} (h : wOk W) (b v : Nat) : tR (W b v) = 300 ↔ W b v = -1 := by
  unfold tR
  rcases h b v with q | ⟨x, h1, h3⟩
  · rw [q, if_pos rfl]; exact ⟨fun _ => rfl, fun _ => rfl⟩
  · rw [h3, if_neg (nI_m1 (by omega))]
    refine ⟨fun q => ?_, fun q => absurd q (nI_m1 (by omega))⟩
    have := nI_inv (a := x) (b := 300) (by omega) (by omega) q
    omega
theorem tW_lt {W : Nat → Nat → Int32} (h : wOk W) (b v : Nat) : ¬ (300 : Int32) ≤ tR (W b v) ↔ ¬ W b v = -1 := by
  unfold tR
  rcases h b v with q | ⟨x, h1, h3⟩
  · rw [q, if_pos rfl]
    exact ⟨fun z => absurd (Int32.le_refl _) z, fun z => absurd rfl z⟩
  · rw [h3, if_neg (nI_m1 (by omega)), show (300 : Int32) = nI 300 from rfl, le_nI (by omega) (by omega)]
    exact ⟨fun _ => nI_m1 (by omega), fun _ => by omega⟩
section STOOD
variable {g : xGT} {d : Nat} {w : xW} {r : xQ} {L : xU} {c : Int32} {l n e : Nat} {σ : Nat → Int32}
abbrev fDw : Nat → Prop := fun b => b = 663 ∨ b = 664 ∨ b = 684 ∨ b = 688
theorem R_layStood_loop {P : xPost} (hr : xRf r) (hK : lOkk L) : ∀ (m e n : Nat) (τ : Nat → Int32) (W : Nat → Nat → Int32) (u : xU), e + m = 300 → wOk W → rE u L c → u 684 = τ → gSt L c n e τ → qW u W →
    (∀ u' : xU, xSm fDw u u' → (∀ j, 91 ≤ j → u' 684 j = τ j) → qW u' (wt L c m τ W) → P none u' w r) →
    xEv g (d + 5) mX12_layStood 79 [some (.ref 655), none] [] 698 u w r 698 P := by
  have hW := hK.1
  have hB := hK.2.2.1
  have hb6 := hB.1
  have hv7 := hW.1
  intro m
  induction m with
  | zero =>
    intro e n τ W u he ok hE hτ hS hT kk
    refine TX12_layStood_79 hr (brT ?_ (kk u xSm.rf (fun j _ => by rw [hτ]) hT))
    rw [hτ, hS.2.2.1.1]
    exact nI_le (a := 300) (by omega) (by omega)
  | succ m ih =>
    intro e n τ W u he ok hE hτ hS hT kk
    subst hτ
    have S1 := fOne_st hW hB hS
    have S2 := fFour_st hW hB S1 (by omega)
    refine TX12_layStood_79 hr (brF ?_ ?_)
    · rw [hS.2.2.1.1]
      exact nI_ge (b := 300) (by omega) (by omega)
    · refine xVd.use (R_stepOne hr hE hK hS) (fun u1 ⟨h1, f1⟩ => ⟨rfl, rfl, rfl, ?_⟩)
      have E1 : rE u1 L c := hE.kn (f1.n fDy_h) (by rw [h1]; exact S1.2.1)
      have k1 := fOne_fr hW hB hS
      rw [wt_s] at kk
      have ok1 : ∀ k, wOk (wNo (fOne L c (u 684)) k W) := fun k => wNo_ok ok S1.2.2.1.1 (by omega) k
      generalize hσ1 : fOne L c (u 684) = σ1 at *
      have e90 : σ1 90 = nI e := S1.2.2.1.1
      refine xlp (N := lB L) (Q := fun k u' => qW u' (wNo σ1 k W) ∧ xSm (fun b => b = 688) u1 u') (G := fun k u' => xEv g (d + 5) mX12_layStood 98 [some (.ref 655), some (.int (nI k))] [] 698 u' w r 698 P) ?_ ?_ ⟨fun b v hb hv => (f1 _ _ (by omega)).trans (hT b v hb hv), xSm.rf⟩
      · intro u2 ⟨t2, f2⟩
        have L2 : rL u2 L := E1.1.kept _ f2 (by omega) (by omega) (by omega)
        have h2 : u2 684 = σ1 := by rw [← h1]; exact funext fun i => f2 _ _ (by omega)
        refine TX12_layStood_98 hr (brT (by rw [L2.1.2.2]; exact nI_le (Nat.le_refl _) (by omega)) ?_)
        have E2 : rE u2 L c := ⟨L2, fun a b ha hb => (f2 _ _ (by omega)).trans (E1.2.1 a b ha hb), by rw [h2]; exact S1.2.1⟩
        refine xVd.use (R_stepFour hr E2 hK (by rw [h2]; exact S1)) (fun u3 ⟨h3, f3⟩ => ⟨rfl, rfl, rfl, ?_⟩)
        rw [h2] at h3
        have f23 : xSm fDw u u3 := ((f1.to (fun b hb => by unfold fDw; unfold fDy at hb; omega)).tr (f2.to (fun b hb => by unfold fDw; omega))).tr (f3.to (fun b hb => by unfold fDw; omega))
        refine ih (e + 1) n _ _ u3 (by omega) (ok1 (lB L)) (E2.kn (f3.n (fun b i h => Or.inr (Or.inr (Or.inl h)))) (by rw [h3]; exact S2.2.1)) h3 S2 (fun b v hb hv => (f3 _ _ (by omega)).trans (t2 b v hb hv)) (fun u4 f4 h4 t4 => kk u4 (f23.tr f4) (fun j hj => ?_) t4)
        rw [h4 j hj, fFour_fr hB j (by omega), k1 j (by omega)]
      · intro k u2 hk ⟨t2, f2⟩ kk2
        have L2 : rL u2 L := E1.1.kept _ f2 (by omega) (by omega) (by omega)
        have h2 : u2 684 = σ1 := by rw [← h1]; exact funext fun i => f2 _ _ (by omega)
        refine TX12_layStood_98 hr (brF (by rw [L2.1.2.2]; exact nI_ge (by omega) (by omega)) ?_)
        simp (disch := omega) only [a6, nc]
        obtain ⟨⟨v, hv, ev⟩, -⟩ := (S1.2.2.2.1 k (by omega)).1 hk
        rw [h2, ev]
        simp (disch := omega) only [m7, nI_add, nc]
        rw [t2 k v (by omega) (by omega)]
        have o1 := ok1 k
        rw [wNo_s] at kk2
        generalize wNo σ1 k W = U at t2 kk2 o1 ⊢
        rw [tW_300 o1]
        have eb : wNoB σ1 k U = if (σ1 k = 1 ∨ σ1 k = 3) ∧ U k v = -1 then x2 U k v (σ1 90) else U := by
          unfold wNoB
          rw [ev, nc (by omega)]
        rw [eb] at kk2
        refine ⟨vpn (by omega) (by omega), fun _ => vpn (by omega) (by omega), fun _ => vpn (by omega) (by omega), fun _ _ => vpn (by omega) (by omega), fun _ _ => vpn (by omega) (by omega), fun q2 => ⟨vpn (by omega) (by omega), vpn (by omega) (by omega), TX12_layStood_177 ?_⟩, fun q2 => TX12_layStood_177 ?_⟩
        · have hc : (σ1 k = 1 ∨ σ1 k = 3) ∧ U k v = -1 := by
            rcases q2 with y | y
            · exact ⟨Or.inl y.1, y.2⟩
            · exact ⟨Or.inr y.2.1, y.2.2⟩
          rw [if_pos hc] at kk2
          rw [nI_one]
          refine kk2 _ ⟨fun b' v' hb' hv' => ?_, f2.put rfl⟩
          unfold x2
          by_cases z : b' = k ∧ v' = v
          · rw [if_pos (by omega), if_pos z, e90]
            unfold tR
            rw [if_neg (nI_m1 (by omega))]
          · rw [if_neg (by omega), if_neg z]; exact t2 b' v' hb' hv'
        · rw [if_neg (fun z => q2 (by
            rcases z.1 with y | y
            · exact Or.inl ⟨y, z.2⟩
            · exact Or.inr ⟨by rw [y]; decide, y, z.2⟩))] at kk2
          rw [nI_one]
          exact kk2 u2 ⟨t2, f2⟩
theorem R_layStood {u : xU} (hr : xRf r) (hK : lOkk L) (hN : rN1 L n e u σ) :
    xCall g (d + 5) mX12_layStood [.ref 655] 698 u w r 698 (xVd (fun u' => qW u' (wE L e σ) ∧ rA L n e σ u u') w r) := by
  have hS := hN.2.2.1
  have he := hS.2.2.1.2
  have hb6 := hK.2.2.1.1
  have hv7 := hK.1.1
  refine CX12_layStood (R_loaded hr hK hN (fun u1 h1 h2 h3 f1 => ⟨rfl, rfl, rfl, ?_⟩))
  refine xlp (N := 42) (Q := fun k u' => (∀ v, v < k → u' 688 v = 300) ∧ xSm (fun b => b = 688) u1 u') (G := fun k u' => xEv g (d + 5) mX12_layStood 6 [some (.ref 655), some (.int (nI k))] [] 698 u' w r 698 _) ?_ ?_ ⟨fun v hv => by omega, xSm.rf⟩
  · intro u2 ⟨t2, f2⟩
    refine TX12_layStood_6 hr (brT (nI_le (a := 42) (Nat.le_refl _) (by omega)) ?_)
    refine xlp (N := lB L) (Q := fun k u' => (∀ b v, b < 6 → v < 7 → u' 688 (7 * b + v) = tR (if b < k ∧ σ b = 1 ∧ v = (σ (6 + b)).toNatClampNeg then σ 90 else -1)) ∧ xSm (fun b => b = 688) u1 u') (G := fun k u' => xEv g (d + 5) mX12_layStood 29 [some (.ref 655), some (.int (nI k))] [] 698 u' w r 698 _) ?_ ?_ ⟨fun b v hb hv => by rw [if_neg (fun z => absurd z.1 (Nat.not_lt_zero _)), t2 _ (by omega)]; rfl, f2⟩
    · intro u3 ⟨t3, f3⟩
      have hσ3 : u3 684 = σ := by rw [← h1]; exact funext fun i => f3 _ _ (by omega)
      have L3 : rL u3 L := h3.1.kept _ f3 (by omega) (by omega) (by omega)
      have E3 : rE u3 L (σ 89) := ⟨L3, fun a b ha hb => (f3 _ _ (by omega)).trans (h3.2.1 a b ha hb), by rw [hσ3]⟩
      refine TX12_layStood_29 hr (brT (by rw [L3.1.2.2]; exact nI_le (Nat.le_refl _) (by omega)) ?_)
      have f13 : xSn fRx u u3 := f1.tr (f3.n (fun b i h => by unfold fRx; omega))
      rcases Nat.lt_or_ge e 300 with he3 | he3
      · have okI : wOk (wIn L σ) := fun b v => by
          unfold wIn
          split
          · exact Or.inr ⟨e, he3, hS.2.2.1.1⟩
          · exact Or.inl rfl
        refine R_layStood_loop hr hK (300 - e) e n σ (wIn L σ) u3 (by omega) okI E3 hσ3 hS (fun b v hb hv => t3 b v hb hv) (fun u4 f4 h91 t4 => ⟨rfl, ⟨?_, ?_, ?_⟩, rfl, rfl⟩)
        · unfold wE
          obtain ⟨m, hm⟩ : ∃ m, 300 - e = m + 1 := ⟨300 - e - 1, by omega⟩
          rw [hm, wt_s, wNo_in hK.1 hK.2.2.1 hS] at t4
          rw [hm, wt_s]
          exact t4
        · exact f13.tr (f4.n (fun b i h => by unfold fRx; unfold fDw at h; omega))
        · exact hN.keep (f13.tr (f4.n (fun b i h => by unfold fRx; unfold fDw at h; omega))) h91
      · refine TX12_layStood_79 hr (brT (by rw [hσ3, hS.2.2.1.1]; exact nI_le (a := 300) (by omega) (by omega)) ⟨rfl, ⟨fun b v hb hv => ?_, f13, hN.keep f13 (fun j _ => by rw [hσ3])⟩, rfl, rfl⟩)
        rw [t3 b v hb hv]
        unfold wE
        rw [show 300 - e = 0 by omega]
        show tR _ = tR (-1)
        split
        · rw [hS.2.2.1.1, show e = 300 by omega]; rfl
        · rfl
    · intro k u3 hk ⟨t3, f3⟩ kk
      have hσ3 : u3 684 = σ := by rw [← h1]; exact funext fun i => f3 _ _ (by omega)
      have L3 : rL u3 L := h3.1.kept _ f3 (by omega) (by omega) (by omega)
      refine TX12_layStood_29 hr (brF (by rw [L3.1.2.2]; exact nI_ge (by omega) (by omega)) ⟨vpn (by omega) (by omega), ?_⟩)
      obtain ⟨⟨v, hv, ev⟩, -⟩ := (hS.2.2.2.1 k (by omega)).1 hk
      simp (disch := omega) only [a6, nc]
      rw [hσ3, ev]
      simp (disch := omega) only [m7, nI_add, nc]
      refine ⟨fun q => ⟨vpn (by omega) (by omega), vpn (by omega) (by omega), TX12_layStood_73 ?_⟩, fun q => TX12_layStood_73 ?_⟩
      · rw [nI_one]
        refine kk _ ⟨fun b' v' hb' hv' => ?_, f3.put rfl⟩
        unfold x2
        by_cases z : b' = k ∧ v' = v
        · rw [if_pos (by omega), z.1, z.2, if_pos ⟨Nat.lt_succ_self _, q, by rw [ev, nc (by omega)]⟩, hS.2.2.1.1]
          unfold tR
          rw [if_neg (nI_m1 (by omega))]
        · rw [if_neg (by omega), t3 b' v' hb' hv']
          congr 1
          have e1 : (b' < k + 1 ∧ σ b' = 1 ∧ v' = (σ (6 + b')).toNatClampNeg) ↔ (b' < k ∧ σ b' = 1 ∧ v' = (σ (6 + b')).toNatClampNeg) := by
            refine ⟨fun y => ⟨?_, y.2⟩, fun y => ⟨by omega, y.2⟩⟩
            rcases Nat.lt_or_ge b' k with x | x
            · exact x
            · have : b' = k := by omega
              subst this
              rw [ev, nc (by omega)] at y
              exact absurd ⟨rfl, y.2.2⟩ z
          simp only [e1]
      · rw [nI_one]
        refine kk _ ⟨fun b' v' hb' hv' => ?_, f3⟩
        rw [t3 b' v' hb' hv']
        congr 1
        have e1 : (b' < k + 1 ∧ σ b' = 1 ∧ v' = (σ (6 + b')).toNatClampNeg) ↔ (b' < k ∧ σ b' = 1 ∧ v' = (σ (6 + b')).toNatClampNeg) := by
          refine ⟨fun y => ⟨?_, y.2⟩, fun y => ⟨by omega, y.2⟩⟩
          rcases Nat.lt_or_ge b' k with x | x
          · exact x
          · have : b' = k := by omega
            subst this
            exact absurd y.2.1 q
        simp only [e1]
  · intro k u2 hk ⟨t2, f2⟩ kk
    refine TX12_layStood_6 hr (brF (nI_ge (b := 42) (by omega) (by omega)) ⟨vpn (by omega) (by omega), ?_⟩)
    rw [nI_one, nc (by omega)]
    refine kk _ ⟨fun v hv => ?_, f2.put rfl⟩
    by_cases q : v = k
    · subst q; rw [x2_same]
    · rw [x2_i _ _ q]; exact t2 v (by omega)
end STOOD
