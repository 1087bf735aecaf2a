/-! A LETTER ALONE: the reference; trace of both sides -/
def qR (u : xU) (k : Nat) (A : Nat → Int32) : Prop := u 655 61 = nI k ∧ ∀ i, i < k → u 686 i = A i
section LTRACE
variable {g : xGT} {d : Nat} {w : xW} {r : xQ} {L : xU} {c : Int32} {l n e : Nat} {σ : Nat → Int32}
theorem R_layTrace_loop {P : xPost} (hr : xRf r) (hK : lOkk L) {t : Nat} (ht : t < lV L) : ∀ (m e k : Nat) (τ A : Nat → Int32) (u : xU), e + m = 300 → rE u L c → u 684 = τ → gSt L c 1 e τ → tI2 L c t k τ → aLs L k A → qR u k A →
    (∀ u' : xU, xSn fDh u u' → (∀ j, 91 ≤ j → u' 684 j = τ j) → u' 684 38 = (tq L c m τ k A).1 38 → qR u' (tq L c m τ k A).2.1 (tq L c m τ k A).2.2 → tEnd L (tq L c m τ k A) → P none u' w r) →
    xEv g (d + 9) mX12_layTrace 52 [some (.ref 655), none, none] [] 698 u w r 698 P := by
  have hW := hK.1
  have hB := hK.2.2.1
  have hb6 := hB.1
  intro m
  induction m with
  | zero =>
    intro e k τ A u he hE hτ hS hI hA hQ kk
    refine TX12_layTrace_52 hr (brF (fun q => q.1 ?_) (kk u xSn.rf (fun j _ => by rw [hτ]) (by rw [hτ]; rfl) hQ ⟨hI.2.2.1, hA⟩))
    rw [hτ, hS.2.2.1.1]
    exact nI_le (a := 300) (by omega) (by omega)
  | succ m ih =>
    intro e k τ A u he hE hτ hS hI hA hQ kk
    subst hτ
    have cm := hS.came (l := 0) (by omega)
    by_cases q : u 684 38 = -1
    · have SD := fDay_st hW hB hS (by omega)
      obtain ⟨k', hk', hI'⟩ := tDay hW hB hS ht hI q
      have fr := fDay_fr hW hB hS
      have hk7 := hI.2.2.1
      refine TX12_layTrace_52 hr (brT ⟨?_, ?_⟩ ?_)
      · rw [hS.2.2.1.1]
        exact nI_ge (b := 300) (by omega) (by omega)
      · rw [q]; decide
      · refine xIn.use (R_goDay hr hE hK ⟨k, by omega, hQ.1⟩ hS) (fun u1 ⟨h1, f1, tr⟩ => ⟨_, rfl, rfl, rfl, ?_⟩)
        rw [tq_s, if_pos q] at kk
        have E1 : rE u1 L c := hE.kn f1 (by rw [h1]; exact SD.2.1)
        unfold hTr at tr
        rw [h1] at tr
        generalize fDay L c 1 (u 684) = τ at *
        have e48 : τ 48 = nI k' := hI'.2.1
        have o48 : u 684 48 = nI k := hI.2.1
        rcases hk' with hk' | ⟨hk', b, hb, eb⟩
        · subst hk'
          rw [if_pos (e48.trans o48.symm)] at kk
          have no : hNo u u1 := by
            rcases tr with ⟨-, y⟩ | ⟨y, -⟩
            · exact y
            · rw [e48, o48, nI_one] at y
              have := nI_inv (by omega) (by omega) y
              omega
          refine ih (e + 1) k' τ A u1 (by omega) E1 h1 SD hI' hA ⟨no.1.trans hQ.1, fun i hi => by rw [no.2]; exact hQ.2 i hi⟩ (fun u2 f2 h91 y1 y2 y3 => kk u2 (f1.tr f2) (fun j hj => ?_) y1 y2 y3)
          rw [h91 j hj]; exact fr j (by omega)
        · subst hk'
          rw [if_neg (show ¬ τ 48 = u 684 48 from fun z => by
            rw [e48, o48] at z
            have := nI_inv (by omega) (by omega) z
            omega), eb] at kk
          have rc : u1 655 61 = nI (k + 1) ∧ u1 686 = up (u 686) k (nI b) := by
            rcases tr with ⟨y, -⟩ | ⟨-, y⟩
            · rw [e48, o48] at y
              have := nI_inv (by omega) (by omega) y
              omega
            · rcases y with ⟨y, -⟩ | ⟨p, p1, p2, p3, p4⟩
              · rw [hQ.1] at y
                have := nI_inv (a := k) (b := 20) (by omega) (by omega) y
                omega
              · rw [hQ.1] at p2
                have := nI_inv (by omega) (by omega) p2
                subst this
                rw [eb] at p4
                exact ⟨p3, p4⟩
          refine ih (e + 1) (k + 1) τ (up A k (nI b)) u1 (by omega) E1 h1 SD hI' (hA.up hb) ⟨rc.1, fun i hi => ?_⟩ (fun u2 f2 h91 y1 y2 y3 => kk u2 (f1.tr f2) (fun j hj => ?_) y1 y2 y3)
          · rw [rc.2]
            unfold up
            by_cases z : i = k
            · rw [if_pos z, if_pos z]
            · rw [if_neg z, if_neg z]; exact hQ.2 i (by omega)
          · rw [h91 j hj]; exact fr j (by omega)
    · refine TX12_layTrace_52 hr (brF (fun z => z.2 ?_) ?_)
      · have : ¬ u 684 38 < 0 := fun y => q (cm.mpr y)
        exact Int32.not_lt.mp this
      · rw [tq_home q] at kk
        exact kk u xSn.rf (fun j _ => rfl) rfl hQ ⟨hI.2.2.1, hA⟩
theorem R_layTrace {u : xU} (hr : xRf r) (hK : lOkk L) (hN : rN1 L n e u σ) {v t : Nat} (hv : v < lV L) (ht : t < lV L) :
    xCall g (d + 9) mX12_layTrace [.ref 655, .int (nI v), .int (nI t)] 698 u w r 698 (xVd (fun u' => u' 684 38 = (tE L e σ v t).1 38 ∧ qR u' (tE L e σ v t).2.1 (tE L e σ v t).2.2 ∧ tEnd L (tE L e σ v t) ∧ rA L n e σ u u' ∧ u' 695 = u 695) w r) := by
  have hS := hN.2.2.1
  have he := hS.2.2.1.2
  have hb6 := hK.2.2.1.1
  refine CX12_layTrace hr (xVd.use (R_load (d := d + 6) hr hN.1 hK.1 hN.2.2.2) (fun u1 ⟨h1, h2, h3, h4⟩ => ⟨rfl, rfl, rfl, ?_⟩))
  have f1 : xSn fRx u u1 := h4.to (fun b i h => by rcases h with h | h | h <;> simp [fRx, h])
  have e1 : u1 684 = σ := h1.trans hN.2.1
  rw [hN.2.1] at h3
  have row : (x2 (x2 (x2 (x2 (x2 (x2 u1 684 88 1) 684 18 (nI v)) 684 28 (-1)) 684 38 (-1)) 684 48 0) 684 58 (nI t)) 684 = tL v t σ := by
    rw [x2_row, x2_row, x2_row, x2_row, x2_row, x2_row, e1]
    rfl
  have f2 : xSm (fun b => b = 684) u1 (x2 (x2 (x2 (x2 (x2 (x2 u1 684 88 1) 684 18 (nI v)) 684 28 (-1)) 684 38 (-1)) 684 48 0) 684 58 (nI t)) := ((((((xSm.rf (F := fun b => b = 684)).put rfl).put rfl).put rfl).put rfl).put rfl).put rfl
  have S2 : gSt L (σ 89) 1 e (tL v t σ) := tL_st' hb6 hS hv ht rsm.rf
  have E2 := h3.kn (f2.n (fun b i h => Or.inr (Or.inr (Or.inl h)))) (by rw [row]; exact S2.2.1)
  refine R_layTrace_loop hr hK ht (300 - e) e 0 (tL v t σ) (fun _ => 0) _ (by omega) E2 row S2 (tI2_start hK.1 rsm.rf) (fun i hi => by omega) ⟨(f2 655 61 (by omega)).trans h2, fun i hi => by omega⟩ (fun u3 f3 h91 y1 y2 y3 => ⟨rfl, ⟨y1, y2, y3, ?_, funext fun i => ?_⟩, rfl, rfl⟩)
  · have f13 : xSn fRx u u3 := (f1.tr (f2.n (fun b i h => by unfold fRx; omega))).tr (f3.to (fun b i h => by unfold fRx; unfold fDh at h; omega))
    exact ⟨f13, hN.keep f13 (fun j hj => by rw [h91 j hj, tL_o (by omega)])⟩
  · rw [f3 695 i (by unfold fDh; omega), f2 695 i (by omega), h4 695 i (by omega)]
end LTRACE
