/-! QUESTIONS: soon, heard, deaf: the reference's answers -/
section SOON5
variable {g : xGT} {d : Nat} {w : xW} {r : xQ} {L : xU} {c : Int32} {l n e : Nat} {σ : Nat → Int32}
theorem R_laySoon {u : xU} (hr : xRf r) (hK : lOkk L) (hN : rN1 L n e u σ) {s : Nat} (hs : s < 7) :
    xCall g (d + 5) mX12_laySoon [.ref 655, .int (nI s)] 698 u w r 698 (xVd (fun u' => qT u' (spE L e σ s) ∧ rA L n e σ u u') w r) := by
  have hS := hN.2.2.1
  have he := hS.2.2.1.2
  refine CX12_laySoon (R_loaded hr hK hN (fun u1 h1 h2 h3 f1 => ⟨rfl, rfl, rfl, ?_⟩))
  refine xlp (N := 7) (Q := fun k u' => (∀ v, v < k → u' 689 v = tR (sp0 s (σ 90) v)) ∧ xSm (fun b => b = 689) u1 u') (G := fun k u' => xEv g (d + 5) mX12_laySoon 6 [some (.ref 655), some (.int (nI s)), some (.int (nI k)), none] [] 698 u' w r 698 _) ?_ ?_ ⟨fun v hv => by omega, xSm.rf⟩
  · intro u2 ⟨t2, f2⟩
    refine TX12_laySoon_6 hr (brT (nI_le (a := 7) (Nat.le_refl _) (by omega)) ?_)
    have hσ2 : u2 684 = σ := by rw [← h1]; exact funext fun i => f2 _ _ (by omega)
    have E2 : rE u2 L (σ 89) := ⟨h3.1.kept _ f2 (by omega) (by omega) (by omega), fun a b ha hb => (f2 _ _ (by omega)).trans (h3.2.1 a b ha hb), by rw [hσ2]⟩
    refine R_laySoon_loop hr hK (x0 := e) (s := s) (300 - e) e n σ (sp0 s (σ 90)) 0 u2 (by omega) (Nat.le_refl _) (sp0_ok hS.2.2.1.1 he) E2 hσ2 hS (fun v hv => t2 v hv) (fun u3 f3 h91 t3 => ⟨rfl, ⟨t3, ?_, ?_⟩, rfl, rfl⟩)
    · exact (f1.tr (f2.n (fun b i h => by unfold fRx; omega))).tr (f3.n (fun b i h => by unfold fRx; unfold fDs at h; omega))
    · exact hN.keep ((f1.tr (f2.n (fun b i h => by unfold fRx; omega))).tr (f3.n (fun b i h => by unfold fRx; unfold fDs at h; omega))) h91
  · intro k u2 hk ⟨t2, f2⟩ kk
    refine TX12_laySoon_6 hr (brF (nI_ge (b := 7) (by omega) (by omega)) ⟨vpn (by omega) (by omega), ?_⟩)
    have h90 : u2 684 90 = σ 90 := by rw [f2 _ _ (by omega), h1]
    rw [nI_one, nc (by omega), h90]
    refine kk _ ⟨fun v hv => ?_, f2.put rfl⟩
    by_cases q : v = k
    · subst q
      rw [x2_same]
      unfold sp0
      by_cases z : v = s
      · subst z
        rw [if_pos rfl, if_pos rfl, hS.2.2.1.1]
        unfold tR
        rw [if_neg (nI_m1 (by omega))]
      · rw [if_neg (fun y => z (nI_inv (by omega) (by omega) y)), if_neg z]; rfl
    · rw [x2_i _ _ q]; exact t2 v (by omega)
theorem R_soon {u : xU} (hr : xRf r) (hK : lOkk L) (hN : rN1 L n e u σ) (i j : Int32) : xCall g (d + 6) mX12_soon [.ref 655, .int i, .int j] 698 u w r 698 (xIn (aSoon L e σ i j) (rA L n e σ u) w r) := by
  have hv7 := hK.1.1
  refine CX12_soon hr (xPr.use (R_isVillage hN.1 hv7 i) ⟨_, rfl, rfl, rfl, rfl, ?_⟩)
  rw [xb_eq0]
  unfold aSoon
  refine ⟨fun q => ⟨by rw [if_neg (fun z => q z.1)], rA.rf hN, rfl, rfl⟩, fun q => xPr.use (R_isVillage hN.1 hv7 j) ⟨_, rfl, rfl, rfl, rfl, ?_⟩⟩
  rw [Classical.not_not] at q
  rw [xb_eq0]
  refine ⟨fun q2 => ⟨by rw [if_neg (fun z => q2 z.2)], rA.rf hN, rfl, rfl⟩, fun q2 => ?_⟩
  rw [Classical.not_not] at q2
  rw [if_pos (show inN i (lV L) ∧ inN j (lV L) from ⟨q, q2⟩)]
  obtain ⟨a, ha, rfl⟩ := inN.get q (by omega)
  obtain ⟨b, hb, rfl⟩ := inN.get q2 (by omega)
  have ok := spE_ok (s := a) hK.1 hK.2.2.1 hN.2.2.1
  have he := hN.2.2.1.2.2.1.2
  refine xVd.use (R_laySoon hr hK hN (by omega)) (fun u1 ⟨h1, f1⟩ => ⟨rfl, rfl, rfl, fun _ => vpn (by omega) (by omega), fun _ => vpn (by omega) (by omega), ?_, f1, rfl, rfl⟩)
  rw [nc (by omega), nc (by omega), h1 b (by omega)]
  by_cases z : a = b
  · subst z
    rw [if_pos (Or.inl rfl), ok.1]
    unfold tR
    rw [if_neg (nI_m1 (by omega))]
  · have e1 := tR_lt ok (v := b) (Or.inr (fun y => z y.symm))
    by_cases y : spE L e σ a b = -1
    · rw [if_neg (fun x => x.elim (fun x => z (nI_inv (by omega) (by omega) x)) (fun x => e1.mp x y)), y]
    · rw [if_pos (Or.inr (e1.mpr y))]
      unfold tR
      rw [if_neg y]
theorem R_deaf {u : xU} (hr : xRf r) (hK : lOkk L) (hN : rN1 L n e u σ) (i : Int32) : xCall g (d + 6) mX12_deaf [.ref 655, .int i] 698 u w r 698 (xIn (aDeaf L e σ i) (rA L n e σ u) w r) := by
  have hv7 := hK.1.1
  refine CX12_deaf (xPr.use (R_isVillage hN.1 hv7 i) ⟨_, rfl, rfl, rfl, rfl, ?_⟩)
  rw [xb_eq0]
  unfold aDeaf
  refine ⟨fun q => ⟨by rw [if_neg q], rA.rf hN, rfl, rfl⟩, fun q => ?_⟩
  rw [Classical.not_not] at q
  rw [if_pos q]
  obtain ⟨a, ha, rfl⟩ := inN.get q (by omega)
  have ok := spE_ok (s := a) hK.1 hK.2.2.1 hN.2.2.1
  have he := hN.2.2.1.2.2.1.2
  refine xVd.use (R_laySoon hr hK hN (by omega)) (fun u1 ⟨h1, f1⟩ => ⟨rfl, rfl, rfl, ?_⟩)
  rw [nc (by omega)]
  have L1 := f1.2.1
  refine xlq (N := lV L) (G := fun k => xEv g (d + 6) mX12_deaf 19 [some (.ref 655), some (.int (nI a)), some (.int (xset k (fun v => decide (spE L e σ a v = -1)))), some (.int (nI k))] [] 698 u1 w r 698 _) ?_ ?_
  · exact TX12_deaf_19 hr (brT (by rw [L1.1.1]; exact nI_le (Nat.le_refl _) (by omega)) ⟨rfl, f1, rfl, rfl⟩)
  · intro k hk kk
    refine TX12_deaf_19 hr (brF (by rw [L1.1.1]; exact nI_ge (by omega) (by omega)) ⟨fun _ => vpn (by omega) (by omega), xPr.use (R_truthb _) ⟨_, rfl, rfl, rfl, rfl, ?_⟩⟩)
    rw [or_sh (by omega), nI_one, nc (by omega), h1 k (by omega)]
    rw [xset_s] at kk
    have ei : (¬ nI k = nI a ∧ tR (spE L e σ a k) = 300) ↔ spE L e σ a k = -1 := by
      by_cases z : k = a
      · subst z
        rw [ok.1]
        exact ⟨fun y => absurd rfl y.1, fun y => absurd y (nI_m1 (by omega))⟩
      · rw [tR_300 ok (Or.inr z)]
        exact ⟨fun y => y.2, fun y => ⟨fun x => z (nI_inv (by omega) (by omega) x), y⟩⟩
    by_cases q : spE L e σ a k = -1
    · rw [if_pos (ei.mpr q)]
      rw [if_pos (decide_eq_true q)] at kk
      exact kk
    · rw [if_neg (fun z => q (ei.mp z))]
      rw [if_neg (by simpa using q)] at kk
      exact kk
end SOON5
