/-! QUESTIONS: fit: both sides' answers -/
theorem rA.p695 {L : xU} {n e : Nat} {σ : Nat → Int32} {u u1 : xU} (h : rA L n e σ u u1) (a : Nat) (x : Int32) : rA L n e σ u (x2 u1 695 a x) :=
  ⟨h.1.put (by unfold fRx; omega), h.2.keepG (fun i _ => x2_a _ _ (by omega)) (fun b hb => x2_row' u1 a x (by omega)) (fun j hj => by rw [x2_a _ _ (by omega), h.2.2.2.2 j hj, h.2.2.1])⟩
theorem rA.tr {L : xU} {n e : Nat} {σ : Nat → Int32} {u u1 u2 : xU} (h : rA L n e σ u u1) (h2 : rA L n e σ u1 u2) : rA L n e σ u u2 := ⟨h.1.tr h2.1, h2.2⟩
theorem rLo.kept {u u' : xU} {h t : Nat} {Z : xU} (hl : rLo u h t Z) {F : Nat → Nat → Prop} (f : xSn F u u') (h1 : ¬ F 655 73) (h2 : ¬ F 655 74) (h3 : ∀ b i, 691 ≤ b → b < 695 → ¬ F b i) : rLo u' h t Z := by
  obtain ⟨l1, l2, l3⟩ := hl
  refine ⟨(f _ _ h1).trans l1, (f _ _ h2).trans l2, fun i hi => ?_⟩
  rw [f 691 i (h3 _ _ (by omega) (by omega)), f 692 i (h3 _ _ (by omega) (by omega)), f 693 i (h3 _ _ (by omega) (by omega)), f 694 i (h3 _ _ (by omega) (by omega))]
  exact l3 i hi
section FIT2
variable {g : xGT} {d : Nat} {w : xW} {r : xQ} {L : xU} {l n e h t : Nat} {σ : Nat → Int32} {Z : xU}
theorem R_layFit_81 {P : xPost} {u : xU} {p v : Nat} {k s : Int32} (hr : xRf r) (hok : loOk L h t Z) (hlo : rLo u h t Z) (hv : v < 7) (hs : u 695 v = s) {set : Int32}
    (kk : xEv g (d + 10) mX12_layFit 187 [some (.ref 655), some (.int (nI p)), some (.int k), some (.int (set ||| (xb (ftK Z k s h = true) <<< (nI v &&& 31)))), some (.int (nI v)), none, none] [] 698 u w r 698 P) :
    xEv g (d + 10) mX12_layFit 81 [some (.ref 655), some (.int (nI p)), some (.int k), some (.int set), some (.int (nI v)), some (.int (xb (ftK Z k s 0 = true))), some (.int (nI 0))] [] 698 u w r 698 P := by
  obtain ⟨l1, l2, l3⟩ := hlo
  have h30 := hok.1
  refine xlq (N := h) (G := fun j => xEv g (d + 10) mX12_layFit 81 [some (.ref 655), some (.int (nI p)), some (.int k), some (.int set), some (.int (nI v)), some (.int (xb (ftK Z k s j = true))), some (.int (nI j))] [] 698 u w r 698 P) ?_ ?_
  · exact TX12_layFit_81 hr (brF (fun q => q.1 (by rw [l1]; exact nI_le (Nat.le_refl _) (by omega))) (xPr.use (R_truthb _) ⟨_, rfl, rfl, rfl, rfl, kk⟩))
  · intro j hj kk2
    by_cases q : ftK Z k s j = true
    · refine TX12_layFit_81 hr (brT ⟨by rw [l1]; exact nI_ge (by omega) (by omega), by rw [xb_pos q]; decide⟩ ⟨vpn (by omega) (by omega), ?_⟩)
      obtain ⟨z0, z1, z2, z3⟩ := l3 j hj
      rw [nc (by omega), nc (by omega), z0, z1, z2, z3, hs]
      have neg : (Z 3 j < 0 ∨ ¬ Z 3 j ≤ k) ↔ (Z 3 j = -1 ∨ k < Z 3 j) := by
        rw [show (¬ Z 3 j ≤ k) ↔ k < Z 3 j from Int32.not_le]
        rcases (hok.2.2 j hj).2.2 with y | ⟨x, x1, y⟩
        · rw [y]; exact ⟨fun _ => Or.inl rfl, fun _ => Or.inl m1_neg⟩
        · rw [y]; exact ⟨fun z => z.elim (fun z => absurd z (nI_nn (by omega))) Or.inr, fun z => z.elim (fun z => absurd z (nI_m1 (by omega))) Or.inr⟩
      rw [neg]
      rw [ftK_s, q, Bool.true_and] at kk2
      have sk : ¬ ftC Z k j → xEv g (d + 10) mX12_layFit 170 [some (.ref 655), some (.int (nI p)), some (.int k), some (.int set), some (.int (nI v)), some (.int (xb (ftK Z k s j = true))), some (.int (nI j))] [] 698 u w r 698 P := by
        intro hc
        refine TX12_layFit_170 ?_
        rw [nI_one, xb_pos q]
        rw [xb_pos (decide_eq_true (fun y => absurd y hc))] at kk2
        exact kk2
      refine ⟨fun y => sk (fun z => z.1 y), fun y => ⟨fun y2 => ⟨vpn (by omega) (by omega), TX12_layFit_170 ?_⟩, fun y2 => sk (fun z => y2 z.2)⟩⟩
      rw [nI_one]
      have : (decide (ftC Z k j → ftOk Z s j) = true) ↔ ftOk Z s j := by
        rw [decide_eq_true_iff]
        exact ⟨fun z => z ⟨y, y2⟩, fun z _ => z⟩
      rw [xb_iff this] at kk2
      exact kk2
    · have e1 : ftK Z k s h = false := ftK_stay (by simpa using q) h (by omega)
      rw [xb_neg (by rw [e1]; decide)] at kk
      rw [xb_neg q]
      exact TX12_layFit_81 hr (brF (fun z => z.2 rfl) (xPr.use (R_truth 0) ⟨_, rfl, rfl, rfl, rfl, kk⟩))
theorem R_layFit {u : xU} (hr : xRf r) (hK : lOkk L) (hN : rN1 L n e u σ) (hok : loOk L h t Z) (hlo : rLo u h t Z) {p : Nat} (hp : p < lV L) (k : Int32) :
    xCall g (d + 10) mX12_layFit [.ref 655, .int (nI p), .int k] 698 u w r 698 (xIn (ftS L e σ h Z k p) (fun u' => (∀ v, v < lV L → v ≠ p → u' 695 v = ftInto L e σ p v) ∧ rA L n e σ u u') w r) := by
  have hv7 := hK.1.1
  have hb6 := hK.2.2.1.1
  refine CX12_layFit ?_
  refine xlp (N := lV L) (Q := fun m u' => (∀ v, v < m → v ≠ p → u' 695 v = ftInto L e σ p v) ∧ rA L n e σ u u') (G := fun m u' => xEv g (d + 10) mX12_layFit 5 [some (.ref 655), some (.int (nI p)), some (.int k), some (.int (xset m (ftP L e σ h Z k p))), some (.int (nI m)), none, none] [] 698 u' w r 698 _) ?_ ?_ ⟨fun v hv => by omega, rA.rf hN⟩
  · intro u1 ⟨h1, f1⟩
    exact TX12_layFit_5 hr (brT (by rw [f1.2.1.1.1]; exact nI_le (Nat.le_refl _) (by omega)) ⟨rfl, ⟨h1, f1⟩, rfl, rfl⟩)
  · intro m u1 hmm ⟨h1, f1⟩ kk
    refine TX12_layFit_5 hr (brF (by rw [f1.2.1.1.1]; exact nI_ge (by omega) (by omega)) ⟨vpn (by omega) (by omega), ?_⟩)
    rw [nc (by omega)]
    rw [xset_s] at kk
    have f2 := f1.p695 m 0
    have o2 : ∀ v, v < m → v ≠ p → x2 u1 695 m 0 695 v = ftInto L e σ p v := fun v hv hne => by rw [x2_i _ _ (by omega)]; exact h1 v hv hne
    refine ⟨fun q => TX12_layFit_187 ?_, fun q => ?_⟩
    · have em : m = p := nI_inv (by omega) (by omega) q
      have ef : ftP L e σ h Z k p m = false := by unfold ftP; rw [em, decide_eq_true rfl]; rfl
      rw [ef, if_neg (by decide)] at kk
      rw [nI_one]
      exact kk _ ⟨fun v hv hne => o2 v (by omega) hne, f2⟩
    · have nm : m ≠ p := fun z => q (by rw [z])
      refine xVd.use (R_layTrace hr hK f2.2 (show m < lV L from hmm) hp) (fun u2 ⟨y1, y2, y3, y4, y5⟩ => ⟨rfl, rfl, rfl, ?_⟩)
      have k7 := y3.1
      have f3 : rA L n e σ u u2 := f2.tr y4
      have o3 : ∀ v, v < m → v ≠ p → u2 695 v = ftInto L e σ p v := fun v hv hne => by rw [y5]; exact o2 v hv hne
      have z3 : u2 695 m = aBt 0 (tE L e σ m p).2.2 := by rw [y5, x2_same]; rfl
      refine xlp (N := (tE L e σ m p).2.1) (Q := fun j u' => u' 695 m = aBt j (tE L e σ m p).2.2 ∧ (∀ v, v < m → v ≠ p → u' 695 v = ftInto L e σ p v) ∧ rA L n e σ u u' ∧ qR u' (tE L e σ m p).2.1 (tE L e σ m p).2.2) (G := fun j u' => xEv g (d + 10) mX12_layFit 41 [some (.ref 655), some (.int (nI p)), some (.int k), some (.int (xset m (ftP L e σ h Z k p))), some (.int (nI m)), some (.int (nI j)), none] [] 698 u' w r 698 _) ?_ ?_ ⟨z3, o3, f3, y2⟩
      · intro u4 ⟨a1, a2, a3, a4⟩
        refine TX12_layFit_41 hr (brT (by rw [a4.1]; exact nI_le (Nat.le_refl _) (by omega)) ?_)
        have hlo4 : rLo u4 h t Z := hlo.kept a3.1 (by unfold fRx; omega) (by unfold fRx; omega) (fun b i b1 b2 => by unfold fRx; omega)
        refine R_layFit_81 hr hok hlo4 (by omega) a1 (TX12_layFit_187 ?_)
        rw [or_sh (by omega), nI_one]
        have ei : aBt (tE L e σ m p).2.1 (tE L e σ m p).2.2 = ftInto L e σ p m := rfl
        have ef : ftP L e σ h Z k p m = ftK Z k (ftInto L e σ p m) h := by unfold ftP; rw [decide_eq_false nm]; rfl
        rw [ef] at kk
        rw [ei]
        refine kk u4 ⟨fun v hv hne => ?_, a3⟩
        by_cases z : v = m
        · subst z; rw [a1]; exact ei
        · exact a2 v (by omega) hne
      · intro j u4 hj ⟨a1, a2, a3, a4⟩ kk2
        refine TX12_layFit_41 hr (brF (by rw [a4.1]; exact nI_ge hj (by omega)) ⟨vpn (by omega) (by omega), vpn (by omega) (by omega), ?_⟩)
        rw [nI_one, nc (by omega), nc (by omega), a1, a4.2 j hj]
        refine kk2 _ ⟨?_, fun v hv hne => ?_, a3.p695 _ _, ?_, fun i hi => ?_⟩
        · rw [x2_same, aBt_s]
        · rw [x2_i _ _ (by omega)]; exact a2 v hv hne
        · rw [x2_a _ _ (by omega)]; exact a4.1
        · rw [x2_a _ _ (by omega)]; exact a4.2 i hi
theorem K_fit {u : xU} (hK : lOkk L) (hR : kR r l) (hN : kN L l n e u σ) (hok : loOk L h t Z) (hlo : cLo u h t Z) (i k : Int32) :
    xCall g (d + 7) mX11_fit [.ref 8, .int i, .int k] 698 u w r 698 (xIn (aFit L e σ h Z i k) (xSm (fLk l) u) w r) := by
  have hv7 := hK.1.1
  obtain ⟨hr, h_l, q_l, hm, ht, hl⟩ := id hR
  refine CX11_fit h_l ht (xPr.use (K_isOneOf _ _) ⟨_, rfl, rfl, rfl, rfl, ?_⟩)
  rw [hN.1.1.1.1, xb_eq0]
  unfold aFit
  refine ⟨fun q => ⟨by rw [if_neg q], xSm.rf, rfl, rfl⟩, fun q => ?_⟩
  rw [Classical.not_not] at q
  rw [if_pos (show inN i (lV L) from q)]
  obtain ⟨p, hp, rfl⟩ := inN.get q (by omega)
  rw [nc (by omega)]
  exact xIn.use (K_fitting hK hR hN hok hlo hp k) (fun u1 ⟨_, f1⟩ => ⟨_, rfl, rfl, rfl, rfl, f1, rfl, rfl⟩)
theorem R_fit {u : xU} (hr : xRf r) (hK : lOkk L) (hN : rN1 L n e u σ) (hok : loOk L h t Z) (hlo : rLo u h t Z) (i k : Int32) :
    xCall g (d + 11) mX12_fit [.ref 655, .int i, .int k] 698 u w r 698 (xIn (aFit L e σ h Z i k) (rA L n e σ u) w r) := by
  have hv7 := hK.1.1
  refine CX12_fit (xPr.use (R_isVillage hN.1 hv7 i) ⟨_, rfl, rfl, rfl, rfl, ?_⟩)
  rw [xb_eq0]
  unfold aFit
  refine ⟨fun q => ⟨by rw [if_neg q], rA.rf hN, rfl, rfl⟩, fun q => ?_⟩
  rw [Classical.not_not] at q
  rw [if_pos q]
  obtain ⟨p, hp, rfl⟩ := inN.get q (by omega)
  rw [nc (by omega)]
  exact xIn.use (R_layFit hr hK hN hok hlo hp k) (fun u1 ⟨_, f1⟩ => ⟨_, rfl, rfl, rfl, rfl, f1, rfl, rfl⟩)
end FIT2
