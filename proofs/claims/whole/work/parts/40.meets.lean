/-! QUESTIONS: meets -/
def mChk (σ : Nat → Int32) (b o : Nat) : Prop := σ b = 1 ∧ (σ o = 1 ∧ σ (6 + o) = σ (6 + b))
theorem mChk_d (σ : Nat → Int32) (b o : Nat) : mChk σ b o ∨ ¬ mChk σ b o := Classical.em _
def mD (L : xU) (c : Int32) : Nat → (Nat → Int32) → Nat → Nat → Int32 × Int32
  | 0, _, _, _ => (-1, -1)
  | m + 1, σ, b, o => if fOne L c σ b = 1 ∧ (fOne L c σ o = 1 ∧ fOne L c σ (6 + o) = fOne L c σ (6 + b)) then (fOne L c σ 90, fOne L c σ (6 + b)) else mD L c m (fFour L c (fOne L c σ)) b o
theorem mD_s (L : xU) (c : Int32) (m : Nat) (σ : Nat → Int32) (b o : Nat) : mD L c (m + 1) σ b o = if fOne L c σ b = 1 ∧ (fOne L c σ o = 1 ∧ fOne L c σ (6 + o) = fOne L c σ (6 + b)) then (fOne L c σ 90, fOne L c σ (6 + b)) else mD L c m (fFour L c (fOne L c σ)) b o := rfl
def aMeets (L : xU) (e : Nat) (σ : Nat → Int32) (i j k : Int32) : Int32 := if (inN i (lB L) ∧ inN j (lB L)) ∧ ¬ i = j then (if k = 0 then (mD L (σ 89) (300 - e) σ i.toNatClampNeg j.toNatClampNeg).1 else if k = 1 then (mD L (σ 89) (300 - e) σ i.toNatClampNeg j.toNatClampNeg).2 else -1) else -1
theorem mD_still {L : xU} {c : Int32} (hB6 : lB L ≤ 6) {b o : Nat} (hb : b < lB L) (ho : o < lB L) : ∀ m (σ : Nat → Int32), fStill L c σ = true → ¬ (σ b = 1 ∧ (σ o = 1 ∧ σ (6 + o) = σ (6 + b))) → mD L c m σ b o = (-1, -1) := by
  intro m
  induction m with
  | zero => intro σ _ _; rfl
  | succ m ih =>
    intro σ h hc
    rw [mD_s, fStill_one h, if_neg hc, fStill_four h]
    refine ih _ (fStill_cg hB6 (fun j hj => up_n (by omega)) h) ?_
    rw [up_n (by omega), up_n (by omega), up_n (by omega), up_n (by omega)]
    exact hc
section MEETS
variable {g : xGT} {d : Nat} {w : xW} {r : xQ} {L : xU} {c : Int32} {l : Nat}
theorem K_areTwoBiers {u : xU} (h_l : xLd l) (ht : r 8 10 = some l) (hL : kL u l L) (i j : Int32) : xCall g (d + 1) mX11_areTwoBiers [.ref 8, .int i, .int j] 698 u w r 698 (xPr (xb ((inN i (lB L) ∧ inN j (lB L)) ∧ ¬ i = j)) u w r) := by
  refine CX11_areTwoBiers h_l ht (xPr.use (K_isOneOf _ _) ⟨_, rfl, rfl, rfl, rfl, ?_⟩)
  rw [hL.1.2.2, xb_eq0]
  refine ⟨fun q => ⟨by rw [xb_neg (fun z => q z.1.1)], rfl, rfl, rfl⟩, fun q => xPr.use (K_isOneOf _ _) ⟨_, rfl, rfl, rfl, rfl, ?_⟩⟩
  rw [Classical.not_not] at q
  rw [xb_eq0, Classical.not_not]
  exact ⟨fun q2 => ⟨by rw [xb_pos ⟨⟨q, q2.1⟩, q2.2⟩], rfl, rfl, rfl⟩, fun q2 => ⟨by rw [xb_neg (fun z => q2 ⟨z.1.2, z.2⟩)], rfl, rfl, rfl⟩⟩
theorem K_areTwoVillages {u : xU} (h_l : xLd l) (ht : r 8 10 = some l) (hL : kL u l L) (i j : Int32) : xCall g (d + 1) mX11_areTwoVillages [.ref 8, .int i, .int j] 698 u w r 698 (xPr (xb ((inN i (lV L) ∧ inN j (lV L)) ∧ ¬ i = j)) u w r) := by
  refine CX11_areTwoVillages h_l ht (xPr.use (K_isOneOf _ _) ⟨_, rfl, rfl, rfl, rfl, ?_⟩)
  rw [hL.1.1, xb_eq0]
  refine ⟨fun q => ⟨by rw [xb_neg (fun z => q z.1.1)], rfl, rfl, rfl⟩, fun q => xPr.use (K_isOneOf _ _) ⟨_, rfl, rfl, rfl, rfl, ?_⟩⟩
  rw [Classical.not_not] at q
  rw [xb_eq0, Classical.not_not]
  exact ⟨fun q2 => ⟨by rw [xb_pos ⟨⟨q, q2.1⟩, q2.2⟩], rfl, rfl, rfl⟩, fun q2 => ⟨by rw [xb_neg (fun z => q2 ⟨z.1.2, z.2⟩)], rfl, rfl, rfl⟩⟩
theorem fCd80 {b : Nat} (h : fCd 80 l b) : fLk l b := h.imp (fun h => ⟨by omega, by omega⟩) id
theorem fSt80 {b : Nat} (h : fSt 80 b) : fLk l b := Or.inl ⟨by omega, by omega⟩
theorem K_findMeeting_loop {P : xPost} (hr : xRf r) (h_l : xLd l) (q_l : xLr l r) (hm : r 52 1 = some l) (hl : l + 14 < 52) (hK : lOkk L) {b o : Nat} (hb : b < lB L) (ho : o < lB L) : ∀ (m i e n : Nat) (σ T : Nat → Int32) (u : xU), e + m = 300 → i + m ≤ 300 → kE u l L c → kSt L n u 80 σ T → gSt L c n e σ →
    (∀ (u' : xU) (x : Int32), xSm (fLk l) u u' → (x = 0 ∧ mD L c m σ b o = (-1, -1) ∨ x = 1 ∧ mD L c m σ b o = (u' 79 7, u' 79 8)) → P (some (.int x)) u' w r) →
    xEv g (d + 4) mX3_findMeeting 11 [some (.ref 79), none, some (.int (nI b)), some (.int (nI o)), some (.int (nI i)), none] [] 698 u w r 698 P := by
  have hW := hK.1
  have hB := hK.2.2.1
  have hb6 := hB.1
  have hv7 := hW.1
  intro m
  induction m with
  | zero =>
    intro i e n σ T u he hi hE hk hS kk
    refine TX3_findMeeting_11 hr (brF (fun q => q.2 ?_) (kk u 0 xSm.rf (Or.inl ⟨rfl, rfl⟩)))
    rw [hk.1.1, hS.2.2.1.1]
    exact nI_le (a := 300) (by omega) (by omega)
  | succ m ih =>
    intro i e n σ T u he hi hE hk hS kk
    have S1 := fOne_st hW hB hS
    refine TX3_findMeeting_11 hr (brT ⟨nI_ge (b := 300) (by omega) (by omega), ?_⟩ ?_)
    · rw [hk.1.1, hS.2.2.1.1]
      exact nI_ge (b := 300) (by omega) (by omega)
    · refine xVd.use (K_arrive hr st80 (sr80 hr) h_l q_l hm hl (by omega) hE hK hk hS) (fun u1 ⟨⟨T1, k1, t1⟩, f1⟩ => ⟨rfl, rfl, rfl, ?_⟩)
      have E1 : kE u1 l L c := hE.kept f1 (by omega) (by omega)
      have f1' : xSm (fLk l) u u1 := f1.to (fun b hb => fCd80 hb)
      obtain ⟨⟨vb, hvb, evb⟩, -⟩ := (S1.2.2.2.1 b (by omega)).1 hb
      obtain ⟨⟨vo, hvo, evo⟩, -⟩ := (S1.2.2.2.1 o (by omega)).1 ho
      rw [mD_s] at kk
      have go : ¬ (fOne L c σ b = 1 ∧ (fOne L c σ o = 1 ∧ fOne L c σ (6 + o) = fOne L c σ (6 + b))) → xEv g (d + 4) mX3_findMeeting 91 [some (.ref 79), none, some (.int (nI b)), some (.int (nI o)), some (.int (nI i)), none] [] 698 u1 w r 698 P := by
        intro hc
        rw [if_neg hc] at kk
        refine TX3_findMeeting_91 hr (xVd.use (K_depart hr st80 (sr80 hr) h_l q_l hm hl (by omega) E1 hK k1 S1) (fun u2 ⟨k2, f2⟩ => ⟨rfl, rfl, rfl, ?_⟩))
        have S2 := fFour_st hW hB S1 (by omega)
        have E2 : kE u2 l L c := E1.kept f2 (by omega) (by omega)
        have f2' : xSm (fLk l) u u2 := f1'.tr (f2.to (fun b hb => fSt80 hb))
        refine xPr.use (K_isStill hr st80 (sr80 hr) h_l q_l hm E2 hK k2 S2) ⟨_, rfl, rfl, rfl, rfl, fun q => ?_, fun q => ?_⟩
        · rw [nI_one]
          exact ih (i + 1) (e + 1) n _ T1 u2 (by omega) (by omega) E2 k2 S2 (fun u3 x f3 h => kk u3 x (f2'.tr f3) h)
        · rw [xb_eq0, Classical.not_not] at q
          have k4 := fFour_still hb6 q
          refine kk u2 0 f2' (Or.inl ⟨rfl, mD_still hb6 hb ho m _ q ?_⟩)
          unfold fFour
          rw [k4, up_n (by omega), up_n (by omega), up_n (by omega), up_n (by omega)]
          exact hc
      refine xPr.use (K_stands st80 (sr80 hr) k1 hb hb6) ⟨_, rfl, rfl, rfl, rfl, fun q => go (fun z => ?_), fun q => ?_⟩
      · rw [if_pos z.1, evb] at q
        exact nI_m1 (by omega) q
      · by_cases q1 : fOne L c σ b = 1
        · rw [if_pos q1]
          refine xPr.use (K_stands st80 (sr80 hr) k1 ho hb6) ⟨_, rfl, rfl, rfl, rfl, fun q2 => ?_, fun q2 => go (fun z => q2 ?_)⟩
          · have qo : fOne L c σ o = 1 := Classical.byContradiction (fun y => by
              rw [if_neg y, evb] at q2
              exact nI_m1 (by omega) q2.symm)
            rw [if_pos qo] at q2
            rw [if_pos ⟨q1, qo, q2⟩] at kk
            refine kk _ 1 ((f1'.put (Or.inl ⟨by omega, by omega⟩)).put (Or.inl ⟨by omega, by omega⟩)) (Or.inr ⟨rfl, ?_⟩)
            rw [x2_i _ _ (show 7 ≠ 8 by omega), x2_same, x2_same, k1.1.1]
          · rw [if_pos z.2.1]; exact z.2.2
        · rw [if_neg q1] at q; exact absurd rfl q
theorem K_meets {u : xU} {n e : Nat} {σ : Nat → Int32} (hK : lOkk L) (hR : kR r l) (hN : kN L l n e u σ) (i j k : Int32) : xCall g (d + 6) mX11_meets [.ref 8, .int i, .int j, .int k] 698 u w r 698 (xIn (aMeets L e σ i j k) (xSm (fLk l) u) w r) := by
  obtain ⟨hr, h_l, q_l, hm, ht, hl⟩ := hR
  obtain ⟨hE, ⟨T, hk⟩, hS⟩ := hN
  have hb6 := hK.2.2.1.1
  have he := hS.2.2.1.2
  refine CX11_meets hr (xPr.use (K_areTwoBiers h_l ht hE.1 i j) ⟨_, rfl, rfl, rfl, rfl, ?_⟩)
  rw [xb_eq0]
  unfold aMeets
  refine ⟨fun q => ⟨by rw [if_neg q], xSm.rf, rfl, rfl⟩, fun q => ?_⟩
  rw [Classical.not_not] at q
  rw [if_pos q]
  obtain ⟨b, hb, rfl⟩ := inN.get q.1.1 (by omega)
  obtain ⟨o, ho, rfl⟩ := inN.get q.1.2 (by omega)
  rw [nc (by omega), nc (by omega)]
  refine CX3_findMeeting hr (xVd.use (K_copyFrom st80 (sr80 hr) st105 (sr105 hr) (by omega)) (fun u1 ⟨h1, f1⟩ => ⟨rfl, rfl, rfl, ?_⟩))
  refine K_findMeeting_loop hr h_l q_l hm hl hK hb ho (300 - e) 0 e n σ T u1 (by omega) (by omega) (hE.kept f1 (by omega) (by omega)) (h1.st hk hb6 hS.1.2) hS (fun u2 x f2 h => ⟨x, rfl, rfl, rfl, ?_⟩)
  have f12 : xSm (fLk l) u u2 := (f1.to (fun b hb => fSt80 hb)).tr f2
  rcases h with ⟨rfl, h⟩ | ⟨rfl, h⟩
  · refine brT rfl ⟨?_, f12, rfl, rfl⟩
    rw [h]
    by_cases y : k = 0
    · rw [if_pos y]
    · rw [if_neg y]
      by_cases z : k = 1
      · rw [if_pos z]
      · rw [if_neg z]
  · refine brF (by decide) ⟨fun y => ⟨?_, f12, rfl, rfl⟩, fun y => ⟨?_, f12, rfl, rfl⟩⟩
    · rw [h, if_pos y]
    · rw [h, if_neg y]
theorem R_meets_loop {P : xPost} (hr : xRf r) (hK : lOkk L) {b o : Nat} (hb : b < lB L) (ho : o < lB L) (k : Int32) : ∀ (m e n : Nat) (τ : Nat → Int32) (u : xU), e + m = 300 → rE u L c → u 684 = τ → gSt L c n e τ →
    (∀ u' : xU, xSm fDy u u' → (∀ j, 91 ≤ j → u' 684 j = τ j) → P (some (.int (if k = 0 then (mD L c m τ b o).1 else (mD L c m τ b o).2))) u' w r) →
    xEv g (d + 5) mX12_meets 36 [some (.ref 655), some (.int (nI b)), some (.int (nI o)), some (.int k)] [] 698 u w r 698 P := by
  have hW := hK.1
  have hB := hK.2.2.1
  have hb6 := hB.1
  intro m
  induction m with
  | zero =>
    intro e n τ u he hE hτ hS kk
    have := kk u xSm.rf (fun j _ => by rw [hτ])
    rw [show mD L c 0 τ b o = (-1, -1) from rfl, ite_self] at this
    refine TX12_meets_36 hr (brT ?_ this)
    rw [hτ, hS.2.2.1.1]
    exact nI_le (a := 300) (by omega) (by omega)
  | succ m ih =>
    intro e n τ u he hE hτ hS kk
    subst hτ
    have S1 := fOne_st hW hB hS
    refine TX12_meets_36 hr (brF ?_ ?_)
    · rw [hS.2.2.1.1]
      exact nI_ge (b := 300) (by omega) (by omega)
    · refine xVd.use (R_stepOne hr hE hK hS) (fun u1 ⟨h1, f1⟩ => ⟨rfl, rfl, rfl, vpn (by omega) (by omega), ?_⟩)
      simp (disch := omega) only [a6, nc]
      rw [h1]
      have k1 := fOne_fr hW hB hS
      rw [mD_s] at kk
      have go : ¬ (fOne L c (u 684) b = 1 ∧ (fOne L c (u 684) o = 1 ∧ fOne L c (u 684) (6 + o) = fOne L c (u 684) (6 + b))) → xEv g (d + 5) mX12_meets 104 [some (.ref 655), some (.int (nI b)), some (.int (nI o)), some (.int k)] [] 698 u1 w r 698 P := by
        intro hc
        rw [if_neg hc] at kk
        have E1 : rE u1 L c := hE.kn (f1.n fDy_h) (by rw [h1]; exact S1.2.1)
        refine TX12_meets_104 (xVd.use (R_stepFour hr E1 hK (by rw [h1]; exact S1)) (fun u2 ⟨h2, f2⟩ => ⟨rfl, rfl, rfl, ?_⟩))
        rw [h1] at h2
        have S2 := fFour_st hW hB S1 (by omega)
        have f2' : xSm fDy u1 u2 := f2.to (fun b hb => Or.inr (Or.inr hb))
        refine ih (e + 1) n _ u2 (by omega) (E1.kn (f2'.n fDy_h) (by rw [h2]; exact S2.2.1)) h2 S2 (fun u3 f3 h3 => kk u3 ((f1.tr f2').tr f3) (fun j hj => ?_))
        rw [h3 j hj, fFour_fr hB j (by omega), k1 j (by omega)]
      refine ⟨fun q => ⟨vpn (by omega) (by omega), ?_⟩, fun q => go (fun z => q z.1)⟩
      refine xPr.use (R_standsAt hr (by omega) _) ⟨_, rfl, rfl, rfl, rfl, fun q2 => go (fun z => ?_), fun q2 => ?_⟩
      · rw [xb_eq0, h1] at q2
        exact q2 z.2
      · rw [xb_eq0, Classical.not_not, h1] at q2
        rw [if_pos (show fOne L c (u 684) b = 1 ∧ (fOne L c (u 684) o = 1 ∧ fOne L c (u 684) (6 + o) = fOne L c (u 684) (6 + b)) from ⟨q, q2⟩)] at kk
        exact kk u1 f1 (fun j hj => by rw [h1]; exact k1 j (by omega))
theorem R_meets {u : xU} {n e : Nat} {σ : Nat → Int32} (hr : xRf r) (hK : lOkk L) (hN : rN1 L n e u σ) (i j k : Int32) : xCall g (d + 6) mX12_meets [.ref 655, .int i, .int j, .int k] 698 u w r 698 (xIn (aMeets L e σ i j k) (rA L n e σ u) w r) := by
  have hb6 := hK.2.2.1.1
  have hS := hN.2.2.1
  have he := hS.2.2.1.2
  refine CX12_meets (xPr.use (R_isBier hN.1 hb6 i) ⟨_, rfl, rfl, rfl, rfl, ?_⟩)
  rw [xb_eq0]
  unfold aMeets
  refine ⟨fun q => ⟨by rw [if_neg (fun z => q z.1.1)], rA.rf hN, rfl, rfl⟩, fun q => xPr.use (R_isBier hN.1 hb6 j) ⟨_, rfl, rfl, rfl, rfl, ?_⟩⟩
  rw [Classical.not_not] at q
  rw [xb_eq0, Classical.not_not]
  refine ⟨fun q2 => ?_, fun q2 => ⟨by rw [if_neg (fun z => q2 ⟨z.1.2, z.2⟩)], rA.rf hN, rfl, rfl⟩⟩
  rw [if_pos ⟨⟨q, q2.1⟩, q2.2⟩]
  obtain ⟨b, hb, rfl⟩ := inN.get q (by omega)
  obtain ⟨o, ho, rfl⟩ := inN.get q2.1 (by omega)
  rw [nc (by omega), nc (by omega)]
  refine xPr.use (R_isIn _ _ _) ⟨_, rfl, rfl, rfl, rfl, ?_⟩
  rw [xb_eq0]
  have k01 : (¬ k < 0 ∧ ¬ (1 : Int32) < k) ↔ (k = 0 ∨ k = 1) := by
    rw [ti_lt, ti_lt, ti_eq, ti_eq, z_toInt, show (1 : Int32).toInt = 1 from rfl]
    omega
  rw [k01]
  refine ⟨fun z => ⟨by rw [if_neg (fun y => z (Or.inl y)), if_neg (fun y => z (Or.inr y))], rA.rf hN, rfl, rfl⟩, fun z => ?_⟩
  rw [Classical.not_not] at z
  have ek : (if k = 0 then (mD L (σ 89) (300 - e) σ b o).1 else if k = 1 then (mD L (σ 89) (300 - e) σ b o).2 else -1) = if k = 0 then (mD L (σ 89) (300 - e) σ b o).1 else (mD L (σ 89) (300 - e) σ b o).2 := by
    by_cases y : k = 0
    · rw [if_pos y, if_pos y]
    · rw [if_neg y, if_neg y, if_pos (z.resolve_left y)]
  rw [ek]
  refine R_loaded hr hK hN (fun u1 h1 h2 h3 f1 => ⟨rfl, rfl, rfl, ?_⟩)
  exact R_meets_loop hr hK hb ho k (300 - e) e n σ u1 (by omega) h3 h1 hS (fun u2 f2 h91 => ⟨rfl, ⟨f1.tr (f2.n fDy_x), hN.keep (f1.tr (f2.n fDy_x)) h91⟩, rfl, rfl⟩)
end MEETS
