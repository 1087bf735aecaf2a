/-! A LETTER ALONE: a day -/
theorem fThree_one {L : xU} {c : Int32} {e : Nat} {σ : Nat → Int32} (hW : lWok L) (hB : lBk L) (hS : gSt L c 1 e σ) : fThree L c 1 σ = if fVil σ 0 < 0 then σ else fHand L c 1 0 (fVil σ 0).toNatClampNeg σ := by
  rw [fThree_eq hW hB hS]
  rfl
theorem fTwo_one (σ : Nat → Int32) : fTwo 1 σ = fTwoL 0 (0, σ) := rfl
/-- behind handing on: where the letter is -/
def tMid (L : xU) (c : Int32) (g k : Nat) (σ : Nat → Int32) : Prop := σ 58 = nI g ∧ σ 48 = nI k ∧ k ≤ 7 ∧ (σ 38 = -1 → k + tK L c g (tPhi L c g σ) ≤ 7) ∧ (σ 38 = -1 → ∀ b v, b < lB L → v < lV L → σ 28 = nI b → σ b = 1 → σ (6 + b) = nI v → fNear L c σ b g < lF L c v g)
theorem tMid_hand {L : xU} {c : Int32} {e g k v : Nat} {σ : Nat → Int32} (hW : lWok L) (hB : lBk L) (hS : gSt L c 1 e σ) (h : tI2 L c g k σ) (hg : g < lV L) (hv : v < lV L) (hvil : fVil σ 0 = nI v) :
    ∃ k', (k' = k ∨ (k' = k + 1 ∧ ∃ b, b < lB L ∧ fHand L c 1 0 v σ 28 = nI b)) ∧ tMid L c g k' (fHand L c 1 0 v σ) := by
  have hv7 := hW.1
  have hb6 := hB.1
  obtain ⟨h58, h48, hk7, hK⟩ := h
  obtain ⟨h38, own⟩ := fVil_own hW hB hS (by omega) hv hvil
  have h38' : σ 38 = -1 := h38
  have eg : (σ (58 + 0)).toNatClampNeg = g := by rw [show 58 + 0 = 58 from rfl, h58, nc (by omega)]
  have ok := lF_ok hW c
  have kk := hK h38'
  have mg : ∀ p q, p < lV L → (lM L c p q g).toInt ≤ 1000 := fun p q hp => (lMk_is hW c hp q g 7).1
  -- the words of the search
  have nr := fBestK_near L c 1 0 v σ (lB L)
  have eb : (fBestK L c 1 0 v σ (lB L)).1 = fBest L c 1 0 v σ := rfl
  rw [eb, eg] at nr
  have b0 : fBest0 L c 0 v σ = if σ 28 < 0 ∨ lF L c v g ≤ fNear L c σ (σ 28).toNatClampNeg g then (-1, lF L c v g) else (σ 28, fNear L c σ (σ 28).toNatClampNeg g) := by
    unfold fBest0
    rw [eg]
  -- what the pile, or the own bier, gives
  have phi : (σ 28 = -1 ∧ σ 18 = nI v ∧ tPhi L c g σ = lF L c v g) ∨ (∃ b, b < lB L ∧ σ 28 = nI b ∧ σ b = 1 ∧ σ (6 + b) = nI v ∧ tPhi L c g σ = fNear L c σ b g) := by
    rcases own with q | ⟨b, q1, q2, q3, q4⟩
    · left
      have q' : σ 28 = -1 := q
      have e18 : σ 18 = nI v := by
        unfold fVil at hvil
        rw [if_pos (by rw [h38]; exact m1_neg), if_neg (by rw [q]; decide)] at hvil
        exact hvil
      refine ⟨q', e18, ?_⟩
      unfold tPhi
      rw [if_pos q', e18, nc (by omega)]
    · right
      have q2' : σ 28 = nI b := q2
      refine ⟨b, q1, q2', q3, q4, ?_⟩
      unfold tPhi
      rw [if_neg (by rw [q2']; exact nI_m1 (by omega)), q2', nc (by omega)]
  have lo : (fBest0 L c 0 v σ).2.toInt ≤ (tPhi L c g σ).toInt ∧ (fBest0 L c 0 v σ).2.toInt ≤ (lF L c v g).toInt := by
    rw [b0]
    rcases phi with ⟨p1, p2, p3⟩ | ⟨b, p0, p1, p2, p3, p4⟩
    · rw [if_pos (Or.inl (by rw [p1]; exact m1_neg)), p3]; exact ⟨Int.le_refl _, Int.le_refl _⟩
    · rw [p4, p1, nc (by omega)]
      generalize fNear L c σ b g = F
      generalize lF L c v g = D
      by_cases q : nI b < 0 ∨ D ≤ F
      · rw [if_pos q]
        have q' := q.resolve_left (nI_nn (by omega))
        exact ⟨ti_le.mp q', Int.le_refl _⟩
      · rw [if_neg q]
        have q' : ¬ D ≤ F := fun z => q (Or.inr z)
        rw [ti_le] at q'
        exact ⟨Int.le_refl _, by show F.toInt ≤ D.toInt; omega⟩
  -- the fields of fLay
  have lay_n : ∀ x, x < 0 → fLay 0 v x σ 28 = -1 ∧ fLay 0 v x σ 18 = nI v ∧ fLay 0 v x σ 48 = σ 48 := by
    intro x hx
    unfold fLay
    rw [if_pos hx]
    refine ⟨by rw [up_n (by omega), up_s], up_s _ _ _, by rw [up_n (by omega), up_n (by omega)]⟩
  have lay_o : ∀ j, j ≠ 18 → j ≠ 28 → j ≠ 48 → ∀ x, fLay 0 v x σ j = σ j := fun j j1 j2 j3 x => fLay_fr 0 v x σ j (by omega)
  unfold fHand
  rcases nr with nr | ⟨b, r1, r2, r3, r4, r5, r6, r7⟩
  · have e0 : fBest L c 1 0 v σ = (fBest0 L c 0 v σ).1 := by rw [← eb, nr]
    rw [e0, b0]
    by_cases q : σ 28 < 0 ∨ lF L c v g ≤ fNear L c σ (σ 28).toNatClampNeg g
    · -- into the pile
      rw [if_pos q]
      obtain ⟨l1, l2, l3⟩ := lay_n (-1) m1_neg
      have ph' : tPhi L c g (fLay 0 v (-1) σ) = lF L c v g := by
        unfold tPhi
        rw [if_pos l1, l2, nc (by omega)]
      refine ⟨k, Or.inl rfl, (lay_o 58 (by omega) (by omega) (by omega) _).trans h58, l3.trans h48, hk7, fun _ => ?_, fun _ b v' hb hv' h1 => ?_⟩
      · show k + tK L c g (tPhi L c g (fLay 0 v (-1) σ)) ≤ 7
        rw [ph']
        have : (lF L c v g).toInt ≤ (tPhi L c g σ).toInt := by
          rcases phi with ⟨p1, p2, p3⟩ | ⟨b, p0, p1, p2, p3, p4⟩
          · rw [p3]; exact Int.le_refl _
          · rw [p4]
            rw [p1, nc (by omega)] at q
            exact ti_le.mp (q.resolve_left (nI_nn (by omega)))
        have := tK_mono (L := L) (c := c) (g := g) this
        omega
      · have h1' : fLay 0 v (-1) σ 28 = nI b := h1
        rw [l1] at h1'
        exact absurd h1'.symm (nI_m1 (by omega))
    · -- it stays in its bier
      rw [if_neg q]
      have q1 : ¬ σ 28 < 0 := fun z => q (Or.inl z)
      have q2 : ¬ lF L c v g ≤ fNear L c σ (σ 28).toNatClampNeg g := fun z => q (Or.inr z)
      have same : fLay 0 v (σ 28) σ = σ := by
        unfold fLay fPut
        rw [if_neg q1]
        exact if_pos rfl
      show ∃ k', (k' = k ∨ (k' = k + 1 ∧ ∃ b, b < lB L ∧ fLay 0 v (σ 28) σ 28 = nI b)) ∧ tMid L c g k' (fLay 0 v (σ 28) σ)
      rw [same]
      refine ⟨k, Or.inl rfl, h58, h48, hk7, hK, fun _ b v' hb hv' h1 h2 h3 => ?_⟩
      rcases phi with ⟨p1, -⟩ | ⟨b', p0, p1, p2, p3, p4⟩
      · rw [p1] at q1; exact absurd m1_neg q1
      · have eb' : b = b' := nI_inv (by omega) (by omega) (h1.symm.trans p1)
        subst eb'
        have ev : v' = v := nI_inv (by omega) (by omega) (h3.symm.trans p3)
        subst ev
        rw [p1, nc (by omega), ti_le] at q2
        rw [ti_lt]; omega
  · -- it is handed
    rw [r2]
    have hb' : ¬ nI b < 0 := nI_nn (by omega)
    have ly : fLay 0 v (nI b) σ = up (up (up σ 28 (nI b)) 18 (-1)) 48 (σ 48 + 1) := by
      unfold fLay fPut
      rw [if_neg hb']
      exact if_neg (fun z => r3 z.symm)
    rw [ly]
    have e28 : (up (up (up σ 28 (nI b)) 18 (-1)) 48 (σ 48 + 1)) 28 = nI b := by rw [up_n (by omega), up_n (by omega), up_s]
    have o6 : ∀ j, j ≠ 18 → j ≠ 28 → j ≠ 48 → (up (up (up σ 28 (nI b)) 18 (-1)) 48 (σ 48 + 1)) j = σ j := fun j j1 j2 j3 => by rw [up_n j3, up_n j1, up_n j2]
    have enb : ∀ p, p < 6 → fNear L c (up (up (up σ 28 (nI b)) 18 (-1)) 48 (σ 48 + 1)) p g = fNear L c σ p g := fun p hp => by
      unfold fNear
      rw [o6 (6 + p) (by omega) (by omega) (by omega)]
    have lt1 : (fNear L c σ b g).toInt < (fBest0 L c 0 v σ).2.toInt := by rw [← r6]; exact r7
    have l1000 : (fBest0 L c 0 v σ).2.toInt ≤ 1000 := Int.le_trans lo.2 (ok.1 v g).2
    have tk : tK L c g (fNear L c σ b g) < tK L c g (tPhi L c g σ) := by
      have en : fNear L c σ b g = lM L c v (lH L b) g := by
        unfold fNear
        rw [r4, nc (by omega)]
      have t1 : tK L c g (fNear L c σ b g) < tK L c g (fBest0 L c 0 v σ).2 := by
        rw [en] at lt1 ⊢
        exact tK_lt hW hv l1000 lt1
      exact Nat.lt_of_lt_of_le t1 (tK_mono lo.1)
    have ph' : tPhi L c g (up (up (up σ 28 (nI b)) 18 (-1)) 48 (σ 48 + 1)) = fNear L c σ b g := by
      unfold tPhi
      rw [if_neg (by rw [e28]; exact nI_m1 (by omega)), e28, nc (by omega), enb b (by omega)]
    refine ⟨k + 1, Or.inr ⟨rfl, b, r1, e28⟩, (o6 58 (by omega) (by omega) (by omega)).trans h58, by rw [up_s, h48, nI_one], by omega, fun _ => ?_, fun _ b2 v2 hb2 hv2 h1 h2 h3 => ?_⟩
    · rw [ph']; omega
    · rw [e28] at h1
      have : b = b2 := nI_inv (by omega) (by omega) h1
      subst this
      rw [o6 (6 + b) (by omega) (by omega) (by omega), r4] at h3
      have : v = v2 := nI_inv (by omega) (by omega) h3
      subst this
      rw [enb b (by omega), ti_lt]
      have := lo.2
      omega
theorem tDay {L : xU} {c : Int32} {e g k : Nat} {σ : Nat → Int32} (hW : lWok L) (hB : lBk L) (hS : gSt L c 1 e σ) (hg : g < lV L) (h : tI2 L c g k σ) (h38 : σ 38 = -1) :
    ∃ k', (k' = k ∨ (k' = k + 1 ∧ ∃ b, b < lB L ∧ fDay L c 1 σ 28 = nI b)) ∧ tI2 L c g k' (fDay L c 1 σ) := by
  have hv7 := hW.1
  have hb6 := hB.1
  obtain ⟨h58, h48, hk7, hK⟩ := h
  have S1 := fOne_st hW hB hS
  have f1 := fOne_fr hW hB hS
  have a58 : fOne L c σ 58 = nI g := (f1 58 (by omega)).trans h58
  have a48 : fOne L c σ 48 = nI k := (f1 48 (by omega)).trans h48
  have a38 : fOne L c σ 38 = -1 := (f1 38 (by omega)).trans h38
  -- arriving changes no nearness
  have ph1 : tPhi L c g (fOne L c σ) = tPhi L c g σ := by
    obtain ⟨-, l2⟩ := hS.2.2.2.2.1 0 (by omega)
    rcases l2 with ⟨q1, q2, v, hv, q3⟩ | ⟨b, hb, q1, q2, q3, q4⟩ | ⟨q1, q2, x, hx, q3⟩
    · obtain ⟨o1, o2⟩ := fOne_out hW hB hS (l := 0) (by omega) q1
      unfold tPhi
      rw [if_pos (show fOne L c σ 28 = -1 from o1), if_pos (show σ 28 = -1 from q1), show fOne L c σ 18 = σ 18 from o2]
    · have q1' : σ 28 = nI b := q1
      rcases fOne_in hW hB hS hb q1' q2 with ⟨o1, o2⟩ | ⟨o1, o2, o3⟩
      · unfold tPhi fNear
        rw [if_neg (by rw [o1]; exact nI_m1 (by omega)), if_neg (by rw [q1']; exact nI_m1 (by omega)), o1, q1', nc (by omega), o2]
      · obtain ⟨⟨p, hp, ep⟩, -⟩ := (hS.2.2.2.1 b (by omega)).1 hb
        obtain ⟨hh, eh⟩ := hB.home hW hb
        have : p = lH L b := nI_inv (by omega) (by omega) (ep.symm.trans (o3.trans eh))
        unfold tPhi fNear
        rw [if_pos o1, if_neg (by rw [q1']; exact nI_m1 (by omega)), o2, q1', nc (by omega), ep, nc (by omega), this]
        refine (near_still hW ?_ hh).symm
        unfold lNx gNext
        exact if_pos (Or.inl rfl)
    · have q3' : σ 38 = nI x := q3
      rw [h38] at q3'
      exact absurd q3'.symm (nI_m1 (by omega))
  have I1 : tI2 L c g k (fOne L c σ) := ⟨a58, a48, hk7, fun _ => by rw [ph1]; exact hK h38⟩
  generalize hσ1 : fOne L c σ = σ1 at *
  have S2 := fTwo_st hB S1
  have f4 : ∀ τ, rsm (fun j => j < 18 ∨ j = 90) τ (fFour L c τ) := fun τ => fFour_fr hB
  have dayE : fDay L c 1 σ = fFour L c (fThree L c 1 (fTwo 1 σ1).2) := by unfold fDay; rw [hσ1]
  rw [dayE]
  by_cases hq : fVil σ1 0 < 0 ∨ ¬ fVil σ1 0 = σ1 58
  · -- not home
    have e2 : (fTwo 1 σ1).2 = σ1 := by
      rw [fTwo_one]
      unfold fTwoL
      rw [if_pos (show fVil (0, σ1).2 0 < 0 ∨ ¬ fVil (0, σ1).2 0 = (0, σ1).2 (58 + 0) from hq)]
    rw [e2] at S2 ⊢
    have mid : ∃ k', (k' = k ∨ (k' = k + 1 ∧ ∃ b, b < lB L ∧ fThree L c 1 σ1 28 = nI b)) ∧ tMid L c g k' (fThree L c 1 σ1) := by
      rw [fThree_one hW hB S1]
      by_cases hz : fVil σ1 0 < 0
      · rw [if_pos hz]
        refine ⟨k, Or.inl rfl, a58, a48, hk7, I1.2.2.2, fun _ b v hb hv h1 h2 h3 => ?_⟩
        have := fVil_in hB S1 (l := 0) (by omega) hb h1 h2 h3
        rw [this] at hz
        exact absurd hz (nI_nn (by omega))
      · rw [if_neg hz]
        rcases fVil_or hB S1 (l := 0) (by omega) with q | ⟨v, hv, q, -⟩
        · rw [q] at hz; exact absurd m1_neg hz
        · rw [q, nc (by omega)]
          exact tMid_hand hW hB S1 I1 hg hv q
    obtain ⟨k', m1, m58, m48, mk7, mK, mN⟩ := mid
    have S3 := fThree_st hW hB S1
    generalize fThree L c 1 σ1 = σ3 at m1 m58 m48 mK mN S3 ⊢
    refine ⟨k', ?_, (f4 σ3 58 (by omega)).trans m58, (f4 σ3 48 (by omega)).trans m48, mk7, fun h => ?_⟩
    · rw [f4 σ3 28 (by omega)]; exact m1
    · rw [f4 σ3 38 (by omega)] at h
      have e28 : fFour L c σ3 28 = σ3 28 := f4 σ3 28 (by omega)
      have e18 : fFour L c σ3 18 = σ3 18 := f4 σ3 18 (by omega)
      have : tPhi L c g (fFour L c σ3) = tPhi L c g σ3 := by
        unfold tPhi
        rw [e28, e18]
        by_cases z : σ3 28 = -1
        · rw [if_pos z, if_pos z]
        · rw [if_neg z, if_neg z]
          obtain ⟨-, l2⟩ := S3.2.2.2.2.1 0 (by omega)
          rcases l2 with ⟨q1, -⟩ | ⟨b, hb, q1, q2, -⟩ | ⟨q1, -⟩
          · exact absurd q1 z
          · have q1' : σ3 28 = nI b := q1
            rw [q1', nc (by omega)]
            obtain ⟨⟨p, hp, ep⟩, -⟩ := (S3.2.2.2.1 b (by omega)).1 hb
            have at6 : fFour L c σ3 (6 + b) = fFourB L c b σ3 (6 + b) := by
              unfold fFour
              rw [up_n (by omega)]
              have := fFourK_at (c := c) (σ := σ3) hb6 hb (lB L) (Nat.le_refl _) (6 + b) (by omega)
              rw [if_pos hb] at this
              exact this
            unfold fNear
            rw [at6]
            unfold fFourB
            split
            · next hc =>
              rw [up_s]
              have hto : fTo L c σ3 b = lNx L c p (lH L b) := by unfold fTo; rw [ep, nc (by omega)]
              rcases lNx_or hW c p (lH L b) with y | ⟨o, ho, y, -, -⟩
              · rw [hto, y] at hc; exact absurd m1_neg hc.2
              · rw [hto, y, nc (by omega), ep, nc (by omega)]
                refine lM_next hW hp ho y ?_
                have := mN h b p hb hp q1' hc.1.1.1 ep
                unfold fNear at this
                rw [ep, nc (by omega)] at this
                exact this
            · rfl
          · exact absurd q1 z
      rw [this]
      exact mK h
  · -- home
    have hq1 : ¬ fVil σ1 0 < 0 := fun z => hq (Or.inl z)
    have e2 : (fTwo 1 σ1).2 = up (up (up σ1 38 (σ1 90)) 18 (-1)) 28 (-1) := by
      rw [fTwo_one]
      unfold fTwoL
      rw [if_neg (show ¬ (fVil (0, σ1).2 0 < 0 ∨ ¬ fVil (0, σ1).2 0 = (0, σ1).2 (58 + 0)) from hq)]
    have e38 : (fTwo 1 σ1).2 38 = σ1 90 := by rw [e2, up_n (by omega), up_n (by omega), up_s]
    have n38 : ¬ (fTwo 1 σ1).2 38 = -1 := by
      rw [e38, S1.2.2.1.1]
      exact nI_m1 (by have := S1.2.2.1.2; omega)
    have v2 : fVil (fTwo 1 σ1).2 0 = -1 := by
      unfold fVil
      rw [if_neg (by
        show ¬ (fTwo 1 σ1).2 38 < 0
        rw [e38, S1.2.2.1.1]
        exact nI_nn (by have := S1.2.2.1.2; omega))]
    have e3 : fThree L c 1 (fTwo 1 σ1).2 = (fTwo 1 σ1).2 := by
      rw [fThree_one hW hB S2, if_pos (by rw [v2]; exact m1_neg)]
    rw [e3]
    refine ⟨k, Or.inl rfl, ?_, ?_, hk7, fun h => ?_⟩
    · rw [f4 _ 58 (by omega), e2, up_n (by omega), up_n (by omega), up_n (by omega)]; exact a58
    · rw [f4 _ 48 (by omega), e2, up_n (by omega), up_n (by omega), up_n (by omega)]; exact a48
    · rw [f4 _ 38 (by omega)] at h; exact absurd h n38
