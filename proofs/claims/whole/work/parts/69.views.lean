/-! QUESTIONS: bier, letter, village, far, far -/
def aBier (L : xU) (n : Nat) (σ : Nat → Int32) (i k : Int32) : Int32 := if inN i (lB L) then (if k = 0 then σ i.toNatClampNeg else if k = 1 then σ (6 + i.toNatClampNeg) else if k = 2 then σ (12 + i.toNatClampNeg) else if k = 3 then nI (fIn n σ i.toNatClampNeg) else if k = 4 then L 5 i.toNatClampNeg else if k = 5 then (if σ i.toNatClampNeg = 1 then lR L (σ 89) (σ (6 + i.toNatClampNeg)).toNatClampNeg (lH L i.toNatClampNeg) else 0) else -2) else -2
def aLetter (n : Nat) (σ : Nat → Int32) (i k : Int32) : Int32 := if inN i n then (if k = 0 then σ (18 + i.toNatClampNeg) else if k = 1 then σ (28 + i.toNatClampNeg) else if k = 2 then σ (38 + i.toNatClampNeg) else if k = 3 then σ (58 + i.toNatClampNeg) else if k = 4 then σ (68 + i.toNatClampNeg) else if k = 5 then σ (78 + i.toNatClampNeg) else if k = 6 then σ (48 + i.toNatClampNeg) else -2) else -2
def aVillage (L : xU) (n : Nat) (σ : Nat → Int32) (i k : Int32) : Int32 := if inN i (lV L) then (if k = 0 then xset n (fun l => decide (σ (18 + l) = i)) else if k = 1 then xset (lB L) (fun b => decide (σ b = 1 ∧ σ (6 + b) = i)) else if k = 2 then xset 7 (fun b => decide (¬ lD L (σ 89) i.toNatClampNeg b = -1)) else -1) else -1
def aFar (L : xU) (σ : Nat → Int32) (i j : Int32) : Int32 := if inN i (lV L) ∧ inN j (lV L) then lF L (σ 89) i.toNatClampNeg j.toNatClampNeg else -1
section VIEWS
variable {g : xGT} {d : Nat} {w : xW} {r : xQ} {L : xU} {l n e : Nat} {σ : Nat → Int32}
theorem K_bier {u : xU} (hK : lOkk L) (hR : kR r l) (hN : kN L l n e u σ) (hh : sWh L σ) (i k : Int32) : xCall g (d + 3) mX11_bier [.ref 8, .int i, .int k] 698 u w r 698 (xIn (aBier L n σ i k) (xSm (fLk l) u) w r) := by
  have hb6 := hK.2.2.1.1
  obtain ⟨hr, h_l, q_l, hm, ht, hl⟩ := id hR
  obtain ⟨T, hk⟩ := hN.2.1
  refine CX11_bier hr h_l q_l ht (xPr.use (K_isOneOf _ _) ⟨_, rfl, rfl, rfl, rfl, ?_⟩)
  rw [hN.1.1.1.2.2, xb_eq0]
  unfold aBier
  refine ⟨fun q => ⟨by rw [if_neg q], xSm.rf, rfl, rfl⟩, fun q => ?_⟩
  rw [Classical.not_not] at q
  rw [if_pos (show inN i (lB L) from q)]
  obtain ⟨b, hb, rfl⟩ := inN.get q (by omega)
  rw [nc (by omega)]
  obtain ⟨k1, k2, k3, k4⟩ := hk.2.2.1 b hb
  have k0 := hk.2.1 b (by omega)
  refine ⟨vpn (by omega) (by omega), fun y => ?_, fun y => ?_, fun y => ?_, fun y => ?_, fun y => ?_, fun y => ?_, fun y0 y1 y2 y3 y4 y5 => ?_⟩
  · subst y
    exact ⟨by rw [if_pos rfl, k0], xSm.rf, rfl, rfl⟩
  · subst y
    exact ⟨by rw [if_neg (by decide), if_pos rfl, k1], xSm.rf, rfl, rfl⟩
  · subst y
    refine ⟨?_, xSm.rf, rfl, rfl⟩
    rw [if_neg (show ¬ (2 : Int32) = 0 by decide), if_neg (show ¬ (2 : Int32) = 1 by decide), if_pos (show (2 : Int32) = 2 from rfl), k0]
    congr 2
    by_cases z1 : σ b = 1
    · rw [if_pos (Or.inl (by rw [xb_pos z1]; decide)), k2 (by rw [z1]; decide)]
    · by_cases z2 : σ b = 2
      · rw [if_pos (Or.inr z2), k2 (by rw [z2]; decide)]
      · rw [if_neg (fun z => z.elim (fun z => z (xb_neg z1)) z2)]
        refine (hh b hb ?_).symm
        rcases ((hN.2.2.2.2.2.1 b (by omega)).1 hb).2 with y | y | y | y
        · exact Or.inl y.1
        · exact absurd y z1
        · exact absurd y z2
        · exact Or.inr y
  · subst y
    exact ⟨by rw [if_neg (show ¬ (3 : Int32) = 0 by decide), if_neg (show ¬ (3 : Int32) = 1 by decide), if_neg (show ¬ (3 : Int32) = 2 by decide), if_pos rfl, k4], xSm.rf, rfl, rfl⟩
  · subst y
    exact ⟨by rw [if_neg (show ¬ (4 : Int32) = 0 by decide), if_neg (show ¬ (4 : Int32) = 1 by decide), if_neg (show ¬ (4 : Int32) = 2 by decide), if_neg (show ¬ (4 : Int32) = 3 by decide), if_pos rfl, (hN.1.1.2.2.1 b hb).2.1], xSm.rf, rfl, rfl⟩
  · subst y
    rw [if_neg (show ¬ (5 : Int32) = 0 by decide), if_neg (show ¬ (5 : Int32) = 1 by decide), if_neg (show ¬ (5 : Int32) = 2 by decide), if_neg (show ¬ (5 : Int32) = 3 by decide), if_neg (show ¬ (5 : Int32) = 4 by decide), if_pos (show (5 : Int32) = 5 from rfl), k0, xb_eq0]
    refine ⟨fun z => ⟨by rw [if_neg z], xSm.rf, rfl, rfl⟩, fun z => ?_⟩
    rw [Classical.not_not] at z
    exact xPr.use (K_restOf hr st105 (sr105 hr) h_l q_l hm hN.1 hK hk hN.2.2 hb) ⟨_, rfl, rfl, rfl, rfl, rfl, xSm.rf, rfl, rfl⟩
  · exact ⟨by rw [if_neg y0, if_neg y1, if_neg y2, if_neg y3, if_neg y4, if_neg y5], xSm.rf, rfl, rfl⟩
theorem R_bier {u : xU} (hr : xRf r) (hK : lOkk L) (hN : rN1 L n e u σ) (i k : Int32) : xCall g (d + 6) mX12_bier [.ref 655, .int i, .int k] 698 u w r 698 (xIn (aBier L n σ i k) (rA L n e σ u) w r) := by
  have hb6 := hK.2.2.1.1
  have hS := hN.2.2.1
  refine CX12_bier hr (xPr.use (R_isBier hN.1 hb6 i) ⟨_, rfl, rfl, rfl, rfl, ?_⟩)
  rw [xb_eq0]
  unfold aBier
  refine ⟨fun q => ⟨by rw [if_neg q], rA.rf hN, rfl, rfl⟩, fun q => ?_⟩
  rw [Classical.not_not] at q
  rw [if_pos q]
  obtain ⟨b, hb, rfl⟩ := inN.get q (by omega)
  rw [nc (by omega)]
  refine R_loaded hr hK hN (fun u1 h1 h2 h3 f1 => ⟨rfl, rfl, rfl, ?_⟩)
  have hA : rA L n e σ u u1 := ⟨f1, hN.keep f1 (fun j _ => by rw [h1])⟩
  simp (disch := omega) only [a6, a12, nc]
  rw [h1]
  refine ⟨fun y => ⟨vpn (by omega) (by omega), ?_⟩, fun y => ⟨vpn (by omega) (by omega), ?_⟩, fun y => ⟨vpn (by omega) (by omega), ?_⟩, fun y => ?_, fun y => ⟨vpn (by omega) (by omega), ?_⟩, fun y => ⟨vpn (by omega) (by omega), ?_⟩, fun y0 y1 y2 y3 y4 y5 => ?_⟩
  · subst y
    exact ⟨by rw [if_pos rfl], hA, rfl, rfl⟩
  · subst y
    exact ⟨by rw [if_neg (by decide), if_pos rfl], hA, rfl, rfl⟩
  · subst y
    exact ⟨by rw [if_neg (show ¬ (2 : Int32) = 0 by decide), if_neg (show ¬ (2 : Int32) = 1 by decide), if_pos (show (2 : Int32) = 2 from rfl)], hA, rfl, rfl⟩
  · subst y
    refine xPr.use (R_lettersIn hr (by rw [h1]; exact hS.1.1) hS.1.2 b) ⟨_, rfl, rfl, rfl, rfl, ?_, hA, rfl, rfl⟩
    rw [h1, if_neg (show ¬ (3 : Int32) = 0 by decide), if_neg (show ¬ (3 : Int32) = 1 by decide), if_neg (show ¬ (3 : Int32) = 2 by decide), if_pos rfl]
  · subst y
    have e676 : u1 676 = L 5 := h3.1.2.2.2.2.2.1
    exact ⟨by rw [if_neg (show ¬ (4 : Int32) = 0 by decide), if_neg (show ¬ (4 : Int32) = 1 by decide), if_neg (show ¬ (4 : Int32) = 2 by decide), if_neg (show ¬ (4 : Int32) = 3 by decide), if_pos rfl, e676], hA, rfl, rfl⟩
  · subst y
    rw [if_neg (show ¬ (5 : Int32) = 0 by decide), if_neg (show ¬ (5 : Int32) = 1 by decide), if_neg (show ¬ (5 : Int32) = 2 by decide), if_neg (show ¬ (5 : Int32) = 3 by decide), if_neg (show ¬ (5 : Int32) = 4 by decide), if_pos (show (5 : Int32) = 5 from rfl)]
    refine ⟨fun z => ?_, fun z => ⟨by rw [if_neg z], hA, rfl, rfl⟩⟩
    rw [if_pos z]
    obtain ⟨⟨p, hp, ep⟩, -⟩ := (hS.2.2.2.1 b (by omega)).1 hb
    obtain ⟨hh, eh⟩ := hK.2.2.1.home hK.1 hb
    have hv7 := hK.1.1
    refine xPr.use (R_restOf hr h3 hK.1 (by omega) (by rw [h1]; exact ep) hp eh (by omega)) ⟨_, rfl, rfl, rfl, rfl, ?_, hA, rfl, rfl⟩
    rw [ep, nc (by omega)]
  · exact ⟨by rw [if_neg y0, if_neg y1, if_neg y2, if_neg y3, if_neg y4, if_neg y5], hA, rfl, rfl⟩
theorem K_letter {u : xU} (hR : kR r l) (hN : kN L l n e u σ) (i k : Int32) : xCall g (d + 1) mX11_letter [.ref 8, .int i, .int k] 698 u w r 698 (xIn (aLetter n σ i k) (xSm (fLk l) u) w r) := by
  have n10 := hN.2.2.1.2
  obtain ⟨T, hk⟩ := hN.2.1
  refine CX11_letter hR.1 (xPr.use (K_isOneOf _ _) ⟨_, rfl, rfl, rfl, rfl, ?_⟩)
  rw [hk.1.2.2, hN.2.2.1.1, xb_eq0]
  unfold aLetter
  refine ⟨fun q => ⟨by rw [if_neg q], xSm.rf, rfl, rfl⟩, fun q => ?_⟩
  rw [Classical.not_not] at q
  rw [if_pos (show inN i n from q)]
  obtain ⟨b, hb, rfl⟩ := inN.get q (by omega)
  rw [nc (by omega)]
  obtain ⟨⟨k1, k2, k3, k4⟩, k5, k6, k7⟩ := hk.2.2.2 b hb
  rw [k1, k2, k3, k4, k5, k6, k7]
  have v := vpn (k := b) (n := 10) (by omega) (by omega)
  refine ⟨fun y => ⟨v, ?_⟩, fun y => ⟨v, ?_⟩, fun y => ⟨v, ?_⟩, fun y => ⟨v, ?_⟩, fun y => ⟨v, ?_⟩, fun y => ⟨v, ?_⟩, fun y => ⟨v, ?_⟩, fun y0 y1 y2 y3 y4 y5 y6 => ?_⟩
  · subst y; exact ⟨by rw [if_pos rfl], xSm.rf, rfl, rfl⟩
  · subst y; exact ⟨by rw [if_neg (by decide), if_pos rfl], xSm.rf, rfl, rfl⟩
  · subst y; exact ⟨by rw [if_neg (by decide), if_neg (by decide), if_pos rfl], xSm.rf, rfl, rfl⟩
  · subst y; exact ⟨by rw [if_neg (by decide), if_neg (by decide), if_neg (by decide), if_pos rfl], xSm.rf, rfl, rfl⟩
  · subst y; exact ⟨by rw [if_neg (by decide), if_neg (by decide), if_neg (by decide), if_neg (by decide), if_pos rfl], xSm.rf, rfl, rfl⟩
  · subst y; exact ⟨by rw [if_neg (by decide), if_neg (by decide), if_neg (by decide), if_neg (by decide), if_neg (by decide), if_pos rfl], xSm.rf, rfl, rfl⟩
  · subst y; exact ⟨by rw [if_neg (by decide), if_neg (by decide), if_neg (by decide), if_neg (by decide), if_neg (by decide), if_neg (by decide), if_pos rfl], xSm.rf, rfl, rfl⟩
  · exact ⟨by rw [if_neg y0, if_neg y1, if_neg y2, if_neg y3, if_neg y4, if_neg y5, if_neg y6], xSm.rf, rfl, rfl⟩
theorem R_letter {u : xU} (hr : xRf r) (hN : rN1 L n e u σ) (i k : Int32) : xCall g (d + 2) mX12_letter [.ref 655, .int i, .int k] 698 u w r 698 (xIn (aLetter n σ i k) (rA L n e σ u) w r) := by
  have n10 := hN.2.2.1.1.2
  refine CX12_letter hr (xPr.use (R_isPosted hr hN i) ⟨_, rfl, rfl, rfl, rfl, ?_⟩)
  rw [xb_eq0]
  unfold aLetter
  refine ⟨fun q => ⟨by rw [if_neg q], rA.rf hN, rfl, rfl⟩, fun q => ?_⟩
  rw [Classical.not_not] at q
  rw [if_pos q]
  obtain ⟨b, hb, rfl⟩ := inN.get q (by omega)
  have v : ∀ m, m < 82 → vp_in (nI (m + b)) 92 := fun m hm => vpn (by omega) (by omega)
  simp (disch := omega) only [a18, a28, a38, a48, a58, a68, a78, nc]
  rw [hN.2.1]
  refine ⟨fun y => ⟨v _ (by omega), ?_⟩, fun y => ⟨v _ (by omega), ?_⟩, fun y => ⟨v _ (by omega), ?_⟩, fun y => ⟨v _ (by omega), ?_⟩, fun y => ⟨v _ (by omega), ?_⟩, fun y => ⟨v _ (by omega), ?_⟩, fun y => ⟨v _ (by omega), ?_⟩, fun y0 y1 y2 y3 y4 y5 y6 => ?_⟩
  · subst y; exact ⟨by rw [if_pos rfl], rA.rf hN, rfl, rfl⟩
  · subst y; exact ⟨by rw [if_neg (by decide), if_pos rfl], rA.rf hN, rfl, rfl⟩
  · subst y; exact ⟨by rw [if_neg (by decide), if_neg (by decide), if_pos rfl], rA.rf hN, rfl, rfl⟩
  · subst y; exact ⟨by rw [if_neg (by decide), if_neg (by decide), if_neg (by decide), if_pos rfl], rA.rf hN, rfl, rfl⟩
  · subst y; exact ⟨by rw [if_neg (by decide), if_neg (by decide), if_neg (by decide), if_neg (by decide), if_pos rfl], rA.rf hN, rfl, rfl⟩
  · subst y; exact ⟨by rw [if_neg (by decide), if_neg (by decide), if_neg (by decide), if_neg (by decide), if_neg (by decide), if_pos rfl], rA.rf hN, rfl, rfl⟩
  · subst y; exact ⟨by rw [if_neg (by decide), if_neg (by decide), if_neg (by decide), if_neg (by decide), if_neg (by decide), if_neg (by decide), if_pos rfl], rA.rf hN, rfl, rfl⟩
  · exact ⟨by rw [if_neg y0, if_neg y1, if_neg y2, if_neg y3, if_neg y4, if_neg y5, if_neg y6], rA.rf hN, rfl, rfl⟩
theorem K_pileAt {u : xU} {T : Nat → Int32} (hr : xRf r) (hk : kSt L n u 105 σ T) (hS : gSt L (σ 89) n e σ) (i : Int32) : xCall g d mX9_pileAt [.ref 105, .int i] 698 u w r 698 (xPr (xset n (fun l => decide (σ (18 + l) = i))) u w r) := by
  have n10 := hS.1.2
  refine CX9_pileAt ?_
  refine xlq (N := n) (G := fun k => xEv g d mX9_pileAt 4 [some (.ref 105), some (.int i), some (.int (xset k (fun l => decide (σ (18 + l) = i)))), some (.int (nI k))] [] 698 u w r 698 _) ?_ ?_
  · exact TX9_pileAt_4 st105 (sr105 hr) (brT (by rw [hk.1.2.2, hS.1.1]; exact nI_le (Nat.le_refl _) (by omega)) ⟨rfl, rfl, rfl, rfl⟩)
  · intro k hkk kk
    refine TX9_pileAt_4 st105 (sr105 hr) (brF (by rw [hk.1.2.2, hS.1.1]; exact nI_ge (by omega) (by omega)) ⟨vpn (by omega) (by omega), ?_⟩)
    rw [nc (by omega), (hk.2.2.2 k hkk).1.1]
    rw [xset_s] at kk
    refine ⟨fun q => TX9_pileAt_28 ?_, fun q => TX9_pileAt_28 ?_⟩
    · rw [if_pos (decide_eq_true q)] at kk; rw [nI_one]; exact kk
    · rw [if_neg (fun z => q (of_decide_eq_true z))] at kk; rw [nI_one]; exact kk
theorem K_lettersHome {u : xU} {T : Nat → Int32} (hr : xRf r) (hk : kSt L n u 105 σ T) (hS : gSt L (σ 89) n e σ) : xCall g d mX9_lettersHome [.ref 105] 698 u w r 698 (xPr (xset n (fun l => decide (¬ σ (38 + l) = -1))) u w r) := by
  have n10 := hS.1.2
  refine CX9_lettersHome ?_
  refine xlq (N := n) (G := fun k => xEv g d mX9_lettersHome 4 [some (.ref 105), some (.int (xset k (fun l => decide (¬ σ (38 + l) = -1)))), some (.int (nI k))] [] 698 u w r 698 _) ?_ ?_
  · exact TX9_lettersHome_4 st105 (sr105 hr) (brT (by rw [hk.1.2.2, hS.1.1]; exact nI_le (Nat.le_refl _) (by omega)) ⟨rfl, rfl, rfl, rfl⟩)
  · intro k hkk kk
    refine TX9_lettersHome_4 st105 (sr105 hr) (brF (by rw [hk.1.2.2, hS.1.1]; exact nI_ge (by omega) (by omega)) ⟨vpn (by omega) (by omega), ?_⟩)
    rw [nc (by omega), (hk.2.2.2 k hkk).1.2.2.1]
    rw [xset_s] at kk
    refine ⟨fun q => TX9_lettersHome_28 ?_, fun q => TX9_lettersHome_28 ?_⟩
    · rw [if_neg (by rw [decide_eq_true_iff]; exact fun z => z q)] at kk; rw [nI_one]; exact kk
    · rw [if_pos (decide_eq_true q)] at kk; rw [nI_one]; exact kk
theorem K_standingAt {u : xU} {T : Nat → Int32} (hr : xRf r) (hB6 : lB L ≤ 6) (hk : kSt L n u 105 σ T) (hS : gSt L (σ 89) n e σ) {v : Nat} (hv : v < 7) : xCall g (d + 1) mX9_standingAt [.ref 105, .int (nI v)] 698 u w r 698 (xPr (xset (lB L) (fun b => decide (σ b = 1 ∧ σ (6 + b) = nI v))) u w r) := by
  have e6 : xset (lB L) (fun b => decide (σ b = 1 ∧ σ (6 + b) = nI v)) = xset 6 (fun b => decide (σ b = 1 ∧ σ (6 + b) = nI v)) := by
    refine b_ext (fun i hi => ?_)
    rw [bt_xset (by omega) _ hi, bt_xset (by omega) _ hi]
    by_cases q : i < lB L
    · rw [decide_eq_true q, decide_eq_true (show i < 6 by omega)]
    · rw [decide_eq_false q, Bool.false_and]
      by_cases q6 : i < 6
      · have := (hS.2.2.2.1 i q6).2 q
        rw [decide_eq_false (show ¬ (σ i = 1 ∧ σ (6 + i) = nI v) from fun z => by rw [this] at z; exact absurd z.1 (by decide)), Bool.and_false]
      · rw [decide_eq_false q6, Bool.false_and]
  rw [e6]
  refine CX9_standingAt ?_
  refine xlq (N := 6) (G := fun k => xEv g (d + 1) mX9_standingAt 4 [some (.ref 105), some (.int (nI v)), some (.int (xset k (fun b => decide (σ b = 1 ∧ σ (6 + b) = nI v)))), some (.int (nI k))] [] 698 u w r 698 _) ?_ ?_
  · exact TX9_standingAt_4 st105 (brT (nI_le (a := 6) (Nat.le_refl _) (by omega)) ⟨rfl, rfl, rfl, rfl⟩)
  · intro k hkk kk
    refine TX9_standingAt_4 st105 (brF (nI_ge (b := 6) (by omega) (by omega)) (xPr.use (K_standsIn st105 (sr105 hr) hkk) ⟨_, rfl, rfl, rfl, rfl, ?_⟩))
    rw [xset_s] at kk
    have e1 : (if u (105 + 1) k = 1 then u (105 + 2) k else -1) = nI v ↔ (σ k = 1 ∧ σ (6 + k) = nI v) := by
      rw [hk.2.1 k hkk]
      by_cases q : σ k = 1
      · rw [if_pos q]
        have kb : k < lB L := Nat.lt_of_not_le (fun z => by
          have := (hS.2.2.2.1 k hkk).2 (by omega)
          rw [this] at q; exact absurd q (by decide))
        rw [(hk.2.2.1 k kb).1]
        exact ⟨fun z => ⟨q, z⟩, fun z => z.2⟩
      · rw [if_neg q]
        exact ⟨fun z => absurd z.symm (nI_m1 (by omega)), fun z => absurd z.1 q⟩
    rw [e1]
    refine ⟨fun q => TX9_standingAt_25 ?_, fun q => TX9_standingAt_25 ?_⟩
    · rw [if_pos (decide_eq_true q)] at kk; rw [nI_one]; exact kk
    · rw [if_neg (fun z => q (of_decide_eq_true z))] at kk; rw [nI_one]; exact kk
theorem K_village {u : xU} (hK : lOkk L) (hR : kR r l) (hN : kN L l n e u σ) (i k : Int32) : xCall g (d + 2) mX11_village [.ref 8, .int i, .int k] 698 u w r 698 (xIn (aVillage L n σ i k) (xSm (fLk l) u) w r) := by
  have hb6 := hK.2.2.1.1
  have hv7 := hK.1.1
  obtain ⟨hr, h_l, q_l, hm, ht, hl⟩ := id hR
  obtain ⟨T, hk⟩ := hN.2.1
  refine CX11_village hr h_l ht (xPr.use (K_isOneOf _ _) ⟨_, rfl, rfl, rfl, rfl, ?_⟩)
  rw [hN.1.1.1.1, xb_eq0]
  unfold aVillage
  refine ⟨fun q => ⟨by rw [if_neg q], xSm.rf, rfl, rfl⟩, fun q => ?_⟩
  rw [Classical.not_not] at q
  rw [if_pos (show inN i (lV L) from q)]
  obtain ⟨v, hv, rfl⟩ := inN.get q (by omega)
  refine ⟨fun y => ?_, fun y => ?_, fun y => ⟨vpn (by omega) (by omega), ?_⟩, fun y0 y1 y2 => ?_⟩
  · subst y
    exact xPr.use (K_pileAt hr hk hN.2.2 _) ⟨_, rfl, rfl, rfl, rfl, by rw [if_pos rfl], xSm.rf, rfl, rfl⟩
  · subst y
    exact xPr.use (K_standingAt hr hb6 hk hN.2.2 (by omega)) ⟨_, rfl, rfl, rfl, rfl, by rw [if_neg (by decide), if_pos rfl], xSm.rf, rfl, rfl⟩
  · subst y
    rw [nc (by omega), hN.1.2.2.2.1 v (by omega)]
    exact ⟨by rw [if_neg (by decide), if_neg (by decide), if_pos rfl]; rfl, xSm.rf, rfl, rfl⟩
  · exact ⟨by rw [if_neg y0, if_neg y1, if_neg y2], xSm.rf, rfl, rfl⟩
theorem R_pileOf {u : xU} (hr : xRf r) (hS : gSt L (σ 89) n e σ) (h1 : u 684 = σ) (i : Int32) : xCall g (d + 1) mX12_pileOf [.ref 655, .int i] 698 u w r 698 (xPr (xset n (fun l => decide (σ (18 + l) = i))) u w r) := by
  have n10 := hS.1.2
  refine CX12_pileOf ?_
  refine xlq (N := n) (G := fun k => xEv g (d + 1) mX12_pileOf 4 [some (.ref 655), some (.int i), some (.int (xset k (fun l => decide (σ (18 + l) = i)))), some (.int (nI k))] [] 698 u w r 698 _) ?_ ?_
  · exact TX12_pileOf_4 hr (brT (by rw [h1, hS.1.1]; exact nI_le (Nat.le_refl _) (by omega)) ⟨rfl, rfl, rfl, rfl⟩)
  · intro k hkk kk
    refine TX12_pileOf_4 hr (brF (by rw [h1, hS.1.1]; exact nI_ge (by omega) (by omega)) ?_)
    simp (disch := omega) only [a18, nc]
    refine ⟨vpn (by omega) (by omega), xPr.use (R_truthb _) ⟨_, rfl, rfl, rfl, rfl, ?_⟩⟩
    rw [h1, or_sh (by omega), nI_one]
    rw [xset_s] at kk
    by_cases q : σ (18 + k) = i
    · rw [if_pos (decide_eq_true q)] at kk; rw [if_pos q]; exact kk
    · rw [if_neg (fun z => q (of_decide_eq_true z))] at kk; rw [if_neg q]; exact kk
theorem R_standing {u : xU} (hr : xRf r) (hB6 : lB L ≤ 6) (hL : rL u L) (h1 : u 684 = σ) (i : Int32) : xCall g (d + 1) mX12_standing [.ref 655, .int i] 698 u w r 698 (xPr (xset (lB L) (fun b => decide (σ b = 1 ∧ σ (6 + b) = i))) u w r) := by
  refine CX12_standing ?_
  refine xlq (N := lB L) (G := fun k => xEv g (d + 1) mX12_standing 4 [some (.ref 655), some (.int i), some (.int (xset k (fun b => decide (σ b = 1 ∧ σ (6 + b) = i)))), some (.int (nI k))] [] 698 u w r 698 _) ?_ ?_
  · exact TX12_standing_4 (brT (by rw [hL.1.2.2]; exact nI_le (Nat.le_refl _) (by omega)) ⟨rfl, rfl, rfl, rfl⟩)
  · intro k hkk kk
    refine TX12_standing_4 (brF (by rw [hL.1.2.2]; exact nI_ge (by omega) (by omega)) (xPr.use (R_standsAt hr (by omega) _) ⟨_, rfl, rfl, rfl, rfl, xPr.use (R_truthb _) ⟨_, rfl, rfl, rfl, rfl, ?_⟩⟩))
    rw [h1, or_sh (by omega), nI_one]
    rw [xset_s] at kk
    by_cases q : σ k = 1 ∧ σ (6 + k) = i
    · rw [if_pos (decide_eq_true q)] at kk; rw [if_pos q]; exact kk
    · rw [if_neg (fun z => q (of_decide_eq_true z))] at kk; rw [if_neg q]; exact kk
theorem R_besideOf {u : xU} (hr : xRf r) (hW : lWok L) (hE : rE u L (σ 89)) {v : Nat} (hv : v < 7) : xCall g (d + 2) mX12_besideOf [.ref 655, .int (nI v)] 698 u w r 698 (xPr (xset 7 (fun b => decide (¬ lD L (σ 89) v b = -1))) u w r) := by
  have hv7 := hW.1
  have e7 : xset 7 (fun b => decide (¬ lD L (σ 89) v b = -1)) = xset (lV L) (fun b => decide (¬ lD L (σ 89) v b = -1)) := by
    refine b_ext (fun i hi => ?_)
    rw [bt_xset (by omega) _ hi, bt_xset (by omega) _ hi]
    by_cases q : i < lV L
    · rw [decide_eq_true q, decide_eq_true (show i < 7 by omega)]
    · have : lD L (σ 89) v i = -1 := gDays_iso hW (Or.inr (by omega))
      rw [decide_eq_false q, Bool.false_and, this]
      simp
  rw [e7]
  refine CX12_besideOf ?_
  refine xlq (N := lV L) (G := fun k => xEv g (d + 2) mX12_besideOf 4 [some (.ref 655), some (.int (nI v)), some (.int (xset k (fun b => decide (¬ lD L (σ 89) v b = -1)))), some (.int (nI k))] [] 698 u w r 698 _) ?_ ?_
  · exact TX12_besideOf_4 (brT (by rw [hE.1.1.1]; exact nI_le (Nat.le_refl _) (by omega)) ⟨rfl, rfl, rfl, rfl⟩)
  · intro k hkk kk
    refine TX12_besideOf_4 (brF (by rw [hE.1.1.1]; exact nI_ge (by omega) (by omega)) (xPr.use (R_daysBetween hr hE hW hv (by omega)) ⟨_, rfl, rfl, rfl, rfl, xPr.use (R_truthb _) ⟨_, rfl, rfl, rfl, rfl, ?_⟩⟩))
    rw [or_sh (by omega), nI_one]
    rw [xset_s] at kk
    have ng := (lD_ok hW (σ 89)).neg v k
    by_cases q : ¬ lD L (σ 89) v k = -1
    · rw [if_pos (decide_eq_true q)] at kk; rw [if_pos (fun z => q (ng.mp z))]; exact kk
    · rw [if_neg (fun z => q (of_decide_eq_true z))] at kk; rw [if_neg (fun z => z (ng.mpr (Classical.not_not.mp q)))]; exact kk
theorem R_village {u : xU} (hr : xRf r) (hK : lOkk L) (hN : rN1 L n e u σ) (i k : Int32) : xCall g (d + 4) mX12_village [.ref 655, .int i, .int k] 698 u w r 698 (xIn (aVillage L n σ i k) (rA L n e σ u) w r) := by
  have hb6 := hK.2.2.1.1
  have hv7 := hK.1.1
  have hS := hN.2.2.1
  refine CX12_village (xPr.use (R_isVillage hN.1 hv7 i) ⟨_, rfl, rfl, rfl, rfl, ?_⟩)
  rw [xb_eq0]
  unfold aVillage
  refine ⟨fun q => ⟨by rw [if_neg q], rA.rf hN, rfl, rfl⟩, fun q => ?_⟩
  rw [Classical.not_not] at q
  rw [if_pos q]
  obtain ⟨v, hv, rfl⟩ := inN.get q (by omega)
  refine R_loaded hr hK hN (fun u1 h1 h2 h3 f1 => ⟨rfl, rfl, rfl, ?_⟩)
  have hA : rA L n e σ u u1 := ⟨f1, hN.keep f1 (fun j _ => by rw [h1])⟩
  refine ⟨fun y => ?_, fun y => ⟨fun y1 => ?_, fun y1 => ⟨fun y2 => ?_, fun y2 => ?_⟩⟩⟩
  · rw [if_pos y]
    exact xPr.use (R_pileOf hr hS h1 _) ⟨_, rfl, rfl, rfl, rfl, rfl, hA, rfl, rfl⟩
  · rw [if_neg y, if_pos y1]
    exact xPr.use (R_standing hr hb6 h3.1 h1 _) ⟨_, rfl, rfl, rfl, rfl, rfl, hA, rfl, rfl⟩
  · rw [if_neg y, if_neg y1, if_pos y2]
    refine xPr.use (R_besideOf hr hK.1 h3 (by omega)) ⟨_, rfl, rfl, rfl, rfl, ?_, hA, rfl, rfl⟩
    rw [nc (by omega)]
  · rw [if_neg y, if_neg y1, if_neg y2]
    exact ⟨rfl, hA, rfl, rfl⟩
theorem K_far {u : xU} (hK : lOkk L) (hR : kR r l) (hN : kN L l n e u σ) (i j : Int32) : xCall g (d + 1) mX11_far [.ref 8, .int i, .int j] 698 u w r 698 (xIn (aFar L σ i j) (xSm (fLk l) u) w r) := by
  have hv7 := hK.1.1
  obtain ⟨hr, h_l, q_l, hm, ht, hl⟩ := id hR
  refine CX11_far hr h_l ht (xPr.use (K_isOneOf _ _) ⟨_, rfl, rfl, rfl, rfl, ?_⟩)
  rw [hN.1.1.1.1, xb_eq0]
  unfold aFar
  refine ⟨fun q => ⟨by rw [if_neg (fun z => q z.1)], xSm.rf, rfl, rfl⟩, fun q => xPr.use (K_isOneOf _ _) ⟨_, rfl, rfl, rfl, rfl, ?_⟩⟩
  rw [Classical.not_not] at q
  rw [xb_eq0]
  refine ⟨fun q2 => ⟨by rw [if_neg (fun z => q2 z.2)], xSm.rf, rfl, rfl⟩, fun q2 => ?_⟩
  rw [Classical.not_not] at q2
  rw [if_pos (show inN i (lV L) ∧ inN j (lV L) from ⟨q, q2⟩)]
  obtain ⟨a, ha, rfl⟩ := inN.get q (by omega)
  obtain ⟨b, hb, rfl⟩ := inN.get q2 (by omega)
  refine xPr.use (K_distance' hr (by omega) (by omega)) ⟨_, rfl, rfl, rfl, rfl, ?_, xSm.rf, rfl, rfl⟩
  rw [nc (by omega), nc (by omega), hN.1.2.1 a b (by omega) (by omega)]
  rfl
theorem R_far {u : xU} (hr : xRf r) (hK : lOkk L) (hN : rN1 L n e u σ) (i j : Int32) : xCall g (d + 3) mX12_far [.ref 655, .int i, .int j] 698 u w r 698 (xIn (aFar L σ i j) (rA L n e σ u) w r) := by
  have hv7 := hK.1.1
  refine CX12_far (xPr.use (R_isVillage hN.1 hv7 i) ⟨_, rfl, rfl, rfl, rfl, ?_⟩)
  rw [xb_eq0]
  unfold aFar
  refine ⟨fun q => ⟨by rw [if_neg (fun z => q z.1)], rA.rf hN, rfl, rfl⟩, fun q => xPr.use (R_isVillage hN.1 hv7 j) ⟨_, rfl, rfl, rfl, rfl, ?_⟩⟩
  rw [Classical.not_not] at q
  rw [xb_eq0]
  refine ⟨fun q2 => ⟨by rw [if_neg (fun z => q2 z.2)], rA.rf hN, rfl, rfl⟩, fun q2 => ?_⟩
  rw [Classical.not_not] at q2
  rw [if_pos (show inN i (lV L) ∧ inN j (lV L) from ⟨q, q2⟩)]
  obtain ⟨a, ha, rfl⟩ := inN.get q (by omega)
  obtain ⟨b, hb, rfl⟩ := inN.get q2 (by omega)
  refine R_loaded hr hK hN (fun u1 h1 h2 h3 f1 => ⟨rfl, rfl, rfl, ?_⟩)
  have hA : rA L n e σ u u1 := ⟨f1, hN.keep f1 (fun j _ => by rw [h1])⟩
  refine xPr.use (R_farOf hr h3 (by omega) (by omega)) ⟨_, rfl, rfl, rfl, rfl, ?_, hA, rfl, rfl⟩
  rw [nc (by omega), nc (by omega)]
end VIEWS
