/-! A DAY in the class: the methods -/
theorem nI_inv {a b : Nat} (ha : a < 2147483648) (hb : b < 2147483648) (h : nI a = nI b) : a = b := (nI_eq ha hb).mp h
/-- when buried: T' says the day for those buried now, T for those before -/
def tRel (L : xU) (σ τ T T' : Nat → Int32) : Prop := (∀ b, b < lB L → σ b = 3 → T' b = T b) ∧ (∀ b, b < lB L → ¬ σ b = 3 → τ b = 3 → T' b = σ 90)
def fStillK (L : xU) (c : Int32) (σ : Nat → Int32) (k : Nat) : Bool := xfold k (fun b a => a && decide (σ b = 3 ∨ (σ b = 1 ∧ fTo L c σ b = -1))) true
def fStill (L : xU) (c : Int32) (σ : Nat → Int32) : Bool := fStillK L c σ (lB L)
theorem fStillK_iff (L : xU) (c : Int32) (σ : Nat → Int32) : ∀ k, fStillK L c σ k = true ↔ ∀ b, b < k → (σ b = 3 ∨ (σ b = 1 ∧ fTo L c σ b = -1)) := by
  intro k
  induction k with
  | zero => exact ⟨fun _ b hb => by omega, fun _ => rfl⟩
  | succ k ih =>
    show (fStillK L c σ k && decide (σ k = 3 ∨ (σ k = 1 ∧ fTo L c σ k = -1))) = true ↔ _
    rw [Bool.and_eq_true, ih, decide_eq_true_iff]
    refine ⟨fun h b hb => ?_, fun h => ⟨fun b hb => h b (by omega), h k (by omega)⟩⟩
    by_cases z : b = k
    · subst z; exact h.2
    · exact h.1 b (by omega)
section CDAY
variable {g : xGT} {d : Nat} {w : xW} {r : xQ} {L : xU} {c : Int32} {s l : Nat}
theorem K_bestBier {u : xU} {n e : Nat} {σ T : Nat → Int32} (hr : xRf r) (h_s : xSt s) (q_s : xSr s r) (h_l : xLd l) (q_l : xLr l r) (hm : r 52 1 = some l) (hE : kE u l L c) (hK : lOkk L) (hk : kSt L n u s σ T) (hS : gSt L c n e σ) {i v : Nat} (hi : i < n) (hv : v < lV L) (hvil : fVil σ i = nI v) :
    xCall g (d + 2) mX0_bestBier [.ref 52, .ref s, .int (nI i), .int (nI v)] 698 u w r 698 (xPr (fBest L c n i v σ) u w r) := by
  have hB := hK.2.2.1
  have hW := hK.1
  have hb6 := hB.1
  have hv7 := hW.1
  have n10 := hS.1.2
  rw [← cBest_eq hW hB hS hi hv hvil]
  obtain ⟨⟨t, ht, et⟩, -⟩ := hS.2.2.2.2.1 i hi
  obtain ⟨⟨k1, k2, k3, k4⟩, k5, -⟩ := hk.2.2.2 i hi
  refine CX0_bestBier hr h_s q_s ⟨vpn (by omega) (by omega), ?_⟩
  rw [nc (by omega), k5, k2, et]
  refine xPr.use (K_distance' hr (by omega) (by omega)) ⟨_, rfl, rfl, rfl, rfl, ?_⟩
  rw [hE.2.1 v t (by omega) (by omega)]
  have start : cBestK L c n i v σ 0 = (-1, lF L c v t) := by
    show (-1, lF L c v (σ (58 + i)).toNatClampNeg) = _
    rw [et, nc (by omega)]
  have G0 : xEv g (d + 2) mX0_bestBier 34 [some (.ref 52), some (.ref s), none, some (.int (nI v)), some (.int (nI t)), some (.int (σ (28 + i))), some (.int (cBestK L c n i v σ 0).1), some (.int (cBestK L c n i v σ 0).2), some (.int (nI 0)), none, none] [] 698 u w r 698 (xPr (cBestK L c n i v σ (lB L)).1 u w r) := by
    refine xlq (N := lB L) (G := fun k => xEv g (d + 2) mX0_bestBier 34 [some (.ref 52), some (.ref s), none, some (.int (nI v)), some (.int (nI t)), some (.int (σ (28 + i))), some (.int (cBestK L c n i v σ k).1), some (.int (cBestK L c n i v σ k).2), some (.int (nI k)), none, none] [] 698 u w r 698 (xPr (cBestK L c n i v σ (lB L)).1 u w r)) ?_ ?_
    · exact TX0_bestBier_34 hr h_s q_s h_l q_l hm (brT (by rw [hE.1.1.2.2]; exact nI_le (Nat.le_refl _) (by omega)) ⟨rfl, rfl, rfl, rfl⟩)
    · intro k hkk kk
      refine TX0_bestBier_34 hr h_s q_s h_l q_l hm (brF (by rw [hE.1.1.2.2]; exact nI_ge (by omega) (by omega)) ⟨fun _ => vpn (by omega) (by omega), ?_⟩)
      obtain ⟨b1, b2, b3, b4⟩ := hE.1.2.2.1 k hkk
      rw [nc (by omega), b4, b2, (hk.2.2.1 k hkk).2.2.2]
      rw [cBestK_s] at kk
      obtain ⟨ho1, ho2⟩ := hB.home hW hkk
      generalize hC : cBestK L c n i v σ k = C at kk
      refine xPr.use (K_stands h_s q_s hk hkk hb6) ⟨_, rfl, rfl, rfl, rfl, ?_⟩
      have e1 : ((if σ k = 1 then σ (6 + k) else -1) = nI v ∧ ¬ xb (nI k = σ (28 + i) ∨ ¬ L 7 k ≤ nI (fIn n σ k)) = 0) ↔ ((σ k = 1 ∧ σ (6 + k) = nI v) ∧ (nI k = σ (28 + i) ∨ ¬ L 7 k ≤ nI (fIn n σ k))) := by
        rw [xb_eq0, Classical.not_not]
        refine and_congr_left (fun _ => ?_)
        by_cases q : σ k = 1
        · rw [if_pos q]; exact ⟨fun z => ⟨q, z⟩, fun z => z.2⟩
        · rw [if_neg q]; exact ⟨fun z => absurd z.symm (nI_m1 (by omega)), fun z => absurd z.1 q⟩
      rw [e1]
      refine ⟨fun q => ⟨vpn (by omega) (by omega), ?_⟩, fun q => TX0_bestBier_152 ?_⟩
      · rw [if_pos q] at kk
        have en : fNear L c σ k (σ (58 + i)).toNatClampNeg = lM L c v (lH L k) t := by unfold fNear; rw [q.1.2, et, nc (by omega), nc (by omega)]
        rw [en] at kk
        rw [ho2]
        refine xPr.use (K_nearest hr hW hE.2.2.2.2 hE.2.1 hv (by omega) (by omega)) ⟨_, rfl, rfl, rfl, rfl, ?_⟩
        generalize lM L c v (lH L k) t = nr at kk ⊢
        refine ⟨fun q2 => TX0_bestBier_144 (TX0_bestBier_152 ?_), fun q2 => ⟨fun q3 => TX0_bestBier_144 (TX0_bestBier_152 ?_), fun q3 => TX0_bestBier_152 ?_⟩⟩
        · rw [if_pos (Or.inl q2)] at kk; rw [nI_one]; exact kk
        · rw [if_pos (Or.inr q3)] at kk; rw [nI_one]; exact kk
        · rw [if_neg (fun z => z.elim q2 q3)] at kk; rw [nI_one]; exact kk
      · rw [if_neg q] at kk; rw [nI_one]; exact kk
  rw [start] at G0
  exact G0
theorem K_stay {u : xU} {v b : Nat} {x : Int32} (hr : xRf r) (h_s : xSt s) (q_s : xSr s r) (h_l : xLd l) (q_l : xLr l r) (hm : r 52 1 = some l) (hE : kE u l L c) (hK : lOkk L) (hb : b < lB L) (hp : u (s + 2) b = nI v) (hv : v < lV L) (hd : u s 0 = x) :
    xCall g (d + 2) mX0_stay [.ref 52, .ref s, .int (nI b)] 698 u w r 698 (xIn (fVal L (qRow x (L 7 b) (lO L c v) (lF L c v (lH L b)))) (xSm (fun b => b = l + 14) u) w r) := by
  obtain ⟨hW, hD, hB, hf⟩ := hK
  have hb6 := hB.1
  have hv7 := hW.1
  obtain ⟨b1, b2, b3, b4⟩ := hE.1.2.2.1 b hb
  obtain ⟨ho1, ho2⟩ := hB.home hW hb
  refine CX0_stay hr h_s q_s h_l q_l hm ⟨vpn (by omega) (by omega), ?_⟩
  rw [nc (by omega), hp, b2, b4, ho2, hd]
  refine xPr.use (K_distance' hr (by omega) (by omega)) ⟨_, rfl, rfl, rfl, rfl, ?_⟩
  refine xPr.use (K_waysAt hr hW hD hE.2.2.2.1 (by omega)) ⟨_, rfl, rfl, rfl, rfl, ?_⟩
  rw [hE.2.1 v _ (by omega) (by omega), show gDist L c (lV L) (lW L) v (lH L b) = lF L c v (lH L b) from rfl]
  have hf12 : xFm (l + 12) := ⟨h_l.k12, h_l.k13, h_l.k14⟩
  refine xIn.use (K_value hf12 q_l.2 hE.1.2.2.2.2 hf _ _ _ _) (fun u1 h1 => ⟨_, rfl, rfl, rfl, ?_, h1, rfl, rfl⟩)
  rw [fVal_raw]
  generalize fRaw L (qRow x (L 7 b) (lO L c v) (lF L c v (lH L b))) = y
  unfold fClamp
  by_cases z1 : 0 ≤ y
  · by_cases z2 : y ≤ 9
    · rw [if_pos z1, if_pos z2]
      by_cases z3 : y < 9
      · rw [if_pos z3]
        by_cases z4 : 0 < y
        · rw [if_pos z4]
        · rw [if_neg z4]
          have : y = 0 := by rw [ti_eq]; rw [ti_le] at z1; rw [ti_lt] at z4; omega
          rw [this]
      · rw [if_neg z3]
        have : y = 9 := by rw [ti_eq]; rw [ti_le] at z2; rw [ti_lt] at z3; omega
        rw [this]
        rfl
    · rw [if_pos z1, if_neg z2, if_neg (show ¬ y < 9 by rw [ti_lt]; rw [ti_le] at z2; omega)]
      rfl
  · rw [if_neg z1]
    have l9 : y < 9 := by
      rw [ti_lt, show (9 : Int32).toInt = 9 from rfl]
      rw [ti_le, z_toInt] at z1
      omega
    rw [if_pos l9, if_neg (show ¬ 0 < y by rw [ti_lt]; rw [ti_le] at z1; omega)]
theorem K_bury {u : xU} {n e : Nat} {σ T : Nat → Int32} (h_s : xSt s) (q_s : xSr s r) (hB : lBk L) (hk : kSt L n u s σ T) (hS : gSt L c n e σ) {b v : Nat} (hb : b < lB L) (hp : σ (6 + b) = nI v) :
    xCall g (d + 2) mX0_bury [.ref s, .int (nI b)] 698 u w r 698 (xVd (fun u' => kSt L n u' s (fBuryK n b (nI v) (up (up (up σ b 3) (6 + b) (nI v)) (12 + b) (-1))) (up T b (σ 90)) ∧ xSm (fSt s) u u') w r) := by
  have hb6 := hB.1
  have n10 := hS.1.2
  refine CX0_bury h_s q_s ⟨vpn (by omega) (by omega), ?_⟩
  rw [nc (by omega), x2_a _ _ (show s ≠ s + 1 by omega), hk.1.1]
  generalize hX : up (up (up σ b 3) (6 + b) (nI v)) (12 + b) (-1) = X
  have X88 : X 88 = nI n := by rw [← hX, up_n (by omega), up_n (by omega), up_n (by omega)]; exact hS.1.1
  have XL : ∀ j, 18 ≤ j → X j = σ j := fun j hj => by rw [← hX, up_n (by omega), up_n (by omega), up_n (by omega)]
  refine xlp (N := n) (Q := fun k u' => kSt L n u' s (fBuryK k b (nI v) X) (up T b (σ 90)) ∧ xSm (fSt s) u u') (G := fun k u' => xEv g (d + 2) mX0_bury 19 [some (.ref s), some (.int (nI b)), some (.int (nI k))] [] 698 u' w r 698 _) ?_ ?_ ⟨?_, ?_⟩
  · intro u1 ⟨h1, h2⟩
    refine TX0_bury_19 h_s q_s (brT ?_ ⟨rfl, ⟨h1, h2⟩, rfl, rfl⟩)
    rw [h1.1.2.2, fBury_at _ _ _ n n10, if_neg (by omega), if_neg (by omega), X88]
    exact nI_le (Nat.le_refl _) (by omega)
  · intro k u1 hkk ⟨h1, h2⟩ kk
    refine TX0_bury_19 h_s q_s (brF ?_ ⟨vpn (by omega) (by omega), ?_⟩)
    · rw [h1.1.2.2, fBury_at _ _ _ k (by omega), if_neg (by omega), if_neg (by omega), X88]
      exact nI_ge (by omega) (by omega)
    · rw [nc (by omega), nc (by omega), (h1.2.2.2 k hkk).1.2.1, (h1.2.2.1 b hb).1]
      refine ⟨fun q => ⟨vpn (by omega) (by omega), ?_⟩, fun q => TX0_bury_48 ?_⟩
      · have e6 : fBuryK k b (nI v) X (6 + b) = nI v := by
          rw [fBury_at _ _ _ k (by omega), if_neg (by omega), if_neg (by omega), ← hX, up_n (by omega), up_s]
        rw [e6]
        refine xVd.use (K_putInPile h_s q_s hb6 n10 h1 hkk (Or.inr ⟨b, hb, q⟩) _) (fun u2 ⟨g1, g2⟩ => ⟨rfl, rfl, rfl, TX0_bury_48 ?_⟩)
        rw [nI_one]
        refine kk u2 ⟨?_, h2.tr g2⟩
        rw [fBuryK_s, if_pos q]
        exact g1
      · rw [nI_one]
        refine kk u1 ⟨?_, h2⟩
        rw [fBuryK_s, if_neg q]
        exact h1
  · show kSt L n _ s X (up T b (σ 90))
    rw [← hX]
    refine hk.bier hb hb6 n10 (fun k i a1 a2 a3 a4 => ?_) ?_ ?_ (fun z => absurd rfl z) (fun _ => ?_) (fun b' hb' => up_n hb')
    · rw [x2_ne _ _ (by omega), x2_ne _ _ (by omega)]
    · rw [x2_a _ _ (by omega), x2_same]
    · rw [x2_a _ _ (by omega), x2_a _ _ (by omega), (hk.2.2.1 b hb).1, hp]
    · rw [x2_same, up_s]
  · exact (xSm.rf.put ⟨by omega, by omega⟩).put ⟨by omega, by omega⟩
theorem K_arrive {u : xU} {n e : Nat} {σ T : Nat → Int32} (hr : xRf r) (h_s : xSt s) (q_s : xSr s r) (h_l : xLd l) (q_l : xLr l r) (hm : r 52 1 = some l) (hl : l + 14 < 52) (hs : 79 < s) (hE : kE u l L c) (hK : lOkk L) (hk : kSt L n u s σ T) (hS : gSt L c n e σ) :
    xCall g (d + 3) mX0_arrive [.ref 52, .ref s] 698 u w r 698 (xVd (fun u' => (∃ T', kSt L n u' s (fOne L c σ) T' ∧ tRel L σ (fOne L c σ) T T') ∧ xSm (fCd s l) u u') w r) := by
  have hB := hK.2.2.1
  have hW := hK.1
  have hb6 := hB.1
  have hv7 := hW.1
  have n10 := hS.1.2
  refine CX0_arrive ?_
  refine xlp (N := lB L) (Q := fun k u' => (∃ T', kSt L n u' s (xfold k (fOneB L c) σ) T' ∧ tRel L σ (xfold k (fOneB L c) σ) T T') ∧ (∀ b, k ≤ b → b < 6 → xfold k (fOneB L c) σ b = σ b ∧ xfold k (fOneB L c) σ (6 + b) = σ (6 + b)) ∧ xSm (fCd s l) u u') (G := fun k u' => xEv g (d + 3) mX0_arrive 2 [some (.ref 52), some (.ref s), some (.int (nI k)), none, none, none] [] 698 u' w r 698 _) ?_ ?_ ⟨⟨T, hk, fun _ _ _ => rfl, fun b _ h1 h2 => absurd h2 h1⟩, fun _ _ _ => ⟨rfl, rfl⟩, xSm.rf⟩
  · intro u1 ⟨h1, _, h2⟩
    have E1 := hE.kept h2 (by omega) (by omega)
    exact TX0_arrive_2 h_s q_s h_l q_l hm (brT (by rw [E1.1.1.2.2]; exact nI_le (Nat.le_refl _) (by omega)) ⟨rfl, ⟨h1, h2⟩, rfl, rfl⟩)
  · intro k u1 hkk ⟨⟨T1, h1, t1⟩, h0, h2⟩ kk
    have E1 : kE u1 l L c := hE.kept h2 (by omega) (by omega)
    have S1 : gSt L c n e (xfold k (fOneB L c) σ) := fOneK_st hW hB hS (by omega)
    obtain ⟨z1, z2⟩ := h0 k (Nat.le_refl _) (by omega)
    rw [xfold_s] at kk
    generalize hτ : xfold k (fOneB L c) σ = τ at *
    have e90 : τ 90 = σ 90 := S1.2.2.1.1.trans hS.2.2.1.1.symm
    obtain ⟨b1, b2, b3, b4⟩ := E1.1.2.2.1 k hkk
    obtain ⟨ho1, ho2⟩ := hB.home hW hkk
    obtain ⟨⟨v, hv, ev⟩, st⟩ := (S1.2.2.2.1 k (by omega)).1 hkk
    refine TX0_arrive_2 h_s q_s h_l q_l hm (brF (by rw [E1.1.1.2.2]; exact nI_ge (by omega) (by omega)) ⟨vpn (by omega) (by omega), ?_⟩)
    rw [nc (by omega), h1.2.1 k (by omega), b3, h1.1.1, (h1.2.2.1 k hkk).1, b2, ev, x2_a _ _ (show s ≠ s + 1 by omega), h1.1.1, xb_eq0, Classical.not_not, xb_eq0, Classical.not_not]
    have ecd : (τ k = 0 ∧ L 6 k = τ 90 ∨ τ k = 2 ∧ u1 (s + 3) k = τ 90) ↔ (τ k = 0 ∧ L 6 k = τ 90 ∨ τ k = 2 ∧ τ (12 + k) = τ 90) := by
      refine or_congr_right (and_congr_right (fun q => ?_))
      rw [(h1.2.2.1 k hkk).2.1 (by rw [q]; decide)]
    rw [ecd]
    have stepC : (τ k = 0 ∧ L 6 k = τ 90 ∨ τ k = 2 ∧ τ (12 + k) = τ 90) → fOneB L c k τ = fCome L c k v τ := by
      intro q
      unfold fOneB
      rcases q with q | q
      · have e4 : L 4 k = nI v := by
          rcases st with ⟨y1, y2⟩ | y | y | y
          · rw [← y2, ev]
          · rw [y] at q; exact absurd q.1 (by decide)
          · rw [y] at q; exact absurd q.1 (by decide)
          · rw [y] at q; exact absurd q.1 (by decide)
        rw [if_pos q, e4, nc (by omega)]
      · rw [if_neg (fun y => absurd (q.1.symm.trans y.1) (by decide)), if_pos q, ev, nc (by omega)]
    have fin : ∀ (u2 : xU) (T2 : Nat → Int32), kSt L n u2 s (fOneB L c k τ) T2 → tRel L σ (fOneB L c k τ) T T2 → xSm (fCd s l) u1 u2 → xEv g (d + 3) mX0_arrive 132 [some (.ref 52), some (.ref s), some (.int (nI k)), none, none, none] [] 698 u2 w r 698 (xVd (fun u' => (∃ T', kSt L n u' s (fOne L c σ) T' ∧ tRel L σ (fOne L c σ) T T') ∧ xSm (fCd s l) u u') w r) := by
      intro u2 T2 y1 y2 y3
      refine TX0_arrive_132 ?_
      rw [nI_one]
      refine kk u2 ⟨⟨T2, y1, y2⟩, fun b hkb hb => ?_, h2.tr y3⟩
      obtain ⟨x1, x2⟩ := h0 b (by omega) hb
      have := fCome_fr L c (v := v) (show k < 6 by omega) τ S1.1.1 S1.1.2
      by_cases q : τ k = 0 ∧ L 6 k = τ 90 ∨ τ k = 2 ∧ τ (12 + k) = τ 90
      · rw [stepC q, this b (by omega), this (6 + b) (by omega)]; exact ⟨x1, x2⟩
      · unfold fOneB
        rw [if_neg (fun y => q (Or.inl y)), if_neg (fun y => q (Or.inr y))]; exact ⟨x1, x2⟩
    have frT := fCome_fr L c (v := v) (show k < 6 by omega) τ S1.1.1 S1.1.2
    refine ⟨fun q => ⟨fun q2 => ?_, fun q2 => ?_⟩, fun q => fin u1 T1 ?_ ?_ xSm.rf⟩
    · have nb : ¬ σ k = 3 := fun y => by
        rw [z1] at q
        rcases q with q | q
        · rw [y] at q; exact absurd q.1 (by decide)
        · rw [y] at q; exact absurd q.1 (by decide)
      refine xVd.use (K_bury h_s q_s hB h1 S1 hkk ev) (fun u2 ⟨g1, g2⟩ => ⟨rfl, rfl, rfl, fin u2 _ (g1.cg (fun j hj => ?_) hb6 n10) ⟨fun b hb hb3 => ?_, fun b hb hb3 ht3 => ?_⟩ (g2.to (fun b hb => Or.inl hb))⟩)
      · rw [stepC q]
        unfold fCome
        rw [if_pos q2, S1.1.1, nc (by omega), fBury_at _ _ _ n n10, fBury_at _ _ _ n n10]
        have ex : ∀ j, up (up (up (up (up τ k 1) (6 + k) (nI v)) (12 + k) (τ 90 + fWt L c τ k v)) k 3) (12 + k) (-1) j = up (up (up τ k 3) (6 + k) (nI v)) (12 + k) (-1) j := by
          intro j
          unfold up
          by_cases y1 : j = 12 + k
          · rw [if_pos y1, if_pos y1]
          · rw [if_neg y1, if_neg y1, if_neg y1]
            by_cases y2 : j = k
            · rw [if_pos y2, if_neg (by omega), if_pos y2]
            · rw [if_neg y2, if_neg y2, if_neg y2]
        rw [ex, ex]
      · by_cases y : b = k
        · subst y; exact absurd hb3 nb
        · rw [up_n y]; exact t1.1 b hb hb3
      · by_cases y : b = k
        · subst y; rw [up_s, e90]
        · rw [up_n y]
          refine t1.2 b hb hb3 ?_
          rw [stepC q, frT b (by omega)] at ht3
          exact ht3
    · have hp : x2 u1 (s + 1) k 1 (s + 2) k = nI v := by rw [x2_a _ _ (by omega), (h1.2.2.1 k hkk).1, ev]
      have hd : x2 u1 (s + 1) k 1 s 0 = τ 90 := by rw [x2_a _ _ (by omega)]; exact h1.1.1
      have Ex : kE (x2 u1 (s + 1) k 1) l L c := E1.kept (F := fun b => b = s + 1) (xSm.rf.put rfl) (by omega) (by omega)
      refine xIn.use (K_stay hr h_s q_s h_l q_l hm Ex hK hkk hp hv hd) (fun u2 h3 => ⟨_, rfl, rfl, rfl, fin _ T1 ?_ ⟨fun b hb hb3 => t1.1 b hb hb3, fun b hb hb3 ht3 => ?_⟩ ?_⟩)
      · rw [stepC q]
        unfold fCome
        rw [if_neg q2]
        refine h1.bier hkk hb6 n10 (fun k' i a1 a2 a3 a4 => ?_) ?_ ?_ (fun _ => ?_) (fun y => absurd y (by decide)) (fun _ _ => rfl)
        · rw [x2_ne _ _ (by omega), h3 _ _ (by omega), x2_ne _ _ (by omega)]
        · rw [x2_a _ _ (by omega), h3 _ _ (by omega), x2_same]
        · rw [x2_a _ _ (by omega), h3 _ _ (by omega), hp]
        · rw [x2_same]; rfl
      · by_cases y : b = k
        · subst y
          rw [stepC q] at ht3
          unfold fCome at ht3
          rw [if_neg q2, up_n (by omega), up_n (by omega), up_s] at ht3
          exact absurd ht3 (by decide)
        · refine t1.2 b hb hb3 ?_
          rw [stepC q, frT b (by omega)] at ht3
          exact ht3
      · refine xSm.put (xSm.tr (v := x2 u1 (s + 1) k 1) (xSm.rf.put (Or.inl ⟨by omega, by omega⟩)) (h3.to (fun b hb => Or.inr hb))) (Or.inl ⟨by omega, by omega⟩)
    · unfold fOneB
      rw [if_neg (fun y => q (Or.inl y)), if_neg (fun y => q (Or.inr y))]
      exact h1
    · unfold fOneB
      rw [if_neg (fun y => q (Or.inl y)), if_neg (fun y => q (Or.inr y))]
      exact t1
theorem K_bringHome {u : xU} {n e : Nat} {σ T : Nat → Int32} (h_s : xSt s) (q_s : xSr s r) (hB : lBk L) (hW : lWok L) (hk : kSt L n u s σ T) (hS : gSt L c n e σ) :
    xCall g (d + 3) mX0_bringHome [.ref s] 698 u w r 698 (xIn (fTwo n σ).1 (fun u' => kSt L n u' s (fTwo n σ).2 T ∧ xSm (fSt s) u u') w r) := by
  have hb6 := hB.1
  have hv7 := hW.1
  have n10 := hS.1.2
  refine CX0_bringHome ?_
  refine xlp (N := n) (Q := fun k u' => kSt L n u' s (xfold k fTwoL (0, σ)).2 T ∧ xSm (fSt s) u u') (G := fun k u' => xEv g (d + 3) mX0_bringHome 4 [some (.ref s), some (.int (xfold k fTwoL (0, σ)).1), some (.int (nI k))] [] 698 u' w r 698 _) ?_ ?_ ⟨hk, xSm.rf⟩
  · intro u1 ⟨h1, h2⟩
    have S1 := fTwoK_st hB hS (Nat.le_refl n)
    exact TX0_bringHome_4 h_s q_s (brT (by rw [h1.1.2.2, S1.1.1]; exact nI_le (Nat.le_refl _) (by omega)) ⟨rfl, ⟨h1, h2⟩, rfl, rfl⟩)
  · intro k u1 hkk ⟨h1, h2⟩ kk
    have S1 := fTwoK_st hB hS (show k ≤ n by omega)
    rw [xfold_s] at kk
    generalize hp : xfold k fTwoL (0, σ) = p at *
    obtain ⟨cnt, τ⟩ := p
    replace h1 : kSt L n u1 s τ T := h1
    replace S1 : gSt L c n e τ := S1
    refine TX0_bringHome_4 h_s q_s (brF (by rw [h1.1.2.2, S1.1.1]; exact nI_ge (by omega) (by omega)) ?_)
    refine xPr.use (K_spotOf h_s q_s hB hW h1 S1 hkk) ⟨_, rfl, rfl, rfl, rfl, vpn (by omega) (by omega), ?_⟩
    rw [nc (by omega), (h1.2.2.2 k hkk).2.1]
    have st : fTwoL k (cnt, τ) = if fVil τ k < 0 ∨ ¬ fVil τ k = τ (58 + k) then (cnt, τ) else (cnt + 1, up (up (up τ (38 + k) (τ 90)) (18 + k) (-1)) (28 + k) (-1)) := rfl
    rw [st] at kk
    obtain ⟨⟨t, ht, et⟩, -⟩ := S1.2.2.2.2.1 k hkk
    refine ⟨fun q => ?_, fun q => TX0_bringHome_34 ?_⟩
    · rw [if_neg (fun z => z.elim (fun y => by rw [q, et] at y; exact nI_nn (by omega) y) (fun y => y q))] at kk
      refine xVd.use (K_putHome h_s q_s hb6 n10 h1 hkk (S1.own hkk)) (fun u2 ⟨g1, g2⟩ => ⟨rfl, rfl, rfl, TX0_bringHome_34 ?_⟩)
      rw [nI_one]
      exact kk u2 ⟨g1, h2.tr g2⟩
    · rw [if_pos (Or.inr q)] at kk
      rw [nI_one]
      exact kk u1 ⟨h1, h2⟩
theorem K_handOn {u : xU} {n e : Nat} {σ T : Nat → Int32} (hr : xRf r) (h_s : xSt s) (q_s : xSr s r) (h_l : xLd l) (q_l : xLr l r) (hm : r 52 1 = some l) (hl : l + 14 < 52) (hs : 79 < s) (hE : kE u l L c) (hK : lOkk L) (hk : kSt L n u s σ T) (hS : gSt L c n e σ) :
    xCall g (d + 3) mX0_handOn [.ref 52, .ref s] 698 u w r 698 (xVd (fun u' => kSt L n u' s (fThree L c n σ) T ∧ xSm (fSt s) u u') w r) := by
  have hB := hK.2.2.1
  have hW := hK.1
  have hb6 := hB.1
  have hv7 := hW.1
  have n10 := hS.1.2
  rw [fThree_eq hW hB hS]
  have I := fWv_I hW hB hS
  generalize hwv : fWv L σ = wv at I
  refine CX0_handOn ?_
  refine xlp (N := n) (Q := fun k u' => kSt L n u' s (fThreeC L c n k σ) T ∧ xSm (fSt s) u u') (G := fun k u' => xEv g (d + 3) mX0_handOn 2 [some (.ref 52), some (.ref s), some (.int (nI k)), none, none] [] 698 u' w r 698 _) ?_ ?_ ⟨hk, xSm.rf⟩
  · intro u1 ⟨h1, h2⟩
    have S1 : gSt L c n e (fThreeC L c n n σ) := by rw [← fThree_eq hW hB hS]; exact fThree_st hW hB hS
    exact TX0_handOn_2 h_s (brT (by rw [h1.1.2.2, S1.1.1]; exact nI_le (Nat.le_refl _) (by omega)) ⟨rfl, ⟨h1, h2⟩, rfl, rfl⟩)
  · intro k u1 hkk ⟨h1, h2⟩ kk
    have S1 : gSt L c n e (fThreeC L c n k σ) := by
      rw [fThreeC_eq hW hB I k (by omega)]
      exact (tA_I hW hB I (Nat.le_refl _) (by omega)).1
    rw [fThreeC_s] at kk
    generalize hτ : fThreeC L c n k σ = τ at *
    have E1 : kE u1 l L c := hE.kept h2 (by omega) (by omega)
    refine TX0_handOn_2 h_s (brF (by rw [h1.1.2.2, S1.1.1]; exact nI_ge (by omega) (by omega)) ?_)
    refine xPr.use (K_spotOf h_s q_s hB hW h1 S1 hkk) ⟨_, rfl, rfl, rfl, rfl, ?_⟩
    rcases fVil_or hB S1 hkk with q | ⟨v, hv, q, -⟩
    · rw [q] at kk ⊢
      rw [if_pos m1_neg] at kk
      refine brT rfl (TX0_handOn_52 ?_)
      rw [nI_one]
      exact kk u1 ⟨h1, h2⟩
    · have hvil := q
      rw [q] at kk ⊢
      rw [if_neg (nI_nn (by omega)), nc (by omega)] at kk
      refine brF (nI_m1 (by omega)) (xPr.use (K_bestBier hr h_s q_s h_l q_l hm E1 hK h1 S1 hkk hv hvil) ⟨_, rfl, rfl, rfl, rfl, ?_⟩)
      unfold fHand at kk
      rcases fBest_or hW hB S1 hkk hv hvil with y | ⟨b, y1, y2, -⟩
      · rw [y] at kk ⊢
        refine brT rfl (xVd.use (K_putInPile h_s q_s hb6 n10 h1 hkk (S1.own hkk) _) (fun u2 ⟨g1, g2⟩ => ⟨rfl, rfl, rfl, TX0_handOn_52 ?_⟩))
        rw [nI_one]
        refine kk u2 ⟨?_, h2.tr g2⟩
        unfold fLay
        rw [if_pos m1_neg]
        exact g1
      · rw [y2] at kk ⊢
        refine brF (nI_m1 (by omega)) (xVd.use (K_putInBier h_s q_s hb6 n10 h1 hkk y1 (S1.own hkk)) (fun u2 ⟨g1, g2⟩ => ⟨rfl, rfl, rfl, TX0_handOn_52 ?_⟩))
        rw [nI_one]
        refine kk u2 ⟨?_, h2.tr g2⟩
        unfold fLay
        rw [if_neg (nI_nn (by omega))]
        exact g1
end CDAY
