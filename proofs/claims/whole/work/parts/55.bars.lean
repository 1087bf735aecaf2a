/-! QUESTIONS: bars -/
/-- the first least set of ways that part v and o -/
def brK (L : xU) (c : Int32) (v o : Nat) (k : Nat) : Int32 := xfold k (fun j b => if (cn 12 (bt (nI j)) ≤ 3 ∧ nI j &&& c = 0 ∧ ¬ lF L (c ||| nI j) v o < 1000) ∧ (b = -1 ∨ cn 12 (bt (nI j)) < cn 12 (bt b)) then nI j else b) (-1)
theorem brK_s (L : xU) (c : Int32) (v o : Nat) (k : Nat) : brK L c v o (k + 1) = if (cn 12 (bt (nI k)) ≤ 3 ∧ nI k &&& c = 0 ∧ ¬ lF L (c ||| nI k) v o < 1000) ∧ (brK L c v o k = -1 ∨ cn 12 (bt (nI k)) < cn 12 (bt (brK L c v o k))) then nI k else brK L c v o k := rfl
theorem brK_or (L : xU) (c : Int32) (v o : Nat) : ∀ k, brK L c v o k = -1 ∨ ∃ j, j < k ∧ brK L c v o k = nI j ∧ cn 12 (bt (nI j)) ≤ 3 := by
  intro k
  induction k with
  | zero => exact Or.inl rfl
  | succ k ih =>
    rw [brK_s]
    split
    · next q => exact Or.inr ⟨k, by omega, rfl, q.1.1⟩
    · rcases ih with h | ⟨j, h1, h2⟩
      · exact Or.inl h
      · exact Or.inr ⟨j, by omega, h2⟩
def bFew (b : Int32) : Nat := if b = -1 then 4 else cn 12 (bt b)
def aBars (L : xU) (σ : Nat → Int32) (i j k : Int32) : Int32 := if (inN i (lV L) ∧ inN j (lV L)) ∧ ¬ i = j then aPick (brK L (σ 89) i.toNatClampNeg j.toNatClampNeg (2 ^ lW L)) k else -1
section BARS
variable {g : xGT} {d : Nat} {w : xW} {r : xQ} {L : xU} {c : Int32} {l n e : Nat} {σ : Nat → Int32}
theorem K_reachedFrom {u : xU} (h_l : xLd l) (q_l : xLr l r) (hW : lWok L) (hL : kL u l L) (c : Int32) {v : Nat} (hv : v < lV L) : xCall g d mX2_reachedFrom [.ref l, .int (nI v), .int c] 698 u w r 698 (xPr (rIt L c v 7) u w r) := by
  have hv7 := hW.1
  have hw12 := hW.2.1
  refine CX2_reachedFrom ?_
  have lk : ∀ B : Int32, (0 = 0 ∧ B = 0 ∨ ∃ i, 0 = i + 1 ∧ B = rIt L c v i) → xEv g d mX2_reachedFrom 10 [some (.ref l), none, some (.int c), some (.int (rIt L c v 0)), some (.int B), some (.int (nI 0)), none, none] [] 698 u w r 698 (xPr (rIt L c v 7) u w r) := by
    refine xlq (N := 7) (G := fun k => ∀ B : Int32, (k = 0 ∧ B = 0 ∨ ∃ i, k = i + 1 ∧ B = rIt L c v i) → xEv g d mX2_reachedFrom 10 [some (.ref l), none, some (.int c), some (.int (rIt L c v k)), some (.int B), some (.int (nI k)), none, none] [] 698 u w r 698 _) ?_ ?_
    · intro B hB
      exact TX2_reachedFrom_10 (brF (fun q => q.1 (nI_le (a := 7) (Nat.le_refl _) (by omega))) ⟨rfl, rfl, rfl, rfl⟩)
    · intro k hk kk B hB
      refine TX2_reachedFrom_10 ⟨fun q => ?_, fun q => ⟨?_, rfl, rfl, rfl⟩⟩
      · have lk2 : xEv g d mX2_reachedFrom 29 [some (.ref l), none, some (.int c), some (.int (rSwp L c 0 (rIt L c v k))), some (.int (rIt L c v k)), some (.int (nI k)), some (.int (nI 0)), none] [] 698 u w r 698 (xPr (rIt L c v 7) u w r) := by
          refine xlq (N := lW L) (G := fun m => xEv g d mX2_reachedFrom 29 [some (.ref l), none, some (.int c), some (.int (rSwp L c m (rIt L c v k))), some (.int (rIt L c v k)), some (.int (nI k)), some (.int (nI m)), none] [] 698 u w r 698 _) ?_ ?_
          · refine TX2_reachedFrom_29 h_l q_l (brT (by rw [hL.1.2.1]; exact nI_le (Nat.le_refl _) (by omega)) ?_)
            rw [nI_one]
            exact kk _ (Or.inr ⟨k, rfl, rfl⟩)
          · intro m hm kk2
            refine TX2_reachedFrom_29 h_l q_l (brF (by rw [hL.1.2.1]; exact nI_ge (by omega) (by omega)) ⟨vpn (by omega) (by omega), ?_⟩)
            obtain ⟨w1, w2, -⟩ := hL.2.1.2 m hm
            rw [nc (by omega), w1, w2]
            rw [rSwp_s] at kk2
            refine ⟨fun q2 => TX2_reachedFrom_80 ?_, fun q2 => TX2_reachedFrom_80 ?_⟩
            · rw [if_pos (show gOpen c m ∧ ¬ rSwp L c m (rIt L c v k) &&& rEn L m = 0 from q2)] at kk2
              rw [nI_one]; exact kk2
            · rw [if_neg (show ¬ (gOpen c m ∧ ¬ rSwp L c m (rIt L c v k) &&& rEn L m = 0) from q2)] at kk2
              rw [nI_one]; exact kk2
        exact lk2
      · have e1 : B = rIt L c v k := Classical.byContradiction (fun z => q ⟨nI_ge (b := 7) (by omega) (by omega), z⟩)
        rcases hB with ⟨k0, hB⟩ | ⟨i, hi, hB⟩
        · exfalso
          have := rIt_at hW c hv k
          rw [← e1, hB, b_0] at this
          cases this
        · subst hi
          rw [rIt_stay (i := i) (by rw [← e1, hB]) 7 (by omega), ← hB, e1]
  exact lk 0 (Or.inl ⟨rfl, rfl⟩)
theorem bars_lt {b : Int32} {m : Nat} (hb : b = -1 ∨ ∃ j, j < 4096 ∧ b = nI j ∧ cn 12 (bt (nI j)) ≤ 3) : m < bFew b ↔ (m ≤ 3 ∧ (b = -1 ∨ m < cn 12 (bt b))) := by
  unfold bFew
  rcases hb with h | ⟨j, j1, h, h3⟩
  · rw [if_pos h]; exact ⟨fun q => ⟨by omega, Or.inl h⟩, fun q => by omega⟩
  · subst h
    have z : ¬ nI j = -1 := nI_m1 (by omega)
    rw [if_neg z]
    exact ⟨fun q => ⟨by omega, Or.inr q⟩, fun q => q.2.resolve_left z⟩
theorem lF_lt {L : xU} (c : Int32) (v o : Nat) : lF L c v o < 1000 ↔ (lF L c v o).toInt < 1000 := by rw [ti_lt, k_toInt]
theorem K_bars {u : xU} (hK : lOkk L) (hR : kR r l) (hN : kN L l n e u σ) (i j k : Int32) : xCall g (d + 3) mX11_bars [.ref 8, .int i, .int j, .int k] 698 u w r 698 (xIn (aBars L σ i j k) (xSm (fLk l) u) w r) := by
  have hv7 := hK.1.1
  have hw12 := hK.1.2.1
  obtain ⟨hr, h_l, q_l, hm, ht, hl⟩ := id hR
  obtain ⟨T, hk⟩ := hN.2.1
  have h4096 : 2 ^ lW L ≤ 4096 := Nat.le_trans (Nat.pow_le_pow_right (by omega) hw12) (by decide)
  refine CX11_bars (xPr.use (K_areTwoVillages h_l ht hN.1.1 i j) ⟨_, rfl, rfl, rfl, rfl, ?_⟩)
  rw [xb_eq0]
  unfold aBars
  refine ⟨fun q => ⟨by rw [if_neg q], xSm.rf, rfl, rfl⟩, fun q => ?_⟩
  rw [Classical.not_not] at q
  rw [if_pos q]
  obtain ⟨v, hv, rfl⟩ := inN.get q.1.1 (by omega)
  obtain ⟨o, ho, rfl⟩ := inN.get q.1.2 (by omega)
  rw [nc (by omega), nc (by omega)]
  refine xlq (N := 2 ^ lW L) (G := fun m => xEv g (d + 3) mX11_bars 20 [some (.ref 8), some (.int (nI v)), some (.int (nI o)), some (.int k), some (.int (brK L (σ 89) v o m)), some (.int (nI (bFew (brK L (σ 89) v o m)))), some (.int (nI m)), none] [] 698 u w r 698 _) ?_ ?_
  · refine TX11_bars_20 hr h_l ht ?_
    rw [hN.1.1.1.2.1, sh_pow _ (by omega)]
    refine brT (nI_le (Nat.le_refl _) (by omega)) (xPr.use (K_countOrSet (d := d + 1) ?_) ⟨_, rfl, rfl, rfl, rfl, rfl, xSm.rf, rfl, rfl⟩)
    rcases brK_or L (σ 89) v o (2 ^ lW L) with h | ⟨j, h1, h2, -⟩
    · exact Or.inl h
    · exact Or.inr ⟨j, by omega, h2⟩
  · intro m hmm kk
    refine TX11_bars_20 hr h_l ht ?_
    rw [hN.1.1.1.2.1, sh_pow _ (by omega)]
    refine brF (nI_ge hmm (by omega)) ?_
    have orr : brK L (σ 89) v o m = -1 ∨ ∃ j, j < 4096 ∧ brK L (σ 89) v o m = nI j ∧ cn 12 (bt (nI j)) ≤ 3 := by
      rcases brK_or L (σ 89) v o m with h | ⟨j, h1, h2⟩
      · exact Or.inl h
      · exact Or.inr ⟨j, by omega, h2⟩
    rw [brK_s] at kk
    generalize brK L (σ 89) v o m = b at kk orr
    have few12 : bFew b < 13 := by
      unfold bFew
      split
      · omega
      · have := cn_le 12 (bt b); omega
    have c12 := cn_le 12 (bt (nI m))
    have no : ¬ ((cn 12 (bt (nI m)) ≤ 3 ∧ nI m &&& σ 89 = 0 ∧ ¬ lF L (σ 89 ||| nI m) v o < 1000) ∧ (b = -1 ∨ cn 12 (bt (nI m)) < cn 12 (bt b))) → xEv g (d + 3) mX11_bars 94 [some (.ref 8), some (.int (nI v)), some (.int (nI o)), some (.int k), some (.int b), some (.int (nI (bFew b))), some (.int (nI m)), none] [] 698 u w r 698 (xIn (aPick (brK L (σ 89) v o (2 ^ lW L)) k) (xSm (fLk l) u) w r) := by
      intro h
      rw [if_neg h] at kk
      refine TX11_bars_94 ?_
      rw [nI_one]; exact kk
    have ltf := bars_lt (b := b) (m := cn 12 (bt (nI m))) orr
    refine xPr.use (K_bitCount (fun i i1 i2 => bt_nI_0 (m := 12) (by omega) i1 i2)) ⟨_, rfl, rfl, rfl, rfl, ?_⟩
    rw [le_nI (by omega) (by omega), hk.1.2.1]
    refine ⟨fun q1 => xPr.use (K_reachedFrom h_l q_l hK.1 hN.1.1 _ hv) ⟨_, rfl, rfl, rfl, rfl, ?_⟩, fun q1 => no (fun z => q1 ⟨by have := ltf.mpr ⟨z.1.1, z.2⟩; omega, z.1.2.1⟩)⟩
    have l1 := ltf.mp (by omega)
    have e1 := rIt_iff hK.1 (σ 89 ||| nI m) hv ho
    rw [test_0 (by omega)]
    refine ⟨fun q2 => TX11_bars_94 ?_, fun q2 => no (fun z => z.1.2.2 ((lF_lt _ _ _).mpr (e1.mp (by simpa using q2))))⟩
    rw [if_pos ⟨⟨l1.1, q1.2, fun z => by rw [e1.mpr ((lF_lt _ _ _).mp z)] at q2; cases q2⟩, l1.2⟩] at kk
    rw [nI_one]
    have ef : bFew (nI m) = cn 12 (bt (nI m)) := by
      unfold bFew
      rw [if_neg (nI_m1 (by omega))]
    rw [ef] at kk
    exact kk
theorem R_bars {u : xU} (hr : xRf r) (hK : lOkk L) (hN : rN1 L n e u σ) (i j k : Int32) : xCall g (d + 4) mX12_bars [.ref 655, .int i, .int j, .int k] 698 u w r 698 (xIn (aBars L σ i j k) (rA L n e σ u) w r) := by
  have hv7 := hK.1.1
  have hw12 := hK.1.2.1
  have h4096 : 2 ^ lW L ≤ 4096 := Nat.le_trans (Nat.pow_le_pow_right (by omega) hw12) (by decide)
  refine CX12_bars (xPr.use (R_isVillage hN.1 hv7 i) ⟨_, rfl, rfl, rfl, rfl, ?_⟩)
  rw [xb_eq0]
  unfold aBars
  refine ⟨fun q => ⟨by rw [if_neg (fun z => q z.1.1)], rA.rf hN, rfl, rfl⟩, fun q => xPr.use (R_isVillage hN.1 hv7 j) ⟨_, rfl, rfl, rfl, rfl, ?_⟩⟩
  rw [Classical.not_not] at q
  rw [xb_eq0, Classical.not_not]
  refine ⟨fun q2 => ?_, fun q2 => ⟨by rw [if_neg (fun z => q2 ⟨z.1.2, z.2⟩)], rA.rf hN, rfl, rfl⟩⟩
  rw [if_pos ⟨⟨q, q2.1⟩, q2.2⟩]
  obtain ⟨v, hv, rfl⟩ := inN.get q (by omega)
  obtain ⟨o, ho, rfl⟩ := inN.get q2.1 (by omega)
  rw [nc (by omega), nc (by omega)]
  have k01 : (¬ k < 0 ∧ ¬ (1 : Int32) < k) ↔ (k = 0 ∨ k = 1) := by
    rw [ti_lt, ti_lt, ti_eq, ti_eq, z_toInt, show (1 : Int32).toInt = 1 from rfl]
    omega
  refine xPr.use (R_isIn _ _ _) ⟨_, rfl, rfl, rfl, rfl, ?_⟩
  rw [xb_eq0, k01]
  refine ⟨fun z => ⟨?_, rA.rf hN, rfl, rfl⟩, fun z => ?_⟩
  · unfold aPick
    rw [if_neg (fun y => z (Or.inl y)), if_neg (fun y => z (Or.inr y)), ite_self]
  · rw [Classical.not_not] at z
    refine xlp (N := 2 ^ lW L) (Q := fun _ u' => rA L n e σ u u') (G := fun m u' => xEv g (d + 4) mX12_bars 38 [some (.ref 655), some (.int (nI v)), some (.int (nI o)), some (.int k), some (.int (brK L (σ 89) v o m)), some (.int (nI m))] [] 698 u' w r 698 _) ?_ ?_ (rA.rf hN)
    · intro u1 hA
      refine TX12_bars_38 ?_
      rw [hA.2.1.1.2.1, sh_pow _ (by omega)]
      refine brT (nI_le (Nat.le_refl _) (by omega)) ?_
      have orr := brK_or L (σ 89) v o (2 ^ lW L)
      generalize brK L (σ 89) v o (2 ^ lW L) = b at orr
      unfold aPick
      rcases orr with y | ⟨p, p1, y, -⟩
      · rw [if_pos y]
        exact brF (by rw [y]; decide) ⟨rfl, hA, rfl, rfl⟩
      · rw [if_neg (by rw [y]; exact nI_m1 (by omega))]
        refine brT (by rw [y]; exact nI_pos' (by omega)) ⟨fun x => xPr.use (R_members _) ⟨_, rfl, rfl, rfl, rfl, ?_, hA, rfl, rfl⟩, fun x => ⟨?_, hA, rfl, rfl⟩⟩
        · rw [if_pos x]
        · rw [if_neg x, if_pos (z.resolve_left x)]
    · intro m u1 hmm hA kk
      refine TX12_bars_38 ?_
      rw [hA.2.1.1.2.1, sh_pow _ (by omega)]
      refine brF (nI_ge hmm (by omega)) ?_
      have orr : brK L (σ 89) v o m = -1 ∨ ∃ j, j < 4096 ∧ brK L (σ 89) v o m = nI j ∧ cn 12 (bt (nI j)) ≤ 3 := by
        rcases brK_or L (σ 89) v o m with h | ⟨j, h1, h2⟩
        · exact Or.inl h
        · exact Or.inr ⟨j, by omega, h2⟩
      rw [brK_s] at kk
      generalize brK L (σ 89) v o m = b at kk orr
      have c12 := cn_le 12 (bt (nI m))
      have c12' := cn_le 12 (bt b)
      have no : ∀ u2, rA L n e σ u u2 → ¬ ((cn 12 (bt (nI m)) ≤ 3 ∧ nI m &&& σ 89 = 0 ∧ ¬ lF L (σ 89 ||| nI m) v o < 1000) ∧ (b = -1 ∨ cn 12 (bt (nI m)) < cn 12 (bt b))) → xEv g (d + 4) mX12_bars 128 [some (.ref 655), some (.int (nI v)), some (.int (nI o)), some (.int k), some (.int b), some (.int (nI m))] [] 698 u2 w r 698 (xIn (aPick (brK L (σ 89) v o (2 ^ lW L)) k) (rA L n e σ u) w r) := by
        intro u2 hA2 h
        rw [if_neg h] at kk
        refine TX12_bars_128 ?_
        rw [nI_one]; exact kk u2 hA2
      have go : cn 12 (bt (nI m)) ≤ 3 → (b = -1 ∨ cn 12 (bt (nI m)) < cn 12 (bt b)) → xEv g (d + 4) mX12_bars 76 [some (.ref 655), some (.int (nI v)), some (.int (nI o)), some (.int k), some (.int b), some (.int (nI m))] [] 698 u1 w r 698 (xIn (aPick (brK L (σ 89) v o (2 ^ lW L)) k) (rA L n e σ u) w r) := by
        intro l1 l2
        refine TX12_bars_76 hr ?_
        rw [hA.2.2.1]
        refine ⟨fun q3 => ?_, fun q3 => no u1 hA (fun y => q3 y.1.2.1)⟩
        refine R_loaded (d := d + 1) hr hK hA.2 (fun u2 h2 h3 h4 f2 => ⟨rfl, rfl, rfl, ?_⟩)
        rw [h2]
        have L2 : rL (x2 u2 684 89 (σ 89 ||| nI m)) L := h4.1.kept (fun b => b = 684) (fun b i hb => x2_a _ _ hb) (by omega) (by omega) (by omega)
        refine xVd.use (R_layFar (d := d + 2) hr L2 hK.1) (fun u3 ⟨h5, f3⟩ => ⟨rfl, rfl, rfl, ?_⟩)
        rw [x2_same] at h5
        have E3 : rE u3 L (σ 89 ||| nI m) := ⟨L2.kept _ f3 (by omega) (by omega) (by omega), h5, by rw [f3 _ _ (by omega), x2_same]⟩
        have hA3 : rA L n e σ u u3 := by
          have f13 : xSn fRx u u3 := (hA.1.tr f2).tr (fun b i hb => by
            rw [f3 b i (fun y => hb (by unfold fRx; omega)), x2_a _ _ (fun y => hb (by unfold fRx; omega))])
          refine ⟨f13, hN.keep f13 (fun j hj => ?_)⟩
          rw [f3 _ _ (by omega), x2_i _ _ (by omega), h2]
        refine xPr.use (R_farOf hr E3 (by omega) (by omega)) ⟨_, rfl, rfl, rfl, rfl, fun q4 => no u3 hA3 (fun y => y.1.2.2 q4), fun q4 => TX12_bars_128 ?_⟩
        rw [if_pos ⟨⟨l1, q3, q4⟩, l2⟩] at kk
        rw [nI_one]; exact kk u3 hA3
      refine xPr.use (R_members _) ⟨_, rfl, rfl, rfl, rfl, ?_⟩
      rw [show (3 : Int32) = nI 3 from rfl, lt_nI (by omega) (by omega)]
      refine ⟨fun q1 => no u1 hA (fun y => by have := y.1.1; omega), fun q1 => ?_⟩
      rcases orr with y | ⟨p, p1, y, -⟩
      · exact brT (by rw [y]; decide) (go (by omega) (Or.inl y))
      · refine brF (by rw [y]; exact nI_nn (by omega)) (xPr.use (R_members _) ⟨_, rfl, rfl, rfl, rfl, xPr.use (R_members _) ⟨_, rfl, rfl, rfl, rfl, ?_⟩⟩)
        rw [le_nI (by omega) (by omega)]
        exact ⟨fun q5 => no u1 hA (fun t => t.2.elim (fun t => by rw [y] at t; exact nI_m1 (by omega) t) (fun t => by omega)), fun q5 => go (by omega) (Or.inr (by omega))⟩
end BARS
