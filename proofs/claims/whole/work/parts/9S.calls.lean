/-! EVERY CALL: class and reference answer alike -/
theorem K_trace2 {g : xGT} {d : Nat} {w : xW} {r : xQ} {L : xU} {l n e : Nat} {σ : Nat → Int32} {u : xU} (hK : lOkk L) (hR : kR r l) (hN : kN L l n e u σ) (i j : Int32) : xCall g (d + 6) mX11_trace [.ref 8, .int i, .int j] 698 u w r 698 (xIn (aTrA L e σ i j) (fun u' => cLy u' (aTrM L e σ i j) (aTrY L e σ i j) ∧ xSm (fTq l) u u' ∧ aTrM L e σ i j ≤ 20) w r) := by
  have hv7 := hK.1.1
  obtain ⟨hr, h_l, q_l, hm, ht, hl⟩ := id hR
  have f1 : xSm (fun b => b = 8) u (x2 u 8 9 0) := (xSm.rf (F := fun b => b = 8)).put rfl
  have N1 : kN L l n e (x2 u 8 9 0) σ := by
    refine hN.kept hR f1 (fun b hb => ?_)
    have h8 := xKK_ge h_l.k0
    have : l ≠ 8 := fun z => by rw [z] at h_l; have := h_l.k0.symm.trans kk8; cases this
    omega
  refine CX11_trace hr (xPr.use (K_areTwoVillages h_l ht N1.1.1 i j) ⟨_, rfl, rfl, rfl, rfl, ?_⟩)
  rw [xb_eq0]
  have f1' : xSm (fTq l) u (x2 u 8 9 0) := f1.to (fun b hb => Or.inr (Or.inl hb))
  by_cases q : (inN i (lV L) ∧ inN j (lV L)) ∧ ¬ i = j
  · have eA : aTrA L e σ i j = (tE L e σ i.toNatClampNeg j.toNatClampNeg).1 38 := if_pos q
    refine brF (fun z => z q) ?_
    unfold aTrM aTrY
    rw [eA]
    obtain ⟨v, hv, rfl⟩ := inN.get q.1.1 (by omega)
    obtain ⟨o, ho, rfl⟩ := inN.get q.1.2 (by omega)
    rw [nc (by omega), nc (by omega)]
    refine xIn.use (K_follow hK hR N1 hv ho) (fun u2 ⟨h1, h2, f2⟩ => ⟨_, rfl, rfl, rfl, fun z => ⟨rfl, ⟨?_, ?_, ?_⟩, rfl, rfl⟩, fun z => ⟨rfl, ⟨?_, ?_, ?_⟩, rfl, rfl⟩⟩)
    · rw [if_pos z]
      have h8 := xKK_ge h_l.k0
      have n8 : l ≠ 8 := fun y => by rw [y] at h_l; have := h_l.k0.symm.trans kk8; cases this
      exact ⟨by rw [f2 8 9 (by omega), x2_same]; rfl, fun i hi => by omega⟩
    · exact f1'.tr (f2.to (fun b hb => Or.inl (fFo_lk hb)))
    · rw [if_pos z]; omega
    · rw [if_neg z]
      refine ⟨by rw [x2_same]; exact h1.1, fun i hi => ?_⟩
      have := h2.1
      rw [x2_a _ _ (by omega), xcp_eq (by omega)]
      exact h1.2.1 i hi
    · have f3 : xSm (fTq l) u2 (xcp u2 93 654 300) := (xSm.rf (F := fTq l)).cp (Or.inr (Or.inr rfl))
      exact ((f1'.tr (f2.to (fun b hb => Or.inl (fFo_lk hb)))).tr f3).put (Or.inr (Or.inl rfl))
    · rw [if_neg z]
      have := h2.1
      omega
  · have eA : aTrA L e σ i j = -1 := if_neg q
    have eM : aTrM L e σ i j = 0 := if_pos eA
    refine brT q ⟨by rw [eA], ⟨?_, f1', ?_⟩, rfl, rfl⟩
    · rw [eM]
      exact ⟨x2_same _ _ _ _, fun i hi => by omega⟩
    · rw [eM]; omega
theorem rN1.kept2 {L : xU} {n e : Nat} {σ : Nat → Int32} {u u' : xU} (h : rN1 L n e u σ) {F : Nat → Nat → Prop} (f : xSn F u u') (hF : ∀ b i, ((660 ≤ b ∧ b < 662) ∨ (668 ≤ b ∧ b < 671) ∨ (675 ≤ b ∧ b < 679) ∨ b = 683 ∨ b = 684 ∨ (b = 655 ∧ ((49 ≤ i ∧ i ≤ 53) ∨ i = 18 ∨ i = 56))) → ¬ F b i) : rN1 L n e u' σ := by
  obtain ⟨⟨⟨a1, a2, a3⟩, b1, b2, b3, b4, b5, b6, b7, b8, b9, c1, c2, c3, c4⟩, d1, d2, d3⟩ := h
  have eb : ∀ b, ((660 ≤ b ∧ b < 662) ∨ (668 ≤ b ∧ b < 671) ∨ (675 ≤ b ∧ b < 679) ∨ b = 683) → u' b = u b := fun b hb => funext fun i => f b i (hF b i (by omega))
  exact ⟨⟨⟨(f _ _ (hF _ _ (by omega))).trans a1, (f _ _ (hF _ _ (by omega))).trans a2, (f _ _ (hF _ _ (by omega))).trans a3⟩, (eb _ (by omega)).trans b1, (eb _ (by omega)).trans b2, (eb _ (by omega)).trans b3, (eb _ (by omega)).trans b4, (eb _ (by omega)).trans b5, (eb _ (by omega)).trans b6, (eb _ (by omega)).trans b7, (eb _ (by omega)).trans b8, (eb _ (by omega)).trans b9, (f _ _ (hF _ _ (by omega))).trans c1, (f _ _ (hF _ _ (by omega))).trans c2, (f _ _ (hF _ _ (by omega))).trans c3, (f _ _ (hF _ _ (by omega))).trans c4⟩, (eb 683 (by omega)).trans d1, d2, fun j hj => by rw [f _ _ (hF 684 j (by omega)), f _ _ (hF 683 j (by omega))]; exact d3 j hj⟩
section VCALL
variable {g : xGT} {k d : Nat} {u : xU} {w : xW} {r : xQ} {L : xU} {l l2 o n e a b h t m N : Nat} {σ Y T : Nat → Int32} {RS BR : Nat → Nat → Int32} {Z u' : xU} {BF : Nat → Bool} {f p : Int32}
theorem v_two {mc mr : xMI} {ac ar : List Value} {A : Int32} {Bc : xU → Prop} {Br : xU → xU → Prop} (hc : xCall g d mc ac 698 u w r 698 (xIn A Bc w r)) (h1 : ∀ u1, Bc u1 → xCall g d mr ar 698 u1 w r 698 (xIn A (Br u1) w r)) (h2 : ∀ u1 u2, Bc u1 → Br u1 u2 → vS k u2 w r) : vP g k d mc ac mr ar u w r := by
  refine hc.mono (fun rv1 u1 w1 r1 q => ?_)
  obtain ⟨q1, q2, rfl, rfl⟩ := q
  refine ⟨A, q1, (h1 u1 q2).mono (fun rv2 u2 w2 r2 y => ?_)⟩
  obtain ⟨y1, y2, rfl, rfl⟩ := y
  exact ⟨y1, h2 u1 u2 q2 y2⟩
/-! one part of what holds is new, the others stand -/
theorem vC.tp (hK : vK l l2 w r) (H0 : vC L l o n e σ a b RS h t Z BF BR m Y N T f p u) {N' : Nat} {T' : Nat → Int32} (fr : xSm fTp u u') (ht : cTp N' T' u') : vC L l o n e σ a b RS h t Z BF BR m Y N' T' f p u' := by
  obtain ⟨c1, c2, c3, c4, c5, c6, c7, c8⟩ := H0
  have hl := hK.cases
  exact ⟨c1.kept hK.1 fr (fun b hb z => by omega), c2.kept fr (fun b h1 h2 z => by omega), c3.kept fr (fun b h1 h2 z => by omega), c4.kept fr (fun b h1 h2 z => by omega), c5.kept (fr.n (G := fun b _ => fTp b) (fun b i z => z)) (by omega) (fun i => by omega), ht, (fr _ _ (by omega)).trans c7, (fr _ _ (by omega)).trans c8⟩
theorem vR.tp (H0 : vR L n e σ a b RS h t Z BF BR m Y N T f p u) {N' : Nat} {T' : Nat → Int32} (fr : xSn fRp u u') (ht : rTp N' T' u') : vR L n e σ a b RS h t Z BF BR m Y N' T' f p u' := by
  obtain ⟨c1, c2, c3, c4, c5, c6, ⟨c7, c8⟩, c9⟩ := H0
  exact ⟨c1.kept fr (fun b i hb z => by omega), c2.kept fr (by omega) (by omega) (fun i => by omega), c3.kept fr (by omega) (by omega) (fun b i h1 h2 => by omega), c4.kept fr (fun i => by omega) (fun i => by omega), c5.kept fr (by omega) (fun i => by omega), ht, ⟨(fr _ _ (by omega)).trans c7, (fr _ _ (by omega)).trans c8⟩, (fr _ _ (by omega)).trans c9⟩
theorem vC.lo (hK : vK l l2 w r) (H0 : vC L l o n e σ a b RS h t Z BF BR m Y N T f p u) {h' t' : Nat} {Z' : xU} (fr : xSm fLo u u') (ht : cLo u' h' t' Z') : vC L l o n e σ a b RS h' t' Z' BF BR m Y N T f p u' := by
  obtain ⟨c1, c2, c3, c4, c5, c6, c7, c8⟩ := H0
  have hl := hK.cases
  exact ⟨c1.kept hK.1 fr (fun b hb z => by omega), c2.kept fr (fun b h1 h2 z => by omega), ht, c4.kept fr (fun b h1 h2 z => by omega), c5.kept (fr.n (G := fun b _ => fLo b) (fun b i z => z)) (by omega) (fun i => by omega), c6.kept fr (by omega) (by omega), (fr _ _ (by omega)).trans c7, (fr _ _ (by omega)).trans c8⟩
theorem vR.lo (H0 : vR L n e σ a b RS h t Z BF BR m Y N T f p u) {h' t' : Nat} {Z' : xU} (fr : xSn fRl u u') (ht : rLo u' h' t' Z') : vR L n e σ a b RS h' t' Z' BF BR m Y N T f p u' := by
  obtain ⟨c1, c2, c3, c4, c5, c6, ⟨c7, c8⟩, c9⟩ := H0
  exact ⟨c1.kept fr (fun b i hb z => by omega), c2.kept fr (by omega) (by omega) (fun i => by omega), ht, c4.kept fr (fun i => by omega) (fun i => by omega), c5.kept fr (by omega) (fun i => by omega), c6.kept fr (by omega) (fun i => by omega), ⟨(fr _ _ (by omega)).trans c7, (fr _ _ (by omega)).trans c8⟩, (fr _ _ (by omega)).trans c9⟩
theorem vC.bx (hK : vK l l2 w r) (H0 : vC L l o n e σ a b RS h t Z BF BR m Y N T f p u) {BF' : Nat → Bool} {BR' : Nat → Nat → Int32} (fr : xSm fBx u u') (ht : cBx L u' BF' BR') : vC L l o n e σ a b RS h t Z BF' BR' m Y N T f p u' := by
  obtain ⟨c1, c2, c3, c4, c5, c6, c7, c8⟩ := H0
  have hl := hK.cases
  exact ⟨c1.kept hK.1 fr (fun b hb z => by omega), c2.kept fr (fun b h1 h2 z => by omega), c3.kept fr (fun b h1 h2 z => by omega), ht, c5.kept (fr.n (G := fun b _ => fBx b) (fun b i z => z)) (by omega) (fun i => by omega), c6.kept fr (by omega) (by omega), (fr _ _ (by omega)).trans c7, (fr _ _ (by omega)).trans c8⟩
theorem vR.bx (H0 : vR L n e σ a b RS h t Z BF BR m Y N T f p u) {BF' : Nat → Bool} {BR' : Nat → Nat → Int32} (fr : xSn fRb u u') (ht : rBx u' BF' BR') : vR L n e σ a b RS h t Z BF' BR' m Y N T f p u' := by
  obtain ⟨c1, c2, c3, c4, c5, c6, ⟨c7, c8⟩, c9⟩ := H0
  exact ⟨c1.kept fr (fun b i hb z => by omega), c2.kept fr (by omega) (by omega) (fun i => by omega), c3.kept fr (by omega) (by omega) (fun b i h1 h2 => by omega), ht, c5.kept fr (by omega) (fun i => by omega), c6.kept fr (by omega) (fun i => by omega), ⟨(fr _ _ (by omega)).trans c7, (fr _ _ (by omega)).trans c8⟩, (fr _ _ (by omega)).trans c9⟩
theorem vC.ly (hK : vK l l2 w r) (H0 : vC L l o n e σ a b RS h t Z BF BR m Y N T f p u) {m' : Nat} {Y' : Nat → Int32} (fr : xSm (fTq l) u u') (ht : cLy u' m' Y') : vC L l o n e σ a b RS h t Z BF BR m' Y' N T f p u' := by
  obtain ⟨c1, c2, c3, c4, c5, c6, c7, c8⟩ := H0
  have hl := hK.cases
  exact ⟨c1.kept hK.1 fr (fun b hb z => by omega), c2.kept fr (fun b h1 h2 z => by omega), c3.kept fr (fun b h1 h2 z => by omega), c4.kept fr (fun b h1 h2 z => by omega), ht, c6.kept fr (by omega) (by omega), (fr _ _ (by omega)).trans c7, (fr _ _ (by omega)).trans c8⟩
theorem vR.ly (H0 : vR L n e σ a b RS h t Z BF BR m Y N T f p u) {m' : Nat} {Y' : Nat → Int32} (fr : xSn fRt u u') (hN : rN1 L n e u' σ) (ht : rLy u' m' Y') : vR L n e σ a b RS h t Z BF BR m' Y' N T f p u' := by
  obtain ⟨c1, c2, c3, c4, c5, c6, ⟨c7, c8⟩, c9⟩ := H0
  exact ⟨hN, c2.kept fr (by omega) (by omega) (fun i => by omega), c3.kept fr (by omega) (by omega) (fun b i h1 h2 => by omega), c4.kept fr (fun i => by omega) (fun i => by omega), ht, c6.kept fr (by omega) (fun i => by omega), ⟨(fr _ _ (by omega)).trans c7, (fr _ _ (by omega)).trans c8⟩, (fr _ _ (by omega)).trans c9⟩
theorem vC.go (hK : vK l l2 w r) (H0 : vC L l o n e σ a b RS h t Z BF BR m Y N T f p u) {o' n' e' a' b' : Nat} {σ' : Nat → Int32} {RS' : Nat → Nat → Int32} {F : Nat → Prop} (fr : xSm F u u') (hF : ∀ b, F b → (55 ≤ b ∧ b < 611) ∨ 655 ≤ b) (hN : kN L l n' e' u' σ') (hg : cRg L u' o' a' b' RS') : vC L l o' n' e' σ' a' b' RS' h t Z BF BR m Y N T f p u' := by
  obtain ⟨c1, c2, c3, c4, c5, c6, c7, c8⟩ := H0
  have f1 : xSm (fun b => (55 ≤ b ∧ b < 611) ∨ 655 ≤ b) u u' := fr.to hF
  exact ⟨hN, hg, c3.kept f1 (fun b h1 h2 z => by omega), c4.kept f1 (fun b h1 h2 z => by omega), c5.kept (f1.n (G := fun b _ => (55 ≤ b ∧ b < 611) ∨ 655 ≤ b) (fun b i z => z)) (by omega) (fun i => by omega), c6.kept f1 (by omega) (by omega), (f1 _ _ (by omega)).trans c7, (f1 _ _ (by omega)).trans c8⟩
theorem vR.go (H0 : vR L n e σ a b RS h t Z BF BR m Y N T f p u) {n' e' a' b' : Nat} {σ' : Nat → Int32} {RS' : Nat → Nat → Int32} (fr : xSn fRa u u') (hN : rN1 L n' e' u' σ') (hg : rRg u' a' b' RS') : vR L n' e' σ' a' b' RS' h t Z BF BR m Y N T f p u' := by
  obtain ⟨c1, c2, c3, c4, c5, c6, ⟨c7, c8⟩, c9⟩ := H0
  exact ⟨hN, hg, c3.kept fr (by omega) (by omega) (fun b i h1 h2 => by omega), c4.kept fr (fun i => by omega) (fun i => by omega), c5.kept fr (by omega) (fun i => by omega), c6.kept fr (by omega) (fun i => by omega), ⟨(fr _ _ (by omega)).trans c7, (fr _ _ (by omega)).trans c8⟩, (fr _ _ (by omega)).trans c9⟩
/-- the class's part behind the reference's call -/
theorem vC.fr (hK : vK l l2 w r) (H0 : vC L l o n e σ a b RS h t Z BF BR m Y N T f p u) {F : Nat → Nat → Prop} (fr : xSn F u u') (hF : ∀ b i, F b i → 655 ≤ b) : vC L l o n e σ a b RS h t Z BF BR m Y N T f p u' := H0.kept hK fr (fun b i z => Or.inr (Or.inr (hF b i z)))
theorem V_bier (S : vS k u w r) (hk : k ≤ 900) (i j : Int32) : vP g (k + 1) (d + 110) mX11_bier [.ref 8, .int i, .int j] mX12_bier [.ref 655, .int i, .int j] u w r := by
  obtain ⟨L, l, l2, o, n, e, σ, a, b, RS, h, t, Z, BF, BR, m, Y, N, T, f, p, ho, I, K, C, R⟩ := S
  exact v_view (Nat.le_trans ho (Nat.le_succ k)) I K C R (K_bier I.1 K.1 C.1 I.2.1.2.2 i j) (fun u1 h1 h2 => R_bier K.1.1 I.1 h1 i j)
theorem V_letter (S : vS k u w r) (hk : k ≤ 900) (i j : Int32) : vP g (k + 1) (d + 110) mX11_letter [.ref 8, .int i, .int j] mX12_letter [.ref 655, .int i, .int j] u w r := by
  obtain ⟨L, l, l2, o, n, e, σ, a, b, RS, h, t, Z, BF, BR, m, Y, N, T, f, p, ho, I, K, C, R⟩ := S
  exact v_view (Nat.le_trans ho (Nat.le_succ k)) I K C R (K_letter K.1 C.1 i j) (fun u1 h1 h2 => R_letter K.1.1 h1 i j)
theorem V_village (S : vS k u w r) (hk : k ≤ 900) (i j : Int32) : vP g (k + 1) (d + 110) mX11_village [.ref 8, .int i, .int j] mX12_village [.ref 655, .int i, .int j] u w r := by
  obtain ⟨L, l, l2, o, n, e, σ, a, b, RS, h, t, Z, BF, BR, m, Y, N, T, f, p, ho, I, K, C, R⟩ := S
  exact v_view (Nat.le_trans ho (Nat.le_succ k)) I K C R (K_village I.1 K.1 C.1 i j) (fun u1 h1 h2 => R_village K.1.1 I.1 h1 i j)
theorem V_far (S : vS k u w r) (hk : k ≤ 900) (i j : Int32) : vP g (k + 1) (d + 110) mX11_far [.ref 8, .int i, .int j] mX12_far [.ref 655, .int i, .int j] u w r := by
  obtain ⟨L, l, l2, o, n, e, σ, a, b, RS, h, t, Z, BF, BR, m, Y, N, T, f, p, ho, I, K, C, R⟩ := S
  exact v_view (Nat.le_trans ho (Nat.le_succ k)) I K C R (K_far I.1 K.1 C.1 i j) (fun u1 h1 h2 => R_far K.1.1 I.1 h1 i j)
theorem V_comes (S : vS k u w r) (hk : k ≤ 900) (i : Int32) : vP g (k + 1) (d + 110) mX11_comes [.ref 8, .int i] mX12_comes [.ref 655, .int i] u w r := by
  obtain ⟨L, l, l2, o, n, e, σ, a, b, RS, h, t, Z, BF, BR, m, Y, N, T, f, p, ho, I, K, C, R⟩ := S
  exact v_view (Nat.le_trans ho (Nat.le_succ k)) I K C R (K_comes I.1 K.1 C.1 i) (fun u1 h1 h2 => R_comes K.1.1 I.1 h1 i)
theorem V_late (S : vS k u w r) (hk : k ≤ 900) : vP g (k + 1) (d + 110) mX11_late [.ref 8] mX12_late [.ref 655] u w r := by
  obtain ⟨L, l, l2, o, n, e, σ, a, b, RS, h, t, Z, BF, BR, m, Y, N, T, f, p, ho, I, K, C, R⟩ := S
  exact v_view (Nat.le_trans ho (Nat.le_succ k)) I K C R (K_late I.1 K.1 C.1 ) (fun u1 h1 h2 => R_late K.1.1 I.1 h1 )
theorem V_worth (S : vS k u w r) (hk : k ≤ 900) : vP g (k + 1) (d + 110) mX11_worth [.ref 8] mX12_worth [.ref 655] u w r := by
  obtain ⟨L, l, l2, o, n, e, σ, a, b, RS, h, t, Z, BF, BR, m, Y, N, T, f, p, ho, I, K, C, R⟩ := S
  exact v_view (Nat.le_trans ho (Nat.le_succ k)) I K C R (K_worth I.1 K.1 C.1 ) (fun u1 h1 h2 => R_worth K.1.1 I.1 h1 )
theorem V_stuck (S : vS k u w r) (hk : k ≤ 900) : vP g (k + 1) (d + 110) mX11_stuck [.ref 8] mX12_stuck [.ref 655] u w r := by
  obtain ⟨L, l, l2, o, n, e, σ, a, b, RS, h, t, Z, BF, BR, m, Y, N, T, f, p, ho, I, K, C, R⟩ := S
  exact v_view (Nat.le_trans ho (Nat.le_succ k)) I K C R (K_stuck I.1 K.1 C.1 ) (fun u1 h1 h2 => R_stuck K.1.1 I.1 h1 )
theorem V_meets (S : vS k u w r) (hk : k ≤ 900) (i j k2 : Int32) : vP g (k + 1) (d + 110) mX11_meets [.ref 8, .int i, .int j, .int k2] mX12_meets [.ref 655, .int i, .int j, .int k2] u w r := by
  obtain ⟨L, l, l2, o, n, e, σ, a, b, RS, h, t, Z, BF, BR, m, Y, N, T, f, p, ho, I, K, C, R⟩ := S
  exact v_view (Nat.le_trans ho (Nat.le_succ k)) I K C R (K_meets I.1 K.1 C.1 i j k2) (fun u1 h1 h2 => R_meets K.1.1 I.1 h1 i j k2)
theorem V_buried (S : vS k u w r) (hk : k ≤ 900) (i : Int32) : vP g (k + 1) (d + 110) mX11_buried [.ref 8, .int i] mX12_buried [.ref 655, .int i] u w r := by
  obtain ⟨L, l, l2, o, n, e, σ, a, b, RS, h, t, Z, BF, BR, m, Y, N, T, f, p, ho, I, K, C, R⟩ := S
  exact v_view (Nat.le_trans ho (Nat.le_succ k)) I K C R (K_buried I.1 K.1 C.1 i) (fun u1 h1 h2 => R_buried K.1.1 I.1 h1 i)
theorem V_cover (S : vS k u w r) (hk : k ≤ 900) (i j : Int32) : vP g (k + 1) (d + 110) mX11_cover [.ref 8, .int i, .int j] mX12_cover [.ref 655, .int i, .int j] u w r := by
  obtain ⟨L, l, l2, o, n, e, σ, a, b, RS, h, t, Z, BF, BR, m, Y, N, T, f, p, ho, I, K, C, R⟩ := S
  exact v_view (Nat.le_trans ho (Nat.le_succ k)) I K C R (K_cover I.1 K.1 C.1 i j) (fun u1 h1 h2 => R_cover K.1.1 I.1 h1 i j)
theorem V_soon (S : vS k u w r) (hk : k ≤ 900) (i j : Int32) : vP g (k + 1) (d + 110) mX11_soon [.ref 8, .int i, .int j] mX12_soon [.ref 655, .int i, .int j] u w r := by
  obtain ⟨L, l, l2, o, n, e, σ, a, b, RS, h, t, Z, BF, BR, m, Y, N, T, f, p, ho, I, K, C, R⟩ := S
  exact v_view (Nat.le_trans ho (Nat.le_succ k)) I K C R (K_soon I.1 K.1 C.1 i j) (fun u1 h1 h2 => R_soon K.1.1 I.1 h1 i j)
theorem V_heard (S : vS k u w r) (hk : k ≤ 900) (i : Int32) : vP g (k + 1) (d + 110) mX11_heard [.ref 8, .int i] mX12_heard [.ref 655, .int i] u w r := by
  obtain ⟨L, l, l2, o, n, e, σ, a, b, RS, h, t, Z, BF, BR, m, Y, N, T, f, p, ho, I, K, C, R⟩ := S
  exact v_view (Nat.le_trans ho (Nat.le_succ k)) I K C R (K_heard I.1 K.1 C.1 i) (fun u1 h1 h2 => R_heard K.1.1 I.1 h1 i)
theorem V_deaf (S : vS k u w r) (hk : k ≤ 900) (i : Int32) : vP g (k + 1) (d + 110) mX11_deaf [.ref 8, .int i] mX12_deaf [.ref 655, .int i] u w r := by
  obtain ⟨L, l, l2, o, n, e, σ, a, b, RS, h, t, Z, BF, BR, m, Y, N, T, f, p, ho, I, K, C, R⟩ := S
  exact v_view (Nat.le_trans ho (Nat.le_succ k)) I K C R (K_deaf I.1 K.1 C.1 i) (fun u1 h1 h2 => R_deaf K.1.1 I.1 h1 i)
theorem V_bars (S : vS k u w r) (hk : k ≤ 900) (i j k2 : Int32) : vP g (k + 1) (d + 110) mX11_bars [.ref 8, .int i, .int j, .int k2] mX12_bars [.ref 655, .int i, .int j, .int k2] u w r := by
  obtain ⟨L, l, l2, o, n, e, σ, a, b, RS, h, t, Z, BF, BR, m, Y, N, T, f, p, ho, I, K, C, R⟩ := S
  exact v_view (Nat.le_trans ho (Nat.le_succ k)) I K C R (K_bars I.1 K.1 C.1 i j k2) (fun u1 h1 h2 => R_bars K.1.1 I.1 h1 i j k2)
theorem V_swap (S : vS k u w r) (hk : k ≤ 900) (i j k2 : Int32) : vP g (k + 1) (d + 110) mX11_swap [.ref 8, .int i, .int j, .int k2] mX12_swap [.ref 655, .int i, .int j, .int k2] u w r := by
  obtain ⟨L, l, l2, o, n, e, σ, a, b, RS, h, t, Z, BF, BR, m, Y, N, T, f, p, ho, I, K, C, R⟩ := S
  exact v_view (Nat.le_trans ho (Nat.le_succ k)) I K C R (K_swap I.1 K.1 C.1 I.2.1.2.1 i j k2) (fun u1 h1 h2 => R_swap K.1.1 I.1 h1 i j k2)
theorem V_fit (S : vS k u w r) (hk : k ≤ 900) (i j : Int32) : vP g (k + 1) (d + 110) mX11_fit [.ref 8, .int i, .int j] mX12_fit [.ref 655, .int i, .int j] u w r := by
  obtain ⟨L, l, l2, o, n, e, σ, a, b, RS, h, t, Z, BF, BR, m, Y, N, T, f, p, ho, I, K, C, R⟩ := S
  exact v_view (Nat.le_trans ho (Nat.le_succ k)) I K C R (K_fit I.1 K.1 C.1 I.2.2.2.2.1 C.2.2.1 i j) (fun u1 h1 h2 => R_fit K.1.1 I.1 h1 I.2.2.2.2.1 h2 i j)
theorem V_ask (S : vS k u w r) (hk : k ≤ 900) (i j k2 : Int32) : vP g (k + 1) (d + 110) mX11_ask [.ref 8, .int i, .int j, .int k2] mX12_ask [.ref 655, .int i, .int j, .int k2] u w r := by
  obtain ⟨L, l, l2, o, n, e, σ, a, b, RS, h, t, Z, BF, BR, m, Y, N, T, f, p, ho, I, K, C, R⟩ := S
  exact v_view (Nat.le_trans ho (Nat.le_succ k)) I K C R (K_ask I.1 K.1 C.1 I.2.2.2.2.1 C.2.2.1 i j k2) (fun u1 h1 h2 => R_ask K.1.1 I.1 h1 I.2.2.2.2.1 h2 i j k2)
theorem V_fault (S : vS k u w r) (hk : k ≤ 900) (i : Int32) : vP g (k + 1) (d + 110) mX11_fault [.ref 8, .int i] mX12_fault [.ref 655, .int i] u w r := by
  obtain ⟨L, l, l2, o, n, e, σ, a, b, RS, h, t, Z, BF, BR, m, Y, N, T, f, p, ho, I, K, C, R⟩ := S
  have S : vS (k + 1) u w r := vS.mk (Nat.le_trans ho (Nat.le_succ k)) I K C R
  refine v_pure S (K_fault K.1.1 i) ?_
  have z := R_fault (g := g) (d := d + 110) (u := u) (w := w) (r := r) i
  rw [R.2.2.2.2.2.2.1.1, R.2.2.2.2.2.2.1.2] at z
  rw [C.2.2.2.2.2.2.1, C.2.2.2.2.2.2.2]
  exact z
theorem V_lies (S : vS k u w r) (hk : k ≤ 900) (i : Int32) : vP g (k + 1) (d + 110) mX11_lies [.ref 8, .int i] mX12_lies [.ref 655, .int i] u w r := by
  obtain ⟨L, l, l2, o, n, e, σ, a, b, RS, h, t, Z, BF, BR, m, Y, N, T, f, p, ho, I, K, C, R⟩ := S
  exact v_pure (vS.mk (Nat.le_trans ho (Nat.le_succ k)) I K C R) (K_lies K.1.1 C.2.2.2.2.1 I.2.2.2.2.2.1 i) (R_lies K.1.1 R.2.2.2.2.1 I.2.2.2.2.2.1 i)
theorem V_about (S : vS k u w r) (hk : k ≤ 900) (i : Int32) : vP g (k + 1) (d + 110) mX11_about [.ref 8, .int i] mX12_about [.ref 655, .int i] u w r := by
  obtain ⟨L, l, l2, o, n, e, σ, a, b, RS, h, t, Z, BF, BR, m, Y, N, T, f, p, ho, I, K, C, R⟩ := S
  exact v_pure (vS.mk (Nat.le_trans ho (Nat.le_succ k)) I K C R) (K_about K.1 C.1 C.2.1 C.2.2.1 C.2.2.2.2.2.1 C.2.2.2.2.1 (by omega) I.2.2.2.1 i) (R_about K.1.1 R.1 R.2.2.2.2.2.2.2 R.2.1 R.2.2.1 R.2.2.2.2.2.1 R.2.2.2.2.1 i)
theorem V_day (S : vS k u w r) (hk : k ≤ 900) : vP g (k + 1) (d + 110) mX11_day [.ref 8] mX12_day [.ref 655] u w r := by
  obtain ⟨L, l, l2, o, n, e, σ, a, b, RS, h, t, Z, BF, BR, m, Y, N, T, f, p, ho, I, K, C, R⟩ := S
  have hX : e < 300 → rXn L n (e + 1) (nDay L n σ) := fun q => rXn.day I.1 I.2.1 q
  exact v_act ho I K C R hX (K_day I.1 K.1 C.1 I.2.1 (by omega) I.2.2.2.1 C.2.1 ) (fun u1 h1 h2 => R_day K.1.1 I.1 h1 I.2.1 I.2.2.1 I.2.2.2.1 h2 )
theorem V_post (S : vS k u w r) (hk : k ≤ 900) (i j : Int32) : vP g (k + 1) (d + 110) mX11_post [.ref 8, .int i, .int j] mX12_post [.ref 655, .int i, .int j] u w r := by
  obtain ⟨L, l, l2, o, n, e, σ, a, b, RS, h, t, Z, BF, BR, m, Y, N, T, f, p, ho, I, K, C, R⟩ := S
  have hX : poC L n i j → rXn L (n + 1) e (fAdd n i j 200 1 σ) := fun q => by
    have v7 := I.1.1.1
    obtain ⟨v, hv, rfl⟩ := inN.get q.2.1.1 (by omega)
    obtain ⟨x, hx, rfl⟩ := inN.get q.2.1.2 (by omega)
    exact rXn.add I.1.2.2.1.1 I.2.1 q.1 hv hx 200 (x := 1) (by omega)
  exact v_act ho I K C R hX (K_post I.1 K.1 C.1 I.2.1 (by omega) I.2.2.2.1 C.2.1 i j) (fun u1 h1 h2 => R_post K.1.1 I.1 h1 I.2.1 I.2.2.1 I.2.2.2.1 h2 i j)
theorem V_hand (S : vS k u w r) (hk : k ≤ 900) (i j : Int32) : vP g (k + 1) (d + 110) mX11_hand [.ref 8, .int i, .int j] mX12_hand [.ref 655, .int i, .int j] u w r := by
  obtain ⟨L, l, l2, o, n, e, σ, a, b, RS, h, t, Z, BF, BR, m, Y, N, T, f, p, ho, I, K, C, R⟩ := S
  have hX : handC L n σ i j → rXn L n e (fPut i.toNatClampNeg j σ) := fun q => by
    have n10 := I.2.1.1.1.2
    have b6 := I.1.2.2.1.1
    obtain ⟨⟨hi, hj⟩, q1, ⟨q2, q3⟩, q4⟩ := q
    obtain ⟨x, hx, rfl⟩ := inN.get hi (by omega)
    obtain ⟨y, hy, rfl⟩ := inN.get hj (by omega)
    rw [nc (by omega)] at q1 q2 q4
    rw [nc (by omega)]
    exact rXn.hand I.1.2.2.1 I.2.1 hx hy q1 q2 q4
  exact v_act ho I K C R hX (K_hand I.1 K.1 C.1 I.2.1 (by omega) I.2.2.2.1 C.2.1 i j) (fun u1 h1 h2 => R_hand K.1.1 I.1 h1 I.2.1 I.2.2.1 I.2.2.2.1 h2 i j)
theorem V_take (S : vS k u w r) (hk : k ≤ 900) (i : Int32) : vP g (k + 1) (d + 110) mX11_take [.ref 8, .int i] mX12_take [.ref 655, .int i] u w r := by
  obtain ⟨L, l, l2, o, n, e, σ, a, b, RS, h, t, Z, BF, BR, m, Y, N, T, f, p, ho, I, K, C, R⟩ := S
  have hX : takeC n σ i → rXn L n e (nTake σ i) := fun q => by
    have n10 := I.2.1.1.1.2
    obtain ⟨hi, q1, q2⟩ := q
    obtain ⟨x, hx, rfl⟩ := inN.get hi (by omega)
    rw [nc (by omega)] at q1
    exact rXn.take I.1.2.2.1 I.2.1 hx q1
  exact v_act ho I K C R hX (K_take I.1 K.1 C.1 I.2.1 (by omega) I.2.2.2.1 C.2.1 i) (fun u1 h1 h2 => R_take K.1.1 I.1 h1 I.2.1 I.2.2.1 I.2.2.2.1 h2 i)
theorem V_close (S : vS k u w r) (hk : k ≤ 900) (i : Int32) : vP g (k + 1) (d + 110) mX11_close [.ref 8, .int i] mX12_close [.ref 655, .int i] u w r := by
  obtain ⟨L, l, l2, o, n, e, σ, a, b, RS, h, t, Z, BF, BR, m, Y, N, T, f, p, ho, I, K, C, R⟩ := S
  have hX : inN i (lW L) → rXn L n e (nClose σ i) := fun _ => rXn.close I.1.2.2.1.1 I.2.1 _
  exact v_act ho I K C R hX (K_close I.1 K.1 C.1 I.2.1 (by omega) I.2.2.2.1 C.2.1 i) (fun u1 h1 h2 => R_close K.1.1 I.1 h1 I.2.1 I.2.2.1 I.2.2.2.1 h2 i)
theorem V_feed (S : vS k u w r) (hk : k ≤ 900) (x1 x2 x3 x4 x5 : Int32) : vP g (k + 1) (d + 110) mX11_feed [.ref 8, .int x1, .int x2, .int x3, .int x4, .int x5] mX12_feed [.ref 655, .int x1, .int x2, .int x3, .int x4, .int x5] u w r := by
  obtain ⟨L, l, l2, o, n, e, σ, a, b, RS, h, t, Z, BF, BR, m, Y, N, T, f, p, ho, I, K, C, R⟩ := S
  obtain ⟨I1, I2, I3, I4, I5, I6, I7⟩ := I
  refine v_two (K_feed K.1.1 I7.1 C.2.2.2.2.2.1 x1 x2 x3 x4 x5) (fun u1 q => R_feed K.1.1 I7.1 (R.kept (q.2.2.n (G := fun b _ => fTp b) (fun b i z => z)) (fun b i z => by have z' : b = 10 ∨ b = 11 := z; omega)).2.2.2.2.2.1 x1 x2 x3 x4 x5) (fun u1 u2 q y => ?_)
  obtain ⟨q1, q2, q3⟩ := q
  obtain ⟨y1, y2, y3⟩ := y
  have R1 := R.kept (q3.n (G := fun b _ => fTp b) (fun b i z => z)) (fun b i z => by have z' : b = 10 ∨ b = 11 := z; omega)
  have ho' : o ≤ k + 1 := Nat.le_trans ho (Nat.le_succ k)
  by_cases hN : N + 20 ≤ 1600
  · exact vS.mk ho' ⟨I1, I2, I3, I4, I5, I6, I7.feed x1 x2 x3 x4 x5 hN⟩ K ((C.tp K q3 (q1 hN)).fr K y3 (fun b i z => by omega)) (R1.tp y3 (y1 hN))
  · rw [q2 hN] at y2
    rw [y2 hN]
    exact vS.mk ho' ⟨I1, I2, I3, I4, I5, I6, I7⟩ K C R
theorem V_end (S : vS k u w r) (hk : k ≤ 900) (i : Int32) : vP g (k + 1) (d + 110) mX11_end [.ref 8, .int i] mX12_end [.ref 655, .int i] u w r := by
  obtain ⟨L, l, l2, o, n, e, σ, a, b, RS, h, t, Z, BF, BR, m, Y, N, T, f, p, ho, I, K, C, R⟩ := S
  obtain ⟨I1, I2, I3, I4, I5, I6, I7⟩ := I
  refine v_two (K_end K.1.1 I7.1 C.2.2.2.2.2.1 i) (fun u1 q => R_end I7.1 (R.kept (q.2.2.n (G := fun b _ => fTp b) (fun b i z => z)) (fun b i z => by have z' : b = 10 ∨ b = 11 := z; omega)).2.2.2.2.2.1 i) (fun u1 u2 q y => ?_)
  obtain ⟨q1, q2, q3⟩ := q
  obtain ⟨y1, y2, y3⟩ := y
  have R1 := R.kept (q3.n (G := fun b _ => fTp b) (fun b i z => z)) (fun b i z => by have z' : b = 10 ∨ b = 11 := z; omega)
  have ho' : o ≤ k + 1 := Nat.le_trans ho (Nat.le_succ k)
  by_cases hN : endC N i
  · have lt := (hN.get I7.1).1
    have n16 := I7.1
    exact vS.mk ho' ⟨I1, I2, I3, I4, I5, I6, ⟨by omega, fun j hj => I7.2 j (by omega)⟩⟩ K ((C.tp K q3 (q1 hN)).fr K y3 (fun b i z => by omega)) (R1.tp y3 (y1 hN))
  · rw [q2 hN] at y2
    rw [y2 hN]
    exact vS.mk ho' ⟨I1, I2, I3, I4, I5, I6, I7⟩ K C R
theorem V_trace (S : vS k u w r) (hk : k ≤ 900) (i j : Int32) : vP g (k + 1) (d + 110) mX11_trace [.ref 8, .int i, .int j] mX12_trace [.ref 655, .int i, .int j] u w r := by
  obtain ⟨L, l, l2, o, n, e, σ, a, b, RS, h, t, Z, BF, BR, m, Y, N, T, f, p, ho, I, K, C, R⟩ := S
  obtain ⟨I1, I2, I3, I4, I5, I6, I7⟩ := I
  have hl := K.cases
  have nf : ∀ b, fTq l b → b < 655 := fun b z => by
    have z' : ((79 ≤ b ∧ b < 105) ∨ b = l + 14) ∨ b = 8 ∨ b = 654 := z
    omega
  refine v_two (K_trace2 I1 K.1 C.1 i j) (fun u1 q => R_trace K.1.1 I1 (R.kept (q.2.1.n (G := fun b _ => fTq l b) (fun b i z => z)) (fun b i z => nf b z)).1 i j) (fun u1 u2 q y => ?_)
  obtain ⟨q1, q2, q3⟩ := q
  obtain ⟨y1, y2, y3⟩ := y
  have R1 := R.kept (q2.n (G := fun b _ => fTq l b) (fun b i z => z)) (fun b i z => nf b z)
  exact vS.mk (Nat.le_trans ho (Nat.le_succ k)) ⟨I1, I2, I3, I4, I5, q3, I7⟩ K ((C.ly K q2 q1).fr K y2 (fun b i z => by omega)) (R1.ly y2 y3 y1)
theorem V_had (S : vS k u w r) (hk : k ≤ 900) (i is : Int32) (his : is = 0 ∨ is = 1) : vP g (k + 1) (d + 110) mX11_had [.ref 8, .int i, .int is] mX12_had [.ref 655, .int i, .int is] u w r := by
  obtain ⟨L, l, l2, o, n, e, σ, a, b, RS, h, t, Z, BF, BR, m, Y, N, T, f, p, ho, I, K, C, R⟩ := S
  obtain ⟨I1, I2, I3, I4, I5, I6, I7⟩ := I
  refine v_two (K_had K.1 C.1.1.1 I1.2.2.1.1 C.2.2.1 I5.1 i is his) (fun u1 q => R_had K.1.1 (R.kept (q.2.n (G := fun b _ => fLo b) (fun b i z => z)) (fun b i z => by have z' : 611 ≤ b ∧ b < 616 := z; omega)).1.1 I1.2.2.1.1 (R.kept (q.2.n (G := fun b _ => fLo b) (fun b i z => z)) (fun b i z => by have z' : 611 ≤ b ∧ b < 616 := z; omega)).2.2.1 I5.1 i is his) (fun u1 u2 q y => ?_)
  obtain ⟨q1, q2⟩ := q
  obtain ⟨y1, y2⟩ := y
  have R1 := R.kept (q2.n (G := fun b _ => fLo b) (fun b i z => z)) (fun b i z => by have z' : 611 ≤ b ∧ b < 616 := z; omega)
  exact vS.mk (Nat.le_trans ho (Nat.le_succ k)) ⟨I1, I2, I3, I4, I5.had I1.2.2.1.1 i is his, I6, I7⟩ K ((C.lo K q2 q1).fr K y2 (fun b i z => by omega)) (R1.lo y2 y1)
theorem V_untell (S : vS k u w r) (hk : k ≤ 900) (i : Int32) : vP g (k + 1) (d + 110) mX11_untell [.ref 8, .int i] mX12_untell [.ref 655, .int i] u w r := by
  obtain ⟨L, l, l2, o, n, e, σ, a, b, RS, h, t, Z, BF, BR, m, Y, N, T, f, p, ho, I, K, C, R⟩ := S
  obtain ⟨I1, I2, I3, I4, I5, I6, I7⟩ := I
  refine v_two (K_untell K.1.1 C.2.2.1 I5.1 i) (fun u1 q => R_untell (L := L) K.1.1 I5 (R.kept (q.2.n (G := fun b _ => fLo b) (fun b i z => z)) (fun b i z => by have z' : 611 ≤ b ∧ b < 616 := z; omega)).2.2.1 i) (fun u1 u2 q y => ?_)
  obtain ⟨q1, q2⟩ := q
  obtain ⟨y1, y2⟩ := y
  have R1 := R.kept (q2.n (G := fun b _ => fLo b) (fun b i z => z)) (fun b i z => by have z' : 611 ≤ b ∧ b < 616 := z; omega)
  exact vS.mk (Nat.le_trans ho (Nat.le_succ k)) ⟨I1, I2, I3, I4, I5.unt i, I6, I7⟩ K ((C.lo K q2 q1).fr K y2 (fun b i z => by omega)) (R1.lo y2 y1)
theorem V_later (S : vS k u w r) (hk : k ≤ 900) (i : Int32) : vP g (k + 1) (d + 110) mX11_later [.ref 8, .int i] mX12_later [.ref 655, .int i] u w r := by
  obtain ⟨L, l, l2, o, n, e, σ, a, b, RS, h, t, Z, BF, BR, m, Y, N, T, f, p, ho, I, K, C, R⟩ := S
  obtain ⟨I1, I2, I3, I4, I5, I6, I7⟩ := I
  refine v_two (K_later K.1.1 C.2.2.1 I5.2.1 i) (fun u1 q => R_later (R.kept (q.2.n (G := fun b _ => fLo b) (fun b i z => z)) (fun b i z => by have z' : 611 ≤ b ∧ b < 616 := z; omega)).2.2.1 I5.2.1 i) (fun u1 u2 q y => ?_)
  obtain ⟨q1, q2⟩ := q
  obtain ⟨y1, y2⟩ := y
  have R1 := R.kept (q2.n (G := fun b _ => fLo b) (fun b i z => z)) (fun b i z => by have z' : 611 ≤ b ∧ b < 616 := z; omega)
  exact vS.mk (Nat.le_trans ho (Nat.le_succ k)) ⟨I1, I2, I3, I4, I5.lat i, I6, I7⟩ K ((C.lo K q2 q1).fr K y2 (fun b i z => by omega)) (R1.lo y2 y1)
theorem V_image (S : vS k u w r) (hk : k ≤ 900) (i : Int32) : vP g (k + 1) (d + 110) mX11_image [.ref 8, .int i] mX12_image [.ref 655, .int i] u w r := by
  obtain ⟨L, l, l2, o, n, e, σ, a, b, RS, h, t, Z, BF, BR, m, Y, N, T, f, p, ho, I, K, C, R⟩ := S
  obtain ⟨I1, I2, I3, I4, I5, I6, I7⟩ := I
  obtain ⟨T0, hT0⟩ := C.1.2.1
  refine v_two (K_image K.1.1 I1.2.2.1.1 ⟨n, e, T0, I2, hT0⟩ C.2.2.2.1 i) (fun u1 q => R_image K.1.1 (R.kept (q.2.n (G := fun b _ => fBx b) (fun b i z => z)) (fun b i z => by have z' : 617 ≤ b ∧ b < 654 := z; omega)).1.2.1 (R.kept (q.2.n (G := fun b _ => fBx b) (fun b i z => z)) (fun b i z => by have z' : 617 ≤ b ∧ b < 654 := z; omega)).2.2.2.1 i) (fun u1 u2 q y => ?_)
  obtain ⟨q1, q2⟩ := q
  obtain ⟨y1, y2⟩ := y
  have R1 := R.kept (q2.n (G := fun b _ => fBx b) (fun b i z => z)) (fun b i z => by have z' : 617 ≤ b ∧ b < 654 := z; omega)
  exact vS.mk (Nat.le_trans ho (Nat.le_succ k)) ⟨I1, I2, I3, I4, I5, I6, I7⟩ K ((C.bx K q2 q1).fr K y2 (fun b i z => by omega)) (R1.bx y2 y1)
theorem V_undo (S : vS k u w r) (hk : k ≤ 900) : vP g (k + 1) (d + 110) mX11_undo [.ref 8] mX12_undo [.ref 655] u w r := by
  obtain ⟨L, l, l2, o, n, e, σ, a, b, RS, h, t, Z, BF, BR, m, Y, N, T, f, p, ho, I, K, C, R⟩ := S
  have S : vS (k + 1) u w r := vS.mk (Nat.le_trans ho (Nat.le_succ k)) I K C R
  obtain ⟨I1, I2, I3, I4, I5, I6, I7⟩ := I
  have hb6 := I1.2.2.1.1
  refine (K_undo (d := d + 106) I1 K.1 C.1.1.1 (by omega) I4 C.2.1).mono (fun rv1 u1 w1 r1 q => ?_)
  obtain ⟨rfl, rfl, q⟩ := q
  rcases q with ⟨a0, q1, rfl⟩ | ⟨a0, q1, q2, ⟨n2, e2, q3, q4⟩, q5⟩
  · refine ⟨0, q1, (R_undo (d := d + 109) K.1.1 I1 R.1 I3 I4 R.2.1).mono (fun rv2 u2 w2 r2 y => ?_)⟩
    obtain ⟨rfl, rfl, y⟩ := y
    rcases y with ⟨-, y1, rfl⟩ | ⟨y0, -⟩
    · exact ⟨y1, S⟩
    · omega
  · have nf : ∀ x, (fGo x ∨ x = 117) → 55 ≤ x ∧ x < 611 := fun x z => by
      have z' : ((55 ≤ x ∧ x < 79) ∨ (105 ≤ x ∧ x ≤ 116)) ∨ x = 117 := z
      omega
    have R1 := R.kept (q5.n (G := fun x _ => fGo x ∨ x = 117) (fun b i z => z)) (fun b i z => by have := nf b z; omega)
    refine ⟨1, q1, (R_undo (d := d + 109) K.1.1 I1 R1.1 I3 I4 R1.2.1).mono (fun rv2 u2 w2 r2 y => ?_)⟩
    obtain ⟨rfl, rfl, y⟩ := y
    rcases y with ⟨y0, -, -⟩ | ⟨-, y1, y2, y3, y4⟩
    · omega
    · refine ⟨y1, vS.mk (n := n2) (e := e2) (σ := mix (RS (a - 1)) σ) (Nat.le_trans ho (Nat.le_succ k)) ⟨I1, rXn.cg hb6 q3 (fun j hj => mix_lo _ _ hj), fun j hj => (mix_lo _ _ hj).symm, by omega, I5, I6, I7⟩ K ((C.go K q5 (fun b z => Or.inl (nf b z)) (kN.cg hb6 q4 (fun j hj => mix_lo _ _ hj)) q2).fr K y4 (fun b i z => by omega)) (R1.go y4 (y3 n2 e2 q3) y2)⟩
theorem V_redo (S : vS k u w r) (hk : k ≤ 900) : vP g (k + 1) (d + 110) mX11_redo [.ref 8] mX12_redo [.ref 655] u w r := by
  obtain ⟨L, l, l2, o, n, e, σ, a, b, RS, h, t, Z, BF, BR, m, Y, N, T, f, p, ho, I, K, C, R⟩ := S
  have S : vS (k + 1) u w r := vS.mk (Nat.le_trans ho (Nat.le_succ k)) I K C R
  obtain ⟨I1, I2, I3, I4, I5, I6, I7⟩ := I
  have hb6 := I1.2.2.1.1
  refine (K_redo (d := d + 106) I1 K.1 C.1.1.1 (by omega) I4 C.2.1).mono (fun rv1 u1 w1 r1 q => ?_)
  obtain ⟨rfl, rfl, q⟩ := q
  rcases q with ⟨a0, q1, rfl⟩ | ⟨a0, q1, q2, ⟨n2, e2, q3, q4⟩, q5⟩
  · refine ⟨0, q1, (R_redo (d := d + 109) K.1.1 I1 R.1 I3 I4 R.2.1).mono (fun rv2 u2 w2 r2 y => ?_)⟩
    obtain ⟨rfl, rfl, y⟩ := y
    rcases y with ⟨-, y1, rfl⟩ | ⟨y0, -⟩
    · exact ⟨y1, S⟩
    · omega
  · have nf : ∀ x, (fGo x ∨ x = 117) → 55 ≤ x ∧ x < 611 := fun x z => by
      have z' : ((55 ≤ x ∧ x < 79) ∨ (105 ≤ x ∧ x ≤ 116)) ∨ x = 117 := z
      omega
    have R1 := R.kept (q5.n (G := fun x _ => fGo x ∨ x = 117) (fun b i z => z)) (fun b i z => by have := nf b z; omega)
    refine ⟨1, q1, (R_redo (d := d + 109) K.1.1 I1 R1.1 I3 I4 R1.2.1).mono (fun rv2 u2 w2 r2 y => ?_)⟩
    obtain ⟨rfl, rfl, y⟩ := y
    rcases y with ⟨y0, -, -⟩ | ⟨-, y1, y2, y3, y4⟩
    · omega
    · refine ⟨y1, vS.mk (n := n2) (e := e2) (σ := mix (RS (a + 1)) σ) (Nat.le_trans ho (Nat.le_succ k)) ⟨I1, rXn.cg hb6 q3 (fun j hj => mix_lo _ _ hj), fun j hj => (mix_lo _ _ hj).symm, by omega, I5, I6, I7⟩ K ((C.go K q5 (fun b z => Or.inl (nf b z)) (kN.cg hb6 q4 (fun j hj => mix_lo _ _ hj)) q2).fr K y4 (fun b i z => by omega)) (R1.go y4 (y3 n2 e2 q3) y2)⟩
theorem V_back (S : vS k u w r) (hk : k ≤ 900) (i : Int32) : vP g (k + 1) (d + 110) mX11_back [.ref 8, .int i] mX12_back [.ref 655, .int i] u w r := by
  obtain ⟨L, l, l2, o, n, e, σ, a, b, RS, h, t, Z, BF, BR, m, Y, N, T, f, p, ho, I, K, C, R⟩ := S
  obtain ⟨I1, I2, I3, I4, I5, I6, I7⟩ := I
  have hb6 := I1.2.2.1.1
  have ho' : o ≤ k + 1 := Nat.le_trans ho (Nat.le_succ k)
  have nf : ∀ x, fBk x → 55 ≤ x ∧ x < 611 := fun x z => by
    have z' : ((55 ≤ x ∧ x < 79) ∨ (105 ≤ x ∧ x ≤ 116)) ∨ (117 ≤ x ∧ x < 611) := z
    omega
  have kp : ∀ u1, xSm fBk u u1 → vR L n e σ a b RS h t Z BF BR m Y N T f p u1 := fun u1 q => R.kept (q.n (G := fun x _ => fBk x) (fun b i z => z)) (fun b i z => by have := nf b z; omega)
  refine v_two (K_back (d := d + 106) I1 K.1 C.1.1.1 C.2.2.2.1 i) (fun u1 q => R_back (d := d + 109) K.1.1 I1 (kp u1 q.2.2).1 (kp u1 q.2.2).2.2.2.1 i) (fun u1 u2 q y => ?_)
  obtain ⟨q1, q2, q3⟩ := q
  obtain ⟨y1, y2, y3⟩ := y
  have R1 := kp u1 q3
  by_cases hB : backC BF i
  · obtain ⟨⟨n2, e2, x1, x2'⟩, x3⟩ := q1 hB
    obtain ⟨z1, z2⟩ := y1 hB
    exact vS.mk (n := n2) (e := e2) (σ := mix (BR i.toNatClampNeg) σ) (a := 0) (b := 0) (o := 0) (RS := fun _ => BR i.toNatClampNeg) (Nat.zero_le _) ⟨I1, rXn.cg hb6 x1 (fun j hj => mix_lo _ _ hj), fun j hj => (mix_lo _ _ hj).symm, by omega, I5, I6, I7⟩ K ((C.go K q3 (fun b z => Or.inl (nf b z)) (kN.cg hb6 x2' (fun j hj => mix_lo _ _ hj)) x3).fr K y3 (fun b i z => by omega)) (R1.go y3 (z1 n2 e2 x1) (z2 _))
  · rw [q2 hB] at y2
    rw [y2 hB]
    exact vS.mk ho' ⟨I1, I2, I3, I4, I5, I6, I7⟩ K C R
theorem V_land (S : vS k u w r) (hk : k ≤ 900) : vP g (k + 1) (d + 110) mX11_land [.ref 8] mX12_land [.ref 655] u w r := by
  obtain ⟨L, l, l2, o, n, e, σ, a, b, RS, h, t, Z, BF, BR, m, Y, N, T, f, p, ho, I, K, C, R⟩ := S
  obtain ⟨I1, I2, I3, I4, I5, I6, I7⟩ := I
  have hl := K.cases
  obtain ⟨K1, K2, K3, K4⟩ := K
  obtain ⟨hr, -, -, k52, k10, -⟩ := id K1
  by_cases q : (pAll N T).1.2.1 = 0
  · refine K_land (d := d + 7) (l := l2) (l2 := l) hr I7 hl.2.1 k10 K3 C.2.2.2.2.2.1 K4 (fun nq => absurd q nq) (fun _ hO u1 w1 y1 y2 y3 y4 y5 y7 y6 => ?_)
    have hr2 : xRf (x2 (x2 (x2 (x2 r 9 4 (some l2)) 8 10 (some l2)) 8 11 (some l)) 52 1 (some l2)) := hr.upd (fun b i z1 z2 z3 => by rw [x2_ne _ _ (by omega), x2_ne _ _ (by omega), x2_ne _ _ (by omega), x2_ne _ _ (by omega)])
    have t10 : (x2 (x2 (x2 (x2 r 9 4 (some l2)) 8 10 (some l2)) 8 11 (some l)) 52 1 (some l2)) 8 10 = some l2 := by rw [x2_a _ _ (by omega), x2_i _ _ (by omega), x2_same]
    have t11 : (x2 (x2 (x2 (x2 r 9 4 (some l2)) 8 10 (some l2)) 8 11 (some l)) 52 1 (some l2)) 8 11 = some l := by rw [x2_a _ _ (by omega), x2_same]
    have t52 : (x2 (x2 (x2 (x2 r 9 4 (some l2)) 8 10 (some l2)) 8 11 (some l)) 52 1 (some l2)) 52 1 = some l2 := x2_same _ _ _ _
    generalize x2 (x2 (x2 (x2 r 9 4 (some l2)) 8 10 (some l2)) 8 11 (some l)) 52 1 (some l2) = r2 at hr2 t10 t11 t52
    have nfl : ∀ b i, fLa l2 b i → b < 655 := fun b i z => by
      have z' : (((b = 9 ∧ (i = 7 ∨ i = 8 ∨ i = 9)) ∨ ((b = 9 ∧ (i = 5 ∨ i = 6)) ∨ ((b = 16 ∨ b = 18 ∨ b = 20) ∧ i = 1) ∨ (l2 ≤ b ∧ b ≤ l2 + 13))) ∨ (b = 12 ∨ b = 14 ∨ (b = 10 ∧ i = 5))) ∨ (b = 8 ∨ (55 ≤ b ∧ b < 79) ∨ (105 ≤ b ∧ b ≤ 116) ∨ b = 117 ∨ (119 ≤ b ∧ b ≤ 130) ∨ b = 611 ∨ b = 653) ∨ (b = 10 ∧ i = 1) := z
      omega
    have R1 := R.kept y5 nfl
    refine ⟨_, rfl, R_land (d := d + 98) hr2 I7 R1.2.2.2.2.2.1 (fun nq => absurd q nq) (fun _ _ u2 w2 z1 z2 z3 z4 z5 z6 => ⟨rfl, ?_⟩)⟩
    have fr : xSm (fun b => 655 ≤ b) u1 u2 := fun b i hb => z5 b i (by omega)
    have hD := lDr_of z4
    have hs := z4.2.2.2.2.1
    obtain ⟨c1, c2⟩ := land_k hO hD hs y4
    have R91 := R1.1.2.2.2
    obtain ⟨d1, d2⟩ := land_r hO z4 (fun j hj => by rw [z5 684 j (by omega), z5 683 j (by omega)]; exact R91 j hj)
    obtain ⟨-, -, -, -, -, b611, b89, b653⟩ := y4
    have K1' : kR r2 l2 := ⟨hr2, ld_of hl.2.1, hr2.ld hl.2.1, t52, t10, by omega⟩
    have fw : ∀ i, w2 15 i = w 15 i := fun i => (z6 15 i (fun z => by have z' : (15 = 655 ∧ i = 9) ∨ 15 = 657 := z; omega)).trans (y6 15 i (fun z => by have z' : (15 = 17 ∨ 15 = 19 ∨ 15 = 21) ∨ 15 = 13 := z; omega))
    have C3 := C.2.2.1
    have D3 := R1.2.2.1
    refine vS.mk (L := lOf u2) (l := l2) (l2 := l) (o := 0) (n := (pAll N T).2.1 2) (e := 0) (σ := u2 683) (a := 0) (b := 0) (RS := fun _ => u2 683) (h := 0) (t := t) (Z := Z) (BF := fun _ => false) (BR := BR) (m := 0) (Y := Y) (N := 0) (T := T) (f := nI (pAll N T).1.2.1) (p := (pAll N T).1.2.2) (Nat.zero_le _) ⟨lDr.ok hO hD, lDr.row hO hD hs, fun j _ => rfl, by omega, ⟨by omega, I5.2.1, fun i hi => absurd hi (Nat.not_lt_zero _)⟩, by omega, ⟨by omega, fun i hi => absurd hi (Nat.not_lt_zero _)⟩⟩ ⟨K1', by omega, t11, fun i hi => (fw i).trans (K4 i hi)⟩ ⟨c1.kept K1' fr (fun b hb z => by omega), c2.kept fr (fun b h1 h2 z => by omega), ⟨?_, ?_, fun i hi => absurd hi (Nat.not_lt_zero _)⟩, fun i hi => ⟨?_, fun z => by cases z⟩, ⟨?_, fun i hi => absurd hi (Nat.not_lt_zero _)⟩, ⟨?_, fun i hi => absurd hi (Nat.not_lt_zero _)⟩, ?_, ?_⟩ ⟨d1, d2 _, ⟨z4.2.2.2.2.2.1.2.2.1, ?_, fun i hi => absurd hi (Nat.not_lt_zero _)⟩, fun i hi => ⟨z4.2.2.2.2.2.2 i hi, fun z => by cases z⟩, ⟨z4.2.2.2.2.2.1.2.2.2, fun i hi => absurd hi (Nat.not_lt_zero _)⟩, ⟨z3, fun i hi => absurd hi (Nat.not_lt_zero _)⟩, ⟨z1, z2⟩, rfl⟩
    · rw [fr _ _ (by omega)]; exact b611
    · rw [fr _ _ (by omega), y7]; exact C3.2.1
    · rw [fr _ _ (by omega)]; exact b653 i hi
    · rw [fr _ _ (by omega)]; exact b89
    · rw [fr _ _ (by omega)]; exact y3
    · rw [fr _ _ (by omega)]; exact y1
    · rw [fr _ _ (by omega)]; exact y2
    · rw [z5 _ _ (by omega)]; exact D3.2.1
  · refine K_land (d := d + 7) (l := l2) (l2 := l) hr I7 hl.2.1 k10 K3 C.2.2.2.2.2.1 K4 (fun _ u1 w1 y1 y2 y3 y4 y5 => ?_) (fun nq => absurd nq q)
    have hr2 : xRf (x2 r 9 4 (some l2)) := hr.upd (fun b i z1 z2 z3 => x2_ne _ _ z1)
    have t10 : (x2 r 9 4 (some l2)) 8 10 = some l := (x2_ne _ _ (by omega)).trans k10
    have t11 : (x2 r 9 4 (some l2)) 8 11 = some l2 := (x2_ne _ _ (by omega)).trans K3
    have t52 : (x2 r 9 4 (some l2)) 52 1 = some l := (x2_ne _ _ (by omega)).trans k52
    generalize x2 r 9 4 (some l2) = r2 at hr2 t10 t11 t52
    have f1 : xSn (fun b i => (b = 9 ∨ b = 12 ∨ b = 14 ∨ b = 16 ∨ b = 18 ∨ b = 20 ∨ (l2 ≤ b ∧ b ≤ l2 + 13)) ∨ (b = 10)) u u1 := y4.to (fun b i z => by
      have z' : (((b = 9 ∧ (i = 7 ∨ i = 8 ∨ i = 9)) ∨ ((b = 9 ∧ (i = 5 ∨ i = 6)) ∨ ((b = 16 ∨ b = 18 ∨ b = 20) ∧ i = 1) ∨ (l2 ≤ b ∧ b ≤ l2 + 13))) ∨ (b = 12 ∨ b = 14 ∨ (b = 10 ∧ i = 5))) ∨ (b = 10 ∧ i = 1) := z
      omega)
    have R1 := R.kept f1 (fun b i z => by omega)
    refine ⟨_, rfl, R_land (d := d + 98) hr2 I7 R1.2.2.2.2.2.1 (fun _ u2 w2 z1 z2 z3 z4 z5 => ⟨rfl, ?_⟩) (fun nq => absurd nq q)⟩
    have g1 : xSm (fun b => b = 9 ∨ b = 10 ∨ b = 12 ∨ b = 14 ∨ b = 16 ∨ b = 18 ∨ b = 20 ∨ (l2 ≤ b ∧ b ≤ l2 + 13)) u u1 := fun b i hb => f1 b i (by omega)
    have fr : xSm (fun b => 655 ≤ b) u1 u2 := fun b i hb => z4 b i (by omega)
    have g2 : xSm (fun b => (b = 9 ∨ b = 10 ∨ b = 12 ∨ b = 14 ∨ b = 16 ∨ b = 18 ∨ b = 20 ∨ (l2 ≤ b ∧ b ≤ l2 + 13)) ∨ 655 ≤ b) u u2 := (g1.to (fun b z => Or.inl z)).tr (fr.to (fun b z => Or.inr z))
    have K1' : kR r2 l := ⟨hr2, ld_of hl.1, hr2.ld hl.1, t52, t10, by omega⟩
    have fw : ∀ i, w2 15 i = w 15 i := fun i => (z5 15 i (fun z => by have z' : (15 = 655 ∧ i = 9) ∨ 15 = 657 := z; omega)).trans (y5 15 i (fun z => by have z' : (15 = 17 ∨ 15 = 19 ∨ 15 = 21) ∨ 15 = 13 := z; omega))
    obtain ⟨C1, C2, C3, C4, C5, C6, C7, C8⟩ := C
    obtain ⟨D1, D2, D3, D4, D5, D6, D7, D8⟩ := R1
    refine vS.mk (L := L) (l := l) (l2 := l2) (o := o) (n := n) (e := e) (σ := σ) (a := a) (b := b) (RS := RS) (h := h) (t := t) (Z := Z) (BF := BF) (BR := BR) (m := m) (Y := Y) (N := 0) (T := T) (f := nI (pAll N T).1.2.1) (p := (pAll N T).1.2.2) (Nat.le_trans ho (Nat.le_succ k)) ⟨I1, I2, I3, I4, I5, I6, ⟨by omega, fun i hi => absurd hi (Nat.not_lt_zero _)⟩⟩ ⟨K1', K2, t11, fun i hi => (fw i).trans (K4 i hi)⟩ ⟨C1.kept K1' g2 (fun b hb z => by omega), C2.kept g2 (fun b h1 h2 z => by omega), C3.kept g2 (fun b h1 h2 z => by omega), C4.kept g2 (fun b h1 h2 z => by omega), C5.kept (g2.n (G := fun b _ => (b = 9 ∨ b = 10 ∨ b = 12 ∨ b = 14 ∨ b = 16 ∨ b = 18 ∨ b = 20 ∨ (l2 ≤ b ∧ b ≤ l2 + 13)) ∨ 655 ≤ b) (fun b i z => z)) (by omega) (fun i => by omega), ⟨?_, fun i hi => absurd hi (Nat.not_lt_zero _)⟩, ?_, ?_⟩ ⟨D1.kept2 z4 (fun b i hb z => by omega), D2.kept z4 (by omega) (by omega) (fun i => by omega), D3.kept z4 (by omega) (by omega) (fun b i h1 h2 => by omega), D4.kept z4 (fun i => by omega) (fun i => by omega), D5.kept z4 (by omega) (fun i => by omega), ⟨z3, fun i hi => absurd hi (Nat.not_lt_zero _)⟩, ⟨z1, z2⟩, ?_⟩
    · rw [fr _ _ (by omega)]; exact y3
    · rw [fr _ _ (by omega)]; exact y1
    · rw [fr _ _ (by omega)]; exact y2
    · rw [z4 _ _ (by omega)]; exact D8
end VCALL
