/-! A LETTER ALONE: the class -/
theorem tAdd_eq (v g : Nat) (σ : Nat → Int32) : rEq (tL v g σ) (fAdd 0 (nI v) (nI g) 200 1 (up σ 88 0)) := by
  intro j hj
  unfold tL fAdd up
  by_cases h1 : j = 88
  · subst h1; simp; rfl
  · by_cases h2 : j = 18
    · subst h2; simp
    · by_cases h3 : j = 28
      · subst h3; simp
      · by_cases h4 : j = 38
        · subst h4; simp
        · by_cases h5 : j = 48
          · subst h5; simp
          · by_cases h6 : j = 58
            · subst h6; simp
            · have h7 : j ≠ 68 := fun z => hj (Or.inl z)
              have h8 : j ≠ 78 := fun z => hj (Or.inr z)
              simp [h1, h2, h3, h4, h5, h6, h7, h8]
theorem tI2_start {L : xU} {c : Int32} (hW : lWok L) {v g : Nat} {σ τ : Nat → Int32} (h : rEq (tL v g σ) τ) : tI2 L c g 0 τ := by
  have hv7 := hW.1
  refine ⟨(h 58 (by omega)).trans (tL_58 v g σ), (h 48 (by omega)).trans (tL_48 v g σ), by omega, fun _ => ?_⟩
  have := tK_le L c g (tPhi L c g τ)
  omega
/-- the biers of a list, as bits -/
def aBt (k : Nat) (A : Nat → Int32) : Int32 := xfold k (fun i s => s ||| ((1 : Int32) <<< (A i &&& 31))) 0
theorem aBt_s (k : Nat) (A : Nat → Int32) : aBt (k + 1) A = aBt k A ||| ((1 : Int32) <<< (A k &&& 31)) := rfl
theorem aBt_up {A : Nat → Int32} {x : Int32} {m : Nat} : ∀ k, k ≤ m → aBt k (up A m x) = aBt k A := by
  intro k hk
  exact xfold_congr (fun i y hi => by rw [up_n (by omega)])
/-- a list of biers -/
def aLs (L : xU) (k : Nat) (A : Nat → Int32) : Prop := ∀ i, i < k → ∃ b, b < lB L ∧ A i = nI b
theorem aLs.up {L : xU} {k b : Nat} {A : Nat → Int32} (h : aLs L k A) (hb : b < lB L) : aLs L (k + 1) (up A k (nI b)) := by
  intro i hi
  by_cases q : i = k
  · subst q; exact ⟨b, hb, up_s _ _ _⟩
  · rw [up_n q]; exact h i (by omega)
/-- the route in the class's memory -/
def cR (u : xU) (k : Nat) (A : Nat → Int32) : Prop := u 79 4 = nI k ∧ (∀ i, i < k → u 93 i = A i) ∧ u 79 5 = aBt k A
/-- what is known at the end -/
def tEnd (L : xU) (F : tTr) : Prop := F.2.1 ≤ 7 ∧ aLs L F.2.1 F.2.2
abbrev fFo (l : Nat) : Nat → Prop := fun b => (79 ≤ b ∧ b ≤ 91) ∨ b = 93 ∨ b = l + 14
theorem fFo_lk {l b : Nat} (h : fFo l b) : fLk l b := by unfold fFo at h; unfold fLk; omega
theorem fFo_cd {l b : Nat} (h : fCd 80 l b) : fFo l b := by unfold fCd at h; unfold fFo; omega
theorem fFo_st {l b : Nat} (h : fSt 80 b) : fFo l b := by unfold fSt at h; unfold fFo; omega
section FOLLOW
variable {g : xGT} {d : Nat} {w : xW} {r : xQ} {L : xU} {c : Int32} {l : Nat}
theorem K_noteBier {u : xU} {k b : Nat} {A : Nat → Int32} (hr : xRf r) (hk : k ≤ 7) (hb : b < 6) (h : cR u k A) : xCall g (d + 1) mX3_noteBier [.ref 79, .int (nI b)] 698 u w r 698 (xVd (fun u' => cR u' (k + 1) (up A k (nI b)) ∧ xSm (fun x => x = 79 ∨ x = 93) u u') w r) := by
  refine CX3_noteBier hr (xPr.use (K_isOneOf _ _) ⟨_, rfl, rfl, rfl, rfl, ?_⟩)
  rw [h.1]
  have i1 : ¬ xb (¬ (nI k < 0) ∧ ¬ ((300 : Int32) ≤ nI k)) = 0 := by
    rw [xb_eq0, Classical.not_not]
    exact ⟨nI_nn (by omega), nI_ge (b := 300) (by omega) (by omega)⟩
  have i2 : ¬ xb (¬ (nI b < 0) ∧ ¬ ((6 : Int32) ≤ nI b)) = 0 := by
    rw [xb_eq0, Classical.not_not]
    exact ⟨nI_nn (by omega), nI_ge (b := 6) (by omega) (by omega)⟩
  refine brF i1 (xPr.use (K_isOneOf _ _) ⟨_, rfl, rfl, rfl, rfl, brF i2 ⟨vpn (by omega) (by omega), rfl, ⟨⟨?_, fun i hi => ?_, ?_⟩, ?_⟩, rfl, rfl⟩⟩)
  · rw [x2_i _ _ (show 4 ≠ 5 by omega), x2_same, nI_one]
  · rw [x2_a _ _ (by omega), x2_a _ _ (by omega), nc (by omega)]
    unfold up
    by_cases q : i = k
    · subst q; rw [x2_same, if_pos rfl]
    · rw [x2_i _ _ q, if_neg q]; exact h.2.1 i (by omega)
  · rw [x2_same, h.2.2, aBt_s, up_s, aBt_up k (Nat.le_refl _)]
  · exact ((xSm.rf.put (Or.inr rfl)).put (Or.inl rfl)).put (Or.inl rfl)
theorem K_follow_loop {P : xPost} (hr : xRf r) (h_l : xLd l) (q_l : xLr l r) (hm : r 52 1 = some l) (hl : l + 14 < 52) (hK : lOkk L) {t : Nat} (ht : t < lV L) : ∀ (m i e k : Nat) (σ T A : Nat → Int32) (u : xU), e + m = 300 → i + m ≤ 300 → kE u l L c → kSt L 1 u 80 σ T → gSt L c 1 e σ → tI2 L c t k σ → σ 38 = -1 → aLs L k A → cR u k A →
    (∀ (u' : xU) (x : Int32), xSm (fFo l) u u' → x = (tq L c m σ k A).1 38 → cR u' (tq L c m σ k A).2.1 (tq L c m σ k A).2.2 → tEnd L (tq L c m σ k A) → P (some (.int x)) u' w r) →
    xEv g (d + 5) mX3_follow 30 [some (.ref 79), none, none, none, some (.int (nI i))] [] 698 u w r 698 P := by
  have hW := hK.1
  have hB := hK.2.2.1
  have hb6 := hB.1
  intro m
  induction m with
  | zero =>
    intro i e k σ T A u he hi hE hk hS hI h38 hA hc kk
    refine TX3_follow_30 hr (brF (fun q => q.2 ?_) (TX3_follow_128 hr ?_))
    · rw [hk.1.1, hS.2.2.1.1]
      exact nI_le (a := 300) (by omega) (by omega)
    · exact kk u _ xSm.rf (hk.2.2.2 0 (by omega)).1.2.2.1 hc ⟨hI.2.2.1, hA⟩
  | succ m ih =>
    intro i e k σ T A u he hi hE hk hS hI h38 hA hc kk
    have SD := fDay_st hW hB hS (by omega)
    refine TX3_follow_30 hr (brT ⟨nI_ge (b := 300) (by omega) (by omega), ?_⟩ ?_)
    · rw [hk.1.1, hS.2.2.1.1]
      exact nI_ge (b := 300) (by omega) (by omega)
    · refine xIn.use (K_goBy hr st80 (sr80 hr) h_l q_l hm hl (by omega) hE hK hk hS) (fun u1 ⟨⟨T1, k1, _⟩, f1⟩ => ⟨_, rfl, rfl, rfl, ?_⟩)
      have E1 : kE u1 l L c := hE.kept f1 (by omega) (by omega)
      have f1' : xSm (fFo l) u u1 := f1.to (fun b hb => fFo_cd hb)
      have c1 : cR u1 k A := ⟨(f1 _ _ (by omega)).trans hc.1, fun j hj => (f1 _ _ (by omega)).trans (hc.2.1 j hj), (f1 _ _ (by omega)).trans hc.2.2⟩
      obtain ⟨k', hk', hI'⟩ := tDay hW hB hS ht hI h38
      have hst : ∀ x : Int32, fStill L c (fDay L c 1 σ) = true → fSet L c 1 (fDay L c 1 σ) := fun _ q => fDay_set hW hB hS q
      rw [tq_s, if_pos h38] at kk
      generalize hτ : fDay L c 1 σ = τ at *
      have e7 : u1 (80 + 7) 0 = τ 38 := (k1.2.2.2 0 (by omega)).1.2.2.1
      have e11 : u1 (80 + 11) 0 = nI k' := (k1.2.2.2 0 (by omega)).1.2.2.2.trans hI'.2.1
      have e6 : u1 (80 + 6) 0 = τ 28 := (k1.2.2.2 0 (by omega)).1.2.1
      have hk7 := hI.2.2.1
      have hk7' := hI'.2.2.1
      -- behind the note
      have go : ∀ (A' : Nat → Int32) (u2 : xU), aLs L k' A' → cR u2 k' A' → xSm (fun x => x = 79 ∨ x = 93) u1 u2 →
          (∀ (u' : xU) (x : Int32), xSm (fFo l) u u' → x = (tq L c m τ k' A').1 38 → cR u' (tq L c m τ k' A').2.1 (tq L c m τ k' A').2.2 → tEnd L (tq L c m τ k' A') → P (some (.int x)) u' w r) →
          xEv g (d + 5) mX3_follow 92 [some (.ref 79), none, none, none, some (.int (nI i))] [] 698 u2 w r 698 P := by
        intro A' u2 hA' c2 f2 kk2
        have k2 := k1.kept f2 (by omega)
        have E2 : kE u2 l L c := E1.kept f2 (by omega) (by omega)
        have f2' : xSm (fFo l) u u2 := f1'.tr (f2.to (fun b hb => by unfold fFo; omega))
        have e7' : u2 (80 + 7) 0 = τ 38 := (f2 _ _ (by omega)).trans e7
        refine TX3_follow_92 hr ?_
        rw [e7']
        refine ⟨fun q => xPr.use (K_isStill hr st80 (sr80 hr) h_l q_l hm E2 hK k2 SD) ⟨_, rfl, rfl, rfl, rfl, fun q2 => ?_, fun q2 => ?_⟩, fun q => ?_⟩
        · rw [nI_one]
          exact ih (i + 1) (e + 1) k' τ T1 A' u2 (by omega) (by omega) E2 k2 SD hI' q hA' c2 (fun u3 x f3 h1 h2 h3 => kk2 u3 x (f2'.tr f3) h1 h2 h3)
        · rw [xb_eq0, Classical.not_not] at q2
          obtain ⟨z1, z2⟩ := tq_set hW hB m (e + 1) τ k' A' (by omega) SD (hst 0 q2)
          refine TX3_follow_128 hr (kk2 u2 _ f2' ?_ ?_ ?_)
          · rw [e7', z1]
          · rw [z2]; exact c2
          · unfold tEnd; rw [z2]; exact ⟨hk7', hA'⟩
        · refine TX3_follow_128 hr (kk2 u2 _ f2' ?_ ?_ ?_)
          · rw [tq_home q]; exact e7'
          · rw [tq_home q]; exact c2
          · rw [tq_home q]; exact ⟨hk7', hA'⟩
      rw [e11, c1.1]
      rcases hk' with hk' | ⟨hk', b, hb, eb⟩
      · subst hk'
        rw [if_pos (show τ 48 = σ 48 from hI'.2.1.trans hI.2.1.symm)] at kk
        exact brT (nI_le (Nat.le_refl _) (by omega)) (go A u1 hA c1 xSm.rf kk)
      · subst hk'
        rw [if_neg (show ¬ τ 48 = σ 48 from fun z => by
          rw [hI'.2.1, hI.2.1] at z
          have := nI_inv (by omega) (by omega) z
          omega), eb] at kk
        refine brF (nI_ge (by omega) (by omega)) ?_
        rw [e6, eb]
        refine xVd.use (K_noteBier (d := d + 3) hr hk7 (by omega) c1) (fun u2 ⟨c2, f2⟩ => ⟨rfl, rfl, rfl, go _ u2 (hA.up hb) c2 f2 kk⟩)
/-- the way of a letter alone from v to t -/
def tE (L : xU) (e : Nat) (σ : Nat → Int32) (v t : Nat) : tTr := tq L (σ 89) (300 - e) (tL v t σ) 0 (fun _ => 0)
theorem tE_eq {L : xU} {n e v t : Nat} {σ τ : Nat → Int32} (hK : lOkk L) (hS : gSt L (σ 89) n e σ) (hv : v < lV L) (ht : t < lV L) (h : rEq (tL v t σ) τ) : tEq (tE L e σ v t) (tq L (σ 89) (300 - e) τ 0 (fun _ => 0)) := by
  have he := hS.2.2.1.2
  exact tq_r hK.1 hK.2.2.1 (300 - e) e _ _ 0 _ (by omega) (tL_st' hK.2.2.1.1 hS hv ht rsm.rf) (tL_st' hK.2.2.1.1 hS hv ht h) h
theorem K_follow {u : xU} {n e : Nat} {σ : Nat → Int32} (hK : lOkk L) (hR : kR r l) (hN : kN L l n e u σ) {v t : Nat} (hv : v < lV L) (ht : t < lV L) :
    xCall g (d + 5) mX3_follow [.ref 79, .ref 105, .int (nI v), .int (nI t)] 698 u w r 698 (xIn ((tE L e σ v t).1 38) (fun u' => cR u' (tE L e σ v t).2.1 (tE L e σ v t).2.2 ∧ tEnd L (tE L e σ v t) ∧ xSm (fFo l) u u') w r) := by
  obtain ⟨hr, h_l, q_l, hm, htd, hl⟩ := id hR
  obtain ⟨hE, ⟨Tb, hk⟩, hS⟩ := id hN
  have hb6 := hK.2.2.1.1
  have he := hS.2.2.1.2
  refine CX3_follow hr (xVd.use (K_copyFrom (d := d + 3) st80 (sr80 hr) st105 (sr105 hr) (by omega)) (fun u1 ⟨h1, f1⟩ => ⟨rfl, rfl, rfl, ?_⟩))
  have k1 : kSt L n u1 80 σ Tb := h1.st hk hb6 hS.1.2
  refine xVd.use (K_leaveOneLetter (d := d + 2) st80 (sr80 hr) hb6 k1 _ _) (fun u2 ⟨k2, f2⟩ => ⟨rfl, rfl, rfl, ?_⟩)
  have rq := tAdd_eq v t σ
  have S2 : gSt L (σ 89) 1 e (fAdd 0 (nI v) (nI t) 200 1 (up σ 88 0)) := tL_st' hb6 hS hv ht rq
  have I2 : tI2 L (σ 89) t 0 (fAdd 0 (nI v) (nI t) 200 1 (up σ 88 0)) := tI2_start hK.1 rq
  have e38 : fAdd 0 (nI v) (nI t) 200 1 (up σ 88 0) 38 = -1 := (rq 38 (by omega)).trans (tL_38 v t σ)
  obtain ⟨z1, z2⟩ := tE_eq hK hS hv ht rq
  have f12 : xSm (fFo l) u u2 := (f1.to (fun b hb => fFo_st hb)).tr (f2.to (fun b hb => fFo_st hb))
  generalize fAdd 0 (nI v) (nI t) 200 1 (up σ 88 0) = τ at *
  have f3 : xSm (fun x => x = 79) u2 (x2 (x2 u2 79 4 0) 79 5 0) := ((xSm.rf (F := fun x => x = 79)).put rfl).put rfl
  have f13 : xSm (fFo l) u (x2 (x2 u2 79 4 0) 79 5 0) := f12.tr (f3.to (fun b hb => by unfold fFo; omega))
  refine K_follow_loop hr h_l q_l hm hl hK ht (300 - e) 0 e 0 τ Tb (fun _ => 0) _ (by omega) (by omega) (hE.kept f13 (by omega) (by omega)) (k2.kept f3 (by omega)) S2 I2 e38 (fun i hi => by omega) ⟨?_, fun i hi => by omega, x2_same _ _ _ _⟩ (fun u4 x f4 y1 y2 y3 => ⟨?_, ⟨?_, ?_, f13.tr f4⟩, rfl, rfl⟩)
  · rw [x2_i _ _ (show 4 ≠ 5 by omega), x2_same]; rfl
  · rw [y1, z1]
  · rw [← z2]; exact y2
  · unfold tEnd at y3 ⊢; rw [← z2]; exact y3
end FOLLOW
