/-! LOOKING AHEAD: copies; running out -/
theorem xcp_ne {u : xU} {a b n c j : Nat} (h : c ≠ b) : xcp u a b n c j = u c j := by unfold xcp; rw [if_neg (fun q => h q.1)]
theorem xcp_eq {u : xU} {a b n j : Nat} (h : j < n) : xcp u a b n b j = u a j := by unfold xcp; rw [if_pos ⟨rfl, h⟩]
/-- s says what o said -/
def kCp (u u' : xU) (s o : Nat) : Prop := (∀ k, k < 3 → u' s k = u o k) ∧ (∀ k i, 1 ≤ k → k ≤ 4 → i < 6 → u' (s + k) i = u (o + k) i) ∧ (∀ k i, 5 ≤ k → k ≤ 11 → i < 10 → u' (s + k) i = u (o + k) i)
theorem xSm.cp {F : Nat → Prop} {u v : xU} {a b n : Nat} (h : xSm F u v) (hb : F b) : xSm F u (xcp v a b n) := fun c i hc => by
  rw [xcp_ne (fun q => hc (by rw [q]; exact hb))]
  exact h c i hc
theorem kCp.st {L : xU} {n : Nat} {u u' : xU} {s o : Nat} {σ T : Nat → Int32} (h : kCp u u' s o) (hk : kSt L n u o σ T) (hB6 : lB L ≤ 6) (hn : n ≤ 10) : kSt L n u' s σ T := by
  obtain ⟨h0, h1, h2⟩ := h
  obtain ⟨⟨a1, a2, a3⟩, b1, b2, b3⟩ := hk
  refine ⟨⟨(h0 0 (by omega)).trans a1, (h0 1 (by omega)).trans a2, (h0 2 (by omega)).trans a3⟩, fun b hb => (h1 1 b (by omega) (by omega) hb).trans (b1 b hb), fun b hb => ?_, fun l hl => ?_⟩
  · rw [h1 2 b (by omega) (by omega) (by omega), h1 3 b (by omega) (by omega) (by omega), h1 4 b (by omega) (by omega) (by omega)]; exact b2 b hb
  · rw [h2 5 l (by omega) (by omega) (by omega), h2 6 l (by omega) (by omega) (by omega), h2 7 l (by omega) (by omega) (by omega), h2 8 l (by omega) (by omega) (by omega), h2 9 l (by omega) (by omega) (by omega), h2 10 l (by omega) (by omega) (by omega), h2 11 l (by omega) (by omega) (by omega)]; exact b3 l hl
/-- the day of burial when m days go by, or -1 -/
def bD (L : xU) (c : Int32) : Nat → (Nat → Int32) → Nat → Int32
  | 0, _, _ => -1
  | m + 1, σ, b => if fOne L c σ b = 3 then σ 90 else bD L c m (fFour L c (fOne L c σ)) b
/-- rows alike in what biers do -/
def bEq (σ τ : Nat → Int32) : Prop := ∀ j, (j < 18 ∨ j = 90) → τ j = σ j
theorem bEq.tr {σ τ υ : Nat → Int32} (h1 : bEq σ τ) (h2 : bEq τ υ) : bEq σ υ := fun j hj => (h2 j hj).trans (h1 j hj)
theorem bEq.sy {σ τ : Nat → Int32} (h1 : bEq σ τ) : bEq τ σ := fun j hj => (h1 j hj).symm
theorem rsm.b {F : Nat → Prop} {σ τ : Nat → Int32} (h : rsm F σ τ) (hF : ∀ j, j < 18 ∨ j = 90 → ¬ F j) : bEq σ τ := fun j hj => h j (hF j hj)
theorem fCome_b {L : xU} {c : Int32} {b v n m : Nat} {σ τ : Nat → Int32} (h : bEq σ τ) (hn : σ 88 = nI n) (hn10 : n ≤ 10) (hm : τ 88 = nI m) (hm10 : m ≤ 10) (hb : b < 6) : bEq (fCome L c b v σ) (fCome L c b v τ) := by
  have ew : fWt L c τ b v = fWt L c σ b v := by unfold fWt; rw [h 90 (Or.inr rfl)]
  intro j hj
  unfold fCome
  rw [ew, h 90 (Or.inr rfl)]
  have eu : ∀ x : Int32, up (up (up τ b 1) (6 + b) (nI v)) (12 + b) x j = up (up (up σ b 1) (6 + b) (nI v)) (12 + b) x j := fun x => by
    unfold up
    rw [h j hj]
  by_cases q : nI v = L 5 b
  · rw [if_pos q, if_pos q, hn, hm, nc (by omega), nc (by omega), fBury_at _ _ _ m hm10, fBury_at _ _ _ n hn10]
    have ex : ∀ x : Int32, up (up (up (up (up τ b 1) (6 + b) (nI v)) (12 + b) x) b 3) (12 + b) (-1) j = up (up (up (up (up σ b 1) (6 + b) (nI v)) (12 + b) x) b 3) (12 + b) (-1) j := fun x => by
      unfold up
      rw [h j hj]
    rcases hj with hj | hj
    · rw [if_neg (by omega), if_neg (by omega), if_neg (by omega), if_neg (by omega), ex]
    · rw [if_neg (by omega), if_neg (by omega), if_neg (by omega), if_neg (by omega), ex]
  · rw [if_neg q, if_neg q, eu]
theorem fOne_b {L : xU} {c : Int32} {n e n' e' : Nat} {σ τ : Nat → Int32} (hW : lWok L) (hB : lBk L) (h : bEq σ τ) (hS : gSt L c n e σ) (hS' : gSt L c n' e' τ) : bEq (fOne L c σ) (fOne L c τ) := by
  have hb6 := hB.1
  have : ∀ k, k ≤ lB L → bEq (xfold k (fOneB L c) σ) (xfold k (fOneB L c) τ) := by
    intro k
    induction k with
    | zero => intro _; exact h
    | succ k ih =>
      intro hk
      have i := ih (by omega)
      have S1 := fOneK_st hW hB hS (show k ≤ lB L by omega)
      have S1' := fOneK_st hW hB hS' (show k ≤ lB L by omega)
      rw [xfold_s, xfold_s]
      generalize xfold k (fOneB L c) σ = σ1 at i S1 ⊢
      generalize xfold k (fOneB L c) τ = τ1 at i S1' ⊢
      unfold fOneB
      rw [i k (by omega), i 90 (by omega), i (12 + k) (by omega), i (6 + k) (by omega)]
      split
      · exact fCome_b i S1.1.1 S1.1.2 S1'.1.1 S1'.1.2 (by omega)
      · split
        · exact fCome_b i S1.1.1 S1.1.2 S1'.1.1 S1'.1.2 (by omega)
        · exact i
  exact this (lB L) (Nat.le_refl _)
theorem fFour_b {L : xU} {c : Int32} {σ τ : Nat → Int32} (hB : lBk L) (h : bEq σ τ) : bEq (fFour L c σ) (fFour L c τ) := by
  have hb6 := hB.1
  have : ∀ k, k ≤ lB L → bEq (xfold k (fFourB L c) σ) (xfold k (fFourB L c) τ) := by
    intro k
    induction k with
    | zero => intro _; exact h
    | succ k ih =>
      intro hk
      have i := ih (by omega)
      rw [xfold_s, xfold_s]
      generalize xfold k (fFourB L c) σ = σ1 at i ⊢
      generalize xfold k (fFourB L c) τ = τ1 at i ⊢
      have et : fTo L c τ1 k = fTo L c σ1 k := by unfold fTo; rw [i (6 + k) (by omega)]
      unfold fFourB
      rw [i k (by omega), i 90 (by omega), i (12 + k) (by omega), i (6 + k) (by omega), et]
      split
      · intro j hj
        unfold up
        rw [i j hj]
      · exact i
  have i := this (lB L) (Nat.le_refl _)
  intro j hj
  unfold fFour fFourK
  rw [i 90 (Or.inr rfl)]
  unfold up
  rw [i j hj]
/-- the biers on a day, with the letters or without -/
theorem fDay_b {L : xU} {c : Int32} {n e : Nat} {σ : Nat → Int32} (hW : lWok L) (hB : lBk L) (hS : gSt L c n e σ) : bEq (fFour L c (fOne L c σ)) (fDay L c n σ) := by
  have S1 := fOne_st hW hB hS
  have S2 := fTwo_st hB S1
  refine fFour_b hB ?_
  exact ((fTwo_fr S1.1.2).b (by omega)).tr ((fThree_fr hW hB S2).b (by omega))
theorem bD_b {L : xU} {c : Int32} (hW : lWok L) (hB : lBk L) : ∀ m n e n' e' (σ τ : Nat → Int32) (b : Nat), b < 18 → e + m ≤ 300 → e' + m ≤ 300 → bEq σ τ → gSt L c n e σ → gSt L c n' e' τ → bD L c m τ b = bD L c m σ b := by
  intro m
  induction m with
  | zero => intro n e n' e' σ τ b _ _ _ _ _ _; rfl
  | succ m ih =>
    intro n e n' e' σ τ b hb he he' h hS hS'
    have h1 := fOne_b hW hB h hS hS'
    rw [bD, bD, h1 b (Or.inl hb), h 90 (Or.inr rfl)]
    rw [ih n (e + 1) n' (e' + 1) _ _ b hb (by omega) (by omega) (fFour_b hB h1) (fFour_st hW hB (fOne_st hW hB hS) (by omega)) (fFour_st hW hB (fOne_st hW hB hS') (by omega))]
theorem bD_still {L : xU} {c : Int32} (hB6 : lB L ≤ 6) : ∀ m (σ : Nat → Int32) (b : Nat), b < lB L → fStill L c σ = true → ¬ σ b = 3 → bD L c m σ b = -1 := by
  intro m
  induction m with
  | zero => intro σ b _ _ _; rfl
  | succ m ih =>
    intro σ b hb h h3
    rw [bD, fStill_one h, if_neg h3, fStill_four h]
    exact ih _ b hb (fStill_cg hB6 (fun j hj => up_n (by omega)) h) (by rw [up_n (by omega)]; exact h3)
theorem fOne_3 {L : xU} {c : Int32} {n e b : Nat} {σ : Nat → Int32} (hW : lWok L) (hB : lBk L) (hS : gSt L c n e σ) (hb : b < lB L) (h3 : σ b = 3) : fOne L c σ b = 3 := by
  have hb6 := hB.1
  have : ∀ k, k ≤ lB L → xfold k (fOneB L c) σ b = 3 := by
    intro k
    induction k with
    | zero => intro _; exact h3
    | succ k ih =>
      intro hk
      have i := ih (by omega)
      have S1 := fOneK_st hW hB hS (show k ≤ lB L by omega)
      rw [xfold_s]
      generalize xfold k (fOneB L c) σ = σ1 at i S1 ⊢
      by_cases q : k = b
      · subst q
        unfold fOneB
        rw [if_neg (fun z => absurd (i.symm.trans z.1) (by decide)), if_neg (fun z => absurd (i.symm.trans z.1) (by decide))]
        exact i
      · unfold fOneB
        split
        · rw [fCome_fr L c (by omega) _ S1.1.1 S1.1.2 b (by omega)]; exact i
        · split
          · rw [fCome_fr L c (by omega) _ S1.1.1 S1.1.2 b (by omega)]; exact i
          · exact i
  exact this (lB L) (Nat.le_refl _)
theorem fFour_3 {L : xU} {c : Int32} {σ : Nat → Int32} {b : Nat} (hB6 : lB L ≤ 6) (hb : b < lB L) : fFour L c σ b = 3 ↔ σ b = 3 := by
  have : ∀ k, k ≤ lB L → (xfold k (fFourB L c) σ b = 3 ↔ σ b = 3) := by
    intro k
    induction k with
    | zero => intro _; exact Iff.rfl
    | succ k ih =>
      intro hk
      have i := ih (by omega)
      rw [xfold_s]
      generalize xfold k (fFourB L c) σ = σ1 at i ⊢
      by_cases q : k = b
      · subst q
        unfold fFourB
        split
        · next hc =>
          rw [up_n (by omega), up_n (by omega), up_s, ← i, hc.1.1.1]
          decide
        · exact i
      · rw [fFourB_fr L c k _ b (by omega)]; exact i
  unfold fFour
  rw [up_n (by omega)]
  exact this (lB L) (Nat.le_refl _)
abbrev fLk (l : Nat) : Nat → Prop := fun b => (79 ≤ b ∧ b < 105) ∨ b = l + 14
section LOOK
variable {g : xGT} {d : Nat} {w : xW} {r : xQ} {L : xU} {c : Int32} {l : Nat}
theorem K_copyFrom {u : xU} {s o : Nat} (h_s : xSt s) (q_s : xSr s r) (h_o : xSt o) (q_o : xSr o r) (hd : s + 11 < o ∨ o + 11 < s) : xCall g (d + 1) mX9_copyFrom [.ref s, .ref o] 698 u w r 698 (xVd (fun u' => kCp u u' s o ∧ xSm (fSt s) u u') w r) := by
  refine CX9_copyFrom h_s q_s h_o q_o ?_
  generalize hU : xcp _ (o + 11) (s + 11) 10 = U
  refine ⟨rfl, ⟨⟨fun k hk => ?_, fun k i h1 h2 hi => ?_, fun k i h1 h2 hi => ?_⟩, ?_⟩, rfl, rfl⟩
  · have : k = 0 ∨ k = 1 ∨ k = 2 := by omega
    rw [← hU]
    rcases this with rfl | rfl | rfl <;> simp (disch := omega) only [xcp_ne, x2_i, x2_a, x2_same]
  · have : k = 1 ∨ k = 2 ∨ k = 3 ∨ k = 4 := by omega
    rw [← hU]
    rcases this with rfl | rfl | rfl | rfl <;> simp (disch := omega) only [xcp_ne, xcp_eq, x2_i, x2_a, x2_same]
  · have : k = 5 ∨ k = 6 ∨ k = 7 ∨ k = 8 ∨ k = 9 ∨ k = 10 ∨ k = 11 := by omega
    rw [← hU]
    rcases this with rfl | rfl | rfl | rfl | rfl | rfl | rfl <;> simp (disch := omega) only [xcp_ne, xcp_eq, x2_i, x2_a, x2_same]
  · rw [← hU]
    exact ((((((((((((((xSm.rf.put ⟨by omega, by omega⟩).put ⟨by omega, by omega⟩).put ⟨by omega, by omega⟩).cp ⟨by omega, by omega⟩).cp ⟨by omega, by omega⟩).cp ⟨by omega, by omega⟩).cp ⟨by omega, by omega⟩).cp ⟨by omega, by omega⟩).cp ⟨by omega, by omega⟩).cp ⟨by omega, by omega⟩).cp ⟨by omega, by omega⟩).cp ⟨by omega, by omega⟩).cp ⟨by omega, by omega⟩).cp ⟨by omega, by omega⟩)
/-- what is known when all has run out -/
def kOut (L : xU) (c : Int32) (n m : Nat) (σ T : Nat → Int32) (u' : xU) : Prop := ∃ σ' T' : Nat → Int32, kSt L n u' 80 σ' T' ∧ (∀ j, j < 91 → j ≠ 90 → σ' j = fRun L c n m σ j) ∧ ∀ b, b < lB L → (σ b = 3 → σ' b = 3 ∧ T' b = T b) ∧ (¬ σ b = 3 → (σ' b = 3 → T' b = bD L c m σ b) ∧ (¬ σ' b = 3 → bD L c m σ b = -1))
theorem K_runOut_loop {P : xPost} (hr : xRf r) (h_l : xLd l) (q_l : xLr l r) (hm : r 52 1 = some l) (hl : l + 14 < 52) (hK : lOkk L) : ∀ (m i e n : Nat) (σ T : Nat → Int32) (u : xU), e + m = 300 → i + m ≤ 300 → kE u l L c → kSt L n u 80 σ T → gSt L c n e σ →
    (∀ u' : xU, kOut L c n m σ T u' → xSm (fLk l) u u' → P (some (.ref 80)) u' w r) →
    xEv g (d + 5) mX3_runOut 10 [some (.ref 79), none, some (.int (nI i))] [] 698 u w r 698 P := by
  have hW := hK.1
  have hB := hK.2.2.1
  have hb6 := hB.1
  intro m
  induction m with
  | zero =>
    intro i e n σ T u he hi hE hk hS kk
    refine TX3_runOut_10 hr (brF (fun q => q.2 ?_) (kk u ⟨σ, T, hk, fun _ _ _ => rfl, fun b _ => ⟨fun h => ⟨h, rfl⟩, fun h => ⟨fun h' => absurd h' h, fun _ => rfl⟩⟩⟩ xSm.rf))
    rw [hk.1.1, hS.2.2.1.1]
    exact nI_le (a := 300) (by omega) (by omega)
  | succ m ih =>
    intro i e n σ T u he hi hE hk hS kk
    have S1 := fDay_st hW hB hS (by omega)
    refine TX3_runOut_10 hr (brT ⟨nI_ge (b := 300) (by omega) (by omega), ?_⟩ ?_)
    · rw [hk.1.1, hS.2.2.1.1]
      exact nI_ge (b := 300) (by omega) (by omega)
    · refine xIn.use (K_goBy hr st80 (sr80 hr) h_l q_l hm hl (by omega) hE hK hk hS) (fun u1 ⟨⟨T1, k1, t1⟩, f1⟩ => ⟨_, rfl, rfl, rfl, ?_⟩)
      have E1 : kE u1 l L c := hE.kept f1 (by omega) (by omega)
      have f1' : xSm (fLk l) u u1 := f1.to (fun b hb => hb.imp (fun h => ⟨by omega, by omega⟩) id)
      have b3 : ∀ b, b < lB L → (fDay L c n σ b = 3 ↔ fOne L c σ b = 3) := fun b hb => by rw [fDay_b hW hB hS b (by omega), fFour_3 hb6 hb]
      have eD : ∀ b, b < lB L → bD L c m (fDay L c n σ) b = bD L c m (fFour L c (fOne L c σ)) b := fun b hb => bD_b hW hB m n (e + 1) n (e + 1) _ _ b (by omega) (by omega) (by omega) (fDay_b hW hB hS) (fFour_st hW hB (fOne_st hW hB hS) (by omega)) S1
      refine xPr.use (K_isStill hr st80 (sr80 hr) h_l q_l hm E1 hK k1 S1) ⟨_, rfl, rfl, rfl, rfl, fun q => ?_, fun q => ?_⟩
      · rw [nI_one]
        refine ih (i + 1) (e + 1) n _ T1 u1 (by omega) (by omega) E1 k1 S1 (fun u2 ⟨σ', T', o1, o2, o3⟩ f2 => kk u2 ⟨σ', T', o1, fun j h1 h2 => o2 j h1 h2, fun b hb => ⟨fun h => ?_, fun h => ?_⟩⟩ (f1'.tr f2))
        · have h1 : fDay L c n σ b = 3 := (b3 b hb).mpr (fOne_3 hW hB hS hb h)
          obtain ⟨z1, z2⟩ := (o3 b hb).1 h1
          exact ⟨z1, z2.trans (t1.1 b hb h)⟩
        · rw [bD]
          by_cases y : fOne L c σ b = 3
          · obtain ⟨z1, z2⟩ := (o3 b hb).1 ((b3 b hb).mpr y)
            rw [if_pos y]
            exact ⟨fun _ => z2.trans (t1.2 b hb h y), fun z => absurd z1 z⟩
          · rw [if_neg y, ← eD b hb]
            exact (o3 b hb).2 (fun z => y ((b3 b hb).mp z))
      · rw [xb_eq0, Classical.not_not] at q
        have hset := fDay_set hW hB hS q
        refine kk u1 ⟨fDay L c n σ, T1, k1, fun j h1 h2 => (fRun_set hW hB m (e + 1) _ (by omega) S1 hset j h2).symm, fun b hb => ⟨fun h => ?_, fun h => ?_⟩⟩ f1'
        · exact ⟨(b3 b hb).mpr (fOne_3 hW hB hS hb h), t1.1 b hb h⟩
        · rw [bD]
          by_cases y : fOne L c σ b = 3
          · rw [if_pos y]
            exact ⟨fun _ => t1.2 b hb h y, fun z => absurd ((b3 b hb).mpr y) z⟩
          · rw [if_neg y, ← eD b hb]
            have n3 : ¬ fDay L c n σ b = 3 := fun z => y ((b3 b hb).mp z)
            exact ⟨fun z => absurd z n3, fun _ => bD_still hb6 m _ b hb q n3⟩
theorem K_runOut {u : xU} {n e m : Nat} {σ T : Nat → Int32} {P : xPost} (hr : xRf r) (h_l : xLd l) (q_l : xLr l r) (hm : r 52 1 = some l) (hl : l + 14 < 52) (hK : lOkk L) (he : e + m = 300) (hE : kE u l L c) (hk : kSt L n u 105 σ T) (hS : gSt L c n e σ)
    (kk : ∀ u' : xU, kOut L c n m σ T u' → xSm (fLk l) u u' → P (some (.ref 80)) u' w r) :
    xCall g (d + 5) mX3_runOut [.ref 79, .ref 105] 698 u w r 698 P := by
  refine CX3_runOut hr (xVd.use (K_copyFrom st80 (sr80 hr) st105 (sr105 hr) (by omega)) (fun u1 ⟨h1, f1⟩ => ⟨rfl, rfl, rfl, ?_⟩))
  refine K_runOut_loop hr h_l q_l hm hl hK m 0 e n σ T u1 he (by omega) (hE.kept f1 (by omega) (by omega)) (h1.st hk hK.2.2.1.1 hS.1.2) hS (fun u2 o f2 => kk u2 o ((f1.to (fun b hb => ?_)).tr f2))
  left; omega
/-! the reference -/
theorem R_goToEnd_loop {P : xPost} (hr : xRf r) (hK : lOkk L) : ∀ (m e n : Nat) (σ : Nat → Int32) (u : xU), e + m = 300 → rE u L c → hOk u → u 684 = σ → gSt L c n e σ →
    (∀ u' : xU, u' 684 = fRun L c n m σ → xSn fDh u u' → P none u' w r) →
    xEv g (d + 9) mX12_goToEnd 4 [some (.ref 655)] [] 698 u w r 698 P := by
  have hW := hK.1
  have hB := hK.2.2.1
  intro m
  induction m with
  | zero =>
    intro e n σ u he hE h0 hσ hS kk
    refine TX12_goToEnd_4 hr (brT ?_ (kk u hσ xSn.rf))
    rw [hσ, hS.2.2.1.1]
    exact nI_le (a := 300) (by omega) (by omega)
  | succ m ih =>
    intro e n σ u he hE h0 hσ hS kk
    subst hσ
    have S1 := fDay_st hW hB hS (by omega)
    refine TX12_goToEnd_4 hr (brF ?_ ?_)
    · rw [hS.2.2.1.1]
      exact nI_ge (b := 300) (by omega) (by omega)
    · refine xIn.use (R_goDay hr hE hK h0 hS) (fun u1 ⟨h1, f1, t1⟩ => ⟨_, rfl, rfl, rfl, ?_⟩)
      exact ih (e + 1) n _ u1 (by omega) (hE.kn f1 (by rw [h1]; exact S1.2.1)) (t1.ok h0) h1 S1 (fun u2 h2 f2 => kk u2 h2 (f1.tr f2))
/-- what the reference writes when it is asked -/
abbrev fRx : Nat → Nat → Prop := fun b i => b = 663 ∨ b = 664 ∨ b = 684 ∨ b = 685 ∨ b = 686 ∨ b = 688 ∨ b = 689 ∨ b = 695 ∨ (b = 655 ∧ i = 61)
/-- a reference at rest: its land, where all is now -/
def rN1 (L : xU) (n e : Nat) (u : xU) (σ : Nat → Int32) : Prop := rL u L ∧ u 683 = σ ∧ gSt L (σ 89) n e σ ∧ ∀ j, 91 ≤ j → u 684 j = u 683 j
theorem R_loaded {u : xU} {n e : Nat} {σ : Nat → Int32} {P : xPost} (hr : xRf r) (hK : lOkk L) (hN : rN1 L n e u σ) (kk : ∀ u' : xU, u' 684 = σ → hOk u' → rE u' L (σ 89) → xSn fRx u u' → P none u' w r) :
    xCall g (d + 2) mX12_load [.ref 655] 698 u w r 698 P := by
  refine xVd.use (R_load hr hN.1 hK.1 hN.2.2.2) (fun u1 ⟨h1, h2, h3, h4⟩ => kk u1 (h1.trans hN.2.1) ⟨0, by omega, h2⟩ (by rw [hN.2.1] at h3; exact h3) (h4.to (fun b i h => ?_)))
  rcases h with h | h | h <;> simp [fRx, h]
theorem fRun_fr {n : Nat} (hW : lWok L) (hB : lBk L) : ∀ m e σ, e + m ≤ 300 → gSt L c n e σ → rsm (fun j => j < 58 ∨ j = 90) σ (fRun L c n m σ) := by
  intro m
  induction m with
  | zero => intro e σ _ _; exact rsm.rf
  | succ m ih =>
    intro e σ he h
    exact (fDay_fr hW hB h).tr (ih (e + 1) _ (by omega) (fDay_st hW hB h (by omega)))
theorem R_goToEnd {u : xU} {n e m : Nat} {σ : Nat → Int32} {P : xPost} (hr : xRf r) (hK : lOkk L) (hN : rN1 L n e u σ) (he : e + m = 300) (kk : ∀ u' : xU, u' 684 = fRun L (σ 89) n m σ → u' 683 = σ → xSn fRx u u' → P none u' w r) :
    xCall g (d + 10) mX12_goToEnd [.ref 655] 698 u w r 698 P := by
  refine CX12_goToEnd (R_loaded hr hK hN (fun u1 h1 h2 h3 f1 => ⟨rfl, rfl, rfl, ?_⟩))
  refine R_goToEnd_loop hr hK m e n σ u1 he h3 h2 h1 hN.2.2.1 (fun u2 g1 f2 => kk u2 g1 ?_ (f1.tr (f2.to (fun b i h => ?_))))
  · have : u2 683 = u1 683 := funext fun i => f2 _ _ (by omega)
    rw [this]
    have : u1 683 = u 683 := funext fun i => f1 _ _ (by omega)
    rw [this]
    exact hN.2.1
  · rcases h with h | h | h | h | h <;> simp [fRx, h]
end LOOK
