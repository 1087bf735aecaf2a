/-! THE RING of the class: states that acts led to -/
def cRow (L u : xU) (s : Nat) (ρ : Nat → Int32) : Prop := ∃ n e T, rXn L n e ρ ∧ kSt L n u s ρ T
theorem cRow.kept {L u u' : xU} {s : Nat} {ρ : Nat → Int32} (h : cRow L u s ρ) {F : Nat → Prop} (f : xSm F u u') (hF : ∀ b, s ≤ b → b ≤ s + 11 → ¬ F b) : cRow L u' s ρ := by
  obtain ⟨n, e, T, h1, h2⟩ := h
  exact ⟨n, e, T, h1, h2.kept f hF⟩
theorem cRow.copy {L u u' : xU} {s o : Nat} {ρ : Nat → Int32} (hB6 : lB L ≤ 6) (h : cRow L u o ρ) (hc : kCp u u' s o) : cRow L u' s ρ := by
  obtain ⟨n, e, T, h1, h2⟩ := h
  exact ⟨n, e, T, h1, hc.st h2 hB6 h1.1.1.2⟩
theorem cRow.cg {L u : xU} {s : Nat} {ρ τ : Nat → Int32} (hB6 : lB L ≤ 6) (h : cRow L u s ρ) (ee : ∀ j, j < 91 → τ j = ρ j) : cRow L u s τ := by
  obtain ⟨n, e, T, h1, h2⟩ := h
  exact ⟨n, e, T, h1.cg hB6 ee, h2.cg ee hB6 h1.1.1.2⟩
/-- the place of a state in the ring -/
abbrev rgP (p : Nat) : Nat := 119 + 12 * (p % 41)
theorem rgP_st (p : Nat) : xSt (rgP p) := stAll _ (srow118 _ (Nat.mod_lt _ (by omega)))
theorem rgP_sr {r : xQ} (hr : xRf r) (p : Nat) : xSr (rgP p) r := hr.2.1 _ (srow118 _ (Nat.mod_lt _ (by omega)))
def cRg (L u : xU) (o a b : Nat) (RS : Nat → Nat → Int32) : Prop := (u 117 1 = nI o ∧ u 117 2 = nI (o + a) ∧ u 117 3 = nI (o + a + b)) ∧ ∀ i, i ≤ a + b → cRow L u (rgP (o + i)) (RS i)
theorem cRg.kept {L u u' : xU} {o a b : Nat} {RS : Nat → Nat → Int32} (h : cRg L u o a b RS) {F : Nat → Prop} (f : xSm F u u') (hF : ∀ x, 117 ≤ x → x < 611 → ¬ F x) : cRg L u' o a b RS := by
  obtain ⟨⟨h1, h2, h3⟩, h4⟩ := h
  refine ⟨⟨(f _ _ (hF 117 (by omega) (by omega))).trans h1, (f _ _ (hF 117 (by omega) (by omega))).trans h2, (f _ _ (hF 117 (by omega) (by omega))).trans h3⟩, fun i hi => (h4 i hi).kept f (fun x x1 x2 => hF x ?_ ?_)⟩
  · have := Nat.mod_lt (o + i) (show 0 < 41 by omega); unfold rgP at x1; omega
  · have := Nat.mod_lt (o + i) (show 0 < 41 by omega); unfold rgP at x2; omega
def rgA (a : Nat) : Nat := if a = 40 then 40 else a + 1
def rgO (o a : Nat) : Nat := if a = 40 then o + 1 else o
def rgS (RS : Nat → Nat → Int32) (a : Nat) (σ : Nat → Int32) : Nat → Nat → Int32 := if a = 40 then (fun i => if i < 40 then RS (i + 1) else σ) else (fun i => if i ≤ a then RS i else σ)
theorem rgS_top (RS : Nat → Nat → Int32) (a : Nat) (σ : Nat → Int32) : rgS RS a σ (rgA a) = σ := by
  unfold rgS rgA
  by_cases q : a = 40
  · rw [if_pos q, if_pos q]; exact if_neg (by omega)
  · rw [if_neg q, if_neg q]; exact if_neg (by omega)
abbrev fRg : Nat → Prop := fun x => 117 ≤ x ∧ x < 611
section RING
variable {g : xGT} {d : Nat} {w : xW} {r : xQ} {L : xU} {l n e : Nat} {σ : Nat → Int32} {o a b : Nat} {RS : Nat → Nat → Int32}
/-- a state is kept at a place of the ring -/
theorem K_keepAt {u : xU} {p : Nat} {P : xPost} (hr : xRf r) (hB6 : lB L ≤ 6) (hp : p < 1000000) (h2 : u 117 2 = nI p) (h105 : cRow L u 105 σ)
    (kk : ∀ u', cRow L u' (rgP p) σ → xSm (fSt (rgP p)) u u' → P none u' w r) :
    xEv g (d + 2) mX6_keep 42 [some (.ref 117), some (.ref 105)] [] 698 u w r 698 P := by
  refine TX6_keep_42 ?_
  rw [h2]
  refine K_slot hr hp ⟨_, rfl, rfl, rfl, rfl, ⟨rgP_st p, rgP_sr hr p⟩, ?_⟩
  refine xVd.use (K_copyFrom (rgP_st p) (rgP_sr hr p) st105 (sr105 hr) (Or.inr (by have : rgP p = 119 + 12 * (p % 41) := rfl; omega))) (fun u1 ⟨c1, f1⟩ => ⟨rfl, rfl, rfl, ?_⟩)
  exact kk u1 (h105.copy hB6 c1) f1
theorem K_keep {u : xU} (hr : xRf r) (hB6 : lB L ≤ 6) (ho : o ≤ 1000) (hab : a + b ≤ 40) (hg : cRg L u o a b RS) (h105 : cRow L u 105 σ) :
    xCall g (d + 2) mX6_keep [.ref 117, .ref 105] 698 u w r 698 (xVd (fun u' => cRg L u' (rgO o a) (rgA a) 0 (rgS RS a σ) ∧ xSm fRg u u') w r) := by
  obtain ⟨⟨h1, h2, h3⟩, h4⟩ := hg
  refine CX6_keep ?_
  rw [h1, h2, nI_one, nI_sub (by omega), show (40 : Int32) = nI 40 from rfl, le_nI (by omega) (by omega)]
  have slots : ∀ i j, i ≤ 41 → j < i → i - j ≤ 40 → rgP (o + i) ≠ rgP (o + j) := fun i j h1 h2 h3 => by unfold rgP; omega
  have inr : ∀ p x, rgP p ≤ x → x ≤ rgP p + 11 → 119 ≤ x ∧ x < 611 := fun p x h1 h2 => by
    have := Nat.mod_lt p (show 0 < 41 by omega)
    unfold rgP at h1 h2; omega
  refine ⟨fun q => ?_, fun q => ?_⟩
  · have qa : a < 40 := by omega
    have f0 : xSm (fun x => x = 117) u (x2 (x2 u 117 2 (nI (o + a + 1))) 117 3 (nI (o + a + 1))) := ((xSm.rf (F := fun x => x = 117)).put rfl).put rfl
    refine K_keepAt hr hB6 (p := o + a + 1) (by omega) (by rw [x2_i _ _ (show 2 ≠ 3 by omega), x2_same]) (h105.kept f0 (by omega)) (fun u1 k1 f1 => ⟨rfl, ⟨?_, ?_⟩, rfl, rfl⟩)
    · unfold rgO rgA rgS
      rw [if_neg (by omega), if_neg (by omega), if_neg (by omega)]
      refine ⟨⟨?_, ?_, ?_⟩, fun i hi => ?_⟩
      · rw [f1 117 1 (fun z => by have := inr _ _ z.1 z.2; omega), x2_i _ _ (show 1 ≠ 3 by omega), x2_i _ _ (show 1 ≠ 2 by omega)]; exact h1
      · rw [f1 117 2 (fun z => by have := inr _ _ z.1 z.2; omega), x2_i _ _ (show 2 ≠ 3 by omega), x2_same]; rfl
      · rw [f1 117 3 (fun z => by have := inr _ _ z.1 z.2; omega), x2_same]; rfl
      · by_cases y : i ≤ a
        · simp only [if_pos y]
          have ne := slots (a + 1) i (by omega) (by omega) (by omega)
          refine ((h4 i (by omega)).kept f0 (fun x x1 x2 => by have := inr _ _ x1 x2; omega)).kept f1 (fun x x1 x2 z => ?_)
          have e1 : rgP (o + a + 1) = rgP (o + (a + 1)) := by rw [Nat.add_assoc]
          unfold fSt at z
          rw [e1] at z
          unfold rgP at ne x1 x2 z
          omega
        · simp only [if_neg y]
          have : i = a + 1 := by omega
          subst this
          exact k1
    · exact (f0.to (fun x hx => by omega)).tr (f1.to (fun x hx => by have := inr _ _ hx.1 hx.2; omega))
  · have qa : a = 40 := by omega
    subst qa
    have f0 : xSm (fun x => x = 117) u (x2 (x2 (x2 u 117 2 (nI (o + 40 + 1))) 117 3 (nI (o + 40 + 1))) 117 1 (nI (o + 1))) := (((xSm.rf (F := fun x => x = 117)).put rfl).put rfl).put rfl
    rw [nI_one]
    refine K_keepAt hr hB6 (p := o + 40 + 1) (by omega) (by rw [x2_i _ _ (show 2 ≠ 1 by omega), x2_i _ _ (show 2 ≠ 3 by omega), x2_same]) (h105.kept f0 (by omega)) (fun u1 k1 f1 => ⟨rfl, ⟨?_, ?_⟩, rfl, rfl⟩)
    · unfold rgO rgA rgS
      rw [if_pos rfl, if_pos rfl, if_pos rfl]
      refine ⟨⟨?_, ?_, ?_⟩, fun i hi => ?_⟩
      · rw [f1 117 1 (fun z => by have := inr _ _ z.1 z.2; omega), x2_same]
      · rw [f1 117 2 (fun z => by have := inr _ _ z.1 z.2; omega), x2_i _ _ (show 2 ≠ 1 by omega), x2_i _ _ (show 2 ≠ 3 by omega), x2_same]
      · rw [f1 117 3 (fun z => by have := inr _ _ z.1 z.2; omega), x2_i _ _ (show 3 ≠ 1 by omega), x2_same]
      · have e2 : o + 1 + i = o + (i + 1) := by omega
        rw [e2]
        by_cases y : i < 40
        · simp only [if_pos y]
          have ne := slots 41 (i + 1) (by omega) (by omega) (by omega)
          refine ((h4 (i + 1) (by omega)).kept f0 (fun x x1 x2 => by have := inr _ _ x1 x2; omega)).kept f1 (fun x x1 x2 z => ?_)
          have e1 : rgP (o + 40 + 1) = rgP (o + 41) := by rw [Nat.add_assoc]
          unfold fSt at z
          rw [e1] at z
          unfold rgP at ne x1 x2 z
          omega
        · simp only [if_neg y]
          have : i = 40 := by omega
          subst this
          exact k1
    · exact (f0.to (fun x hx => by omega)).tr (f1.to (fun x hx => by have := inr _ _ hx.1 hx.2; omega))
/-- going on from a state that was kept -/
abbrev fGo : Nat → Prop := fun x => (55 ≤ x ∧ x < 79) ∨ (105 ≤ x ∧ x ≤ 116)
theorem K_goOnFrom {u : xU} {s : Nat} {ρ : Nat → Int32} (hK : lOkk L) (hR : kR r l) (hL : kL u l L) (h_s : xSt s) (q_s : xSr s r) (hs : 116 < s) (h : cRow L u s ρ) :
    xCall g (d + 3) mX11_goOnFrom [.ref 8, .ref s] 698 u w r 698 (xVd (fun u' => (∃ n e, rXn L n e ρ ∧ kN L l n e u' ρ) ∧ xSm fGo u u') w r) := by
  obtain ⟨hr, h_l, q_l, hm, ht, hl⟩ := id hR
  have hb6 := hK.2.2.1.1
  obtain ⟨n, e, T, x1, k1⟩ := h
  refine CX11_goOnFrom hr ht (xVd.use (K_copyFrom (d := d + 1) st105 (sr105 hr) h_s q_s (Or.inl (by omega))) (fun u1 ⟨c1, f1⟩ => ⟨rfl, rfl, rfl, ?_⟩))
  have kk := c1.st k1 hb6 x1.1.1.2
  have L1 : kL u1 l L := hL.kept f1 (by omega)
  rw [kk.1.2.1]
  refine xVd.use (K_lay hr h_l q_l (by omega) hK.1 L1.2.1) (fun u2 ⟨h2, f2⟩ => ⟨rfl, rfl, rfl, rfl, ⟨⟨n, e, x1, ⟨L1.kept f2 (by omega), h2⟩, ⟨T, kk.kept f2 (by omega)⟩, x1.1⟩, ?_⟩, rfl, rfl⟩)
  exact (f1.to (fun x hx => Or.inr hx)).tr (f2.to (fun x hx => Or.inl hx))
theorem K_undo {u : xU} (hK : lOkk L) (hR : kR r l) (hL : kL u l L) (ho : o ≤ 1000) (hab : a + b ≤ 40) (hg : cRg L u o a b RS) :
    xCall g (d + 4) mX11_undo [.ref 8] 698 u w r 698 (fun rv u' w' r' => w = w' ∧ r = r' ∧ ((a = 0 ∧ rv = some (.int 0) ∧ u' = u) ∨ (0 < a ∧ rv = some (.int 1) ∧ cRg L u' o (a - 1) (b + 1) RS ∧ (∃ n e, rXn L n e (RS (a - 1)) ∧ kN L l n e u' (RS (a - 1))) ∧ xSm (fun x => fGo x ∨ x = 117) u u'))) := by
  have hr := hR.1
  have hb6 := hK.2.2.1.1
  obtain ⟨⟨h1, h2, h3⟩, h4⟩ := id hg
  refine CX11_undo hr (CX6_undoable ⟨_, rfl, rfl, rfl, rfl, ?_⟩)
  rw [h1, h2, nI_sub (by omega), show (0 : Int32) = nI 0 from rfl, eq_nI (by omega) (by omega)]
  refine ⟨fun q => ⟨rfl, rfl, Or.inl ⟨by omega, rfl, rfl⟩⟩, fun q => ?_⟩
  refine CX6_stepBack ?_
  rw [h2, show nI (o + a) - 1 = nI (o + a - 1) from nI_sub (a := o + a) (b := 1) (by omega)]
  have f0 : xSm (fun x => x = 117) u (x2 u 117 2 (nI (o + a - 1))) := (xSm.rf (F := fun x => x = 117)).put rfl
  have inr : ∀ p x, rgP p ≤ x → x ≤ rgP p + 11 → 119 ≤ x ∧ x < 611 := fun p x h1 h2 => by
    have := Nat.mod_lt p (show 0 < 41 by omega)
    unfold rgP at h1 h2; omega
  have g0 : cRg L (x2 u 117 2 (nI (o + a - 1))) o (a - 1) (b + 1) RS := by
    refine ⟨⟨?_, ?_, ?_⟩, fun i hi => (h4 i (by omega)).kept f0 (fun x x1 x2 => by have := inr _ _ x1 x2; omega)⟩
    · rw [x2_i _ _ (show 1 ≠ 2 by omega)]; exact h1
    · rw [x2_same]; congr 1; omega
    · rw [x2_i _ _ (show 3 ≠ 2 by omega), h3]; congr 1; omega
  have hl := hR.2.2.2.2.2
  refine K_slot hr (by omega) ⟨_, rfl, rfl, rfl, rfl, ⟨rgP_st _, rgP_sr hr _⟩, _, rfl, rfl, rfl, ⟨rgP_st _, rgP_sr hr _⟩, ?_⟩
  have e1 : o + a - 1 = o + (a - 1) := by omega
  have row : cRow L (x2 u 117 2 (nI (o + a - 1))) (rgP (o + a - 1)) (RS (a - 1)) := by rw [e1]; have := g0.2 (a - 1) (by omega); rw [e1] at this; exact this
  refine xVd.use (K_goOnFrom (d := d) hK hR (hL.kept f0 (by omega)) (rgP_st _) (rgP_sr hr _) (by have : rgP (o + a - 1) = 119 + 12 * ((o + a - 1) % 41) := rfl; omega) row) (fun u1 ⟨n1, f1⟩ => ⟨rfl, rfl, rfl, rfl, rfl, Or.inr ⟨by omega, rfl, g0.kept f1 (by omega), n1, ?_⟩⟩)
  exact (f0.to (fun x hx => Or.inr hx)).tr (f1.to (fun x hx => Or.inl hx))
theorem K_redo {u : xU} (hK : lOkk L) (hR : kR r l) (hL : kL u l L) (ho : o ≤ 1000) (hab : a + b ≤ 40) (hg : cRg L u o a b RS) :
    xCall g (d + 4) mX11_redo [.ref 8] 698 u w r 698 (fun rv u' w' r' => w = w' ∧ r = r' ∧ ((b = 0 ∧ rv = some (.int 0) ∧ u' = u) ∨ (0 < b ∧ rv = some (.int 1) ∧ cRg L u' o (a + 1) (b - 1) RS ∧ (∃ n e, rXn L n e (RS (a + 1)) ∧ kN L l n e u' (RS (a + 1))) ∧ xSm (fun x => fGo x ∨ x = 117) u u'))) := by
  have hr := hR.1
  have hb6 := hK.2.2.1.1
  obtain ⟨⟨h1, h2, h3⟩, h4⟩ := id hg
  refine CX11_redo hr (CX6_redoable ⟨_, rfl, rfl, rfl, rfl, ?_⟩)
  rw [h3, h2, nI_sub (by omega), show (0 : Int32) = nI 0 from rfl, eq_nI (by omega) (by omega)]
  refine ⟨fun q => ⟨rfl, rfl, Or.inl ⟨by omega, rfl, rfl⟩⟩, fun q => ?_⟩
  refine CX6_stepOn ?_
  rw [h2, nI_one]
  have f0 : xSm (fun x => x = 117) u (x2 u 117 2 (nI (o + a + 1))) := (xSm.rf (F := fun x => x = 117)).put rfl
  have inr : ∀ p x, rgP p ≤ x → x ≤ rgP p + 11 → 119 ≤ x ∧ x < 611 := fun p x h1 h2 => by
    have := Nat.mod_lt p (show 0 < 41 by omega)
    unfold rgP at h1 h2; omega
  have g0 : cRg L (x2 u 117 2 (nI (o + a + 1))) o (a + 1) (b - 1) RS := by
    refine ⟨⟨?_, ?_, ?_⟩, fun i hi => (h4 i (by omega)).kept f0 (fun x x1 x2 => by have := inr _ _ x1 x2; omega)⟩
    · rw [x2_i _ _ (show 1 ≠ 2 by omega)]; exact h1
    · rw [x2_same]; rfl
    · rw [x2_i _ _ (show 3 ≠ 2 by omega), h3]; congr 1; omega
  have hl := hR.2.2.2.2.2
  refine K_slot hr (by omega) ⟨_, rfl, rfl, rfl, rfl, ⟨rgP_st _, rgP_sr hr _⟩, _, rfl, rfl, rfl, ⟨rgP_st _, rgP_sr hr _⟩, ?_⟩
  have row : cRow L (x2 u 117 2 (nI (o + a + 1))) (rgP (o + a + 1)) (RS (a + 1)) := g0.2 (a + 1) (by omega)
  refine xVd.use (K_goOnFrom (d := d) hK hR (hL.kept f0 (by omega)) (rgP_st _) (rgP_sr hr _) (by have : rgP (o + a + 1) = 119 + 12 * ((o + a + 1) % 41) := rfl; omega) row) (fun u1 ⟨n1, f1⟩ => ⟨rfl, rfl, rfl, rfl, rfl, Or.inr ⟨by omega, rfl, g0.kept f1 (by omega), n1, ?_⟩⟩)
  exact (f0.to (fun x hx => Or.inr hx)).tr (f1.to (fun x hx => Or.inl hx))
end RING
