/-! ROADS of the class: findNext, lay, passed, nearest -/
/-- a way's days, or -1 -/
def gDok (D : Nat → Nat → Int32) : Prop := ∀ a b, D a b = -1 ∨ (1 ≤ (D a b).toInt ∧ (D a b).toInt ≤ 9)
theorem gDays_ok {L : xU} {c : Int32} {nv n : Nat} (h : gLandW L nv n) : gDok (gDays L c n) := by
  intro a b
  rcases gWay_or (c := c) (fun _ _ => -1) (fun _ _ => -1) h n (Nat.le_refl _) a b with ⟨e, -⟩ | ⟨-, e1, e2, -⟩
  · exact Or.inl e
  · exact Or.inr ⟨e1, e2⟩
theorem gDays_iso {L : xU} {c : Int32} {nv n : Nat} (h : gLandW L nv n) {a b : Nat} (hb : nv ≤ a ∨ nv ≤ b) : gDays L c n a b = -1 := by
  rcases gWay_or (c := c) (fun _ _ => -1) (fun _ _ => -1) h n (Nat.le_refl _) a b with ⟨e, -⟩ | ⟨-, -, -, e1, e2, -⟩
  · exact e
  · omega
theorem gDok.neg {D : Nat → Nat → Int32} (h : gDok D) (a b : Nat) : D a b < 0 ↔ D a b = -1 := by
  rcases h a b with e | e
  · rw [e]; exact ⟨fun _ => rfl, fun _ => by decide⟩
  · refine ⟨fun q => ?_, fun q => ?_⟩
    · rw [ti_lt, z_toInt] at q; omega
    · rw [q, m1_toInt] at e; omega
/-- the days as the class keeps them -/
def gD0 (D : Nat → Nat → Int32) : Nat → Nat → Int32 := fun a b => if D a b = -1 then 0 else D a b
theorem gNextF_s (D F : Nat → Nat → Int32) (a h k : Nat) : gNextF D F a h (k + 1) = if D a k < 0 ∨ (gNextF D F a h k).2 ≤ D a k + F k h then gNextF D F a h k else (nI k, D a k + F k h) := rfl
theorem gNextF_more {D F : Nat → Nat → Int32} {a h n : Nat} (hi : ∀ b, n ≤ b → D a b = -1) : ∀ m, n ≤ m → gNextF D F a h m = gNextF D F a h n := by
  intro m hm
  induction m with
  | zero => rw [Nat.le_zero.mp hm]
  | succ m ih =>
    rcases Nat.lt_or_ge m n with q | q
    · rw [show n = m + 1 by omega]
    · rw [gNextF_s, if_pos (Or.inl (by rw [hi m q]; decide)), ih q]
section KLAY
variable {g : xGT} {d : Nat} {w : xW} {r : xQ}
theorem L_findNext (hr : xRf r) {P : xPost} {u : xU} {D F : Nat → Nat → Int32} (hD : gDok D) (hF : rF u F) (hD0 : rD u (gD0 D)) (hB : rB u D) {a h : Nat} (ha : a < 7) (hh : h < 7)
    (kk : P (some (.int (gNextF D F a h 7).1)) u w r) : ∀ (n k : Nat), k + n = 7 →
    xEv g d mX8_findNext 31 [some (.ref 53), some (.int (nI a)), some (.int (nI h)), some (.int (gNextF D F a h k).1), some (.int (gNextF D F a h k).2), some (.int (nI k)), none] [] 698 u w r 698 P := by
  intro n
  induction n with
  | zero =>
    intro k hk
    have : k = 7 := by omega
    subst this
    exact TX8_findNext_31 hr (brT (nI_le (a := 7) (Nat.le_refl _) (by omega)) kk)
  | succ n ih =>
    intro k hk
    have i := ih (k + 1) (by omega)
    refine TX8_findNext_31 hr (brF (nI_ge (b := 7) (by omega) (by omega)) ⟨vpn ha (by omega), vpn (by omega) (by omega), vpn hh (by omega), ?_⟩)
    rw [nc (by omega), nc (by omega), nc (by omega), hF k h (by omega) hh, hD0 a k ha (by omega), hB a ha, test_1 (by omega), bt_xset (by omega) _ (by omega)]
    rw [gNextF_s] at i
    have e0 : (decide (k < 7) && decide (¬ D a k = -1)) = true ↔ ¬ D a k < 0 := by
      rw [hD.neg, decide_eq_true (show k < 7 by omega), Bool.true_and, decide_eq_true_iff]
    rw [e0]
    by_cases hc : ¬ D a k < 0 ∧ ¬ (gNextF D F a h k).2 ≤ gD0 D a k + F k h
    · have e1 : gD0 D a k = D a k := if_neg (fun q => hc.1 ((hD.neg a k).mpr q))
      rw [e1] at hc ⊢
      rw [if_neg (fun q => q.elim hc.1 hc.2)] at i
      refine brT hc (TX8_findNext_88 ?_)
      rw [nI_one]
      exact i
    · refine brF hc (TX8_findNext_88 ?_)
      rw [if_pos] at i
      · rw [nI_one]
        exact i
      · by_cases q : D a k < 0
        · exact Or.inl q
        · have e1 : gD0 D a k = D a k := if_neg (fun z => q ((hD.neg a k).mpr z))
          rw [e1] at hc
          exact Or.inr (Classical.not_not.mp (fun z => hc ⟨q, z⟩))
theorem K_findNext (hr : xRf r) {u : xU} {D F : Nat → Nat → Int32} (hD : gDok D) (hF : rF u F) (hD0 : rD u (gD0 D)) (hB : rB u D) {a h : Nat} (ha : a < 7) (hh : h < 7) :
    xCall g d mX8_findNext [.ref 53, .int (nI a), .int (nI h)] 698 u w r 698 (xPr (gNext D F 7 a h) u w r) := by
  refine CX8_findNext hr ⟨fun _ => vpn ha (by omega), fun _ => vpn hh (by omega), ?_⟩
  rw [nc (by omega), nc (by omega), hF a h ha hh, nI_eq (by omega) (by omega)]
  unfold gNext
  by_cases hc : a = h ∨ ¬ F a h < 1000
  · refine brT hc ⟨by rw [if_pos hc], rfl, rfl, rfl⟩
  · refine brF hc (L_findNext hr hD hF hD0 hB ha hh ⟨by rw [if_neg hc], rfl, rfl, rfl⟩ 7 0 rfl)
/-- what is next in memory -/
def rN (u : xU) (N : Nat → Nat → Int32) : Prop := ∀ a b, a < 7 → b < 7 → u (71 + a) b = N a b
abbrev fNx : Nat → Prop := fun b => 71 ≤ b ∧ b < 78
theorem L_lay_172 (hr : xRf r) {P : xPost} {u0 : xU} {D F : Nat → Nat → Int32} (hD : gDok D) (hF : rF u0 F) (hD0 : rD u0 (gD0 D)) (hB : rB u0 D) {a : Nat} (ha : a < 7)
    (kk : ∀ u' : xU, (∀ x b, (x < a + 1) → b < 7 → u' (71 + x) b = gNext D F 7 x b) → xSm fNx u0 u' → xEv g (d + 1) mX8_lay 163 [some (.ref 53), none, none, some (.int (nI (a + 1))), none, none] [] 698 u' w r 698 P) :
    ∀ (n k : Nat), k + n = 7 → ∀ u : xU, (∀ x b, (x < a ∨ (x = a ∧ b < k)) → b < 7 → u (71 + x) b = gNext D F 7 x b) → xSm fNx u0 u →
    xEv g (d + 1) mX8_lay 172 [some (.ref 53), none, none, some (.int (nI a)), some (.int (nI k)), none] [] 698 u w r 698 P := by
  intro n
  induction n with
  | zero =>
    intro k hk u h1 h2
    have : k = 7 := by omega
    subst this
    refine TX8_lay_172 hr (brT (nI_le (a := 7) (Nat.le_refl _) (by omega)) ?_)
    rw [nI_one]
    exact kk u (fun x b hx hb => h1 x b (by omega) hb) h2
  | succ n ih =>
    intro k hk u h1 h2
    refine TX8_lay_172 hr (brF (nI_ge (b := 7) (by omega) (by omega)) ⟨vpn ha (by omega), ?_⟩)
    have gF : rF u F := fun x y hx hy => (h2 _ _ (by omega)).trans (hF x y hx hy)
    have gD : rD u (gD0 D) := fun x y hx hy => (h2 _ _ (by omega)).trans (hD0 x y hx hy)
    have gB : rB u D := fun x hx => (h2 _ _ (by omega)).trans (hB x hx)
    refine xPr.use (K_findNext hr hD gF gD gB ha (by omega)) ⟨_, rfl, rfl, rfl, rfl, vpn (by omega) (by omega), ?_⟩
    rw [nI_one, nc (by omega), nc (by omega)]
    refine ih (k + 1) (by omega) _ (fun x b hx hb => ?_) (h2.put (by constructor <;> omega))
    by_cases q : x = a ∧ b = k
    · obtain ⟨rfl, rfl⟩ := q
      rw [x2_same]
    · rw [x2_ne _ _ (by omega)]
      exact h1 x b (by omega) hb
theorem L_lay_163 (hr : xRf r) {P : xPost} {u0 : xU} {D F : Nat → Nat → Int32} (hD : gDok D) (hF : rF u0 F) (hD0 : rD u0 (gD0 D)) (hB : rB u0 D)
    (kk : ∀ u' : xU, rN u' (gNext D F 7) → xSm fNx u0 u' → P none u' w r) :
    ∀ (n k : Nat), k + n = 7 → ∀ u : xU, (∀ x b, x < k → b < 7 → u (71 + x) b = gNext D F 7 x b) → xSm fNx u0 u →
    xEv g (d + 1) mX8_lay 163 [some (.ref 53), none, none, some (.int (nI k)), none, none] [] 698 u w r 698 P := by
  intro n
  induction n with
  | zero =>
    intro k hk u h1 h2
    have : k = 7 := by omega
    subst this
    exact TX8_lay_163 (brT (nI_le (a := 7) (Nat.le_refl _) (by omega)) (kk u (fun x b hx hb => h1 x b hx hb) h2))
  | succ n ih =>
    intro k hk u h1 h2
    refine TX8_lay_163 (brF (nI_ge (b := 7) (by omega) (by omega)) ?_)
    have gF : rF u F := fun x y hx hy => (h2 _ _ (by omega)).trans (hF x y hx hy)
    have gD : rD u (gD0 D) := fun x y hx hy => (h2 _ _ (by omega)).trans (hD0 x y hx hy)
    have gB : rB u D := fun x hx => (h2 _ _ (by omega)).trans (hB x hx)
    exact L_lay_172 hr hD gF gD gB (by omega) (fun u' q1 q2 => ih (k + 1) (by omega) u' q1 (h2.tr q2)) 7 0 rfl u (fun x b hx hb => h1 x b (by omega) hb) xSm.rf
/-- the ways of a land in memory -/
def rW (u : xU) (l : Nat) (L : xU) (n : Nat) : Prop := u l 1 = nI n ∧ ∀ k, k < n → u (l + 1) k = L 1 k ∧ u (l + 2) k = L 2 k ∧ u (l + 3) k = L 3 k
theorem rW.kept {u u' : xU} {l : Nat} {L : xU} {n : Nat} (h : rW u l L n) (hs : xSm fRo u u') (hl : l + 14 < 55) : rW u' l L n :=
  ⟨(hs _ _ (by omega)).trans h.1, fun k hk => ⟨(hs _ _ (by omega)).trans (h.2 k hk).1, (hs _ _ (by omega)).trans (h.2 k hk).2.1, (hs _ _ (by omega)).trans (h.2 k hk).2.2⟩⟩
theorem b7 {a : Nat} (ha : a < 7) : ¬ (xb (¬ (nI a < 0) ∧ ¬ ((7 : Int32) ≤ nI a)) = 0) := by
  rw [xb_eq0]
  exact fun q => q ⟨nI_pos (by omega), nI_ge (b := 7) ha (by omega)⟩
theorem L_lay_71 (hr : xRf r) {P : xPost} {u0 L : xU} {l nv n : Nat} {c : Int32} (h_l : xLd l) (q_l : xLr l r) (hl : l + 14 < 55) (hL : gLandW L nv n) (hW : rW u0 l L n)
    (kk : ∀ u' : xU, rF u' (gDist L c 7 n) → rD u' (gD0 (gDays L c n)) → rB u' (gDays L c n) → rN u' (gNext (gDays L c n) (gDist L c 7 n) 7) → xSm fRo u0 u' → P none u' w r) :
    ∀ (j k : Nat), k + j = n → ∀ u : xU, rF u (gWay L c gF0 k) → rD u (gD0 (gDays L c k)) → rB u (gDays L c k) → xSm fRo u0 u →
    xEv g (d + 2) mX8_lay 71 [some (.ref 53), some (.ref l), some (.int c), some (.int (nI k)), none, none] [] 698 u w r 698 P := by
  have hn := hL.2.1
  intro j
  induction j with
  | zero =>
    intro k hk u h1 h2 h3 h4
    have : k = n := by omega
    subst this
    have hW' := hW.kept h4 hl
    refine TX8_lay_71 h_l q_l (brT (by rw [hW'.1]; exact nI_le (Nat.le_refl _) (by omega)) ?_)
    refine xVd.use (K_shorten hr (gWay_ok (c := c) hL) h1) (fun u' hu' => ⟨rfl, rfl, rfl, ?_⟩)
    obtain ⟨g1, g2⟩ := hu'
    refine L_lay_163 hr (gDays_ok (c := c) hL) g1 (fun a b ha hb => (g2 _ _ (by omega)).trans (h2 a b ha hb)) (fun a ha => (g2 _ _ (by omega)).trans (h3 a ha)) (fun u'' q1 q2 => ?_) 7 0 rfl u' (fun x b hx => by omega) xSm.rf
    exact kk u'' (fun a b ha hb => (q2 _ _ (by omega)).trans (g1 a b ha hb)) (fun a b ha hb => (q2 _ _ (by omega)).trans ((g2 _ _ (by omega)).trans (h2 a b ha hb))) (fun a ha => (q2 _ _ (by omega)).trans ((g2 _ _ (by omega)).trans (h3 a ha))) q1 ((h4.tr (g2.to (fun b hb => by omega))).tr (q2.to (fun b hb => by omega)))
  | succ j ih =>
    intro k hk u h1 h2 h3 h4
    have hW' := hW.kept h4 hl
    obtain ⟨a, b, ha, hb, hab, e1, e2, e3, e4⟩ := hL.2.2 k (by omega)
    have hv := hL.1
    obtain ⟨w1, w2, w3⟩ := hW'.2 k (by omega)
    have i := ih (k + 1) (by omega)
    refine TX8_lay_71 h_l q_l (brF (by rw [hW'.1]; exact nI_ge (by omega) (by omega)) ⟨vpn (by omega) (by omega), ?_⟩)
    rw [nc (by omega), w1, w2, w3, e1, e2]
    have ew : ∀ z, gWay L c z (k + 1) = if gOpen c k then x2 (x2 (gWay L c z k) a b (L 3 k)) b a (L 3 k) else gWay L c z k := by
      intro z
      show (if gOpen c k then _ else _) = _
      rw [e1, e2, nc (by omega), nc (by omega)]
      rfl
    by_cases ho : gOpen c k
    · refine brT ho (xPr.use (K_isOneOf _ _) ⟨_, rfl, rfl, rfl, rfl, brF (b7 (by omega)) (xPr.use (K_isOneOf _ _) ⟨_, rfl, rfl, rfl, rfl, brF (b7 (by omega)) ?_⟩)⟩)
      refine xVd.use (K_layWay hr (by omega) (by omega) _) (fun u1 hu1 => ⟨rfl, rfl, rfl, ?_⟩)
      have eL : u1 (l + 3) k = L 3 k := by rw [hu1, x2_a _ _ (by omega), x2_a _ _ (by omega), x2_a _ _ (by omega), w3]
      rw [eL]
      refine xVd.use (K_layWay hr (by omega) (by omega) _) (fun u2 hu2 => ⟨rfl, rfl, rfl, TX8_lay_151 ?_⟩)
      rw [nI_one]
      have s1 : xSm fRo u u1 := by rw [hu1]; exact ((xSm.rf.put (by constructor <;> omega)).put (by constructor <;> omega)).put (by constructor <;> omega)
      have s2 : xSm fRo u1 u2 := by rw [hu2]; exact ((xSm.rf.put (by constructor <;> omega)).put (by constructor <;> omega)).put (by constructor <;> omega)
      have eD : ∀ z, gWay L c z (k + 1) = x2 (x2 (gWay L c z k) a b (L 3 k)) b a (L 3 k) := fun z => by rw [ew, if_pos ho]
      have n3 : ¬ L 3 k = -1 := fun q => by rw [q, m1_toInt] at e3; omega
      refine i u2 ?_ ?_ ?_ ((h4.tr s1).tr s2)
      · rw [eD]
        have f1 : rF u1 (x2 (gWay L c gF0 k) a b (L 3 k)) := fun x y hx hy => by
          rw [hu1, x2_a _ _ (by omega), x2_a _ _ (by omega)]
          exact h1.put a b _ x y hx hy
        intro x y hx hy
        rw [hu2, x2_a _ _ (by omega), x2_a _ _ (by omega)]
        exact f1.put b a _ x y hx hy
      · have f0 : gD0 (gDays L c (k + 1)) = x2 (x2 (gD0 (gDays L c k)) a b (L 3 k)) b a (L 3 k) := by
          funext x y
          unfold gD0 gDays
          rw [eD]
          unfold x2
          by_cases q1 : x = b ∧ y = a
          · rw [if_pos q1, if_pos q1, if_neg n3]
          · rw [if_neg q1, if_neg q1]
            by_cases q2 : x = a ∧ y = b
            · rw [if_pos q2, if_pos q2, if_neg n3]
            · rw [if_neg q2, if_neg q2]
        rw [f0]
        have f1 : rD u1 (x2 (gD0 (gDays L c k)) a b (L 3 k)) := fun x y hx hy => by
          rw [hu1, x2_a _ _ (by omega)]
          have := h2.put a b (L 3 k) x y hx hy
          unfold x2 at this ⊢
          rw [← this]
          by_cases q : 63 + x = 63 + a ∧ y = b
          · rw [if_pos q, if_pos q]
          · rw [if_neg q, if_neg q, if_neg (by omega)]
        intro x y hx hy
        rw [hu2, x2_a _ _ (by omega)]
        have := f1.put b a (L 3 k) x y hx hy
        unfold x2 at this ⊢
        rw [← this]
        by_cases q : 63 + x = 63 + b ∧ y = a
        · rw [if_pos q, if_pos q]
        · rw [if_neg q, if_neg q, if_neg (by omega)]
      · intro x hx
        have hD1 : gDays L c (k + 1) = x2 (x2 (gDays L c k) a b (L 3 k)) b a (L 3 k) := eD _
        have b1 : u1 78 x = if x = a then u 78 a ||| ((1 : Int32) <<< (nI b &&& 31)) else u 78 x := by
          rw [hu1]
          by_cases q : x = a
          · subst q; rw [x2_same, if_pos rfl]
          · rw [x2_i _ _ q, x2_a _ _ (by omega), x2_a _ _ (by omega), if_neg q]
        have b2 : u2 78 x = if x = b then u1 78 b ||| ((1 : Int32) <<< (nI a &&& 31)) else u1 78 x := by
          rw [hu2]
          by_cases q : x = b
          · subst q; rw [x2_same, if_pos rfl]
          · rw [x2_i _ _ q, x2_a _ _ (by omega), x2_a _ _ (by omega), if_neg q]
        have b1b : u1 78 b = u 78 b := by
          rw [hu1, x2_i _ _ (fun q => hab q.symm), x2_a _ _ (by omega), x2_a _ _ (by omega)]
        rw [b2]
        by_cases q : x = b
        · subst q
          rw [if_pos rfl, b1b, h3 x hx]
          refine xset_one (by omega) ?_ (fun y hy => ?_)
          · rw [hD1, x2_same]; exact n3
          · rw [hD1, x2_i _ _ hy, x2_a _ _ (fun q => hab q.symm)]
        · rw [if_neg q, b1]
          by_cases q2 : x = a
          · subst q2
            rw [if_pos rfl, h3 x hx]
            refine xset_one (by omega) ?_ (fun y hy => ?_)
            · rw [hD1, x2_a _ _ hab, x2_same]; exact n3
            · rw [hD1, x2_a _ _ hab, x2_i _ _ hy]
          · rw [if_neg q2, h3 x hx]
            refine xset_congr (fun y _ => ?_)
            rw [hD1, x2_a _ _ q, x2_a _ _ q2]
    · refine brF ho (TX8_lay_151 ?_)
      rw [nI_one]
      have eD : ∀ z, gWay L c z (k + 1) = gWay L c z k := fun z => by rw [ew, if_neg ho]
      refine i u ?_ ?_ ?_ h4
      · rw [eD]; exact h1
      · unfold gDays; rw [eD]; exact h2
      · unfold gDays; rw [eD]; exact h3
theorem L_lay_18 (hr : xRf r) {P : xPost} {u0 : xU} {l : Nat} {c : Int32} {v : Nat} (hv : v < 7)
    (kk : ∀ u' : xU, (∀ a b, a < v + 1 → b < 7 → u' (55 + a) b = gF0 a b ∧ u' (63 + a) b = 0) → (∀ a, a < v + 1 → u' 78 a = 0) → xSm fRo u0 u' → xEv g (d + 1) mX8_lay 2 [some (.ref 53), some (.ref l), some (.int c), some (.int (nI (v + 1))), none, none] [] 698 u' w r 698 P) :
    ∀ (n k : Nat), k + n = 7 → ∀ u : xU, (∀ a b, (a < v ∨ (a = v ∧ b < k)) → b < 7 → u (55 + a) b = gF0 a b ∧ u (63 + a) b = 0) → (∀ a, a < v + 1 → u 78 a = 0) → xSm fRo u0 u →
    xEv g (d + 1) mX8_lay 18 [some (.ref 53), some (.ref l), some (.int c), some (.int (nI v)), some (.int (nI k)), none] [] 698 u w r 698 P := by
  intro n
  induction n with
  | zero =>
    intro k hk u h1 h2 h3
    have : k = 7 := by omega
    subst this
    refine TX8_lay_18 hr (brT (nI_le (a := 7) (Nat.le_refl _) (by omega)) ?_)
    rw [nI_one]
    exact kk u (fun a b ha hb => h1 a b (by omega) hb) h2 h3
  | succ n ih =>
    intro k hk u h1 h2 h3
    refine TX8_lay_18 hr (brF (nI_ge (b := 7) (by omega) (by omega)) ⟨vpn hv (by omega), vpn (by omega) (by omega), ?_⟩)
    rw [nI_one, nc (by omega), nc (by omega)]
    have e : (if nI v = nI k then (0 : Int32) else 1000) = gF0 v k := by
      unfold gF0
      by_cases q : v = k
      · rw [if_pos (by rw [q]), if_pos q]
      · rw [if_neg (fun z => q ((nI_eq (by omega) (by omega)).mp z)), if_neg q]
    rw [e]
    refine ih (k + 1) (by omega) _ (fun a b hab hb => ?_) (fun a ha => ?_) ((h3.put (by constructor <;> omega)).put (by constructor <;> omega))
    · by_cases q : a = v ∧ b = k
      · obtain ⟨rfl, rfl⟩ := q
        rw [x2_a _ _ (by omega), x2_same, x2_same]
        exact ⟨rfl, rfl⟩
      · rw [x2_a _ _ (show 55 + a ≠ 63 + v by omega), x2_ne _ _ (show ¬ (55 + a = 55 + v ∧ b = k) by omega), x2_ne _ _ (show ¬ (63 + a = 63 + v ∧ b = k) by omega), x2_a _ _ (show 63 + a ≠ 55 + v by omega)]
        exact h1 a b (by omega) hb
    · rw [x2_a _ _ (by omega), x2_a _ _ (by omega)]
      exact h2 a ha
theorem L_lay_2 (hr : xRf r) {P : xPost} {u0 : xU} {l : Nat} {c : Int32}
    (kk : ∀ u' : xU, (∀ a b, a < 7 → b < 7 → u' (55 + a) b = gF0 a b ∧ u' (63 + a) b = 0) → (∀ a, a < 7 → u' 78 a = 0) → xSm fRo u0 u' → xEv g (d + 1) mX8_lay 71 [some (.ref 53), some (.ref l), some (.int c), some (.int 0), none, none] [] 698 u' w r 698 P) :
    ∀ (n k : Nat), k + n = 7 → ∀ u : xU, (∀ a b, a < k → b < 7 → u (55 + a) b = gF0 a b ∧ u (63 + a) b = 0) → (∀ a, a < k → u 78 a = 0) → xSm fRo u0 u →
    xEv g (d + 1) mX8_lay 2 [some (.ref 53), some (.ref l), some (.int c), some (.int (nI k)), none, none] [] 698 u w r 698 P := by
  intro n
  induction n with
  | zero =>
    intro k hk u h1 h2 h3
    have : k = 7 := by omega
    subst this
    exact TX8_lay_2 hr (brT (nI_le (a := 7) (Nat.le_refl _) (by omega)) (kk u h1 h2 h3))
  | succ n ih =>
    intro k hk u h1 h2 h3
    refine TX8_lay_2 hr (brF (nI_ge (b := 7) (by omega) (by omega)) ⟨vpn (by omega) (by omega), ?_⟩)
    rw [nc (by omega)]
    refine L_lay_18 hr (by omega) (u0 := u0) (fun u' q1 q2 q3 => ih (k + 1) (by omega) u' q1 q2 q3) 7 0 rfl _ (fun a b hab hb => ?_) (fun a ha => ?_) (h3.put (by constructor <;> omega))
    · rw [x2_a _ _ (by omega), x2_a _ _ (by omega)]
      exact h1 a b (by omega) hb
    · by_cases q : a = k
      · subst q; rw [x2_same]
      · rw [x2_i _ _ q]
        exact h2 a (by omega)
/-- roads as they are laid for a land and its closed ways -/
def rRo (u : xU) (L : xU) (c : Int32) (nv n : Nat) : Prop := rF u (gDist L c nv n) ∧ rD u (gD0 (gDays L c n)) ∧ rB u (gDays L c n) ∧ rN u (gNext (gDays L c n) (gDist L c nv n) nv)
theorem gDist_7 {L : xU} {c : Int32} {nv n : Nat} (h : gLandW L nv n) : ∀ a b, gDist L c 7 n a b = gDist L c nv n a b :=
  gFar_more (gWay_ok h) (gWay_iso h) 7 h.1
theorem gNext_7 {L : xU} {c : Int32} {nv n : Nat} (h : gLandW L nv n) (a b : Nat) : gNext (gDays L c n) (gDist L c 7 n) 7 a b = gNext (gDays L c n) (gDist L c nv n) nv a b := by
  have e : gDist L c 7 n = gDist L c nv n := funext fun a => funext fun b => gDist_7 h a b
  rw [e]
  unfold gNext
  rw [gNextF_more (fun b hb => gDays_iso h (Or.inr hb)) 7 h.1]
theorem K_lay (hr : xRf r) {u L : xU} {l nv n : Nat} {c : Int32} (h_l : xLd l) (q_l : xLr l r) (hl : l + 14 < 55) (hL : gLandW L nv n) (hW : rW u l L n) :
    xCall g (d + 2) mX8_lay [.ref 53, .ref l, .int c] 698 u w r 698 (xVd (fun u' => rRo u' L c nv n ∧ xSm fRo u u') w r) := by
  refine CX8_lay (L_lay_2 hr (u0 := u) (fun u' q1 q2 q3 => ?_) 7 0 rfl u (fun a b ha => by omega) (fun a ha => by omega) xSm.rf)
  refine L_lay_71 hr h_l q_l hl hL (hW.kept q3 hl) (fun u'' g1 g2 g3 g4 g5 => ⟨rfl, ⟨⟨fun a b ha hb => (g1 a b ha hb).trans (gDist_7 hL a b), g2, g3, fun a b ha hb => (g4 a b ha hb).trans (gNext_7 hL a b)⟩, q3.tr g5⟩, rfl, rfl⟩) n 0 (Nat.zero_add n) u' (fun a b ha hb => (q1 a b ha hb).1) (fun a b ha hb => ?_) (fun a ha => ?_) xSm.rf
  · rw [(q1 a b ha hb).2]; exact (if_pos rfl).symm
  · rw [q2 a ha]
    refine b_ext (fun i hi => ?_)
    rw [b_0, bt_xset (by omega) _ hi]
    have : gDays L c 0 a i = -1 := rfl
    rw [this]
    simp
end KLAY
