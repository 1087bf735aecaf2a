/-! A DAY in the class -/
/-- the land of the class at l -/
def kL (u : xU) (l : Nat) (L : xU) : Prop := (u l 0 = nI (lV L) ∧ u l 1 = nI (lW L) ∧ u l 5 = nI (lB L)) ∧ rW u l L (lW L) ∧ (∀ b, b < lB L → u (l + 4) b = L 4 b ∧ u (l + 5) b = L 5 b ∧ u (l + 6) b = L 6 b ∧ u (l + 7) b = L 7 b) ∧ (∀ x : Int32, (¬ x < u l 15 ∧ ¬ u l 16 < x) ↔ fWin L x) ∧ rFm u (l + 12) L
def kE (u : xU) (l : Nat) (L : xU) (c : Int32) : Prop := kL u l L ∧ rRo u L c (lV L) (lW L)
theorem kL.kept {u u' : xU} {l : Nat} {L : xU} (h : kL u l L) {F : Nat → Prop} (hs : xSm F u u') (hF : ∀ b, l ≤ b → b ≤ l + 13 → ¬ F b) : kL u' l L := by
  obtain ⟨⟨a1, a2, a3⟩, ⟨w1, w2⟩, b, x, f⟩ := h
  have e : ∀ k i, k ≤ 13 → u' (l + k) i = u (l + k) i := fun k i hk => hs _ _ (hF _ (by omega) (by omega))
  have e0 : ∀ i, u' l i = u l i := fun i => e 0 i (by omega)
  refine ⟨⟨(e0 _).trans a1, (e0 _).trans a2, (e0 _).trans a3⟩, ⟨(e0 _).trans w1, fun k hk => ?_⟩, fun k hk => ?_, fun y => ?_, f.kept hs (hF _ (by omega) (by omega)) (hF _ (by omega) (by omega))⟩
  · rw [e 1 k (by omega), e 2 k (by omega), e 3 k (by omega)]; exact w2 k hk
  · rw [e 4 k (by omega), e 5 k (by omega), e 6 k (by omega), e 7 k (by omega)]; exact b k hk
  · rw [e0, e0]; exact x y
theorem rRo.kept {u u' L : xU} {c : Int32} {nv n : Nat} (h : rRo u L c nv n) {F : Nat → Prop} (hs : xSm F u u') (hF : ∀ b, 55 ≤ b → b < 79 → ¬ F b) : rRo u' L c nv n := by
  obtain ⟨a1, a2, a3, a4⟩ := h
  exact ⟨fun a b ha hb => (hs _ _ (hF _ (by omega) (by omega))).trans (a1 a b ha hb), fun a b ha hb => (hs _ _ (hF _ (by omega) (by omega))).trans (a2 a b ha hb), fun a ha => (hs _ _ (hF _ (by omega) (by omega))).trans (a3 a ha), fun a b ha hb => (hs _ _ (hF _ (by omega) (by omega))).trans (a4 a b ha hb)⟩
theorem kE.kept {u u' : xU} {l : Nat} {L : xU} {c : Int32} (h : kE u l L c) {F : Nat → Prop} (hs : xSm F u u') (hF : ∀ b, l ≤ b → b ≤ l + 13 → ¬ F b) (hF2 : ∀ b, 55 ≤ b → b < 79 → ¬ F b) : kE u' l L c := ⟨h.1.kept hs hF, h.2.kept hs hF2⟩
abbrev fCd (s l : Nat) : Nat → Prop := fun b => (s ≤ b ∧ b ≤ s + 11) ∨ b = l + 14
/-- one bier's words change -/
theorem kSt.bier {L : xU} {n : Nat} {u u' : xU} {s : Nat} {σ T T' : Nat → Int32} (h : kSt L n u s σ T) {b : Nat} (hb : b < lB L) (hB6 : lB L ≤ 6) (hn : n ≤ 10) {st pl wh : Int32}
    (e : ∀ k i, k ≤ 11 → ¬ (k = 1 ∧ i = b) → ¬ (k = 2 ∧ i = b) → ¬ (k = 3 ∧ i = b) → u' (s + k) i = u (s + k) i) (h1 : u' (s + 1) b = st) (h2 : u' (s + 2) b = pl) (h3 : ¬ st = 3 → u' (s + 3) b = wh) (h4 : st = 3 → u' (s + 3) b = T' b) (hT : ∀ b', b' ≠ b → T' b' = T b') :
    kSt L n u' s (up (up (up σ b st) (6 + b) pl) (12 + b) wh) T' := by
  obtain ⟨⟨a1, a2, a3⟩, b1, b2, b3⟩ := h
  have e0 : ∀ i, u' s i = u s i := fun i => e 0 i (by omega) (by omega) (by omega) (by omega)
  have fr : ∀ j, j ≠ b → j ≠ 6 + b → j ≠ 12 + b → up (up (up σ b st) (6 + b) pl) (12 + b) wh j = σ j := fun j q1 q2 q3 => by rw [up_n q3, up_n q2, up_n q1]
  have fb : up (up (up σ b st) (6 + b) pl) (12 + b) wh b = st := by rw [up_n (by omega), up_n (by omega), up_s]
  have ef : ∀ b', fIn n (up (up (up σ b st) (6 + b) pl) (12 + b) wh) b' = fIn n σ b' := fun b' => cn_congr (fun i hi => by rw [fr _ (by omega) (by omega) (by omega)])
  refine ⟨⟨?_, ?_, ?_⟩, fun b' hb' => ?_, fun b' hb' => ?_, fun l hl => ?_⟩
  · rw [e0, fr _ (by omega) (by omega) (by omega)]; exact a1
  · rw [e0, fr _ (by omega) (by omega) (by omega)]; exact a2
  · rw [e0, fr _ (by omega) (by omega) (by omega)]; exact a3
  · by_cases z : b' = b
    · subst z; rw [fb]; exact h1
    · rw [fr _ z (by omega) (by omega), e 1 b' (by omega) (by omega) (by omega) (by omega)]; exact b1 b' hb'
  · rw [ef]
    by_cases z : b' = b
    · subst z
      rw [fb, up_n (show 6 + b' ≠ 12 + b' by omega), up_s, up_s, e 4 b' (by omega) (by omega) (by omega) (by omega)]
      exact ⟨h2, h3, h4, (b2 b' hb').2.2.2⟩
    · rw [fr b' z (by omega) (by omega), fr (6 + b') (by omega) (by omega) (by omega), fr (12 + b') (by omega) (by omega) (by omega), hT b' z, e 2 b' (by omega) (by omega) (by omega) (by omega), e 3 b' (by omega) (by omega) (by omega) (by omega), e 4 b' (by omega) (by omega) (by omega) (by omega)]
      exact b2 b' hb'
  · rw [e 5 l (by omega) (by omega) (by omega) (by omega), e 6 l (by omega) (by omega) (by omega) (by omega), e 7 l (by omega) (by omega) (by omega) (by omega), e 8 l (by omega) (by omega) (by omega) (by omega), e 9 l (by omega) (by omega) (by omega) (by omega), e 10 l (by omega) (by omega) (by omega) (by omega), e 11 l (by omega) (by omega) (by omega) (by omega)]
    rw [fr (18 + l) (by omega) (by omega) (by omega), fr (28 + l) (by omega) (by omega) (by omega), fr (38 + l) (by omega) (by omega) (by omega), fr (48 + l) (by omega) (by omega) (by omega), fr (58 + l) (by omega) (by omega) (by omega), fr (68 + l) (by omega) (by omega) (by omega), fr (78 + l) (by omega) (by omega) (by omega)]
    exact b3 l hl
/-- the best bier as the class looks for it -/
def cBestK (L : xU) (c : Int32) (n l v : Nat) (σ : Nat → Int32) (k : Nat) : Int32 × Int32 := xfold k (fun b p =>
  if (σ b = 1 ∧ σ (6 + b) = nI v) ∧ (nI b = σ (28 + l) ∨ ¬ L 7 b ≤ nI (fIn n σ b)) then
    (if fNear L c σ b (σ (58 + l)).toNatClampNeg < p.2 ∨ (fNear L c σ b (σ (58 + l)).toNatClampNeg = p.2 ∧ ¬ p.1 = -1 ∧ nI b = σ (28 + l)) then (nI b, fNear L c σ b (σ (58 + l)).toNatClampNeg) else p) else p) (-1, lF L c v (σ (58 + l)).toNatClampNeg)
theorem cBestK_s (L : xU) (c : Int32) (n l v : Nat) (σ : Nat → Int32) (k : Nat) : cBestK L c n l v σ (k + 1) = if (σ k = 1 ∧ σ (6 + k) = nI v) ∧ (nI k = σ (28 + l) ∨ ¬ L 7 k ≤ nI (fIn n σ k)) then (if fNear L c σ k (σ (58 + l)).toNatClampNeg < (cBestK L c n l v σ k).2 ∨ (fNear L c σ k (σ (58 + l)).toNatClampNeg = (cBestK L c n l v σ k).2 ∧ ¬ (cBestK L c n l v σ k).1 = -1 ∧ nI k = σ (28 + l)) then (nI k, fNear L c σ k (σ (58 + l)).toNatClampNeg) else cBestK L c n l v σ k) else cBestK L c n l v σ k := rfl
theorem room_iff {L : xU} (hB : lBk L) {n b : Nat} {σ : Nat → Int32} (hb : b < lB L) (hi : fIn n σ b ≤ (L 7 b).toNatClampNeg) : ¬ L 7 b ≤ nI (fIn n σ b) ↔ ¬ nI (fIn n σ b) = L 7 b := by
  obtain ⟨-, -, m, m1, m2, m3⟩ := hB.2 b hb
  rw [m3, nc (by omega)] at hi
  rw [m3, le_nI (by omega) (by omega), eq_nI (by omega) (by omega)]
  omega
theorem cBest_eq {L : xU} {c : Int32} {n e l v : Nat} {σ : Nat → Int32} (hW : lWok L) (hB : lBk L) (hS : gSt L c n e σ) (hl : l < n) (hv : v < lV L) (hvil : fVil σ l = nI v) : (cBestK L c n l v σ (lB L)).1 = fBest L c n l v σ := by
  have hb6 := hB.1
  obtain ⟨hcame, own⟩ := fVil_own hW hB hS hl hv hvil
  generalize hD : lF L c v (σ (58 + l)).toNatClampNeg = D
  rcases own with own | ⟨ob, o1, o2, o3, o4⟩
  · have : ∀ k, k ≤ lB L → cBestK L c n l v σ k = fBestK L c n l v σ k := by
      intro k
      induction k with
      | zero =>
        intro _
        show (-1, lF L c v (σ (58 + l)).toNatClampNeg) = fBest0 L c l v σ
        unfold fBest0
        rw [if_pos (Or.inl (by rw [own]; exact m1_neg))]
      | succ k ih =>
        intro hk
        rw [cBestK_s, fBestK_s, ih (by omega), own]
        have nk : ¬ nI k = -1 := nI_m1 (by omega)
        have rm := room_iff hB (n := n) (σ := σ) (show k < lB L by omega) (hS.2.2.2.2.2 k (by omega))
        by_cases c1 : σ k = 1 ∧ σ (6 + k) = nI v
        · by_cases c2 : ¬ nI (fIn n σ k) = L 7 k
          · rw [if_pos ⟨c1, Or.inr (rm.mpr c2)⟩]
            by_cases c3 : fNear L c σ k (σ (58 + l)).toNatClampNeg < (fBestK L c n l v σ k).2
            · rw [if_pos (Or.inl c3), if_pos ⟨⟨c1, nk⟩, c2, c3⟩]
            · rw [if_neg (fun z => z.elim c3 (fun y => nk y.2.2)), if_neg (fun z => c3 z.2.2)]
          · rw [if_neg (fun z => z.2.elim nk (fun y => c2 (rm.mp y))), if_neg (fun z => c2 z.2.1)]
        · rw [if_neg (fun z => c1 z.1), if_neg (fun z => c1 z.1.1)]
    unfold fBest
    rw [this _ (Nat.le_refl _)]
  · generalize hno : fNear L c σ ob (σ (58 + l)).toNatClampNeg = no
    have cinv : ∀ k, k ≤ lB L → ((cBestK L c n l v σ k).1 = -1 ∧ (cBestK L c n l v σ k).2 = D) ∨ (¬ (cBestK L c n l v σ k).1 = -1 ∧ (cBestK L c n l v σ k).2 < D) := by
      intro k
      induction k with
      | zero => intro _; exact Or.inl ⟨rfl, hD⟩
      | succ k ih =>
        intro hk
        have i := ih (by omega)
        rw [cBestK_s]
        generalize fNear L c σ k (σ (58 + l)).toNatClampNeg = nr
        split
        · split
          · next c1 c2 =>
            refine Or.inr ⟨nI_m1 (by omega), ?_⟩
            show nr < D
            rcases c2 with c2 | ⟨c2, c3, -⟩
            · rcases i with ⟨-, i⟩ | ⟨-, i⟩
              · rw [← i]; exact c2
              · rw [ti_lt] at *; omega
            · rcases i with ⟨i1, -⟩ | ⟨-, i⟩
              · exact absurd i1 c3
              · rw [c2]; exact i
          · exact i
        · exact i
    have key : ∀ k, k ≤ lB L → fBestK L c n l v σ k = if ob < k then cBestK L c n l v σ k else (if no < D ∧ no ≤ (cBestK L c n l v σ k).2 then (nI ob, no) else cBestK L c n l v σ k) := by
      intro k
      induction k with
      | zero =>
        intro _
        rw [if_neg (Nat.not_lt_zero _)]
        show fBest0 L c l v σ = if no < D ∧ no ≤ lF L c v (σ (58 + l)).toNatClampNeg then (nI ob, no) else (-1, lF L c v (σ (58 + l)).toNatClampNeg)
        unfold fBest0
        rw [o2, nc (by omega), hno, hD]
        by_cases z : no < D
        · rw [if_neg (fun y => y.elim (nI_nn (by omega)) (fun x => Int32.not_le.mpr z x)), if_pos ⟨z, by rw [ti_lt] at z; rw [ti_le]; omega⟩]
        · rw [if_pos (Or.inr (Int32.not_lt.mp z)), if_neg (fun y => z y.1)]
      | succ k ih =>
        intro hk
        have i := ih (by omega)
        have ci := cinv k (by omega)
        have rm := room_iff hB (n := n) (σ := σ) (show k < lB L by omega) (hS.2.2.2.2.2 k (by omega))
        rw [fBestK_s, cBestK_s, o2]
        generalize hC : cBestK L c n l v σ k = C at i ci
        generalize hR : fBestK L c n l v σ k = R at i
        obtain ⟨bc, lc⟩ := C
        by_cases ek : k = ob
        · subst ek
          rw [if_neg (Nat.lt_irrefl _)] at i
          rw [if_neg (fun z => z.1.2 rfl), if_pos (Nat.lt_succ_self _), if_pos (show (σ k = 1 ∧ σ (6 + k) = nI v) ∧ (nI k = nI k ∨ ¬ L 7 k ≤ nI (fIn n σ k)) from ⟨⟨o3, o4⟩, Or.inl rfl⟩), hno, i]
          show (if no < D ∧ no ≤ lc then (nI k, no) else (bc, lc)) = if no < lc ∨ (no = lc ∧ ¬ bc = -1 ∧ nI k = nI k) then (nI k, no) else (bc, lc)
          replace ci : bc = -1 ∧ lc = D ∨ ¬ bc = -1 ∧ lc < D := ci
          by_cases z : no < D ∧ no ≤ lc
          · rw [if_pos z, if_pos]
            by_cases y : no < lc
            · exact Or.inl y
            · have e : no = lc := by rw [ti_eq]; have := z.2; rw [ti_le] at this; rw [ti_lt] at y; omega
              refine Or.inr ⟨e, ?_, rfl⟩
              rcases ci with ⟨ci1, ci2⟩ | ⟨ci1, -⟩
              · exfalso
                have := z.1
                rw [e, ci2, ti_lt] at this
                omega
              · exact ci1
          · rw [if_neg z, if_neg]
            rintro (y | ⟨y1, y2, -⟩)
            · refine z ⟨?_, by rw [ti_lt] at y; rw [ti_le]; omega⟩
              rcases ci with ⟨-, ci2⟩ | ⟨-, ci2⟩
              · rw [← ci2]; exact y
              · rw [ti_lt] at *; omega
            · refine z ⟨?_, by rw [y1, ti_le]; omega⟩
              rcases ci with ⟨ci1, -⟩ | ⟨-, ci2⟩
              · exact absurd ci1 y2
              · rw [y1]; exact ci2
        · have nk : ¬ nI k = nI ob := fun z => ek ((nI_eq (by omega) (by omega)).mp z)
          have eo : (ob < k + 1) = (ob < k) := propext ⟨fun _ => by omega, fun _ => by omega⟩
          simp only [eo]
          rw [i]
          generalize fNear L c σ k (σ (58 + l)).toNatClampNeg = nk' at *
          simp only at ci ⊢
          by_cases c1 : σ k = 1 ∧ σ (6 + k) = nI v
          · by_cases c2 : ¬ nI (fIn n σ k) = L 7 k
            · rw [if_pos (show (σ k = 1 ∧ σ (6 + k) = nI v) ∧ (nI k = nI ob ∨ ¬ L 7 k ≤ nI (fIn n σ k)) from ⟨c1, Or.inr (rm.mpr c2)⟩)]
              have e2 : (nk' < lc ∨ nk' = lc ∧ ¬ bc = -1 ∧ nI k = nI ob) ↔ nk' < lc := ⟨fun z => z.elim id (fun y => absurd y.2.2 nk), Or.inl⟩
              have e3 : ∀ x : Int32, (((σ k = 1 ∧ σ (6 + k) = nI v) ∧ ¬ nI k = nI ob) ∧ ¬ nI (fIn n σ k) = L 7 k ∧ nk' < x) ↔ nk' < x := fun x => ⟨fun z => z.2.2, fun z => ⟨⟨c1, nk⟩, c2, z⟩⟩
              simp only [e2, e3]
              by_cases p1 : ob < k
              · rw [if_pos p1, if_pos p1]
              · rw [if_neg p1, if_neg p1]
                by_cases p2 : no < D ∧ no ≤ lc
                · rw [if_pos p2]
                  simp only
                  by_cases p3 : nk' < lc
                  · rw [if_pos p3]
                    simp only
                    by_cases p4 : nk' < no
                    · rw [if_pos p4, if_neg (fun z => by have := z.2; rw [ti_le] at this; rw [ti_lt] at p4; omega)]
                    · rw [if_neg p4, if_pos ⟨p2.1, Int32.not_lt.mp p4⟩]
                  · rw [if_neg p3, if_neg (fun z => p3 (by have := p2.2; rw [ti_le] at this; rw [ti_lt] at *; omega))]
                    simp only
                    rw [if_pos p2]
                · rw [if_neg p2]
                  simp only
                  by_cases p3 : nk' < lc
                  · rw [if_pos p3]
                    simp only
                    rw [if_neg (fun z => p2 ⟨z.1, by have := z.2; rw [ti_le] at *; rw [ti_lt] at p3; omega⟩)]
                  · rw [if_neg p3]
                    simp only
                    rw [if_neg p2]
            · have e4 : ¬ ((σ k = 1 ∧ σ (6 + k) = nI v) ∧ (nI k = nI ob ∨ ¬ L 7 k ≤ nI (fIn n σ k))) := fun z => z.2.elim nk (fun y => c2 (rm.mp y))
              have e5 : ∀ x : Int32, ¬ (((σ k = 1 ∧ σ (6 + k) = nI v) ∧ ¬ nI k = nI ob) ∧ ¬ nI (fIn n σ k) = L 7 k ∧ nk' < x) := fun x z => c2 z.2.1
              simp only [if_neg e4, if_neg (e5 _)]
          · have e4 : ¬ ((σ k = 1 ∧ σ (6 + k) = nI v) ∧ (nI k = nI ob ∨ ¬ L 7 k ≤ nI (fIn n σ k))) := fun z => c1 z.1
            have e5 : ∀ x : Int32, ¬ (((σ k = 1 ∧ σ (6 + k) = nI v) ∧ ¬ nI k = nI ob) ∧ ¬ nI (fIn n σ k) = L 7 k ∧ nk' < x) := fun x z => c1 z.1.1
            simp only [if_neg e4, if_neg (e5 _)]
    have kk := key (lB L) (Nat.le_refl _)
    rw [if_pos o1] at kk
    rw [← kk]
    rfl
