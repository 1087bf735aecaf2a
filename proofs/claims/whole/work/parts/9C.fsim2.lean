/-! THE FORMULA: the reference does what the class's levels do -/
theorem tt_le {lv : Nat} (h : lv ≤ 4) : tl lv ≤ tt lv ∧ tt lv ≤ tl (lv + 1) ∧ tt lv < tt (lv + 1) ∧ tt lv ≤ 6 ∧ (2 ≤ lv → 4 ≤ tt lv) ∧ (tt lv = 4 ↔ lv = 2) := by
  have key : ∀ lv, lv < 5 → tl lv ≤ tt lv ∧ tt lv ≤ tl (lv + 1) ∧ tt lv < tt (lv + 1) ∧ tt lv ≤ 6 ∧ (2 ≤ lv → 4 ≤ tt lv) ∧ (tt lv = 4 ↔ lv = 2) := by decide +kernel
  exact key lv (by omega)
theorem hasR_last {a : Nat} (h20 : ¬ a = 20) (h4 : tgt a = 4) (Q : List Nat) (hq : pq 5 Q) : hasR (Q ++ [a]) = true := by
  rw [hasR_5 Q hq]
  show (if a = 20 then false else if 4 < tgt a then hasR [] else decide (tgt a = 4)) = true
  rw [if_neg h20, if_neg (by omega), decide_eq_true h4]
theorem NX.app {lv k : Nat} {Q : List Nat} (a : Nat) (h : NX lv Q k) : NX lv (Q ++ [a]) k := ⟨h.1, h.2.1, fun h2 h3 => hasR_app Q (h.2.2.1 h2 h3), h.2.2.2⟩
theorem NX.up {lv k : Nat} {Q : List Nat} (h : NX (lv + 1) Q k) (hn : ¬ isOp k lv) : NX lv Q k := by
  obtain ⟨a1, a2, a3, a4, a5⟩ := h
  refine ⟨fun e => by omega, fun e => ?_, fun e q => ?_, fun e => ?_, fun e => ?_⟩
  · by_cases y : lv = 1
    · omega
    · exact a2 (by omega)
  · by_cases y : lv = 2
    · exact absurd (Or.inr (Or.inr (Or.inl ⟨y, q⟩))) hn
    · exact a3 (by omega) q
  · by_cases y : lv = 3
    · omega
    · exact a4 (by omega)
  · by_cases y : lv = 4
    · omega
    · exact a5 (by omega)
theorem NX.rel {k : Nat} {Q : List Nat} (h : NX 3 Q k) (hr : hasR Q = true) : NX 2 Q k :=
  ⟨fun e => absurd e (by decide), fun e => absurd e (by decide), fun _ _ => hr, fun _ => h.2.2.2.1 (by decide), fun _ => h.2.2.2.2 (by decide)⟩
theorem NX.five (Q : List Nat) (k : Nat) : NX 5 Q k :=
  ⟨fun e => absurd e (by decide), fun e => absurd e (by decide), fun e => absurd e (by decide), fun e => absurd e (by decide), fun e => absurd e (by decide)⟩
theorem lpF_f {N : Nat} {T : Nat → Int32} {F : pS → pS} {lv : Nat} {t : pS} (h : ¬ t.1.2.1 = 0) : ∀ m, lpF N T F lv m t = t := by
  intro m
  cases m with
  | zero => rfl
  | succ m => rw [lpF, if_neg (fun z => h z.1)]
theorem mayN_en : ∀ O, en 4 O → mayN O = true := by
  intro O
  cases O with
  | nil => intro _; rfl
  | cons a O =>
    intro he
    show decide (a = 20 ∨ tgt a < 4) = true
    refine decide_eq_true ?_
    rcases he with he | ⟨h1, _⟩
    · exact Or.inl he
    · exact Or.inr h1
theorem pFail_not {N : Nat} {T : Nat → Int32} {k : Nat} {c : pC} (h : ¬ pSee N T k c) : pWant N T k c = pFail N T 2 c := if_neg h
theorem rO.pushS {O : List Nat} {u : xU} {a : Nat} (h : rO O u) (ha : oOp a) (h21 : ¬ a = 21) (hl : O.length ≤ 158) : rO (a :: O) (x2 (x2 u 662 O.length (nI a)) 655 19 (nI (O.length + 1))) := by
  obtain ⟨a1, a2, a3, a4, a5, a6⟩ := h
  have ed : dp (a :: O) = dp O := if_neg (by omega)
  refine ⟨x2_same _ _ _ _, ?_, fun k hk => ?_, ⟨Or.inl ha, a4⟩, by rw [List.length_cons]; omega, by rw [ed]; exact a6⟩
  · rw [x2_i _ _ (by omega), x2_a _ _ (by omega), ed]; exact a2
  · rw [List.length_cons] at hk
    rw [x2_a _ _ (by omega)]
    by_cases q : k = O.length
    · rw [q, x2_same, oat_new]
    · rw [x2_i _ _ q, oat_old _ _ (by omega)]; exact a3 k (by omega)
theorem rO.pop {O : List Nat} {u : xU} (h : rO (20 :: O) u) : rO O (x2 (x2 u 655 19 (nI O.length)) 655 23 (nI (dp O))) := by
  obtain ⟨a1, a2, a3, a4, a5, a6⟩ := h
  rw [List.length_cons] at a5
  have ed : dp (20 :: O) = dp O + 1 := if_pos (Or.inl rfl)
  refine ⟨?_, x2_same _ _ _ _, fun k hk => ?_, a4.2, by omega, by omega⟩
  · rw [x2_i _ _ (by omega), x2_same]
  · rw [x2_a _ _ (by omega), x2_a _ _ (by omega)]; exact a3.old k hk
section FSIM2
variable {g : xGT} {d : Nat} {r : xQ} {N : Nat} {T : Nat → Int32} {M : Nat} {u0 : xU} {w0 : xW} {P : xPost}
/-- a bracket or a NOT is opened -/
theorem R_openUp {u : xU} {w : xW} {c : pC} {S : List (Nat × Nat)} {U a : Nat} {O : List Nat} (hr : xRf r) (ok : tpOk N T) (h : rQ N T c S U O u w) (ha : a = 20 ∨ a = 21) (h0 : c.2.1 = 0) (hl : O.length ≤ 158) (hd : dp O ≤ 900) (hk : ¬ kK N T c.1 = 1)
    (kk : ∀ u' w', rQ N T (pAdv c) S U (a :: O) u' w' → xSn fFv u u' → wSn fTw w w' → P none u' w' r) : xCall g (d + 2) mX12_openUp [.ref 655, .int (nI a)] 698 u w r 698 P := by
  obtain ⟨a1, a2, a3, a4, a5⟩ := h
  have e2 : u 655 2 = 0 := by rw [a1.2.2.2.1, f9_0 a1.2.2.1]; exact h0
  refine CX12_openUp hr ?_
  rw [a3.1, a3.2.1, nc (by omega), nI_one, nI_one]
  refine ⟨vpn (by omega) (by omega), brT e2 ?_⟩
  have ed : dp (a :: O) = dp O + 1 := if_pos ha
  have f1 : xSn fOp u (x2 (x2 (x2 u 662 O.length (nI a)) 655 19 (nI (O.length + 1))) 655 23 (nI (dp O + 1))) := (((xSn.rf (F := fOp)).put (Or.inl rfl)).put (Or.inr ⟨rfl, Or.inl rfl⟩)).put (Or.inr ⟨rfl, Or.inr rfl⟩)
  have h1 := a3.push (a := a) (by omega) hl hd (nI (dp O + 1)) (by rw [ed])
  generalize x2 (x2 (x2 u 662 O.length (nI a)) 655 19 (nI (O.length + 1))) 655 23 (nI (dp O + 1)) = u1 at f1 h1
  have hp : rP N T c u1 w := a1.frO (f1.to (fun _ _ z => Or.inr (Or.inl z)))
  have hq : rQ N T c S U (a :: O) u1 w := ⟨hp, a2.kept f1 (fun b i z => by omega), h1, (f1 _ _ (by omega)).trans a4, (f1 _ _ (by omega)).trans a5⟩
  exact R_adv hr ok hp hk (fun u2 w2 y1 y2 y3 => ⟨rfl, rfl, kk u2 w2 (hq.adv y1 y2) ((f1.to (fun b i z => by omega)).tr (y2.to (fun _ _ z => Or.inl z))) y3⟩)
/-- behind a fault it is opened, too -/
theorem R_openUp_f {u : xU} {w : xW} {c : pC} {a : Nat} {O : List Nat} (hr : xRf r) (h : rP N T c u w) (hO : rO O u) (h0 : ¬ c.2.1 = 0) (hl : O.length ≤ 158)
    (kk : ∀ u', rP N T c u' w → xSn fFv u u' → P none u' w r) : xCall g (d + 1) mX12_openUp [.ref 655, .int (nI a)] 698 u w r 698 P := by
  have e2 : ¬ (u 655 2 = 0) := by rw [h.2.2.2.1, f9_0 h.2.2.1]; exact h0
  refine CX12_openUp hr ?_
  rw [hO.1, nc (by omega)]
  refine ⟨vpn (by omega) (by omega), brF e2 ?_⟩
  have f1 : ∀ x y, xSn fOp u (x2 (x2 (x2 u 662 O.length (nI a)) 655 19 x) 655 23 y) := fun x y => (((xSn.rf (F := fOp)).put (Or.inl rfl)).put (Or.inr ⟨rfl, Or.inl rfl⟩)).put (Or.inr ⟨rfl, Or.inr rfl⟩)
  exact kk _ (h.frO ((f1 _ _).to (fun _ _ z => Or.inr (Or.inl z)))) ((f1 _ _).to (fun b i z => by omega))
/-- what is asked for, or the number -/
theorem leaf_arg {j : Nat} {x : Int32} (h : isLeaf (kK N T j)) (hx : kK N T j = 3 → x = nI (kV N T j)) : xb (0 ≤ aSk (kK N T j)) = nI (leafS N T j).1 ∧ (if 0 ≤ aSk (kK N T j) then aSk (kK N T j) else x) = nI (leafS N T j).2 := by
  unfold leafS
  by_cases q : kK N T j = 3
  · rw [if_pos q, q, ← hx q]
    exact ⟨show xb (0 ≤ aSk 3) = nI 0 by decide, if_neg (by decide)⟩
  · rw [if_neg q]
    by_cases q1 : kK N T j = 31
    · rw [if_pos q1, q1]; exact ⟨by decide, if_pos (by decide)⟩
    · rw [if_neg q1]
      by_cases q2 : kK N T j = 24
      · rw [if_pos q2, q2]; exact ⟨by decide, if_pos (by decide)⟩
      · rw [if_neg q2]
        by_cases q3 : kK N T j = 32
        · rw [if_pos q3, q3]; exact ⟨by decide, if_pos (by decide)⟩
        · rw [if_neg q3]
          have q4 : kK N T j = 33 := by omega
          rw [q4]; exact ⟨by decide, if_pos (by decide)⟩
theorem R_usim {wi : Nat} {F : pS → pS} (hr : xRf r) (ok : tpOk N T) (hM : kK N T M = 0) (hw : wi ≤ 7) (hF : wi ≤ 6 → rSim g d r N T M u0 w0 P 0 (wi + 1) F) (gF : wi ≤ 6 → ∀ t, t.1.2.1 = 0 → inS M t → gd M 1 t (F t)) : rSim g d r N T M u0 w0 P 5 wi (pU N T F wi) := by
  intro s O u w h0 hs he hd hl hn h fu fw kk kf
  obtain ⟨a1, a2, a3, a4, a5⟩ := h
  obtain ⟨b1, b2, b3, b4, b5⟩ := hs
  have k33 := kK_small ok s.1.1
  have e2 : u 655 2 = 0 := by rw [a1.2.2.2.1, f9_0 a1.2.2.1]; exact h0
  have e6 : u 655 6 = nI (srt (kK N T s.1.1)) := a1.2.1.2.1
  have e23 : u 655 23 = nI wi := by rw [a3.2.1, hd]
  have bad : ∀ u1, rP N T (pFail N T 2 s.1) u1 w → xSn fFv u0 u1 → pU N T F wi s = (pFail N T 2 s.1, s.2) → uPost g d r P none u1 w r := fun u1 h1 f1 e => by
    rw [e] at kf
    exact ⟨rfl, rfl, R_wait_f h1 (pFail_0 (by omega)) (kf (pFail_0 (by omega)) u1 w h1 f1 fw)⟩
  have f20 : ∀ (u2 : xU) x y, xSn fFv u2 (x2 (x2 u2 655 20 x) 655 22 y) := fun u2 x y => ((xSn.rf (F := fFv)).put (by omega)).put (by omega)
  have full : (xb (nI s.2.2 = (60 : Int32) ∨ nI s.2.2 = (30 : Int32)) = 0) ↔ s.2.2 < 30 := by
    have c1 : nI s.2.2 = (60 : Int32) ↔ s.2.2 = 60 := eq_nI (b := 60) (by omega) (by omega)
    have c2 : nI s.2.2 = (30 : Int32) ↔ s.2.2 = 30 := eq_nI (b := 30) (by omega) (by omega)
    rw [xb_eq0, c1, c2]; omega
  have ask : ¬ kK N T s.1.1 = 5 → xEv g (d + 3) mX12_unit 2 [some (.ref 655), some (.int (0 : Int32)), none] [] 698 u w r 698 (uPost g d r P) := fun n5 => by
    have b133 : pU N T F wi s = (pFail N T 2 s.1, s.2) → ∀ x, xEv g (d + 3) mX12_unit 133 [some (.ref 655), none, some (.int x)] [] 698 u w r 698 (uPost g d r P) := fun e x => by
      refine TX12_unit_133 (xVd.use (R_wrong (x := 2) a1 (by omega)) (fun u1 h1 => ⟨rfl, rfl, rfl, TX12_unit_138 (brF ?_ (bad u1 h1.1 (fu.tr (h1.2.to (fun _ _ z => Or.inl z))) e))⟩))
      rw [h1.1.2.2.2.1, f9_le h1.1.2.2.1]
      exact pFail_0 (by omega)
    have key : ∀ k, k < 34 → ((nI (srt k) = (2 : Int32) ∨ ¬ (aSk k < 0)) ↔ isLeaf k) := by decide +kernel
    refine TX12_unit_2 (brF (fun z => z.1 rfl) (brT (by rw [e2]; decide) (xPr.use (R_asked a1 ok) ⟨_, rfl, rfl, rfl, rfl, ?_⟩)))
    rw [e6, key _ (by omega)]
    by_cases ql : isLeaf (kK N T s.1.1)
    · refine brT ql (CX12_isFull ⟨_, rfl, rfl, rfl, rfl, ?_⟩)
      rw [a4, a5, full]
      by_cases qU : s.2.2 < 30
      · have un : unOk N T wi s := ⟨h0, Or.inr ql, fun z => n5 z.1, qU⟩
        have e : pU N T F wi s = (pAdv s.1, leafS N T s.1.1 :: s.2.1, s.2.2 + 1) := by unfold pU; rw [if_pos un, if_neg n5]
        rw [e] at kk
        refine brT qU (TX12_unit_138 (brT (by rw [e2]; decide) (CX12_countUnit ⟨rfl, rfl, rfl, ?_⟩)))
        rw [a4, a5, nI_one]
        have g0 := f20 u (nI (s.2.2 + 1)) (nI (s.2.2 + 1))
        have g1 : xSn (fun b i => b = 655 ∧ (i = 20 ∨ i = 22)) u (x2 (x2 u 655 20 (nI (s.2.2 + 1))) 655 22 (nI (s.2.2 + 1))) := ((xSn.rf).put ⟨rfl, Or.inl rfl⟩).put ⟨rfl, Or.inr rfl⟩
        have g2 : (x2 (x2 u 655 20 (nI (s.2.2 + 1))) 655 22 (nI (s.2.2 + 1))) 655 20 = nI (s.2.2 + 1) := by rw [x2_i _ _ (by omega), x2_same]
        have g3 : (x2 (x2 u 655 20 (nI (s.2.2 + 1))) 655 22 (nI (s.2.2 + 1))) 655 22 = nI (s.2.2 + 1) := x2_same _ _ _ _
        generalize x2 (x2 u 655 20 (nI (s.2.2 + 1))) 655 22 (nI (s.2.2 + 1)) = u1 at g0 g1 g2 g3
        have hp1 : rP N T s.1 u1 w := a1.frO (g1.to (fun _ _ z => Or.inr (Or.inr z)))
        have hS1 : rS s.2.1 u1 := a2.kept g1 (fun b i z => by omega)
        have hO1 : rO O u1 := a3.kept g1 (fun b i z => by omega)
        obtain ⟨c1, c2⟩ := leaf_arg (x := u1 655 8) ql (fun z => (g1 _ _ (by omega)).trans (a1.2.1.2.2.2.1 z))
        rw [c1, c2]
        refine R_add (x := (leafS N T s.1.1).1) (y := (leafS N T s.1.1).2) hr hS1 (by omega) (fun u2 y1 y2 => ⟨rfl, rfl, rfl, ?_⟩)
        have hp2 : rP N T s.1 u2 w := hp1.frO (y2.to (fun _ _ z => Or.inl z))
        have hO2 : rO O u2 := hO1.kept y2 (fun b i z => by omega)
        have hq2 : rQ N T s.1 (leafS N T s.1.1 :: s.2.1) (s.2.2 + 1) O u2 w := ⟨hp2, y1, hO2, (y2 _ _ (by omega)).trans g2, (y2 _ _ (by omega)).trans g3⟩
        have f2 : xSn fFv u0 u2 := (fu.tr g0).tr (y2.to (fun _ _ z => Or.inr (Or.inl z)))
        refine R_adv hr ok hp2 (by omega) (fun u3 w3 z1 z2 z3 => ⟨rfl, rfl, rfl, rfl, ?_⟩)
        exact kk h0 [] (leafS N T s.1.1 :: s.2.1) u3 w3 (hq2.adv z1 z2) rfl trivial (by show 0 + 5 + wi ≤ 12; omega) (NX.five _ _) (f2.tr (z2.to (fun _ _ z => Or.inl z))) (fw.tr z3)
      · exact brF qU (b133 (if_neg (fun z => qU z.2.2.2)) _)
    · exact brF ql (b133 (if_neg (fun z => by have := z.2.1; omega)) _)
  have at53 : xEv g (d + 3) mX12_unit 53 [some (.ref 655), some (.int (1 : Int32)), none] [] 698 u w r 698 (uPost g d r P) := by
    have e40 : nI (srt (kK N T s.1.1)) = (40 : Int32) ↔ kK N T s.1.1 = 5 := by
      have key : ∀ k, k < 34 → (nI (srt k) = (40 : Int32) ↔ k = 5) := by decide +kernel
      exact key _ (by omega)
    refine TX12_unit_53 ?_
    rw [e6, e40]
    by_cases q : kK N T s.1.1 = 5
    · refine brT q (CX12_isFull ⟨_, rfl, rfl, rfl, rfl, ?_⟩)
      have ew : nI wi ≤ (6 : Int32) ↔ wi ≤ 6 := le_nI (b := 6) (by omega) (by omega)
      rw [a4, a5, e23, full, ew]
      by_cases qg : s.2.2 < 30 ∧ wi ≤ 6
      · have un : unOk N T wi s := ⟨h0, Or.inl q, fun z => by omega, qg.1⟩
        have e : pU N T F wi s = (pWant N T 6 (F (pAdv s.1, s.2.1, s.2.2 + 1)).1, (F (pAdv s.1, s.2.1, s.2.2 + 1)).2) := by unfold pU; rw [if_pos un, if_pos q]
        rw [e] at kk kf
        refine brF (by omega) (TX12_unit_83 (CX12_countUnit ⟨rfl, rfl, rfl, ?_⟩))
        rw [a4, a5, nI_one]
        have g0 := f20 u (nI (s.2.2 + 1)) (nI (s.2.2 + 1))
        have g1 : xSn (fun b i => b = 655 ∧ (i = 20 ∨ i = 22)) u (x2 (x2 u 655 20 (nI (s.2.2 + 1))) 655 22 (nI (s.2.2 + 1))) := ((xSn.rf).put ⟨rfl, Or.inl rfl⟩).put ⟨rfl, Or.inr rfl⟩
        have g2 : (x2 (x2 u 655 20 (nI (s.2.2 + 1))) 655 22 (nI (s.2.2 + 1))) 655 20 = nI (s.2.2 + 1) := by rw [x2_i _ _ (by omega), x2_same]
        have g3 : (x2 (x2 u 655 20 (nI (s.2.2 + 1))) 655 22 (nI (s.2.2 + 1))) 655 22 = nI (s.2.2 + 1) := x2_same _ _ _ _
        generalize x2 (x2 u 655 20 (nI (s.2.2 + 1))) 655 22 (nI (s.2.2 + 1)) = u1 at g0 g1 g2 g3
        have hq1 : rQ N T s.1 s.2.1 (s.2.2 + 1) O u1 w := ⟨a1.frO (g1.to (fun _ _ z => Or.inr (Or.inr z))), a2.kept g1 (fun b i z => by omega), a3.kept g1 (fun b i z => by omega), g2, g3⟩
        have w6 := qg.2
        refine R_openUp (a := 20) hr ok hq1 (Or.inl rfl) h0 (by omega) (by omega) (by omega) (fun u3 w3 y1 y2 y3 => ⟨rfl, rfl, ?_⟩)
        have nz : ¬ kK N T s.1.1 = 0 := by omega
        have hi : inS M (pAdv s.1, s.2.1, s.2.2 + 1) := ⟨kK_end hM b1 nz, b2, by show sd s.2.1 ≤ s.2.2 + 1; omega, by show s.2.1.length ≤ 9 * (s.2.2 + 1); omega, by show s.2.2 + 1 ≤ 30; omega⟩
        have gg := gF w6 (pAdv s.1, s.2.1, s.2.2 + 1) h0 hi
        refine hF w6 (pAdv s.1, s.2.1, s.2.2 + 1) (20 :: O) u3 w3 h0 hi (Or.inl rfl) (by show (if (20 : Nat) = 20 ∨ 20 = 21 then dp O + 1 else dp O) = wi + 1; rw [if_pos (Or.inl rfl), hd]) (by rw [List.length_cons]; omega) (fun z => absurd z (by decide)) y1 ((fu.tr g0).tr y2) (fw.tr y3) ?_ ?_
        · generalize F (pAdv s.1, s.2.1, s.2.2 + 1) = t at kk kf gg
          intro z Q Sr u4 w4 c1 c2 c3 c4 c5 c6 c7
          have k33t := kK_small ok t.1.1
          have t2 : u4 655 2 = 0 := by rw [c1.1.2.2.2.1, f9_0 c1.1.2.2.1]; exact z
          have t6 : u4 655 6 = nI (srt (kK N T t.1.1)) := c1.1.2.1.2.1
          have e41 : nI (srt (kK N T t.1.1)) = (41 : Int32) ↔ kK N T t.1.1 = 6 := by
            have key : ∀ k, k < 34 → (nI (srt k) = (41 : Int32) ↔ k = 6) := by decide +kernel
            exact key _ (by omega)
          by_cases q6 : kK N T t.1.1 = 6
          · have ew6 : pWant N T 6 t.1 = pAdv t.1 := if_pos ⟨z, q6⟩
            rw [ew6] at kk
            refine TX12_readWait_30 (brT ⟨by decide, t2⟩ (xPr.use (R_sign c1.1 ok) ⟨_, rfl, rfl, rfl, rfl, ?_⟩))
            rw [t6, e41]
            refine brT q6 (xPr.use (R_hasBracket hr c1.2.2.1) ⟨_, rfl, rfl, rfl, rfl, ?_⟩)
            rw [hasB_20]
            have eO : clO 0 (Q ++ 20 :: O) = 20 :: O := (clO_pq Q (pq.less (by omega) Q c3)).trans (clO_en (20 :: O) (Or.inl rfl))
            have eS : clS 0 (Q ++ 20 :: O) Sr = t.2.1 := (clS_pq Q Sr (pq.less (by omega) Q c3)).trans ((clS_en _ (20 :: O) (Or.inl rfl)).trans c2)
            obtain ⟨g1', g2', g3', g4', g5', g6', g7', g8'⟩ := gg z
            have g8 : t.2.1.length + 1 + 9 * (s.2.2 + 1) ≤ s.2.1.length + 9 * t.2.2 := g8'
            refine brF (by decide) (R_closeTo (m := 0) hr (by omega) c1.2.2.1 c1.2.1 (by rw [eS]; omega) (fun u5 x1 x2' x3 => ⟨rfl, rfl, rfl, ?_⟩))
            rw [eO] at x1
            rw [eS] at x2'
            have p19 : u5 655 19 - 1 = nI O.length := by rw [x1.1, List.length_cons, nI_sub1 (by omega)]; rfl
            have p23 : u5 655 23 - 1 = nI (dp O) := by
              have ed : dp (20 :: O) = dp O + 1 := if_pos (Or.inl rfl)
              rw [x1.2.1, ed, nI_sub1 (by omega)]; rfl
            rw [p19]
            have p23' : (x2 u5 655 19 (nI O.length)) 655 23 - 1 = nI (dp O) := by rw [x2_i _ _ (by omega)]; exact p23
            have hO6 := x1.pop
            have f6 : xSn fOp u5 (x2 (x2 u5 655 19 (nI O.length)) 655 23 (nI (dp O))) := ((xSn.rf (F := fOp)).put (by omega)).put (by omega)
            first
              | rw [p23']
              | rw [p23]
            generalize x2 (x2 u5 655 19 (nI O.length)) 655 23 (nI (dp O)) = u6 at hO6 f6
            have f46 : xSn fFv u4 u6 := (x3.to (fun b i z => by omega)).tr (f6.to (fun b i z => by omega))
            have f46' : xSn (fun b i => fAs b i ∨ (b = 655 ∧ (i = 19 ∨ i = 23)) ∨ b = 662) u4 u6 := (x3.to (fun b i z => by omega)).tr (f6.to (fun b i z => by omega))
            have hp6 : rP N T t.1 u6 w4 := c1.1.frO (f46'.to (fun b i z => by omega))
            have hq6 : rQ N T t.1 t.2.1 t.2.2 O u6 w4 := ⟨hp6, x2'.kept f6 (fun b i z => by omega), hO6, (f46' _ _ (by omega)).trans c1.2.2.2.1, (f46' _ _ (by omega)).trans c1.2.2.2.2⟩
            refine R_adv hr ok hp6 (by omega) (fun u7 w7 z1 z2 z3 => ⟨rfl, rfl, TX12_readWait_154 ?_⟩)
            exact kk z [] t.2.1 u7 w7 (hq6.adv z1 z2) rfl trivial (by show 0 + 5 + wi ≤ 12; omega) (NX.five _ _) ((c6.tr f46).tr (z2.to (fun _ _ z => Or.inl z))) (c7.tr z3)
          · have ew6 : pWant N T 6 t.1 = pFail N T 2 t.1 := if_neg (fun y => q6 y.2)
            rw [ew6] at kf
            refine R_wait_out hr ok c1 z c5 (fun y => absurd y q6) (TX12_readWait_30 (brF (fun y => y.1 rfl) (brT t2 (xPr.use (R_hasBracket hr c1.2.2.1) ⟨_, rfl, rfl, rfl, rfl, ?_⟩))))
            rw [hasB_20]
            refine brF (by decide) (xVd.use (R_wrong (x := 2) c1.1 (by omega)) (fun u5 h5 => ⟨rfl, rfl, rfl, TX12_readWait_176 (brF ?_ (kf (pFail_0 (by omega)) u5 w4 h5.1 (c6.tr (h5.2.to (fun _ _ z => Or.inl z))) c7))⟩))
            rw [h5.1.2.2.2.1, f9_0 h5.1.2.2.1]
            exact pFail_0 (by omega)
        · generalize F (pAdv s.1, s.2.1, s.2.2 + 1) = t at kk kf gg
          intro z u4 w4 c1 c2 c3
          have ew6 : pWant N T 6 t.1 = t.1 := (pFail_not (fun y => z y.1)).trans (pFail_f z)
          rw [ew6] at kf
          exact kf z u4 w4 c1 c2 c3
      · have e : pU N T F wi s = (pFail N T 2 s.1, s.2) := if_neg (fun z => qg ⟨z.2.2.2, by have := z.2.2.1; omega⟩)
        refine brT (by omega) (xVd.use (R_wrong (x := 2) a1 (by omega)) (fun u1 h1 => ⟨rfl, rfl, rfl, TX12_unit_83 (CX12_countUnit ⟨rfl, rfl, rfl, ?_⟩)⟩))
        have g0 := f20 u1 (u1 655 20 + 1) (u1 655 22 + 1)
        have g1 : xSn (fun b i => b = 655 ∧ (i = 20 ∨ i = 22)) u1 (x2 (x2 u1 655 20 (u1 655 20 + 1)) 655 22 (u1 655 22 + 1)) := ((xSn.rf).put ⟨rfl, Or.inl rfl⟩).put ⟨rfl, Or.inr rfl⟩
        generalize x2 (x2 u1 655 20 (u1 655 20 + 1)) 655 22 (u1 655 22 + 1) = u2 at g0 g1
        have hp2 : rP N T (pFail N T 2 s.1) u2 w := h1.1.frO (g1.to (fun _ _ z => Or.inr (Or.inr z)))
        have hO2 : rO O u2 := (a3.kept h1.2 (fun b i z => by omega)).kept g1 (fun b i z => by omega)
        refine R_openUp_f (a := 20) hr hp2 hO2 (pFail_0 (by omega)) (by omega) (fun u3 y1 y2 => ⟨rfl, rfl, TX12_unit_2 (brF (fun z => ?_) (brF (fun z => ?_) (bad u3 y1 ((fu.tr (h1.2.to (fun _ _ z => Or.inl z))).tr (g0.tr y2)) e)))⟩)
        · have := z.2
          rw [y1.2.2.2.1, f9_0 y1.2.2.1] at this
          exact pFail_0 (by omega) this
        · rw [y1.2.2.2.1, f9_le y1.2.2.1] at z
          exact pFail_0 (by omega) z
    · exact brF q (ask q)
  refine TX12_unit_2 (brT ⟨by decide, e2⟩ (xPr.use (R_isWord (i := 15) a1 ok (by omega)) ⟨_, rfl, rfl, rfl, rfl, ?_⟩))
  by_cases q30 : kK N T s.1.1 = 30
  · refine brF (by rw [xb_pos (show kK N T s.1.1 = 15 + 15 by omega)]; decide) (xPr.use (R_mayNot hr a3) ⟨_, rfl, rfl, rfl, rfl, ?_⟩)
    rw [hn (by omega) q30]
    exact brT rfl at53
  · exact brT (xb_neg (fun z => q30 (by omega))) at53
theorem R_nsim {wi : Nat} {F : pS → pS} (hr : xRf r) (ok : tpOk N T) (hM : kK N T M = 0) (hw : wi ≤ 7) (hF : wi ≤ 6 → rSim g d r N T M u0 w0 P 2 (wi + 1) F) {s : pS} {O : List Nat} {u : xU} {w : xW} (h30 : kK N T s.1.1 = 30) : rSat g d r N T M u0 w0 P 2 wi (pNt N T F wi) s O u w := by
  intro h0 hs he hd hl hn h fu fw kk kf
  have a1 := h.1
  have a3 := h.2.2.1
  have e2 : u 655 2 = 0 := by rw [a1.2.2.2.1, f9_0 a1.2.2.1]; exact h0
  have e23 : u 655 23 = nI wi := by rw [a3.2.1, hd]
  have ew : nI wi ≤ (6 : Int32) ↔ wi ≤ 6 := le_nI (b := 6) (by omega) (by omega)
  refine TX12_unit_2 (brT ⟨by decide, e2⟩ (xPr.use (R_isWord (i := 15) a1 ok (by omega)) ⟨_, rfl, rfl, rfl, rfl, ?_⟩))
  refine brF (by rw [xb_pos (show kK N T s.1.1 = 15 + 15 by omega)]; decide) (xPr.use (R_mayNot hr a3) ⟨_, rfl, rfl, rfl, rfl, ?_⟩)
  rw [mayN_en O he, e23, ew]
  by_cases q : wi ≤ 6
  · have e : pNt N T F wi s = ((F (pAdv s.1, s.2)).1, (2, 0) :: (F (pAdv s.1, s.2)).2.1, (F (pAdv s.1, s.2)).2.2) := if_neg (by omega)
    rw [e] at kk kf
    refine brF (by decide) (brT q (TX12_unit_44 (R_openUp (a := 21) hr ok h (Or.inr rfl) h0 (by omega) (by omega) (by omega) (fun u3 w3 y1 y2 y3 => ⟨rfl, rfl, ?_⟩))))
    have hi : inS M (pAdv s.1, s.2) := hs.adv hM (by omega)
    have t21 : tgt 21 = 3 := by decide
    refine hF q (pAdv s.1, s.2) (21 :: O) u3 w3 h0 hi (Or.inr ⟨by rw [t21]; decide, he⟩) (by show (if (21 : Nat) = 20 ∨ 21 = 21 then dp O + 1 else dp O) = wi + 1; rw [if_pos (Or.inr rfl), hd]) (by rw [List.length_cons]; omega) (fun z => absurd z (by decide)) y1 (fu.tr y2) (fw.tr y3) (fun z Q Sr u4 w4 c1 c2 c3 c4 c5 c6 c7 => ?_) (fun z u4 w4 c1 c2 c3 => kf z u4 w4 c1 c2 c3)
    refine kk z (Q ++ [21]) Sr u4 w4 (by rw [List.append_assoc]; exact c1) (by rw [clA_app, c2]; rfl) (pq.app ⟨Or.inr rfl, by rw [t21]; decide⟩ Q c3) (by rw [List.length_append]; show Q.length + 1 + 2 + wi ≤ 12; omega) (c5.app 21) c6 c7
  · have e : pNt N T F wi s = (pFail N T 2 s.1, s.2) := if_pos (by omega)
    rw [e] at kf
    refine brF (by decide) (brF q (xVd.use (R_wrong (x := 2) a1 (by omega)) (fun u1 h1 => ⟨rfl, rfl, rfl, TX12_unit_44 ?_⟩)))
    refine R_openUp_f (a := 21) hr h1.1 (a3.kept h1.2 (fun b i z => by omega)) (pFail_0 (by omega)) (by omega) (fun u3 y1 y2 => ⟨rfl, rfl, TX12_unit_2 (brF (fun z => ?_) (brF (fun z => ?_) ⟨rfl, rfl, R_wait_f y1 (pFail_0 (by omega)) (kf (pFail_0 (by omega)) u3 w y1 ((fu.tr (h1.2.to (fun _ _ z => Or.inl z))).tr y2) fw)⟩))⟩)
    · have := z.2
      rw [y1.2.2.2.1, f9_0 y1.2.2.1] at this
      exact pFail_0 (by omega) this
    · rw [y1.2.2.2.1, f9_le y1.2.2.1] at z
      exact pFail_0 (by omega) z
theorem R_floop {lv wi k2 k0 : Nat} {F : pS → pS} {s : pS} {O : List Nat} (hr : xRf r) (ok : tpOk N T) (hM : kK N T M = 0) (hv : lv ≤ 4) (hw : wi ≤ 7) (hF : rSim g d r N T M u0 w0 P (lv + 1) wi F) (hk : 1 ≤ k2) (gF : ∀ t, t.1.2.1 = 0 → inS M t → gd M k2 t (F t)) (hs : inS M s) (he : en (tt lv) O) (hd : dp O = wi) (hl : O.length ≤ 6 * wi + lv) : ∀ m t,
    ((lpF N T F lv m t).1.2.1 = 0 → ∀ Q Sr u' w', rQ N T (lpF N T F lv m t).1 Sr (lpF N T F lv m t).2.2 (Q ++ O) u' w' → clA Q Sr = (lpF N T F lv m t).2.1 → pq (tl lv) Q → Q.length + lv + wi ≤ 12 → NX lv Q (kK N T (lpF N T F lv m t).1.1) → xSn fFv u0 u' → wSn fTw w0 w' → xEv g (d + 4) mX12_readWait 30 [some (.ref 655), some (.int 1), none] [] 698 u' w' r 698 P) →
    (¬ (lpF N T F lv m t).1.2.1 = 0 → ∀ u' w', rP N T (lpF N T F lv m t).1 u' w' → xSn fFv u0 u' → wSn fTw w0 w' → P none u' w' r) →
    t.1.2.1 = 0 → gd M k0 s t → ∀ Q Sr u w, rQ N T t.1 Sr t.2.2 (Q ++ O) u w → clA Q Sr = t.2.1 → pq (tt lv) Q → Q.length + lv + wi ≤ 12 → NX (lv + 1) Q (kK N T t.1.1) → (lv = 2 → (m = 1 ∧ pq 5 Q) ∨ (m = 0 ∧ hasR Q = true)) → (¬ lv = 2 → M < t.1.1 + m) → xSn fFv u0 u → wSn fTw w0 w →
    xEv g (d + 4) mX12_readWait 30 [some (.ref 655), some (.int 1), none] [] 698 u w r 698 P := by
  obtain ⟨l1, l2, l3, l4, l5, l6⟩ := tt_le hv
  intro m
  induction m with
  | zero =>
    intro t kk kf h0 hg Q Sr u w h hc hp hl2 hx h2 h3 fu fw
    have lt : lv = 2 ∧ hasR Q = true := by
      by_cases q : lv = 2
      · rcases h2 q with ⟨y, _⟩ | ⟨_, y⟩
        · exact absurd y (by omega)
        · exact ⟨q, y⟩
      · have y := h3 q
        have y2 := (hg h0).2.1
        exact absurd y (by omega)
    obtain ⟨lt1, lt2⟩ := lt
    refine kk h0 Q Sr u w h hc (pq.less l1 Q hp) hl2 ?_ fu fw
    subst lt1
    exact NX.rel hx lt2
  | succ m ih =>
    intro t kk kf h0 hg Q Sr u w h hc hp hl2 hx h2 h3 fu fw
    rw [lpF] at kk kf
    by_cases q : isOp (kK N T t.1.1) lv
    · rw [if_pos ⟨h0, q⟩] at kk kf
      obtain ⟨o1, o2, o3, o4, o5⟩ := isOp_sg hv q
      have osg := opC_sign q
      have hop : oOp (opC (kK N T t.1.1)) := Or.inl osg
      have n6 : ¬ kK N T t.1.1 = 6 := by omega
      have n1 : ¬ kK N T t.1.1 = 1 := by omega
      have n0 : ¬ kK N T t.1.1 = 0 := by omega
      generalize hC : opC (kK N T t.1.1) = C at o1 o2 o3 o4 o5 osg hop
      have C2 : C < 200 := by omega
      obtain ⟨a1, a2, a3, a4, a5⟩ := h
      have k33 := kK_small ok t.1.1
      have e2 : u 655 2 = 0 := by rw [a1.2.2.2.1, f9_0 a1.2.2.1]; exact h0
      have e6 : u 655 6 = nI (srt (kK N T t.1.1)) := a1.2.1.2.1
      have e41 : nI (srt (kK N T t.1.1)) = (41 : Int32) ↔ kK N T t.1.1 = 6 := by
        have key : ∀ k, k < 34 → (nI (srt k) = (41 : Int32) ↔ k = 6) := by decide +kernel
        exact key _ (by omega)
      have hi : inS M t := hg.inS hs h0
      have hi2 : inS M (pAdv t.1, t.2) := hi.adv hM n0
      have gg := gF (pAdv t.1, t.2) h0 hi2
      have g2 := hg.op h0 gg hk q
      obtain ⟨i1, i2, i3, i4, i5⟩ := hi
      have go113 : xEv g (d + 4) mX12_readWait 113 [some (.ref 655), some (.int (1 : Int32)), some (.int (nI C))] [] 698 u w r 698 P := by
        refine TX12_readWait_113 hr (xPr.use (R_tight hop) ⟨_, rfl, rfl, rfl, rfl, ?_⟩)
        rw [o2]
        have eO : clO (tt lv) (Q ++ O) = O := (clO_pq Q hp).trans (clO_en O he)
        have eS : clS (tt lv) (Q ++ O) Sr = t.2.1 := (clS_pq Q Sr hp).trans ((clS_en _ O he).trans hc)
        refine R_closeTo hr (by omega) a3 a2 (by rw [eS]; omega) (fun u1 x1 x2' x3 => ⟨rfl, rfl, rfl, ?_⟩)
        rw [eO] at x1
        rw [eS] at x2'
        rw [x1.1, nc (by omega), nI_one]
        refine ⟨vpn (by omega) (by omega), ?_⟩
        have hO2 := x1.pushS hop o4 (by omega)
        have f2 : xSn fOp u1 (x2 (x2 u1 662 O.length (nI C)) 655 19 (nI (O.length + 1))) := ((xSn.rf (F := fOp)).put (Or.inl rfl)).put (Or.inr ⟨rfl, Or.inl rfl⟩)
        generalize x2 (x2 u1 662 O.length (nI C)) 655 19 (nI (O.length + 1)) = u2 at hO2 f2
        have fA : xSn (fun b i => fAs b i ∨ fOp b i) u u2 := (x3.to (fun b i z => by omega)).tr (f2.to (fun b i z => Or.inr z))
        have hp2 : rP N T t.1 u2 w := a1.frO (fA.to (fun b i z => by omega))
        have hq2 : rQ N T t.1 t.2.1 t.2.2 (C :: O) u2 w := ⟨hp2, x2'.kept f2 (fun b i z => by omega), hO2, (fA _ _ (by omega)).trans a4, (fA _ _ (by omega)).trans a5⟩
        refine R_adv hr ok hp2 n1 (fun u3 w3 z1 z2 z3 => ⟨rfl, rfl, CX12_unit ?_⟩)
        refine (hF (pAdv t.1, t.2) (C :: O) u3 w3 h0 hi2 (Or.inr ⟨by omega, en.more (by omega) O he⟩) ?_ (by rw [List.length_cons]; omega) (fun y _ => ?_) (hq2.adv z1 z2) (fu.tr ((fA.to (fun b i z => by omega)).tr (z2.to (fun b i z => Or.inl z)))) (fw.tr z3) ?_ ?_).mono (fun rv u' w' r' y => ⟨y.1, y.2.1, TX12_readWait_154 y.2.2⟩)
        · show (if C = 20 ∨ C = 21 then dp O + 1 else dp O) = wi
          rw [if_neg (by omega)]; exact hd
        · show decide (C = 20 ∨ tgt C < 4) = false
          have := l5 (by omega)
          exact decide_eq_false (by omega)
        · intro z Q2 Sr2 u4 w4 c1 c2 c3 c4 c5 c6 c7
          refine ih (opPut N T t.1.1 (F (pAdv t.1, t.2))) kk kf z g2 (Q2 ++ [C]) Sr2 u4 w4 (by rw [List.append_assoc]; exact c1) ?_ (pq.app ⟨hop, by omega⟩ Q2 (pq.less l2 Q2 c3)) (by rw [List.length_append]; show Q2.length + 1 + lv + wi ≤ 12; omega) (c5.app C) (fun y => ?_) (fun y => ?_) c6 c7
          · rw [clA_app, c2]
            show stO C :: (F (pAdv t.1, t.2)).2.1 = (3, opC (kK N T t.1.1)) :: (F (pAdv t.1, t.2)).2.1
            rw [hC, show stO C = (3, C) from if_neg o4]
          · refine Or.inr ⟨?_, hasR_last o5 ?_ Q2 ?_⟩
            · rcases h2 y with ⟨e, _⟩ | ⟨e, _⟩ <;> omega
            · rw [o2]; exact l6.2 y
            · subst y; exact c3
          · have y3 := h3 y
            have y4 : t.1.1 + 1 < (F (pAdv t.1, t.2)).1.1 := (gg z).1
            show M < (F (pAdv t.1, t.2)).1.1 + m
            omega
        · intro z u4 w4 c1 c2 c3
          have zf : ¬ (opPut N T t.1.1 (F (pAdv t.1, t.2))).1.2.1 = 0 := z
          rw [lpF_f zf] at kf
          exact kf z u4 w4 c1 c2 c3
      refine TX12_readWait_30 (brT ⟨by decide, e2⟩ (xPr.use (R_sign a1 ok) ⟨_, rfl, rfl, rfl, rfl, ?_⟩))
      rw [e6, e41]
      refine brF n6 (TX12_readWait_94 ?_)
      rw [o1]
      refine brF (fun z => o3 ((eq_nI (b := 0) (by omega) (by omega)).1 z)) (xPr.use (R_tight hop) ⟨_, rfl, rfl, rfl, rfl, ?_⟩)
      rw [o2]
      have e4 : nI (tt lv) = (4 : Int32) ↔ tt lv = 4 := eq_nI (b := 4) (by omega) (by omega)
      rw [e4]
      by_cases q4 : tt lv = 4
      · refine brT q4 (xPr.use (R_hasRelation hr a3) ⟨_, rfl, rfl, rfl, rfl, ?_⟩)
        have p5 : pq 5 Q := by
          rcases h2 (l6.1 q4) with ⟨_, y⟩ | ⟨y, _⟩
          · exact y
          · exact absurd y (by omega)
        rw [hasR_5 Q p5, hasR_en O (by rw [q4] at he; exact he)]
        exact brT rfl go113
      · exact brF q4 go113
    · rw [if_neg (fun z => q z.2)] at kk kf
      exact kk h0 Q Sr u w h hc (pq.less l1 Q hp) hl2 (hx.up q) fu fw
theorem R_sim (hr : xRf r) (ok : tpOk N T) (hM : kK N T M = 0) (hMN : M ≤ 1600) : ∀ f lv wi, lv ≤ 5 → wi ≤ 7 → nd lv wi ≤ f → rSim g d r N T M u0 w0 P lv wi (pF N T f lv wi) := by
  intro f
  induction f with
  | zero =>
    intro lv wi h1 h2 h3
    unfold nd at h3
    omega
  | succ f ih =>
    intro lv wi h1 h2 h3
    unfold nd at h3
    have gA : ∀ lv' wi', lv' ≤ 5 → wi' ≤ 7 → nd lv' wi' ≤ f → ∀ t : pS, t.1.2.1 = 0 → inS M t → gd M 1 t (pF N T f lv' wi' t) := fun lv' wi' x1 x2' x3 t y1 y2 => (pF_ok hM f lv' wi' t x1 x2' x3 y1 y2).less (by unfold sl; split <;> omega)
    by_cases q5 : 4 < lv
    · have e5 : lv = 5 := by omega
      subst e5
      have e : pF N T (f + 1) 5 wi = pU N T (pF N T f 0 (wi + 1)) wi := by
        funext s
        rw [pF, if_pos q5]
      rw [e]
      exact R_usim hr ok hM h2 (fun w6 => ih 0 (wi + 1) (by omega) (by omega) (by unfold nd; omega)) (fun w6 => gA 0 (wi + 1) (by omega) (by omega) (by unfold nd; omega))
    · intro s O u w
      by_cases qn : lv = 2 ∧ pSee N T 30 s.1
      · obtain ⟨e2, qs⟩ := qn
        subst e2
        have e : pF N T (f + 1) 2 wi s = pNt N T (pF N T f 2 (wi + 1)) wi s := by rw [pF, if_neg q5, if_pos ⟨rfl, qs⟩]
        have go := R_nsim (g := g) (d := d) (u0 := u0) (w0 := w0) (P := P) (O := O) (u := u) (w := w) hr ok hM h2 (fun w6 => ih 2 (wi + 1) (by omega) (by omega) (by unfold nd; omega)) qs.2
        unfold rSat at go ⊢
        rw [e]
        exact go
      · have e : pF N T (f + 1) lv wi s = lpF N T (pF N T f (lv + 1) wi) lv (if lv = 2 then 1 else 1600) (pF N T f (lv + 1) wi s) := by rw [pF, if_neg q5, if_neg qn]
        unfold rSat
        rw [e]
        intro h0 hs he hd hl hn h fu fw kk kf
        obtain ⟨l1, l2, l3, l4, l5, l6⟩ := tt_le (show lv ≤ 4 by omega)
        have hF := ih (lv + 1) wi (by omega) h2 (by unfold nd; omega)
        have gF := gA (lv + 1) wi (by omega) h2 (by unfold nd; omega)
        refine hF s O u w h0 hs (en.more (by omega) O he) hd (by omega) (fun y z => ?_) h fu fw (fun z Q Sr u1 w1 c1 c2 c3 c4 c5 c6 c7 => ?_) (fun z u1 w1 c1 c2 c3 => ?_)
        · by_cases y2 : lv = 2
          · exact absurd ⟨y2, h0, z⟩ qn
          · exact hn (by omega) z
        · refine R_floop (k0 := 1) hr ok hM (by omega) h2 hF (Nat.le_refl 1) gF hs he hd hl _ _ kk kf z (gF s h0 hs) Q Sr u1 w1 c1 c2 (pq.less l2 Q c3) (by omega) c5 (fun y => ?_) (fun y => ?_) c6 c7
          · refine Or.inl ⟨if_pos y, ?_⟩
            subst y
            exact c3
          · rw [if_neg y]
            have := (gF s h0 hs z).1
            omega
        · rw [lpF_f z] at kf
          exact kf z u1 w1 c1 c2 c3
/-- the formula that stands behind its keyword -/
def pWt (N : Nat) (T : Nat → Int32) (c : pC) : pS := pF N T 48 0 0 (pAdv c, [], 0)
theorem rS_nil {u : xU} (h : u 655 17 = nI 0) : rS [] u := ⟨h, fun k hk => absurd hk (Nat.not_lt_zero _)⟩
theorem R_readWait {u : xU} {w : xW} {c : pC} (hr : xRf r) (ok : tpOk N T) (hM : kK N T M = 0) (hMN : M ≤ 1600) (h : rP N T c u w) (h0 : c.2.1 = 0) (hc : c.1 + 1 ≤ M) (hk : ¬ kK N T c.1 = 1) (h20 : u 655 20 = nI 0)
    (kk : ∀ u' w', rP N T (pWt N T c).1 u' w' → ((pWt N T c).1.2.1 = 0 → rS (pWt N T c).2.1 u' ∧ u' 655 20 = nI (pWt N T c).2.2) → xSn fFv u u' → wSn fTw w w' → P none u' w' r) : xCall g (d + 4) mX12_readWait [.ref 655] 698 u w r 698 P := by
  refine CX12_readWait (R_adv hr ok h hk (fun u1 w1 y1 y2 y3 => ⟨rfl, rfl, CX12_unit ?_⟩))
  have f2 : xSn (fun b i => b = 655 ∧ (i = 17 ∨ i = 19 ∨ i = 23 ∨ i = 22)) u1 (x2 (x2 (x2 (x2 u1 655 17 (0 : Int32)) 655 19 (0 : Int32)) 655 23 (0 : Int32)) 655 22 (0 : Int32)) := ((((xSn.rf).put (by omega)).put (by omega)).put (by omega)).put (by omega)
  have e17 : (x2 (x2 (x2 (x2 u1 655 17 (0 : Int32)) 655 19 (0 : Int32)) 655 23 (0 : Int32)) 655 22 (0 : Int32)) 655 17 = nI 0 := by rw [x2_i _ _ (by omega), x2_i _ _ (by omega), x2_i _ _ (by omega), x2_same]; rfl
  have e19 : (x2 (x2 (x2 (x2 u1 655 17 (0 : Int32)) 655 19 (0 : Int32)) 655 23 (0 : Int32)) 655 22 (0 : Int32)) 655 19 = nI 0 := by rw [x2_i _ _ (by omega), x2_i _ _ (by omega), x2_same]; rfl
  have e23 : (x2 (x2 (x2 (x2 u1 655 17 (0 : Int32)) 655 19 (0 : Int32)) 655 23 (0 : Int32)) 655 22 (0 : Int32)) 655 23 = nI 0 := by rw [x2_i _ _ (by omega), x2_same]; rfl
  have e22 : (x2 (x2 (x2 (x2 u1 655 17 (0 : Int32)) 655 19 (0 : Int32)) 655 23 (0 : Int32)) 655 22 (0 : Int32)) 655 22 = nI 0 := by rw [x2_same]; rfl
  generalize x2 (x2 (x2 (x2 u1 655 17 (0 : Int32)) 655 19 (0 : Int32)) 655 23 (0 : Int32)) 655 22 (0 : Int32) = u2 at f2 e17 e19 e23 e22
  have fA : xSn fFv u u2 := (y2.to (fun _ _ z => Or.inl z)).tr (f2.to (fun b i z => by omega))
  have hO : rO [] u2 := ⟨e19, e23, fun k hk => absurd hk (Nat.not_lt_zero _), trivial, Nat.zero_le _, Nat.zero_le _⟩
  have hq : rQ N T (pAdv c) [] 0 [] u2 w1 := ⟨y1.frO (f2.to (fun b i z => by omega)), rS_nil e17, hO, (f2 _ _ (by omega)).trans ((y2 _ _ (by omega)).trans h20), e22⟩
  have hi : inS M (pAdv c, [], 0) := ⟨hc, trivial, Nat.le_refl _, Nat.le_refl _, Nat.zero_le _⟩
  have sim := R_sim (g := g) (d := d) (u0 := u) (w0 := w) (P := P) hr ok hM hMN 48 0 0 (by omega) (by omega) (by decide) (pAdv c, [], 0) [] u2 w1 h0 hi trivial rfl (Nat.zero_le _) (fun z => absurd z (by decide)) hq fA y3
  have gg := pF_ok hM 48 0 0 (pAdv c, [], 0) (by omega) (by omega) (by decide) h0 hi
  unfold pWt at kk
  generalize pF N T 48 0 0 (pAdv c, [], 0) = t at kk sim gg
  refine sim (fun z Q Sr u4 w4 c1 c2 c3 c4 c5 c6 c7 => ?_) (fun z u4 w4 c1 c2 c3 => kk u4 w4 c1 (fun y => absurd y z) c2 c3)
  have t2 : u4 655 2 = 0 := by rw [c1.1.2.2.2.1, f9_0 c1.1.2.2.1]; exact z
  have nb : hasB (Q ++ []) (Q ++ []).length = false := by rw [List.append_nil]; exact hasB_pq c3 _
  refine R_wait_out hr ok c1 z c5 (fun _ => nb) (TX12_readWait_30 (brF (fun y => y.1 rfl) (brT t2 (xPr.use (R_hasBracket hr c1.2.2.1) ⟨_, rfl, rfl, rfl, rfl, ?_⟩))))
  rw [nb]
  refine brT rfl (TX12_readWait_176 (brT t2 ?_))
  have eS : clS 0 (Q ++ []) Sr = t.2.1 := (clS_pq Q Sr (pq.less (by omega) Q c3)).trans c2
  obtain ⟨g1, g2, g3, g4, g5, g6, g7, g8⟩ := gg z
  have g8' : t.2.1.length + sl 0 0 + 9 * 0 ≤ 0 + 9 * t.2.2 := g8
  refine R_closeTo (m := 0) hr (by omega) c1.2.2.1 c1.2.1 (by rw [eS]; omega) (fun u5 x1 x2' x3 => ⟨rfl, rfl, rfl, ?_⟩)
  rw [eS] at x2'
  refine kk u5 w4 (c1.1.frO (x3.to (fun b i z => by omega))) (fun _ => ⟨x2', (x3 _ _ (by omega)).trans c1.2.2.2.1⟩) (c6.tr (x3.to (fun b i z => by omega))) c7
end FSIM2
