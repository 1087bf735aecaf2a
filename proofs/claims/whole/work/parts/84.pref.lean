/-! THE READING OF A TEXT: the reference -/
section PREF
variable {g : xGT} {d : Nat} {w : xW} {r : xQ} {N : Nat} {T : Nat → Int32} {c : pC}
/-- what the reference's rows of a reading may change -/
theorem rP.next {u u1 : xU} {w1 : xW} (h : rP N T c u w) (h2 : u1 655 2 = nI c.2.1) (h3 : u1 655 3 = c.2.2) (hs : rSz N T u1) (hk : rTk N T (ps N T (c.1 + 1)) u1 w1) : rP N T (pAdv c) u1 w1 := ⟨hs, hk, h.2.2.1, h2, h3⟩
theorem R_adv {u : xU} {P : xPost} (hr : xRf r) (ok : tpOk N T) (h : rP N T c u w) (h1 : ¬ kK N T c.1 = 1) (kk : ∀ u' w', rP N T (pAdv c) u' w' → xSn fPr u u' → wSn fTw w w' → P none u' w' r) : xCall g (d + 1) mX12_token [.ref 655] 698 u w r 698 P := by
  refine R_token (p := ps N T (c.1 + 1)) hr ok (ps_le N T _) h.1 (h.2.1.2.2.2.2 h1) (fun u' w' y1 y2 y3 => kk u' w' (h.next ?_ ?_ (h.1.kept y2 (by omega) (fun i => by omega)) y1) (y2.to (fun b i z => Or.inl z)) y3)
  · exact (y2 _ _ (by omega)).trans h.2.2.2.1
  · exact (y2 _ _ (by omega)).trans h.2.2.2.2
theorem R_wrong {u : xU} (h : rP N T c u w) {x : Nat} (hx : x ≤ 9) : xCall g d mX12_wrong [.ref 655, .int (nI x)] 698 u w r 698 (xVd (fun u' => rP N T (pFail N T x c) u' w ∧ xSn fPr u u') w r) := by
  refine CX12_wrong ?_
  rw [h.2.2.2.1, f9_le h.2.2.1, h.2.1.2.1, h.2.1.1]
  by_cases q : c.2.1 = 0
  · refine brT q ⟨rfl, ?_, rfl, rfl⟩
    have e : (if nI (srt (kK N T c.1)) = (3 : Int32) then (1 : Int32) else nI x) = nI (if kK N T c.1 = 1 then 1 else x) := by
      have s1 := srt_small (kK N T c.1)
      have e1 : nI (srt (kK N T c.1)) = (3 : Int32) ↔ srt (kK N T c.1) = 3 := eq_nI (b := 3) (by omega) (by omega)
      by_cases y : kK N T c.1 = 1
      · rw [if_pos (e1.2 (by rw [y]; decide)), if_pos y]; rfl
      · rw [if_neg (fun z => y (srt_3 (e1.1 z))), if_neg y]
    have ep : pFail N T x c = (c.1, (if kK N T c.1 = 1 then 1 else x), nI (kQ N T c.1)) := if_pos q
    have b9 : (if kK N T c.1 = 1 then 1 else x) ≤ 9 := by split <;> omega
    have f1 : xSn (fun b i => b = 655 ∧ (i = 2 ∨ i = 3)) u (x2 (x2 u 655 2 (nI (if kK N T c.1 = 1 then 1 else x))) 655 3 (nI (kQ N T c.1))) := ((xSn.rf).put ⟨rfl, Or.inl rfl⟩).put ⟨rfl, Or.inr rfl⟩
    have e' : (if nI (srt (tkK N T (ps N T c.1))) = (3 : Int32) then (1 : Int32) else nI x) = nI (if kK N T c.1 = 1 then 1 else x) := e
    rw [e', ep]
    obtain ⟨t1, t2, t3, t4, t5⟩ := h.2.1
    refine ⟨⟨h.1.kept f1 (by omega) (fun i => by omega), ⟨?_, ?_, t3, fun z => ?_, fun z => ?_⟩, b9, ?_, x2_same _ _ _ _⟩, f1.to (fun b i z => Or.inr z)⟩
    · exact (f1 _ _ (by omega)).trans t1
    · exact (f1 _ _ (by omega)).trans t2
    · exact (f1 _ _ (by omega)).trans (t4 z)
    · exact (f1 _ _ (by omega)).trans (t5 z)
    · rw [x2_i _ _ (by omega), x2_same]
  · refine brF q ⟨rfl, ⟨?_, xSn.rf⟩, rfl, rfl⟩
    rw [pFail_f q]; exact h
/-- the present word -/
theorem rP.word {u : xU} (h : rP N T c u w) (ok : tpOk N T) {i : Nat} (hi : i < 19) : (u 655 6 = (1 : Int32) ∧ lg_cmp (w 655 9) (lN (wd i)) = 0) ↔ kK N T c.1 = 15 + i := by
  have s1 := srt_small (kK N T c.1)
  have e1 : nI (srt (kK N T c.1)) = (1 : Int32) ↔ srt (kK N T c.1) = 1 := eq_nI (b := 1) (by omega) (by omega)
  have e6 : u 655 6 = nI (srt (kK N T c.1)) := h.2.1.2.1
  rw [e6, e1, lg_cmp_eq]
  constructor
  · intro ⟨z1, z2⟩
    obtain ⟨a1, a2⟩ := tk_word ok (ps_le N T c.1) z1
    have a3 : w 655 9 = lN (kV N T c.1) := h.2.1.2.2.1 z1
    rw [a3, lN_inj a2 (wd_lt i hi)] at z2
    show tkK N T (ps N T c.1) = 15 + i
    rw [a1, kwd_wd hi]
    exact z2
  · intro z
    have z1 : srt (kK N T c.1) = 1 := srt_one.2 (Or.inr (by omega))
    obtain ⟨a1, a2⟩ := tk_word ok (ps_le N T c.1) z1
    have a3 : w 655 9 = lN (kV N T c.1) := h.2.1.2.2.1 z1
    refine ⟨z1, ?_⟩
    rw [a3, lN_inj a2 (wd_lt i hi), ← kwd_wd hi, ← a1]
    exact z
theorem R_isWord {u : xU} (h : rP N T c u w) (ok : tpOk N T) {i : Nat} (hi : i < 19) : xCall g d mX12_isWord [.ref 655, .long (lN (wd i))] 698 u w r 698 (xPr (xb (kK N T c.1 = 15 + i)) u w r) := CX12_isWord ⟨by rw [xb_iff (h.word ok hi)], rfl, rfl, rfl⟩
theorem R_isName {u : xU} (h : rP N T c u w) (ok : tpOk N T) : xCall g (d + 1) mX12_isName [.ref 655] 698 u w r 698 (xPr (xb (kK N T c.1 = 2)) u w r) := by
  have s1 := srt_small (kK N T c.1)
  have e1 : nI (srt (kK N T c.1)) = (1 : Int32) ↔ srt (kK N T c.1) = 1 := eq_nI (b := 1) (by omega) (by omega)
  have e6 : u 655 6 = nI (srt (kK N T c.1)) := h.2.1.2.1
  refine CX12_isName ?_
  rw [e6, e1]
  by_cases q : srt (kK N T c.1) = 1
  · refine brT q ?_
    have wi : ∀ i, i < 19 → (lg_cmp (w 655 9) (lN (wd i)) = 0 ↔ kK N T c.1 = 15 + i) := fun i hi => by
      rw [← h.word ok hi, e6, e1]
      exact ⟨fun z => ⟨q, z⟩, fun z => z.2⟩
    have w0 := wi 0 (by omega); have w1 := wi 1 (by omega); have w2 := wi 2 (by omega); have w3 := wi 3 (by omega); have w4 := wi 4 (by omega)
    have w5 := wi 5 (by omega); have w6 := wi 6 (by omega); have w7 := wi 7 (by omega); have w8 := wi 8 (by omega); have w9 := wi 9 (by omega)
    have w10 := wi 10 (by omega); have w11 := wi 11 (by omega); have w12 := wi 12 (by omega); have w13 := wi 13 (by omega); have w14 := wi 14 (by omega)
    have w15 := wi 15 (by omega); have w16 := wi 16 (by omega); have w17 := wi 17 (by omega); have w18 := wi 18 (by omega)
    refine CX12_isOwn ⟨_, rfl, rfl, rfl, rfl, ?_⟩
    rw [xb_eq0]
    have k33 := kK_small ok c.1
    have key : (lg_cmp (w 655 9) (33329961647564645 : Int64) = 0 ∨ lg_cmp (w 655 9) (7823737 : Int64) = 0 ∨ lg_cmp (w 655 9) (1651074418 : Int64) = 0 ∨ lg_cmp (w 655 9) (1718775661 : Int64) = 0 ∨ lg_cmp (w 655 9) (29807 : Int64) = 0 ∨ lg_cmp (w 655 9) (28526 : Int64) = 0 ∨ lg_cmp (w 655 9) (448545973363 : Int64) = 0 ∨ lg_cmp (w 655 9) (119183001281906 : Int64) = 0 ∨ lg_cmp (w 655 9) (24948 : Int64) = 0 ∨ lg_cmp (w 655 9) (25209 : Int64) = 0 ∨ lg_cmp (w 655 9) (512970880104 : Int64) = 0 ∨ lg_cmp (w 655 9) (2002872692 : Int64) = 0 ∨ lg_cmp (w 655 9) (131294708393330 : Int64) = 0 ∨ lg_cmp (w 655 9) (6578553 : Int64) = 0 ∨ lg_cmp (w 655 9) (2002876787 : Int64) = 0 ∨ lg_cmp (w 655 9) (1919251316 : Int64) = 0 ∨ lg_cmp (w 655 9) (6385252 : Int64) = 0 ∨ lg_cmp (w 655 9) (28530 : Int64) = 0 ∨ lg_cmp (w 655 9) (7237492 : Int64) = 0) ↔ ¬ kK N T c.1 = 2 := by
      refine Iff.trans (or_congr w0 (or_congr w1 (or_congr w2 (or_congr w6 (or_congr w7 (or_congr w8 (or_congr w9 (or_congr w3 (or_congr w10 (or_congr w11 (or_congr w12 (or_congr w4 (or_congr w5 (or_congr w16 (or_congr w17 (or_congr w18 (or_congr w14 (or_congr w13 w15)))))))))))))))))) ?_
      have q2 := srt_one.1 q
      omega
    by_cases q2 : kK N T c.1 = 2
    · exact brT (fun z => key.1 z q2) ⟨by rw [xb_pos q2], rfl, rfl, rfl⟩
    · exact brF (fun z => z (key.2 q2)) ⟨by rw [xb_neg q2], rfl, rfl, rfl⟩
  · refine brF q ⟨?_, rfl, rfl, rfl⟩
    rw [xb_neg (fun z => q (srt_one.2 (Or.inl z)))]
/-- what must stand there -/
theorem R_want {u : xU} {P : xPost} (hr : xRf r) (ok : tpOk N T) (h : rP N T c u w) {i : Nat} (hi : i < 19) (kk : ∀ u' w', rP N T (pWant N T (15 + i) c) u' w' → xSn fPr u u' → wSn fTw w w' → P none u' w' r) : xCall g (d + 2) mX12_want [.ref 655, .long (lN (wd i))] 698 u w r 698 P := by
  refine CX12_want ?_
  rw [h.2.2.2.1, f9_le h.2.2.1]
  unfold pWant at kk
  by_cases q : c.2.1 = 0
  · refine brT q (xPr.use (R_isWord h ok hi) ⟨_, rfl, rfl, rfl, rfl, ?_⟩)
    by_cases q2 : kK N T c.1 = 15 + i
    · rw [if_pos ⟨q, q2⟩] at kk
      exact brF (by rw [xb_pos q2]; decide) (R_adv hr ok h (by omega) (fun u' w' y1 y2 y3 => ⟨rfl, rfl, kk u' w' y1 y2 y3⟩))
    · rw [if_neg (fun z => q2 z.2)] at kk
      exact brT (xb_neg q2) (xVd.use (R_wrong (x := 2) h (by omega)) (fun u1 h1 => ⟨rfl, rfl, rfl, kk u1 w h1.1 h1.2 wSn.rf⟩))
  · rw [if_neg (fun z => q z.1), pFail_f q] at kk
    exact brF q (kk u w h xSn.rf wSn.rf)
theorem R_toldNumber {u : xU} {P : xPost} (hr : xRf r) (ok : tpOk N T) (h : rP N T c u w) {lo hi : Nat} (hl : lo ≤ 1000) (hh : hi ≤ 1000) (kk : ∀ v u' w', ((pNum N T lo hi c).2.1 = 0 → v = nI (kV N T c.1)) → rP N T (pNum N T lo hi c) u' w' → xSn fPr u u' → wSn fTw w w' → P (some (.int v)) u' w' r) : xCall g (d + 2) mX12_toldNumber [.ref 655, .int (nI lo), .int (nI hi)] 698 u w r 698 P := by
  refine CX12_toldNumber ?_
  have s1 := srt_small (kK N T c.1)
  have e6 : u 655 6 = nI (srt (kK N T c.1)) := h.2.1.2.1
  have e1 : nI (srt (kK N T c.1)) = (2 : Int32) ↔ srt (kK N T c.1) = 2 := eq_nI (b := 2) (by omega) (by omega)
  rw [h.2.2.2.1, f9_le h.2.2.1, e6, e1, srt_inj3]
  -- where the ends meet
  have bad : ∀ (x : Nat) (u1 : xU), ¬ x = 0 → pNum N T lo hi c = pFail N T x c → rP N T (pFail N T x c) u1 w → xSn fPr u u1 → xEv g (d + 2) mX12_toldNumber 46 [some (.ref 655), none, none, none] [] 698 u1 w r 698 P := by
    intro x u1 hx ep h1 f1
    refine TX12_toldNumber_46 ?_
    rw [h1.2.2.2.1, f9_0 h1.2.2.1]
    refine brF (pFail_0 hx) (kk _ u1 w (fun z => ?_) (by rw [ep]; exact h1) f1 wSn.rf)
    rw [ep] at z
    exact absurd z (pFail_0 hx)
  by_cases q : c.2.1 = 0
  · refine brT q ?_
    by_cases q2 : kK N T c.1 = 3
    · refine brT q2 ?_
      have e8 : u 655 8 = nI (kV N T c.1) := h.2.1.2.2.2.1 q2
      have v4 := dig_small q2
      have ekV : kV N T c.1 = tkV N T (ps N T c.1) := rfl
      rw [e8, lt_nI (by omega) (by omega), le_nI (by omega) (by omega)]
      by_cases q3 : numOk N T lo hi c
      · have ep : pNum N T lo hi c = pAdv c := by unfold pNum; rw [if_pos ⟨q, q2⟩, if_pos q3]
        refine brF (fun z => by rcases z with z | z <;> omega) (TX12_toldNumber_46 ?_)
        rw [h.2.2.2.1, f9_0 h.2.2.1, e8]
        rw [ep] at kk
        exact brT q (R_adv hr ok h (by omega) (fun u' w' y1 y2 y3 => ⟨rfl, rfl, kk _ u' w' (fun _ => rfl) y1 y2 y3⟩))
      · have ep : pNum N T lo hi c = pFail N T 4 c := by unfold pNum; rw [if_pos ⟨q, q2⟩, if_neg q3]
        exact brT (by omega) (xVd.use (R_wrong (x := 4) h (by omega)) (fun u1 h1 => ⟨rfl, rfl, rfl, bad 4 u1 (by omega) ep h1.1 h1.2⟩))
    · have ep : pNum N T lo hi c = pFail N T 2 c := by unfold pNum; rw [if_neg (fun z => q2 z.2)]
      exact brF q2 (xVd.use (R_wrong (x := 2) h (by omega)) (fun u1 h1 => ⟨rfl, rfl, rfl, bad 2 u1 (by omega) ep h1.1 h1.2⟩))
  · have ep : pNum N T lo hi c = c := by unfold pNum; rw [if_neg (fun z => q z.1), pFail_f q]
    refine brF q (kk _ u w (fun z => ?_) (by rw [ep]; exact h) xSn.rf wSn.rf)
    rw [ep] at z
    exact absurd z q
theorem R_told {u : xU} {P : xPost} (hr : xRf r) (ok : tpOk N T) (h : rP N T c u w) {i lo hi : Nat} (hi9 : i < 19) (hl : lo ≤ 1000) (hh : hi ≤ 1000) (kk : ∀ v u' w', ((pNum N T lo hi (pWant N T (15 + i) c)).2.1 = 0 → v = nI (kV N T (pWant N T (15 + i) c).1)) → rP N T (pNum N T lo hi (pWant N T (15 + i) c)) u' w' → xSn fPr u u' → wSn fTw w w' → P (some (.int v)) u' w' r) : xCall g (d + 3) mX12_told [.ref 655, .long (lN (wd i)), .int (nI lo), .int (nI hi)] 698 u w r 698 P :=
  CX12_told (R_want hr ok h hi9 (fun u1 w1 y1 y2 y3 => ⟨rfl, rfl, R_toldNumber hr ok y1 hl hh (fun v u2 w2 z1 z2 z3 z4 => ⟨v, rfl, rfl, kk v u2 w2 z1 z2 (y2.tr z3) (y3.tr z4)⟩)⟩))
/-- what may stand there -/
def pOpt (N : Nat) (T : Nat → Int32) (k lo hi : Nat) (c : pC) : pC := if pSee N T k c then pNum N T lo hi (pAdv c) else c
theorem R_option {u : xU} {P : xPost} (hr : xRf r) (ok : tpOk N T) (h : rP N T c u w) {i lo hi : Nat} {x : Int32} (hi9 : i < 19) (hl : lo ≤ 1000) (hh : hi ≤ 1000)
    (kk : ∀ v u' w', ((pOpt N T (15 + i) lo hi c).2.1 = 0 → v = if pSee N T (15 + i) c then nI (kV N T (c.1 + 1)) else x) → rP N T (pOpt N T (15 + i) lo hi c) u' w' → xSn fPr u u' → wSn fTw w w' → P (some (.int v)) u' w' r) : xCall g (d + 4) mX12_option [.ref 655, .long (lN (wd i)), .int (nI lo), .int (nI hi), .int x] 698 u w r 698 P := by
  refine CX12_option ?_
  rw [h.2.2.2.1, f9_0 h.2.2.1]
  unfold pOpt at kk
  by_cases q : c.2.1 = 0
  · refine brT q (xPr.use (R_isWord h ok hi9) ⟨_, rfl, rfl, rfl, rfl, ?_⟩)
    by_cases q2 : kK N T c.1 = 15 + i
    · have see : pSee N T (15 + i) c := ⟨q, q2⟩
      have ew : pWant N T (15 + i) c = pAdv c := if_pos see
      rw [if_pos see, if_pos see] at kk
      refine brF (by rw [xb_pos q2]; decide) (R_told hr ok h hi9 hl hh (fun v u' w' z1 z2 z3 z4 => ⟨v, rfl, rfl, kk v u' w' ?_ ?_ z3 z4⟩))
      · rw [ew] at z1; exact z1
      · rw [ew] at z2; exact z2
    · have see : ¬ pSee N T (15 + i) c := fun z => q2 z.2
      rw [if_neg see, if_neg see] at kk
      exact brT (xb_neg q2) (kk x u w (fun _ => rfl) h xSn.rf wSn.rf)
  · have see : ¬ pSee N T (15 + i) c := fun z => q z.1
    rw [if_neg see, if_neg see] at kk
    exact brF q (kk x u w (fun _ => rfl) h xSn.rf wSn.rf)
end PREF
