/-! THE CLASS splits: words, numbers, signs -/
/-- the letters of the words -/
def wls (i : Nat) : List Nat := if i = 0 then [118, 105, 108, 108, 97, 103, 101] else if i = 1 then [119, 97, 121] else if i = 2 then [98, 105, 101, 114] else if i = 3 then [108, 101, 116, 116, 101, 114] else if i = 4 then [119, 97, 105, 116] else if i = 5 then [119, 105, 110, 116, 101, 114] else if i = 6 then [102, 114, 111, 109] else if i = 7 then [116, 111] else if i = 8 then [111, 110] else if i = 9 then [104, 111, 108, 100, 115] else if i = 10 then [97, 116] else if i = 11 then [98, 121] else if i = 12 then [119, 111, 114, 116, 104] else if i = 13 then [111, 114] else if i = 14 then [97, 110, 100] else if i = 15 then [110, 111, 116] else if i = 16 then [100, 97, 121] else if i = 17 then [119, 97, 121, 115] else [114, 101, 115, 116]
def wl (i j : Nat) : Nat := (wls i).getD j 0
def w27 (i : Nat) : Nat := pkW 27 96 (wl i) (wls i).length
theorem wl_256 : ∀ i, i < 19 → pkW 256 0 (wl i) (wls i).length = wd i := by decide +kernel
theorem wl_let : ∀ i, i < 19 → ∀ j, j < (wls i).length → cLet (wl i j) := by decide +kernel
theorem w27_lt : ∀ i, i < 19 → w27 i < 2 ^ 64 := by decide +kernel
theorem w27_same {f : Nat → Nat} {k i : Nat} (hi : i < 19) (h : ∀ j, j < k → cLet (f j)) : pkW 27 96 f k = w27 i ↔ pkW 256 0 f k = wd i := by
  rw [← wl_256 i hi]
  exact pkW_same h (wl_let i hi)
/-- the words lie as they must -/
def kWd (w : xW) : Prop := ∀ i, i < 19 → w 15 i = lN (w27 i)
def kb (N : Nat) (T : Nat → Int32) (j : Nat) : Int32 := if j < N then T j else 0
theorem kb_in {N : Nat} {T : Nat → Int32} (ok : tpOk N T) {j : Nat} (hj : j < N) : kb N T j = nI (tb N T j) ∧ tb N T j < 256 := by
  unfold kb
  rw [if_pos hj]
  exact tb_in ok hj
theorem kb_out {N : Nat} {T : Nat → Int32} {j : Nat} (hj : ¬ j < N) : kb N T j = 0 ∧ tb N T j = 256 := ⟨if_neg hj, tb_out (by omega)⟩
theorem kb_let {N : Nat} {T : Nat → Int32} (ok : tpOk N T) {j : Nat} : (¬ kb N T j < (97 : Int32) ∧ ¬ (122 : Int32) < kb N T j) ↔ cLet (tb N T j) := by
  by_cases hj : j < N
  · obtain ⟨e, h2⟩ := kb_in ok hj
    rw [e]
    exact in_nI (a := 97) (b := 122) (by omega) (by omega) (by omega)
  · obtain ⟨e, h2⟩ := kb_out (T := T) hj
    rw [e, h2]
    exact ⟨fun z => absurd z (by decide), fun z => absurd z (by decide)⟩
theorem kb_dig {N : Nat} {T : Nat → Int32} (ok : tpOk N T) {j : Nat} : (¬ kb N T j < (48 : Int32) ∧ ¬ (57 : Int32) < kb N T j) ↔ cDig (tb N T j) := by
  by_cases hj : j < N
  · obtain ⟨e, h2⟩ := kb_in ok hj
    rw [e]
    exact in_nI (a := 48) (b := 57) (by omega) (by omega) (by omega)
  · obtain ⟨e, h2⟩ := kb_out (T := T) hj
    rw [e, h2]
    exact ⟨fun z => absurd z (by decide), fun z => absurd z (by decide)⟩
abbrev fAd (k : Nat) : Nat → Nat → Prop := fun b i => ((b = 12 ∨ b = 14) ∧ i = k) ∨ (b = 10 ∧ i = 5)
abbrev fAw (k : Nat) : Nat → Nat → Prop := fun b i => b = 13 ∧ i = k
/-- a token is written at k -/
def aTk (N : Nat) (T : Nat → Int32) (k p : Nat) (u : xU) (w : xW) : Prop := u 12 k = nI (tkK N T p) ∧ u 14 k = nI (tkS N T p) ∧ (tkK N T p = 2 → w 13 k = lN (tkW 27 96 N T p)) ∧ (tkK N T p = 3 → w 13 k = lN (tkV N T p))
theorem dN_lt {f : Nat → Nat} : ∀ k, (∀ i, i < k → cDig (f i)) → dN f k < 10 ^ k := by
  intro k
  induction k with
  | zero => intro _; exact Nat.one_pos
  | succ k ih =>
    intro h
    have h1 := ih (fun i hi => h i (by omega))
    have h2 := h k (by omega)
    show dN f k * 10 + (f k - 48) < 10 ^ k * 10
    omega
section CTOK
variable {g : xGT} {d : Nat} {w : xW} {r : xQ} {N : Nat} {T : Nat → Int32}
theorem K_byteAt {u : xU} (hr : xRf r) (ok : tpOk N T) (h : cTp N T u) {j : Nat} (hj : j ≤ 100000) : xCall g d mX10_byteAt [.ref 10, .int (nI j)] 698 u w r 698 (xPr (kb N T j) u w r) := by
  have n16 := ok.1
  refine CX10_byteAt hr ?_
  rw [h.1]
  have e : (¬ nI j < 0 ∧ ¬ nI N ≤ nI j ∧ ¬ (1600 : Int32) ≤ nI j) ↔ j < N := by
    have e1 : nI N ≤ nI j ↔ N ≤ j := le_nI (by omega) (by omega)
    have e2 : (1600 : Int32) ≤ nI j ↔ 1600 ≤ j := le_nI (a := 1600) (by omega) (by omega)
    have e3 := nI_nn (k := j) (by omega)
    rw [e1, e2]
    exact ⟨fun z => by omega, fun z => ⟨e3, by omega, by omega⟩⟩
  unfold kb
  refine ⟨fun q => vpn (by have := e.1 q; omega) (by omega), ?_, rfl, rfl, rfl⟩
  by_cases q : j < N
  · rw [if_pos (e.2 q), if_pos q, nc (by omega), h.2 _ q]
  · rw [if_neg (fun z => q (e.1 z)), if_neg q]
theorem K_isLet {u : xU} (ok : tpOk N T) (j : Nat) : xCall g d mX10_isLetter [.int (kb N T j)] 698 u w r 698 (xPr (xb (cLet (tb N T j))) u w r) := CX10_isLetter ⟨by rw [xb_iff (kb_let ok)], rfl, rfl, rfl⟩
theorem K_isDig {u : xU} (ok : tpOk N T) (j : Nat) : xCall g d mX10_isDigit [.int (kb N T j)] 698 u w r 698 (xPr (xb (cDig (tb N T j))) u w r) := CX10_isDigit ⟨by rw [xb_iff (kb_dig ok)], rfl, rfl, rfl⟩
theorem K_addAt {u : xU} {P : xPost} {k : Nat} {kd pl : Int32} {y : Int64} (hr : xRf r) (hk : k ≤ 1600) (h5 : u 10 5 = nI k) (kk : P none (x2 (x2 (x2 u 12 k kd) 14 k pl) 10 5 (nI (k + 1))) (x2 w 13 k y) r) : xCall g d mX10_add [.ref 10, .int kd, .long y, .int pl] 698 u w r 698 P := by
  refine CX10_add hr ?_
  rw [h5, nc (by omega), nI_one]
  exact ⟨fun _ => ⟨vpn (by omega) (by omega), kk⟩, fun z => absurd ⟨nI_nn (by omega), nI_ge (b := 1601) (by omega) (by omega)⟩ z⟩
theorem K_kow_2 {u : xU} {P : xPost} (hr : xRf r) (hw : kWd w) {f : Nat → Nat} {k : Nat} (hk : k ≤ 8) (hf : ∀ j, j < k → cLet (f j)) : ∀ m i, m + i = 19 → P (some (.int (nI (if wdF (pkW 256 0 f k) m = 19 then 2 else 15 + wdF (pkW 256 0 f k) m)))) u w r →
    xEv g d mX10_kindOfWord 2 [some (.ref 10), some (.long (lN (pkW 27 96 f k))), none, some (.int (nI i))] [] 698 u w r 698 P := by
  intro m
  have b1 : pkW 27 96 f k < 2 ^ 64 := pkW_8 (by omega) (by omega) hk (fun i hi => by have := hf i hi; omega)
  induction m with
  | zero =>
    intro i hi kk
    exact TX10_kindOfWord_2 hr (brT (nI_le (a := 19) (by omega) (by omega)) kk)
  | succ m ih =>
    intro i hi kk
    refine TX10_kindOfWord_2 hr (brF (nI_ge (b := 19) (by omega) (by omega)) ⟨vpn (by omega) (by omega), ?_⟩)
    rw [nc (by omega), hw i (by omega), lg_cmp_eq, lN_inj (w27_lt i (by omega)) b1]
    have e : w27 i = pkW 27 96 f k ↔ pkW 256 0 f k = wd i := by rw [← w27_same (by omega) hf]; exact eq_comm
    have em : 18 - m = i := by omega
    by_cases q : pkW 256 0 f k = wd i
    · refine brT (e.2 q) ?_
      have e2 : wdF (pkW 256 0 f k) (m + 1) = i := by unfold wdF; rw [em, if_pos q]
      rw [e2, if_neg (by omega)] at kk
      rw [show (15 : Int32) + nI i = nI (15 + i) from nI_add 15 i]
      exact kk
    · refine brF (fun z => q (e.1 z)) ?_
      have e2 : wdF (pkW 256 0 f k) (m + 1) = wdF (pkW 256 0 f k) m := by rw [wdF, em, if_neg q]
      rw [e2] at kk
      rw [nI_one]
      exact ih (i + 1) (by omega) kk
theorem K_kow {u : xU} (hr : xRf r) (hw : kWd w) {f : Nat → Nat} {k : Nat} (hk : k ≤ 8) (hf : ∀ j, j < k → cLet (f j)) : xCall g d mX10_kindOfWord [.ref 10, .long (lN (pkW 27 96 f k))] 698 u w r 698 (xPr (nI (kwd (pkW 256 0 f k))) u w r) :=
  CX10_kindOfWord (K_kow_2 hr hw hk hf 19 0 rfl ⟨rfl, rfl, rfl, rfl⟩)
theorem K_addWord {u : xU} {P : xPost} {p k : Nat} (hr : xRf r) (ok : tpOk N T) (hw : kWd w) (h : cTp N T u) (hp : p ≤ N) (cl : cLet (tkC N T p)) (hk : k ≤ 1600) (h5 : u 10 5 = nI k)
    (kk : ∀ u' w', aTk N T k p u' w' → u' 10 5 = nI (k + 1) → xSn (fAd k) u u' → wSn (fAw k) w w' → P (some (.int (nI (tkE N T p)))) u' w' r) :
    xCall g (d + 1) mX10_addWord [.ref 10, .int (nI (tkS N T p))] 698 u w r 698 P := by
  have n16 := ok.1
  have hs := tkS_le (T := T) hp
  have hl : tkL N T p ≤ N := run_le _ hs
  have hg : tkS N T p ≤ tkL N T p := run_ge _ _ _
  have c0 : ¬ tkC N T p = 256 := by omega
  have eK : tkK N T p = if tkL N T p - tkS N T p ≤ 8 then kwd (tkW 256 0 N T p) else 1 := by
    unfold tkK; rw [if_neg c0, if_pos cl]
  have eE : tkE N T p = tkL N T p := by unfold tkE; rw [if_neg c0, if_pos cl]
  have lf : ∀ j, j < tkL N T p - tkS N T p → cLet (tkB N T p j) := fun j hj => tb_let (p := p) (by omega) (by omega)
  rw [eE] at kk
  have fin : ∀ kd : Int32, kd = nI (tkK N T p) → xEv g (d + 1) mX10_addWord 67 [none, some (.int (nI (tkS N T p))), some (.long (lN (tkW 27 96 N T p))), none, some (.int (nI (tkL N T p))), none] [.int kd, .ref 10] 698 u w r 698 P := by
    intro kd hkd
    refine TX10_addWord_67 (K_addAt hr hk h5 ⟨rfl, rfl, kk _ _ ⟨?_, ?_, fun _ => x2_same _ _ _ _, fun z => ?_⟩ (x2_same _ _ _ _) ((((xSn.rf).put (Or.inl ⟨Or.inl rfl, rfl⟩)).put (Or.inl ⟨Or.inr rfl, rfl⟩)).put (Or.inr ⟨rfl, rfl⟩)) ((wSn.rf).put ⟨rfl, rfl⟩)⟩)
    · rw [x2_a _ _ (by omega), x2_a _ _ (by omega), x2_same, hkd]
    · rw [x2_a _ _ (by omega), x2_same]
    · exfalso
      rw [eK] at z
      by_cases q : tkL N T p - tkS N T p ≤ 8
      · rw [if_pos q] at z; rcases kwd_ge (tkW 256 0 N T p) with y | y <;> omega
      · rw [if_neg q] at z; omega
  have at48 : xEv g (d + 1) mX10_addWord 48 [some (.ref 10), some (.int (nI (tkS N T p))), some (.long (lN (tkW 27 96 N T p))), none, some (.int (nI (tkL N T p))), none] [] 698 u w r 698 P := by
    refine TX10_addWord_48 ?_
    rw [nI_sub hg]
    have e8 : nI (tkL N T p - tkS N T p) ≤ (8 : Int32) ↔ tkL N T p - tkS N T p ≤ 8 := le_nI (b := 8) (by omega) (by omega)
    by_cases q : tkL N T p - tkS N T p ≤ 8
    · refine brT (e8.2 q) (xPr.use (K_kow hr hw q lf) ⟨_, rfl, rfl, rfl, rfl, fin _ ?_⟩)
      rw [eK, if_pos q]; rfl
    · refine brF (fun z => q (e8.1 z)) (fin _ ?_)
      rw [eK, if_neg q]; rfl
  refine CX10_addWord ?_
  refine xlq (N := tkL N T p - tkS N T p) (G := fun i => xEv g (d + 1) mX10_addWord 8 [some (.ref 10), some (.int (nI (tkS N T p))), some (.long (lN (pkW 27 96 (tkB N T p) i))), none, some (.int (nI (tkS N T p + i))), some (.int (nI i))] [] 698 u w r 698 P) ?_ ?_
  · have at48' : xEv g (d + 1) mX10_addWord 48 [some (.ref 10), some (.int (nI (tkS N T p))), some (.long (lN (pkW 27 96 (tkB N T p) (tkL N T p - tkS N T p)))), none, some (.int (nI (tkS N T p + (tkL N T p - tkS N T p)))), none] [] 698 u w r 698 P := by
      rw [show tkS N T p + (tkL N T p - tkS N T p) = tkL N T p by omega]; exact at48
    refine TX10_addWord_8 ⟨fun _ => at48', fun _ => xPr.use (K_byteAt hr ok h (by omega)) ⟨_, rfl, rfl, rfl, rfl, xPr.use (K_isLet ok _) ⟨_, rfl, rfl, rfl, rfl, brT (xb_neg ?_) at48'⟩⟩⟩
    rw [show tkS N T p + (tkL N T p - tkS N T p) = tkL N T p by omega]
    exact tkL_out hp
  · intro i hi kk2
    have hL : cLet (tb N T (tkS N T p + i)) := tb_let (p := p) (by omega) (by omega)
    refine TX10_addWord_8 (brF (nI_ge (b := 1600) (by omega) (by omega)) (xPr.use (K_byteAt hr ok h (by omega)) ⟨_, rfl, rfl, rfl, rfl, xPr.use (K_isLet ok _) ⟨_, rfl, rfl, rfl, rfl, brF (by rw [xb_pos hL]; decide) ?_⟩⟩))
    refine xPr.use (K_byteAt hr ok h (by omega)) ⟨_, rfl, rfl, rfl, rfl, CX10_packedWith ⟨_, rfl, rfl, rfl, rfl, ?_⟩⟩
    obtain ⟨e1, e2⟩ := kb_in ok (show tkS N T p + i < N by omega)
    rw [e1, pk27 hL.1 e2, nI_one, nI_one]
    exact kk2
theorem K_addNumber {u : xU} {P : xPost} {p k : Nat} (hr : xRf r) (ok : tpOk N T) (h : cTp N T u) (hp : p ≤ N) (cd : cDig (tkC N T p)) (hk : k ≤ 1600) (h5 : u 10 5 = nI k)
    (kk : ∀ u' w', aTk N T k p u' w' → u' 10 5 = nI (k + 1) → xSn (fAd k) u u' → wSn (fAw k) w w' → P (some (.int (nI (tkE N T p)))) u' w' r) :
    xCall g (d + 1) mX10_addNumber [.ref 10, .int (nI (tkS N T p))] 698 u w r 698 P := by
  have n16 := ok.1
  have hs := tkS_le (T := T) hp
  have hl : tkD N T p ≤ N := run_le _ hs
  have hg : tkS N T p ≤ tkD N T p := run_ge _ _ _
  have c0 : ¬ tkC N T p = 256 := by omega
  have cl : ¬ cLet (tkC N T p) := by omega
  have eK : tkK N T p = if tkD N T p - tkS N T p ≤ 4 ∧ ¬ cLet (tb N T (tkD N T p)) then 3 else 1 := by
    unfold tkK; rw [if_neg c0, if_neg cl, if_pos cd]
  have eE : tkE N T p = tkD N T p := by unfold tkE; rw [if_neg c0, if_neg cl, if_pos cd]
  have eV : tkV N T p = dN (tkB N T p) (tkD N T p - tkS N T p) := if_neg cl
  rw [eE] at kk
  have fin : ∀ z0 : Int32, (if z0 = 0 then (1 : Int32) else 3) = nI (tkK N T p) → xEv g (d + 1) mX10_addNumber 72 [some (.ref 10), some (.int (nI (tkS N T p))), some (.int (nI (dN (tkB N T p) (tkD N T p - tkS N T p)))), some (.int (nI (tkD N T p))), none] [.int z0] 698 u w r 698 P := by
    intro z0 hz
    refine TX10_addNumber_72 (K_addAt hr hk h5 ⟨rfl, rfl, kk _ _ ⟨?_, ?_, fun z => ?_, fun z => ?_⟩ (x2_same _ _ _ _) ((((xSn.rf).put (Or.inl ⟨Or.inl rfl, rfl⟩)).put (Or.inl ⟨Or.inr rfl, rfl⟩)).put (Or.inr ⟨rfl, rfl⟩)) ((wSn.rf).put ⟨rfl, rfl⟩)⟩)
    · rw [x2_a _ _ (by omega), x2_a _ _ (by omega), x2_same, hz]
    · rw [x2_a _ _ (by omega), x2_same]
    · exfalso
      rw [eK] at z
      by_cases q : tkD N T p - tkS N T p ≤ 4 ∧ ¬ cLet (tb N T (tkD N T p))
      · rw [if_pos q] at z; omega
      · rw [if_neg q] at z; omega
    · rw [x2_same, eV]
      by_cases q : tkD N T p - tkS N T p ≤ 4 ∧ ¬ cLet (tb N T (tkD N T p))
      · have b1 := dN_lt (f := tkB N T p) (tkD N T p - tkS N T p) (fun j hj => tb_dig (p := p) (by omega) (by omega))
        have b2 : 10 ^ (tkD N T p - tkS N T p) ≤ 10 ^ 4 := Nat.pow_le_pow_right (by decide) q.1
        have b3 : (10 : Nat) ^ 4 = 10000 := by decide
        exact nI_l (by omega)
      · rw [eK, if_neg q] at z; omega
  have at49 : xEv g (d + 1) mX10_addNumber 49 [some (.ref 10), some (.int (nI (tkS N T p))), some (.int (nI (dN (tkB N T p) (tkD N T p - tkS N T p)))), some (.int (nI (tkD N T p))), none] [] 698 u w r 698 P := by
    refine TX10_addNumber_49 ?_
    rw [nI_sub hg]
    have e4 : (4 : Int32) < nI (tkD N T p - tkS N T p) ↔ 4 < tkD N T p - tkS N T p := lt_nI (a := 4) (by omega) (by omega)
    by_cases q : 4 < tkD N T p - tkS N T p
    · exact brT (e4.2 q) (TX10_addNumber_71 (fin _ (by rw [if_pos rfl, eK, if_neg (fun z => by omega)]; rfl)))
    · refine brF (fun z => q (e4.1 z)) (xPr.use (K_byteAt hr ok h (by omega)) ⟨_, rfl, rfl, rfl, rfl, xPr.use (K_isLet ok _) ⟨_, rfl, rfl, rfl, rfl, ?_⟩⟩)
      by_cases q2 : cLet (tb N T (tkD N T p))
      · exact brF (by rw [xb_pos q2]; decide) (TX10_addNumber_71 (fin _ (by rw [if_pos rfl, eK, if_neg (fun z => z.2 q2)]; rfl)))
      · exact brT (xb_neg q2) (fin _ (by rw [if_neg (by decide), eK, if_pos ⟨by omega, q2⟩]; rfl))
  refine CX10_addNumber ?_
  refine xlq (N := tkD N T p - tkS N T p) (G := fun i => xEv g (d + 1) mX10_addNumber 7 [some (.ref 10), some (.int (nI (tkS N T p))), some (.int (nI (dN (tkB N T p) i))), some (.int (nI (tkS N T p + i))), some (.int (nI i))] [] 698 u w r 698 P) ?_ ?_
  · have at49' : xEv g (d + 1) mX10_addNumber 49 [some (.ref 10), some (.int (nI (tkS N T p))), some (.int (nI (dN (tkB N T p) (tkD N T p - tkS N T p)))), some (.int (nI (tkS N T p + (tkD N T p - tkS N T p)))), none] [] 698 u w r 698 P := by
      rw [show tkS N T p + (tkD N T p - tkS N T p) = tkD N T p by omega]; exact at49
    refine TX10_addNumber_7 ⟨fun _ => at49', fun _ => xPr.use (K_byteAt hr ok h (by omega)) ⟨_, rfl, rfl, rfl, rfl, xPr.use (K_isDig ok _) ⟨_, rfl, rfl, rfl, rfl, brT (xb_neg ?_) at49'⟩⟩⟩
    rw [show tkS N T p + (tkD N T p - tkS N T p) = tkD N T p by omega]
    exact tkD_out hp
  · intro i hi kk2
    have hL : cDig (tb N T (tkS N T p + i)) := tb_dig (p := p) (by omega) (by omega)
    refine TX10_addNumber_7 (brF (nI_ge (b := 1600) (by omega) (by omega)) (xPr.use (K_byteAt hr ok h (by omega)) ⟨_, rfl, rfl, rfl, rfl, xPr.use (K_isDig ok _) ⟨_, rfl, rfl, rfl, rfl, brF (by rw [xb_pos hL]; decide) ?_⟩⟩))
    refine xPr.use (K_byteAt hr ok h (by omega)) ⟨_, rfl, rfl, rfl, rfl, ?_⟩
    obtain ⟨e1, e2⟩ := kb_in ok (show tkS N T p + i < N by omega)
    have b2 : dN (tkB N T p) (i + 1) = dN (tkB N T p) i * 10 + (tb N T (tkS N T p + i) - 48) := rfl
    have b3 : (nI (dN (tkB N T p) i) * (10 : Int32) + nI (tb N T (tkS N T p + i))) - (48 : Int32) = nI (dN (tkB N T p) (i + 1)) := by
      rw [show (10 : Int32) = nI 10 from rfl, nI_mul, nI_add, show (48 : Int32) = nI 48 from rfl, nI_sub (by omega), b2]
      congr 1; omega
    rw [e1, b3, nI_one, nI_one]
    exact kk2
/-- what lies behind the tokens: asked by number -/
theorem K_kindAt {u : xU} {k M : Nat} {x : Int32} (hr : xRf r) (h5 : u 10 5 = nI M) (hM : M ≤ 1601) (hk : k < M) (hx : u 12 k = x) : xCall g d mX10_kindAt [.ref 10, .int (nI k)] 698 u w r 698 (xPr x u w r) := by
  refine CX10_kindAt hr ?_
  rw [h5]
  refine ⟨fun _ => vpn (by omega) (by omega), ?_, rfl, rfl, rfl⟩
  rw [if_pos ⟨nI_nn (by omega), nI_ge (by omega) (by omega)⟩, nc (by omega), hx]
theorem K_placeAt {u : xU} {k M : Nat} {x : Int32} (hr : xRf r) (h5 : u 10 5 = nI M) (hM : M ≤ 1601) (hk : k < M) (hx : u 14 k = x) : xCall g d mX10_placeAt [.ref 10, .int (nI k)] 698 u w r 698 (xPr x u w r) := by
  refine CX10_placeAt hr ?_
  rw [h5]
  refine ⟨fun _ => vpn (by omega) (by omega), ?_, rfl, rfl, rfl⟩
  rw [if_pos ⟨nI_nn (by omega), nI_ge (by omega) (by omega)⟩, nc (by omega), hx]
theorem K_valueAt {u : xU} {P : xPost} {k M : Nat} (hr : xRf r) (h5 : u 10 5 = nI M) (hM : M ≤ 1601) (hk : k < M) (kk : P (some (.long (w 13 k))) u w r) : xCall g d mX10_valueAt [.ref 10, .int (nI k)] 698 u w r 698 P := by
  refine CX10_valueAt hr ?_
  rw [h5, nc (by omega)]
  exact brT ⟨nI_nn (by omega), nI_ge (by omega) (by omega)⟩ ⟨vpn (by omega) (by omega), kk⟩
end CTOK
