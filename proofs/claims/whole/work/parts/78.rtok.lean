/-! THE REFERENCE reads a token -/
theorem x2_x2 {α : Type} (f : Nat → Nat → α) (a k : Nat) (x y : α) : x2 (x2 f a k x) a k y = x2 f a k y := by
  funext b j
  by_cases h : b = a ∧ j = k
  · obtain ⟨h1, h2⟩ := h; subst h1 h2; rw [x2_same, x2_same]
  · rw [x2_ne _ _ h, x2_ne _ _ h, x2_ne _ _ h]
def hc (N : Nat) (T : Nat → Int32) (j : Nat) : Int32 := if j < N then T j else -1
theorem hc_in {N : Nat} {T : Nat → Int32} (ok : tpOk N T) {j : Nat} (hj : j < N) : hc N T j = nI (tb N T j) ∧ tb N T j < 256 := by
  unfold hc
  rw [if_pos hj]
  exact tb_in ok hj
theorem hc_out {N : Nat} {T : Nat → Int32} {j : Nat} (hj : ¬ j < N) : hc N T j = -1 ∧ tb N T j = 256 := ⟨if_neg hj, tb_out (by omega)⟩
theorem hc_is {N : Nat} {T : Nat → Int32} (ok : tpOk N T) {j c : Nat} (h : c < 256) : hc N T j = nI c ↔ tb N T j = c := by
  by_cases hj : j < N
  · obtain ⟨e, h2⟩ := hc_in ok hj
    rw [e, eq_nI (by omega) (by omega)]
  · obtain ⟨e, h2⟩ := hc_out (T := T) hj
    rw [e, h2]
    refine ⟨fun z => ?_, fun z => by omega⟩
    have := nI_nn (k := c) (by omega)
    rw [← z] at this
    exact absurd m1_neg this
theorem hc_nn {N : Nat} {T : Nat → Int32} (ok : tpOk N T) {j : Nat} : 0 ≤ hc N T j ↔ ¬ tb N T j = 256 := by
  by_cases hj : j < N
  · obtain ⟨e, h2⟩ := hc_in ok hj
    rw [e]
    exact ⟨fun _ => by omega, fun _ => nI_le (a := 0) (by omega) (by omega)⟩
  · obtain ⟨e, h2⟩ := hc_out (T := T) hj
    rw [e, h2]
    exact ⟨fun z => absurd z (by decide), fun z => absurd rfl z⟩
theorem in_nI {a b t : Nat} (ha : a < 1000) (hb : b < 1000) (ht : t < 1000) : (¬ nI t < nI a ∧ ¬ nI b < nI t) ↔ (a ≤ t ∧ t ≤ b) := by
  rw [lt_nI (by omega) (by omega), lt_nI (by omega) (by omega)]
  omega
theorem hc_let {N : Nat} {T : Nat → Int32} (ok : tpOk N T) {j : Nat} : (¬ hc N T j < (97 : Int32) ∧ ¬ (122 : Int32) < hc N T j) ↔ cLet (tb N T j) := by
  by_cases hj : j < N
  · obtain ⟨e, h2⟩ := hc_in ok hj
    rw [e]
    exact in_nI (a := 97) (b := 122) (by omega) (by omega) (by omega)
  · obtain ⟨e, h2⟩ := hc_out (T := T) hj
    rw [e, h2]
    exact ⟨fun z => absurd z (by decide), fun z => absurd z (by decide)⟩
theorem hc_dig {N : Nat} {T : Nat → Int32} (ok : tpOk N T) {j : Nat} : (¬ hc N T j < (48 : Int32) ∧ ¬ (57 : Int32) < hc N T j) ↔ cDig (tb N T j) := by
  by_cases hj : j < N
  · obtain ⟨e, h2⟩ := hc_in ok hj
    rw [e]
    exact in_nI (a := 48) (b := 57) (by omega) (by omega) (by omega)
  · obtain ⟨e, h2⟩ := hc_out (T := T) hj
    rw [e, h2]
    exact ⟨fun z => absurd z (by decide), fun z => absurd z (by decide)⟩
def m8 (m k : Nat) : Nat := if k ≤ m then k else m
/-- what is read, as it lies for the reference -/
def rSz (N : Nat) (T : Nat → Int32) (u : xU) : Prop := u 655 5 = nI N ∧ ∀ i, i < N → u 656 i = T i
abbrev fTk : Nat → Nat → Prop := fun b i => b = 655 ∧ (i = 4 ∨ i = 6 ∨ i = 7 ∨ i = 8)
theorem rSz.kept {N : Nat} {T : Nat → Int32} {u u' : xU} (h : rSz N T u) {F : Nat → Nat → Prop} (f : xSn F u u') (h1 : ¬ F 655 5) (h2 : ∀ i, ¬ F 656 i) : rSz N T u' :=
  ⟨(f _ _ h1).trans h.1, fun i hi => by rw [f _ _ (h2 i)]; exact h.2 i hi⟩
/-- the token from p on is the present one -/
def rTk (N : Nat) (T : Nat → Int32) (p : Nat) (u : xU) (w : xW) : Prop :=
  u 655 7 = nI (tkS N T p) ∧ u 655 6 = nI (srt (tkK N T p)) ∧ (srt (tkK N T p) = 1 → w 655 9 = lN (tkV N T p)) ∧ (tkK N T p = 3 → u 655 8 = nI (tkV N T p)) ∧ (¬ tkK N T p = 1 → u 655 4 = nI (tkE N T p))
section RTOK
variable {g : xGT} {d : Nat} {w : xW} {r : xQ} {N : Nat} {T : Nat → Int32}
theorem R_here {u : xU} (hr : xRf r) (ok : tpOk N T) (h : rSz N T u) {p k : Nat} (h4 : u 655 4 = nI p) (hk : p + k ≤ 100000) : xCall g d mX12_here [.ref 655, .int (nI k)] 698 u w r 698 (xPr (hc N T (p + k)) u w r) := by
  have n16 := ok.1
  refine CX12_here hr ?_
  rw [h.1, h4, nI_add]
  have e : nI N ≤ nI (p + k) ↔ N ≤ p + k := le_nI (by omega) (by omega)
  refine ⟨fun q => vpn (by rw [e] at q; omega) (by omega), ?_, rfl, rfl, rfl⟩
  unfold hc
  by_cases q : p + k < N
  · rw [if_neg (fun z => by rw [e] at z; omega), if_pos q, nc (by omega), h.2 _ q]
  · rw [if_pos (e.2 (by omega)), if_neg q]
theorem R_here0 {u : xU} (hr : xRf r) (ok : tpOk N T) (h : rSz N T u) {p : Nat} (h4 : u 655 4 = nI p) (hk : p ≤ 100000) : xCall g d mX12_here [.ref 655, .int (0 : Int32)] 698 u w r 698 (xPr (hc N T p) u w r) := R_here (k := 0) hr ok h h4 (by omega)
theorem R_isLet {u : xU} (ok : tpOk N T) (j : Nat) : xCall g d mX12_isLetter [.int (hc N T j)] 698 u w r 698 (xPr (xb (cLet (tb N T j))) u w r) := CX12_isLetter ⟨by rw [xb_iff (hc_let ok)], rfl, rfl, rfl⟩
theorem R_isDig {u : xU} (ok : tpOk N T) (j : Nat) : xCall g d mX12_isDigit [.int (hc N T j)] 698 u w r 698 (xPr (xb (cDig (tb N T j))) u w r) := CX12_isDigit ⟨by rw [xb_iff (hc_dig ok)], rfl, rfl, rfl⟩
theorem m8_lt {m k : Nat} (h : k < m) : m8 m k = k ∧ m8 m (k + 1) = k + 1 := ⟨if_pos (by omega), if_pos (by omega)⟩
theorem m8_ge {m k : Nat} (h : m ≤ k) : m8 m (k + 1) = m8 m k := by
  unfold m8
  rw [if_neg (by omega)]
  by_cases q : k ≤ m
  · rw [if_pos q]; omega
  · rw [if_neg q]
theorem tb_let {p j : Nat} (h1 : tkS N T p ≤ j) (h2 : j < tkL N T p) : cLet (tb N T j) := of_decide_eq_true (run_in (qLet N T) h1 h2)
theorem tb_dig {p j : Nat} (h1 : tkS N T p ≤ j) (h2 : j < tkD N T p) : cDig (tb N T j) := of_decide_eq_true (run_in (qDig N T) h1 h2)
theorem tkL_out {p : Nat} (h : p ≤ N) : ¬ cLet (tb N T (tkL N T p)) := fun z => by
  have a3 : qLet N T (tkL N T p) = false := run_out (tkS_le h) (qLet_N N T)
  have : qLet N T (tkL N T p) = true := decide_eq_true z
  rw [this] at a3; exact absurd a3 (by decide)
theorem tkD_out {p : Nat} (h : p ≤ N) : ¬ cDig (tb N T (tkD N T p)) := fun z => by
  have a3 : qDig N T (tkD N T p) = false := run_out (tkS_le h) (qDig_N N T)
  have : qDig N T (tkD N T p) = true := decide_eq_true z
  rw [this] at a3; exact absurd a3 (by decide)
theorem R_tok_78 {u : xU} {P : xPost} (hr : xRf r) (ok : tpOk N T) (h : rSz N T u) {p : Nat} (hp : p ≤ N) (h4 : u 655 4 = nI (tkS N T p))
    (kk : xEv g (d + 1) mX12_token 232 [some (.ref 655), none, some (.int (nI (tkL N T p - tkS N T p)))] [] 698 (x2 u 655 6 (if tkL N T p - tkS N T p ≤ 8 then 1 else 3)) (x2 w 655 9 (lN (pkW 256 0 (tkB N T p) (m8 8 (tkL N T p - tkS N T p))))) r 698 P) :
    xEv g (d + 1) mX12_token 78 [some (.ref 655), none, some (.int (0 : Int32))] [] 698 u (x2 w 655 9 (0 : Int64)) r 698 P := by
  have n16 := ok.1
  have hs := tkS_le (T := T) hp
  have hl : tkL N T p ≤ N := run_le _ hs
  have hg : tkS N T p ≤ tkL N T p := run_ge _ _ _
  refine xlq (N := tkL N T p - tkS N T p) (G := fun k => xEv g (d + 1) mX12_token 78 [some (.ref 655), none, some (.int (nI k))] [] 698 u (x2 w 655 9 (lN (pkW 256 0 (tkB N T p) (m8 8 k)))) r 698 P) ?_ ?_
  · refine TX12_token_78 (xPr.use (R_here hr ok h h4 (by omega)) ⟨_, rfl, rfl, rfl, rfl, xPr.use (R_isLet ok _) ⟨_, rfl, rfl, rfl, rfl, brT ?_ ?_⟩⟩)
    · rw [show tkS N T p + (tkL N T p - tkS N T p) = tkL N T p by omega]
      exact xb_neg (tkL_out hp)
    · have e : (nI (tkL N T p - tkS N T p) ≤ (8 : Int32)) ↔ tkL N T p - tkS N T p ≤ 8 := le_nI (b := 8) (by omega) (by omega)
      by_cases q : tkL N T p - tkS N T p ≤ 8
      · rw [if_pos (e.2 q)]; rw [if_pos q] at kk; exact kk
      · rw [if_neg (fun z => q (e.1 z))]; rw [if_neg q] at kk; exact kk
  · intro k hk kk2
    have hL : cLet (tb N T (tkS N T p + k)) := tb_let (p := p) (by omega) (by omega)
    refine TX12_token_78 (xPr.use (R_here hr ok h h4 (by omega)) ⟨_, rfl, rfl, rfl, rfl, xPr.use (R_isLet ok _) ⟨_, rfl, rfl, rfl, rfl, brF (by rw [xb_pos hL]; decide) ?_⟩⟩)
    have e : ((8 : Int32) ≤ nI k) ↔ 8 ≤ k := le_nI (a := 8) (by omega) (by omega)
    by_cases q : 8 ≤ k
    · refine brT (e.2 q) (TX12_token_113 ?_)
      rw [nI_one, ← m8_ge q]; exact kk2
    · refine brF (fun z => q (e.1 z)) (xPr.use (R_here hr ok h h4 (by omega)) ⟨_, rfl, rfl, rfl, rfl, TX12_token_113 ?_⟩)
      obtain ⟨q1, q2⟩ := m8_lt (m := 8) (k := k) (by omega)
      obtain ⟨e1, e2⟩ := hc_in ok (show tkS N T p + k < N by omega)
      have b1 := pkW_8 (b := 256) (o := 0) (f := tkB N T p) (k := k + 1) (by omega) (by omega) (by omega) (fun i hi => by
        have := (tb_in ok (show tkS N T p + i < N by omega)).2
        unfold tkB; omega)
      have b2 : pkW 256 0 (tkB N T p) (k + 1) = pkW 256 0 (tkB N T p) k * 256 + tb N T (tkS N T p + k) := rfl
      rw [x2_same, e1, q1, pk256 e2 (by omega), x2_x2, nI_one, ← b2]
      rw [q2] at kk2; exact kk2
theorem R_tok_144 {u : xU} {P : xPost} (hr : xRf r) (ok : tpOk N T) (h : rSz N T u) {p : Nat} (hp : p ≤ N) (h4 : u 655 4 = nI (tkS N T p))
    (kk : xEv g (d + 1) mX12_token 232 [some (.ref 655), none, some (.int (nI (tkD N T p - tkS N T p)))] [] 698 (x2 (x2 u 655 8 (nI (dN (tkB N T p) (m8 4 (tkD N T p - tkS N T p))))) 655 6 (if tkD N T p - tkS N T p ≤ 4 ∧ ¬ cLet (tb N T (tkD N T p)) then 2 else 3)) w r 698 P) :
    xEv g (d + 1) mX12_token 144 [some (.ref 655), none, some (.int (0 : Int32))] [] 698 (x2 u 655 8 0) w r 698 P := by
  have n16 := ok.1
  have hs := tkS_le (T := T) hp
  have hl : tkD N T p ≤ N := run_le _ hs
  have hg : tkS N T p ≤ tkD N T p := run_ge _ _ _
  have hx : ∀ x, rSz N T (x2 u 655 8 x) := fun x => h.kept (F := fTk) ((xSn.rf).put ⟨rfl, by omega⟩) (by omega) (fun i => by omega)
  have h4x : ∀ x, x2 u 655 8 x 655 4 = nI (tkS N T p) := fun x => by rw [x2_i _ _ (by omega)]; exact h4
  refine xlq (N := tkD N T p - tkS N T p) (G := fun k => xEv g (d + 1) mX12_token 144 [some (.ref 655), none, some (.int (nI k))] [] 698 (x2 u 655 8 (nI (dN (tkB N T p) (m8 4 k)))) w r 698 P) ?_ ?_
  · refine TX12_token_144 (xPr.use (R_here hr ok (hx _) (h4x _) (by omega)) ⟨_, rfl, rfl, rfl, rfl, xPr.use (R_isDig ok _) ⟨_, rfl, rfl, rfl, rfl, brT ?_ ?_⟩⟩)
    · rw [show tkS N T p + (tkD N T p - tkS N T p) = tkD N T p by omega]
      exact xb_neg (tkD_out hp)
    · have e : ((4 : Int32) < nI (tkD N T p - tkS N T p)) ↔ 4 < tkD N T p - tkS N T p := lt_nI (a := 4) (by omega) (by omega)
      by_cases q : 4 < tkD N T p - tkS N T p
      · rw [if_neg (fun z => by omega)] at kk
        exact brT (e.2 q) (TX12_token_203 (TX12_token_208 kk))
      · refine brF (fun z => q (e.1 z)) (xPr.use (R_here hr ok (hx _) (h4x _) (by omega)) ⟨_, rfl, rfl, rfl, rfl, xPr.use (R_isLet ok _) ⟨_, rfl, rfl, rfl, rfl, ?_⟩⟩)
        rw [show tkS N T p + (tkD N T p - tkS N T p) = tkD N T p by omega]
        by_cases q2 : cLet (tb N T (tkD N T p))
        · rw [if_neg (fun z => z.2 q2)] at kk
          exact brF (by rw [xb_pos q2]; decide) (TX12_token_203 (TX12_token_208 kk))
        · rw [if_pos ⟨by omega, q2⟩] at kk
          exact brT (xb_neg q2) (TX12_token_208 kk)
  · intro k hk kk2
    have hL : cDig (tb N T (tkS N T p + k)) := tb_dig (p := p) (by omega) (by omega)
    refine TX12_token_144 (xPr.use (R_here hr ok (hx _) (h4x _) (by omega)) ⟨_, rfl, rfl, rfl, rfl, xPr.use (R_isDig ok _) ⟨_, rfl, rfl, rfl, rfl, brF (by rw [xb_pos hL]; decide) ?_⟩⟩)
    have e : ((4 : Int32) ≤ nI k) ↔ 4 ≤ k := le_nI (a := 4) (by omega) (by omega)
    by_cases q : 4 ≤ k
    · refine brT (e.2 q) (TX12_token_180 ?_)
      rw [nI_one, ← m8_ge q]; exact kk2
    · refine brF (fun z => q (e.1 z)) (xPr.use (R_here hr ok (hx _) (h4x _) (by omega)) ⟨_, rfl, rfl, rfl, rfl, TX12_token_180 ?_⟩)
      obtain ⟨q1, q2⟩ := m8_lt (m := 4) (k := k) (by omega)
      obtain ⟨e1, e2⟩ := hc_in ok (show tkS N T p + k < N by omega)
      have b2 : dN (tkB N T p) (k + 1) = dN (tkB N T p) k * 10 + (tb N T (tkS N T p + k) - 48) := rfl
      have b3 : ((10 : Int32) * nI (dN (tkB N T p) k) + nI (tb N T (tkS N T p + k))) - (48 : Int32) = nI (dN (tkB N T p) (k + 1)) := by
        rw [show (10 : Int32) = nI 10 from rfl, nI_mul, nI_add, show (48 : Int32) = nI 48 from rfl, nI_sub (by omega), b2]
        congr 1; omega
      rw [x2_same, e1, q1, b3, x2_x2, nI_one]
      rw [q2] at kk2; exact kk2
end RTOK
