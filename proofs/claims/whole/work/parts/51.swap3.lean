/-! QUESTIONS: swap: the class -/
section SWAPC
variable {g : xGT} {d : Nat} {w : xW} {r : xQ} {L : xU} {c : Int32} {l n e s : Nat} {σ : Nat → Int32}
theorem K_lettersIn {u : xU} {T : Nat → Int32} (h_s : xSt s) (q_s : xSr s r) (hk : kSt L n u s σ T) (hS : gSt L c n e σ) (b : Nat) : xCall g d mX9_lettersIn [.ref s, .int (nI b)] 698 u w r 698 (xPr (xset n (fun i => decide (σ (28 + i) = nI b))) u w r) := by
  have n10 := hS.1.2
  refine CX9_lettersIn ?_
  refine xlq (N := n) (G := fun k => xEv g d mX9_lettersIn 4 [some (.ref s), some (.int (nI b)), some (.int (xset k (fun i => decide (σ (28 + i) = nI b)))), some (.int (nI k))] [] 698 u w r 698 _) ?_ ?_
  · exact TX9_lettersIn_4 h_s q_s (brT (by rw [hk.1.2.2, hS.1.1]; exact nI_le (Nat.le_refl _) (by omega)) ⟨rfl, rfl, rfl, rfl⟩)
  · intro k hkk kk
    refine TX9_lettersIn_4 h_s q_s (brF (by rw [hk.1.2.2, hS.1.1]; exact nI_ge (by omega) (by omega)) ⟨vpn (by omega) (by omega), ?_⟩)
    rw [nc (by omega), (hk.2.2.2 k hkk).1.2.1]
    rw [xset_s] at kk
    refine ⟨fun q => TX9_lettersIn_28 ?_, fun q => TX9_lettersIn_28 ?_⟩
    · rw [if_pos (decide_eq_true q)] at kk; rw [nI_one]; exact kk
    · rw [if_neg (fun z => q (of_decide_eq_true z))] at kk; rw [nI_one]; exact kk
/-- the gains in the class's memory -/
def cG (L : xU) (n e : Nat) (σ : Nat → Int32) (u : xU) (a b : Nat) : Prop := ∀ i, i < n → u a i = sGn L e σ b i
theorem K_weigh {u : xU} {Tb : Nat → Int32} {a b : Nat} (hr : xRf r) (hK : lOkk L) (hk : kSt L n u 105 σ Tb) (hS : gSt L c n e σ) (hb : b < lB L) (hW : cW u (wE L e σ)) (ha : xKK a = some (.inr (.int, 10))) (haf : 102 < a ∧ a < 105) :
    xCall g (d + 1) mX3_weigh [.ref 79, .ref 105, .int (nI b), .ref a] 698 u w r 698 (xVd (fun u' => cG L n e σ u' a b ∧ xSm (fun x => x = a) u u') w r) := by
  have n10 := hS.1.2
  have hb6 := hK.2.2.1.1
  have hv7 := hK.1.1
  refine CX3_weigh ?_
  refine xlp (N := n) (Q := fun k u' => (∀ i, i < k → u' a i = sGn L e σ b i) ∧ xSm (fun x => x = a) u u') (G := fun k u' => xEv g (d + 1) mX3_weigh 3 [some (.ref 79), some (.ref 105), some (.int (nI b)), some (.ref a), some (.int (nI k)), none] [] 698 u' w r 698 _) ?_ ?_ ⟨fun i hi => by omega, xSm.rf⟩
  · intro u1 ⟨h1, f1⟩
    have k1 := hk.kept f1 (by omega)
    exact TX3_weigh_3 hr st105 (sr105 hr) ha (brF (fun q => q.2 (by rw [k1.1.2.2, hS.1.1]; exact nI_le (Nat.le_refl _) (by omega))) ⟨rfl, ⟨h1, f1⟩, rfl, rfl⟩)
  · intro k u1 hkk ⟨h1, f1⟩ kk
    have k1 := hk.kept f1 (by omega)
    refine TX3_weigh_3 hr st105 (sr105 hr) ha (brT ⟨nI_ge (b := 10) (by omega) (by omega), by rw [k1.1.2.2, hS.1.1]; exact nI_ge (by omega) (by omega)⟩ ?_)
    obtain ⟨⟨t, ht, et⟩, -⟩ := hS.2.2.2.2.1 k hkk
    refine xPr.use (K_isOneOf _ _) ⟨_, rfl, rfl, rfl, rfl, ?_⟩
    have in6 : ¬ xb (¬ (nI b < 0) ∧ ¬ ((6 : Int32) ≤ nI b)) = 0 := by
      rw [xb_eq0, Classical.not_not]
      exact ⟨nI_nn (by omega), nI_ge (b := 6) (by omega) (by omega)⟩
    refine brF in6 ⟨vpn (by omega) (by omega), vpn (by omega) (by omega), ?_⟩
    have e8 : u1 (105 + 8) k = nI t := (k1.2.2.2 k hkk).2.1.trans et
    rw [nc (by omega), nc (by omega), e8]
    have hcell : u1 (96 + b) t = wE L e σ b t := (f1 _ _ (by omega)).trans (hW b t (by omega) (by omega))
    refine xPr.use (K_cell (n := 7) (krow95 b (by omega)) (by omega) (by omega)) ⟨_, rfl, rfl, rfl, rfl, ?_⟩
    rw [hcell]
    refine TX3_weigh_48 st105 (sr105 hr) ha ⟨fun _ => vpn (by omega) (by omega), fun _ => vpn (by omega) (by omega), vpn (by omega) (by omega), ?_⟩
    rw [nI_one, nc (by omega), (k1.2.2.2 k hkk).2.2.1, (k1.2.2.2 k hkk).2.2.2]
    refine kk _ ⟨fun i hi => ?_, f1.put rfl⟩
    by_cases q : i = k
    · subst q
      rw [x2_same]
      unfold sGn
      rw [et, nc (by omega)]
    · rw [x2_i _ _ q]; exact h1 i (by omega)
theorem K_sum {u : xU} {a b : Nat} {s : Int32} (ha : xKK a = some (.inr (.int, 10))) (n10 : n ≤ 10) (hG : cG L n e σ u a b) (hs : ∀ i, n ≤ i → i < 32 → bt s i = false) :
    xCall g d mX3_sum [.ref a, .int s] 698 u w r 698 (xPr (sWk L e σ b s n) u w r) := by
  rw [← sWk_more hs 10 n10 (by omega)]
  refine CX3_sum ?_
  refine xlq (N := 10) (G := fun k => xEv g d mX3_sum 4 [some (.ref a), some (.int s), some (.int (sWk L e σ b s k)), some (.int (nI k))] [] 698 u w r 698 _) ?_ ?_
  · exact TX3_sum_4 ha (brT (nI_le (a := 10) (Nat.le_refl _) (by omega)) ⟨rfl, rfl, rfl, rfl⟩)
  · intro k hk kk
    refine TX3_sum_4 ha (brF (nI_ge (b := 10) (by omega) (by omega)) ?_)
    rw [test_1 (by omega)]
    rw [sWk_s] at kk
    refine ⟨fun q => ⟨vpn (by omega) (by omega), TX3_sum_25 ?_⟩, fun q => TX3_sum_25 ?_⟩
    · have kn : k < n := Nat.lt_of_not_le (fun z => by rw [hs k z (by omega)] at q; cases q)
      rw [if_pos q] at kk
      rw [nI_one, nc (by omega), hG k kn]; exact kk
    · rw [if_neg q] at kk; rw [nI_one]; exact kk
theorem and_xor_small {A : Nat} {s : Int32} (hA : A < 1024) : ∀ i, 12 ≤ i → i < 32 → bt (nI A &&& s) i = false := fun i h1 h2 => by
  rw [b_and, bt_nI_0 (m := 10) hA (by omega) h2, Bool.false_and]
/-- the words of the search -/
def cSw (p : Int32 × Int32) (a : Int32) (u : xU) : Prop := u 79 11 = p.2 ∧ (p.1 = -1 ∨ (u 79 12 = p.1 ∧ u 79 13 = a &&& (p.1 ^^^ -1)))
theorem K_findSwap_loop {P : xPost} {b o A : Nat} {u : xU} (hr : xRf r) (n10 : n ≤ 10) (hA : A < 1024) (hAn : ∀ i, n ≤ i → i < 32 → bt (nI A) i = false) (hg0 : cG L n e σ u 103 b) (hg1 : cG L n e σ u 104 o) (h11 : u 79 11 = -1)
    (kk : ∀ u' : xU, cSw (sSw L e σ n b o (nI A) (A + 1)) (nI A) u' → xSm (fun x => x = 79) u u' → P none u' w r) :
    xEv g (d + 1) mX3_findSwap 82 [some (.ref 79), none, none, none, some (.int (nI A)), some (.int (L 7 b)), some (.int (L 7 o)), some (.int (nI 0)), none, none, none] [] 698 u w r 698 P := by
  refine xlp (N := A + 1) (Q := fun k u' => cSw (sSw L e σ n b o (nI A) k) (nI A) u' ∧ xSm (fun x => x = 79) u u') (G := fun k u' => xEv g (d + 1) mX3_findSwap 82 [some (.ref 79), none, none, none, some (.int (nI A)), some (.int (L 7 b)), some (.int (L 7 o)), some (.int (nI k)), none, none, none] [] 698 u' w r 698 P) ?_ ?_ ⟨⟨h11, Or.inl rfl⟩, xSm.rf⟩
  · intro u1 ⟨h1, f1⟩
    exact TX3_findSwap_82 (brT (by rw [lt_nI (by omega) (by omega)]; omega) (kk u1 h1 f1))
  · intro k u1 hk ⟨h1, f1⟩ kk2
    have g0 : cG L n e σ u1 103 b := fun i hi => (f1 _ _ (by omega)).trans (hg0 i hi)
    have g1 : cG L n e σ u1 104 o := fun i hi => (f1 _ _ (by omega)).trans (hg1 i hi)
    rw [sSw_s] at kk2
    generalize sSw L e σ n b o (nI A) k = p at h1 kk2
    have small : ∀ i, 12 ≤ i → i < 32 → bt (nI k) i = false := fun i z1 z2 => bt_nI_0 (m := 12) (by omega) z1 z2
    have no : ∀ z0 : Int32, (¬ (nI k &&& (nI A ^^^ -1) = 0 ∧ ¬ z0 = 0)) → ¬ ((nI k &&& (nI A ^^^ -1) = 0 ∧ (¬ L 7 b < nI (cn 12 (bt (nI k))) ∧ ¬ L 7 o < nI (cn 12 (bt (nI A &&& (nI k ^^^ -1)))))) ∧ p.2 < sOw L e σ n b o (nI A) (nI k)) → xEv g (d + 1) mX3_findSwap 123 [some (.ref 79), none, none, none, some (.int (nI A)), some (.int (L 7 b)), some (.int (L 7 o)), some (.int (nI k)), some (.int (nI A &&& (nI k ^^^ -1))), none, none] [.int z0] 698 u1 w r 698 P := by
      intro z0 hz hno
      rw [if_neg hno] at kk2
      refine TX3_findSwap_123 hr (brF hz (TX3_findSwap_192 ?_))
      rw [nI_one]
      exact kk2 u1 ⟨h1, f1⟩
    refine TX3_findSwap_82 (brF (by rw [lt_nI (by omega) (by omega)]; omega) ?_)
    refine xPr.use (K_bitCount small) ⟨_, rfl, rfl, rfl, rfl, fun q => TX3_findSwap_122 (no 0 (fun z => z.2 rfl) (fun z => z.1.2.1 q)), fun q => ?_⟩
    refine xPr.use (K_bitCount (and_xor_small hA)) ⟨_, rfl, rfl, rfl, rfl, fun q2 => TX3_findSwap_122 (no 0 (fun z => z.2 rfl) (fun z => z.1.2.2 q2)), fun q2 => ?_⟩
    by_cases q3 : nI k &&& (nI A ^^^ -1) = 0
    · refine TX3_findSwap_123 hr (brT ⟨q3, by decide⟩ ?_)
      have sk : ∀ i, n ≤ i → i < 32 → bt (nI k) i = false := fun i y1 y2 => sub_bits q3 y2 (hAn i y1 y2)
      have so : ∀ i, n ≤ i → i < 32 → bt (nI A &&& (nI k ^^^ -1)) i = false := fun i y1 y2 => by rw [bt_out _ _ y2, hAn i y1 y2, Bool.false_and]
      refine xPr.use (K_sum kk103 n10 g0 sk) ⟨_, rfl, rfl, rfl, rfl, xPr.use (K_sum kk104 n10 g1 so) ⟨_, rfl, rfl, rfl, rfl, ?_⟩⟩
      have eo : sWk L e σ b (nI k) n + sWk L e σ o (nI A &&& (nI k ^^^ -1)) n = sOw L e σ n b o (nI A) (nI k) := rfl
      rw [eo, h1.1]
      refine ⟨fun q4 => TX3_findSwap_192 ?_, fun q4 => TX3_findSwap_192 ?_⟩
      · rw [if_neg (fun z => by have := ti_lt.mp z.2; have := ti_le.mp q4; omega)] at kk2
        rw [nI_one]
        exact kk2 u1 ⟨h1, f1⟩
      · rw [if_pos ⟨⟨q3, q, q2⟩, by rw [ti_le] at q4; rw [ti_lt]; omega⟩] at kk2
        rw [nI_one]
        refine kk2 _ ⟨⟨?_, Or.inr ⟨?_, ?_⟩⟩, ((f1.put rfl).put rfl).put rfl⟩
        · rw [x2_i _ _ (show 11 ≠ 13 by omega), x2_i _ _ (show 11 ≠ 12 by omega), x2_same]
        · rw [x2_i _ _ (show 12 ≠ 13 by omega), x2_same]
        · rw [x2_same]
    · exact no 1 (fun z => q3 z.1) (fun z => q3 z.1.1)
theorem K_findSwap {u : xU} (hK : lOkk L) (hR : kR r l) (hN : kN L l n e u σ) {b o A : Nat} (hb : b < lB L) (ho : o < lB L) (hA : A < 1024) (ha : sAl σ n b o = nI A) :
    xCall g (d + 6) mX3_findSwap [.ref 79, .ref 105, .int (nI b), .int (nI o)] 698 u w r 698 (xVd (fun u' => cSw (sSw L e σ n b o (nI A) (A + 1)) (nI A) u' ∧ xSm (fLk l) u u') w r) := by
  have hb6 := hK.2.2.1.1
  have n10 := hN.2.2.1.2
  have hS := hN.2.2
  obtain ⟨hr, h_l, q_l, hm, ht, hl⟩ := id hR
  obtain ⟨T, hk⟩ := hN.2.1
  refine CX3_findSwap hr st105 h_l q_l hm ?_
  refine xPr.use (K_lettersIn st105 (sr105 hr) hk hS b) ⟨_, rfl, rfl, rfl, rfl, xPr.use (K_lettersIn st105 (sr105 hr) hk hS o) ⟨_, rfl, rfl, rfl, rfl, ?_⟩⟩
  have eA : xset n (fun i => decide (σ (28 + i) = nI b)) ||| xset n (fun i => decide (σ (28 + i) = nI o)) = nI A := by
    rw [← ha]
    unfold sAl
    refine b_ext (fun i hi => ?_)
    rw [b_or, bt_xset (by omega) _ hi, bt_xset (by omega) _ hi, bt_xset (by omega) _ hi]
    by_cases q1 : i < n <;> by_cases q2 : σ (28 + i) = nI b <;> by_cases q3 : σ (28 + i) = nI o <;> simp [q1, q2, q3]
  rw [eA]
  refine xVd.use (K_watch hK hR hN) (fun u1 ⟨h1, f1⟩ => ⟨rfl, rfl, rfl, ?_⟩)
  have k1 := hk.kept f1 (by omega)
  refine xVd.use (K_weigh (d := d + 4) hr hK k1 hS hb h1 kk103 (by omega)) (fun u2 ⟨h2, f2⟩ => ⟨rfl, rfl, rfl, ?_⟩)
  have k2 := k1.kept f2 (by omega)
  have h12 : cW u2 (wE L e σ) := fun x v hx hv => (f2 _ _ (by omega)).trans (h1 x v hx hv)
  refine xVd.use (K_weigh (d := d + 4) hr hK k2 hS ho h12 kk104 (by omega)) (fun u3 ⟨h3, f3⟩ => ⟨rfl, rfl, rfl, ?_⟩)
  have f13 : xSm (fLk l) u u3 := (f1.tr (f2.to (fun x hx => Or.inl (by omega)))).tr (f3.to (fun x hx => Or.inl (by omega)))
  have E3 : kL u3 l L := hN.1.1.kept f13 (by omega)
  have eb : u3 (l + 7) b = L 7 b := (E3.2.2.1 b hb).2.2.2
  have eo : u3 (l + 7) o = L 7 o := (E3.2.2.1 o ho).2.2.2
  refine xPr.use (K_cell h_l.k7 (show b < 6 by omega) (by omega)) ⟨_, rfl, rfl, rfl, rfl, xPr.use (K_cell h_l.k7 (show o < 6 by omega) (by omega)) ⟨_, rfl, rfl, rfl, rfl, ?_⟩⟩
  rw [eb, eo]
  have hAn : ∀ i, n ≤ i → i < 32 → bt (nI A) i = false := fun i y1 y2 => by rw [← ha]; unfold sAl; rw [bt_xset (by omega) _ y2, decide_eq_false (by omega), Bool.false_and]
  refine K_findSwap_loop (d := d + 5) hr n10 hA hAn (b := b) (o := o) (e := e) (σ := σ) (L := L) (fun i hi => ?_) (fun i hi => ?_) (x2_same _ _ _ _) (fun u4 h4 f4 => ⟨rfl, ⟨h4, (f13.put (Or.inl (by omega))).tr (f4.to (fun x hx => Or.inl (by omega)))⟩, rfl, rfl⟩)
  · rw [x2_a _ _ (by omega), f3 _ _ (by omega)]; exact h2 i hi
  · rw [x2_a _ _ (by omega)]; exact h3 i hi
theorem K_swap {u : xU} (hK : lOkk L) (hR : kR r l) (hN : kN L l n e u σ) (hw : sWo n σ) (i j k : Int32) : xCall g (d + 7) mX11_swap [.ref 8, .int i, .int j, .int k] 698 u w r 698 (xIn (aSwap L n e σ i j k) (xSm (fLk l) u) w r) := by
  have hb6 := hK.2.2.1.1
  have hv7 := hK.1.1
  have hS := hN.2.2
  have n10 := hS.1.2
  obtain ⟨hr, h_l, q_l, hm, ht, hl⟩ := id hR
  obtain ⟨T, hk⟩ := hN.2.1
  refine CX11_swap hr (xPr.use (K_areTwoBiers h_l ht hN.1.1 i j) ⟨_, rfl, rfl, rfl, rfl, ?_⟩)
  rw [xb_eq0]
  unfold aSwap
  refine ⟨fun q => ⟨by rw [if_neg (fun z => q z.1)], xSm.rf, rfl, rfl⟩, fun q => ?_⟩
  rw [Classical.not_not] at q
  have hne : i.toNatClampNeg ≠ j.toNatClampNeg := by
    obtain ⟨b, hb, rfl⟩ := inN.get q.1.1 (by omega)
    obtain ⟨o, ho, rfl⟩ := inN.get q.1.2 (by omega)
    rw [nc (by omega), nc (by omega)]
    exact fun z => q.2 (by rw [z])
  obtain ⟨b, hb, rfl⟩ := inN.get q.1.1 (by omega)
  obtain ⟨o, ho, rfl⟩ := inN.get q.1.2 (by omega)
  rw [nc (by omega), nc (by omega)] at hne ⊢
  obtain ⟨⟨vb, hvb, evb⟩, -⟩ := (hS.2.2.2.1 b (by omega)).1 hb
  refine xPr.use (K_stands st105 (sr105 hr) hk hb hb6) ⟨_, rfl, rfl, rfl, rfl, fun q1 => ?_, fun q1 => ?_⟩
  · refine ⟨?_, xSm.rf, rfl, rfl⟩
    rw [if_neg (fun z => by rw [if_pos z.2.1, evb] at q1; exact nI_m1 (by omega) q1)]
  · have s1 : σ b = 1 := Classical.byContradiction (fun z => q1 (if_neg z))
    rw [if_pos s1]
    refine xPr.use (K_stands st105 (sr105 hr) hk ho hb6) ⟨_, rfl, rfl, rfl, rfl, fun q2 => ?_, fun q2 => ?_⟩
    · have s2 : σ o = 1 := Classical.byContradiction (fun z => by
        rw [if_neg z, evb] at q2
        exact nI_m1 (by omega) q2.symm)
      rw [if_pos s2] at q2
      rw [if_pos ⟨q, s1, s2, q2.symm⟩]
      obtain ⟨A, hA, eA⟩ := sAl_num (σ := σ) (n := n) (b := b) (o := o) n10
      rw [eA, nc (by omega)]
      have fin := sSw_end (e := e) hK.2.2.1 hS hw hb ho hne hA eA
      refine xVd.use (K_findSwap hK hR hN hb ho hA eA) (fun u1 ⟨h1, f1⟩ => ⟨rfl, rfl, rfl, fun y => ?_, fun y => ?_, fun y => ?_, fun y1 y2 y3 => ?_⟩)
      · exact ⟨by rw [if_pos y, h1.1], f1, rfl, rfl⟩
      · subst y
        exact ⟨by rw [if_neg (by decide), if_pos rfl, (h1.2.resolve_left fin).1], f1, rfl, rfl⟩
      · subst y
        exact ⟨by rw [if_neg (by decide), if_neg (by decide), if_pos rfl, (h1.2.resolve_left fin).2], f1, rfl, rfl⟩
      · exact ⟨by rw [if_neg y1, if_neg y2, if_neg y3], f1, rfl, rfl⟩
    · refine ⟨?_, xSm.rf, rfl, rfl⟩
      rw [if_neg (fun z => q2 (by rw [if_pos z.2.2.1]; exact z.2.2.2.symm))]
end SWAPC
