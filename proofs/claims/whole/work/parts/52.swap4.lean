/-! QUESTIONS: swap: the reference -/
section SWAPR
variable {g : xGT} {d : Nat} {w : xW} {r : xQ} {L : xU} {c : Int32} {l n e s : Nat} {σ : Nat → Int32}
theorem R_worthBy {u : xU} {b : Nat} (hr : xRf r) (hK : lOkk L) (hS : gSt L c n e σ) (h683 : u 683 = σ) (hb : b < lB L) (hQ : qW u (wE L e σ)) (ok : wOk (wE L e σ)) (s : Int32) :
    xCall g d mX12_worthBy [.ref 655, .int s, .int (nI b)] 698 u w r 698 (xPr (sWk L e σ b s n) u w r) := by
  have n10 := hS.1.2
  have hb6 := hK.2.2.1.1
  have hv7 := hK.1.1
  refine CX12_worthBy ?_
  refine xlq (N := n) (G := fun k => xEv g d mX12_worthBy 5 [some (.ref 655), some (.int s), some (.int (nI b)), some (.int (sWk L e σ b s k)), some (.int (nI k)), none] [] 698 u w r 698 _) ?_ ?_
  · exact TX12_worthBy_5 hr (brT (by rw [h683, hS.1.1]; exact nI_le (Nat.le_refl _) (by omega)) ⟨rfl, rfl, rfl, rfl⟩)
  · intro k hk kk
    obtain ⟨⟨t, ht, et⟩, -⟩ := hS.2.2.2.2.1 k hk
    refine TX12_worthBy_5 hr (brF (by rw [h683, hS.1.1]; exact nI_ge (by omega) (by omega)) ?_)
    rw [h683]
    simp (disch := omega) only [a58, a68, a78, nc]
    rw [et]
    simp (disch := omega) only [m7, nI_add, nc]
    rw [hQ b t (by omega) (by omega), test_1 (by omega), tW_lt ok]
    rw [sWk_s] at kk
    have eg : sGn L e σ b k = if ¬ wE L e σ b t = -1 ∧ ¬ σ (68 + k) < wE L e σ b t then σ (78 + k) else 0 := by
      unfold sGn
      rw [et, nc (by omega)]
    have er : ∀ x : Int32, ¬ x = -1 → tR x = x := fun x hx => by unfold tR; rw [if_neg hx]
    refine ⟨vpn (by omega) (by omega), vpn (by omega) (by omega), fun _ _ => vpn (by omega) (by omega), fun q => ⟨vpn (by omega) (by omega), TX12_worthBy_85 ?_⟩, fun q => TX12_worthBy_85 ?_⟩
    · rw [er _ q.2.1] at q
      rw [if_pos q.1, eg, if_pos q.2] at kk
      rw [nI_one]; exact kk
    · rw [nI_one]
      by_cases z : bt s k = true
      · rw [if_pos z, eg] at kk
        rw [if_neg (fun y => q ⟨z, y.1, by rw [er _ y.1]; exact y.2⟩), Int32.add_zero] at kk
        exact kk
      · rw [if_neg z] at kk; exact kk
theorem R_swap_loop {P : xPost} {u : xU} {b o A : Nat} {k3 : Int32} (hr : xRf r) (hK : lOkk L) (hS : gSt L c n e σ) (h683 : u 683 = σ) (hL : rL u L) (hb : b < lB L) (ho : o < lB L) (hA : A < 1024) (hQ : qW u (wE L e σ)) (ok : wOk (wE L e σ))
    (kk : P (some (.int (if k3 = 0 then (sSw L e σ n b o (nI A) (A + 1)).2 else if k3 = 1 then (sSw L e σ n b o (nI A) (A + 1)).1 else nI A &&& ((sSw L e σ n b o (nI A) (A + 1)).1 ^^^ -1)))) u w r) :
    xEv g (d + 1) mX12_swap 156 [some (.ref 655), some (.int (nI b)), some (.int (nI o)), some (.int k3), some (.int (nI A)), some (.int (-1)), some (.int (-1)), some (.int (nI 0)), none] [] 698 u w r 698 P := by
  have hb6 := hK.2.2.1.1
  refine xlq (N := A + 1) (G := fun k => xEv g (d + 1) mX12_swap 156 [some (.ref 655), some (.int (nI b)), some (.int (nI o)), some (.int k3), some (.int (nI A)), some (.int (sSw L e σ n b o (nI A) k).1), some (.int (sSw L e σ n b o (nI A) k).2), some (.int (nI k)), none] [] 698 u w r 698 P) ?_ ?_
  · refine TX12_swap_156 hr (brT (by rw [lt_nI (by omega) (by omega)]; omega) ⟨fun q => ?_, fun q => ⟨fun q2 => ?_, fun q2 => ?_⟩⟩)
    · rw [if_pos q] at kk; exact kk
    · rw [if_neg q, if_pos q2] at kk; exact kk
    · rw [if_neg q, if_neg q2] at kk; exact kk
  · intro k hk kk2
    rw [sSw_s] at kk2
    generalize sSw L e σ n b o (nI A) k = p at kk2
    have no : ¬ ((nI k &&& (nI A ^^^ -1) = 0 ∧ (¬ L 7 b < nI (cn 12 (bt (nI k))) ∧ ¬ L 7 o < nI (cn 12 (bt (nI A &&& (nI k ^^^ -1)))))) ∧ p.2 < sOw L e σ n b o (nI A) (nI k)) → xEv g (d + 1) mX12_swap 249 [some (.ref 655), some (.int (nI b)), some (.int (nI o)), some (.int k3), some (.int (nI A)), some (.int p.1), some (.int p.2), some (.int (nI k)), none] [] 698 u w r 698 P := by
      intro hno
      rw [if_neg hno] at kk2
      refine TX12_swap_249 ?_
      rw [nI_one]
      exact kk2
    have e678 : u 678 = L 7 := hL.2.2.2.2.2.2.2.1
    refine TX12_swap_156 hr (brF (by rw [lt_nI (by omega) (by omega)]; omega) ⟨fun q => ?_, fun q => no (fun z => q z.1.1)⟩)
    refine xPr.use (R_members _) ⟨_, rfl, rfl, rfl, rfl, vpn (by omega) (by omega), ?_⟩
    rw [e678, nc (by omega)]
    refine ⟨fun q2 => no (fun z => z.1.2.1 q2), fun q2 => ?_⟩
    refine xPr.use (R_members _) ⟨_, rfl, rfl, rfl, rfl, vpn (by omega) (by omega), ?_⟩
    rw [nc (by omega)]
    refine ⟨fun q3 => ?_, fun q3 => no (fun z => z.1.2.2 (by rw [ti_lt]; rw [ti_le] at q3; omega))⟩
    have q3' : ¬ L 7 o < nI (cn 12 (bt (nI A &&& (nI k ^^^ -1)))) := fun z => by rw [ti_lt] at z; rw [ti_le] at q3; omega
    refine xPr.use (R_worthBy hr hK hS h683 hb hQ ok _) ⟨_, rfl, rfl, rfl, rfl, xPr.use (R_worthBy hr hK hS h683 ho hQ ok _) ⟨_, rfl, rfl, rfl, rfl, ?_⟩⟩
    have eo : sWk L e σ b (nI k) n + sWk L e σ o (nI A &&& (nI k ^^^ -1)) n = sOw L e σ n b o (nI A) (nI k) := rfl
    rw [eo]
    refine ⟨fun q4 => TX12_swap_249 ?_, fun q4 => no (fun z => q4 z.2)⟩
    rw [if_pos ⟨⟨q, q2, q3'⟩, q4⟩] at kk2
    rw [nI_one]
    exact kk2
theorem R_swap {u : xU} (hr : xRf r) (hK : lOkk L) (hN : rN1 L n e u σ) (i j k : Int32) : xCall g (d + 6) mX12_swap [.ref 655, .int i, .int j, .int k] 698 u w r 698 (xIn (aSwap L n e σ i j k) (rA L n e σ u) w r) := by
  have hb6 := hK.2.2.1.1
  have hS := hN.2.2.1
  have n10 := hS.1.2
  refine CX12_swap hr (xPr.use (R_isBier hN.1 hb6 i) ⟨_, rfl, rfl, rfl, rfl, ?_⟩)
  rw [xb_eq0]
  unfold aSwap
  refine ⟨fun q => ⟨by rw [if_neg (fun z => q z.1.1.1)], rA.rf hN, rfl, rfl⟩, fun q => xPr.use (R_isBier hN.1 hb6 j) ⟨_, rfl, rfl, rfl, rfl, ?_⟩⟩
  rw [Classical.not_not] at q
  rw [xb_eq0, Classical.not_not]
  refine ⟨fun q2 => ?_, fun q2 => ⟨by rw [if_neg (fun z => q2 ⟨z.1.1.2, z.1.2⟩)], rA.rf hN, rfl, rfl⟩⟩
  obtain ⟨b, hb, rfl⟩ := inN.get q (by omega)
  obtain ⟨o, ho, rfl⟩ := inN.get q2.1 (by omega)
  rw [nc (by omega), nc (by omega)]
  have k02 : (¬ k < 0 ∧ ¬ (2 : Int32) < k) ↔ (k = 0 ∨ k = 1 ∨ k = 2) := by
    rw [ti_lt, ti_lt, ti_eq, ti_eq, ti_eq, z_toInt, show (1 : Int32).toInt = 1 from rfl, show (2 : Int32).toInt = 2 from rfl]
    omega
  refine xPr.use (R_isIn _ _ _) ⟨_, rfl, rfl, rfl, rfl, ?_⟩
  rw [xb_eq0, k02]
  refine ⟨fun z => ⟨?_, rA.rf hN, rfl, rfl⟩, fun z => ?_⟩
  · rw [if_neg (fun y => z (Or.inl y)), if_neg (fun y => z (Or.inr (Or.inl y))), if_neg (fun y => z (Or.inr (Or.inr y))), ite_self]
  · rw [Classical.not_not] at z
    rw [hN.2.1]
    simp (disch := omega) only [a6, nc]
    refine ⟨vpn (by omega) (by omega), fun _ => vpn (by omega) (by omega), fun _ _ => vpn (by omega) (by omega), fun _ _ => vpn (by omega) (by omega), fun y => ⟨?_, rA.rf hN, rfl, rfl⟩, fun y => ?_⟩
    · rw [if_neg (fun x => y.elim (fun y1 => y1 x.2.1) (fun y1 => y1.elim (fun y2 => y2 x.2.2.1) (fun y2 => y2 x.2.2.2)))]
    · have s1 : σ b = 1 := Classical.byContradiction (fun x => y (Or.inl x))
      have s2 : σ o = 1 := Classical.byContradiction (fun x => y (Or.inr (Or.inl x)))
      have s3 : σ (6 + b) = σ (6 + o) := Classical.byContradiction (fun x => y (Or.inr (Or.inr x)))
      have inb : inN (nI b) (lB L) := inN.mk hb (by omega)
      have ino : inN (nI o) (lB L) := inN.mk ho (by omega)
      rw [if_pos (show ((inN (nI b) (lB L) ∧ inN (nI o) (lB L)) ∧ ¬ nI b = nI o) ∧ (σ b = 1 ∧ σ o = 1 ∧ σ (6 + b) = σ (6 + o)) from ⟨⟨⟨inb, ino⟩, q2.2⟩, s1, s2, s3⟩)]
      obtain ⟨A, hA, eA⟩ := sAl_num (σ := σ) (n := n) (b := b) (o := o) n10
      refine xlq (N := n) (G := fun m => xEv g (d + 6) mX12_swap 81 [some (.ref 655), some (.int (nI b)), some (.int (nI o)), some (.int k), some (.int (xset m (fun l => decide (σ (28 + l) = nI b ∨ σ (28 + l) = nI o)))), some (.int (nI m)), none, none, none] [] 698 u w r 698 _) ?_ ?_
      · refine TX12_swap_81 hr (brT (by rw [hN.2.1, hS.1.1]; exact nI_le (Nat.le_refl _) (by omega)) ?_)
        rw [show xset n (fun l => decide (σ (28 + l) = nI b ∨ σ (28 + l) = nI o)) = nI A from eA, eA, nc (by omega)]
        refine xVd.use (R_layStood hr hK hN) (fun u1 ⟨h1, f1⟩ => ⟨rfl, rfl, rfl, ?_⟩)
        refine R_swap_loop (d := d + 5) hr hK hS f1.2.2.1 f1.2.1 hb ho hA h1 (wE_ok hK.1 hK.2.2.1 hS) ⟨?_, f1, rfl, rfl⟩
        rcases z with z | z | z
        · subst z; rw [if_pos rfl, if_pos rfl]
        · subst z; rw [if_neg (by decide), if_pos rfl, if_neg (by decide), if_pos rfl]
        · subst z; rw [if_neg (by decide), if_neg (by decide), if_neg (by decide), if_neg (by decide), if_pos rfl]
      · intro m hm kk
        refine TX12_swap_81 hr (brF (by rw [hN.2.1, hS.1.1]; exact nI_ge (by omega) (by omega)) ?_)
        rw [hN.2.1]
        simp (disch := omega) only [a28, nc]
        refine ⟨vpn (by omega) (by omega), xPr.use (R_truthb _) ⟨_, rfl, rfl, rfl, rfl, ?_⟩⟩
        rw [or_sh (by omega), nI_one]
        rw [xset_s] at kk
        by_cases y : σ (28 + m) = nI b ∨ σ (28 + m) = nI o
        · rw [if_pos y]
          rw [if_pos (decide_eq_true y)] at kk
          exact kk
        · rw [if_neg y]
          rw [if_neg (fun x => y (of_decide_eq_true x))] at kk
          exact kk
end SWAPR
