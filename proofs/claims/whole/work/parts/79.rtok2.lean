/-! THE REFERENCE reads a token: all of it -/
theorem x2_id {α : Type} (f : Nat → Nat → α) (a k : Nat) : x2 f a k (f a k) = f := by
  funext b j
  by_cases h : b = a ∧ j = k
  · obtain ⟨h1, h2⟩ := h; subst h1 h2; rw [x2_same]
  · rw [x2_ne _ _ h]
theorem srt_big {k : Nat} (h : 15 ≤ k) : srt k = 1 := by
  unfold srt
  rw [if_neg (by omega), if_neg (by omega), if_neg (by omega), if_neg (by omega), if_neg (by omega), if_neg (by omega), if_neg (by omega), if_neg (by omega), if_neg (by omega), if_neg (by omega), if_neg (by omega), if_neg (by omega), if_neg (by omega), if_neg (by omega), if_neg (by omega)]
theorem srt_3 {k : Nat} (h : srt k = 3) : k = 1 := by
  by_cases q : k < 15
  · have key : ∀ k, k < 15 → srt k = 3 → k = 1 := by decide
    exact key k q h
  · rw [srt_big (by omega)] at h; omega
theorem srt_small (k : Nat) : srt k ≤ 100 := by
  by_cases q : k < 15
  · have key : ∀ k, k < 15 → srt k ≤ 100 := by decide
    exact key k q
  · rw [srt_big (by omega)]; omega
abbrev fTw : Nat → Nat → Prop := fun b i => b = 655 ∧ i = 9
def wSn (F : Nat → Nat → Prop) (w w' : xW) : Prop := ∀ b i, ¬ F b i → w' b i = w b i
theorem wSn.rf {F : Nat → Nat → Prop} {w : xW} : wSn F w w := fun _ _ _ => rfl
theorem wSn.put {F : Nat → Nat → Prop} {w w' : xW} {a k : Nat} {x : Int64} (h : wSn F w w') (ha : F a k) : wSn F w (x2 w' a k x) := fun b i hb => by
  rw [x2_ne _ _ (fun z => hb (by rw [z.1, z.2]; exact ha))]
  exact h b i hb
theorem wSn.tr {F : Nat → Nat → Prop} {w w' w'' : xW} (h : wSn F w w') (h' : wSn F w' w'') : wSn F w w'' := fun b i hb => (h' b i hb).trans (h b i hb)
theorem wSn.to {F G : Nat → Nat → Prop} {w w' : xW} (h : wSn F w w') (hG : ∀ b i, F b i → G b i) : wSn G w w' := fun b i hb => h b i (fun z => hb (hG b i z))
section RTOK2
variable {g : xGT} {d : Nat} {w : xW} {r : xQ} {N : Nat} {T : Nat → Int32}
theorem hc_sg (ok : tpOk N T) {j : Nat} : (hc N T j = (59 : Int32) ∨ (hc N T j = (40 : Int32) ∨ (hc N T j = (41 : Int32) ∨ (hc N T j = (60 : Int32) ∨ (hc N T j = (62 : Int32) ∨ (hc N T j = (61 : Int32) ∨ (hc N T j = (43 : Int32) ∨ (hc N T j = (45 : Int32) ∨ (hc N T j = (42 : Int32) ∨ (hc N T j = (47 : Int32) ∨ hc N T j = (37 : Int32))))))))))) ↔ isSg (tb N T j) :=
  or_congr (hc_is ok (c := 59) (by omega)) (or_congr (hc_is ok (c := 40) (by omega)) (or_congr (hc_is ok (c := 41) (by omega)) (or_congr (hc_is ok (c := 60) (by omega)) (or_congr (hc_is ok (c := 62) (by omega)) (or_congr (hc_is ok (c := 61) (by omega)) (or_congr (hc_is ok (c := 43) (by omega)) (or_congr (hc_is ok (c := 45) (by omega)) (or_congr (hc_is ok (c := 42) (by omega)) (or_congr (hc_is ok (c := 47) (by omega)) (hc_is ok (c := 37) (by omega)))))))))))
theorem R_isSign {u : xU} (ok : tpOk N T) (j : Nat) : xCall g d mX12_isSign [.int (hc N T j)] 698 u w r 698 (xPr (xb (isSg (tb N T j))) u w r) := CX12_isSign ⟨by rw [xb_iff (hc_sg ok)], rfl, rfl, rfl⟩
theorem R_tok_232 {u0 u : xU} {w0 : xW} {P : xPost} {p : Nat} (n : Nat) (h4 : u 655 4 = nI (tkS N T p)) (h7 : u 655 7 = nI (tkS N T p)) (h6 : u 655 6 = nI (srt (tkK N T p)))
    (hw : srt (tkK N T p) = 1 → w 655 9 = lN (tkV N T p)) (h8 : tkK N T p = 3 → u 655 8 = nI (tkV N T p)) (hE : ¬ tkK N T p = 1 → tkS N T p + n = tkE N T p) (f : xSn fTk u0 u) (fw : wSn fTw w0 w)
    (kk : ∀ u' w', rTk N T p u' w' → xSn fTk u0 u' → wSn fTw w0 w' → P none u' w' r) :
    xEv g (d + 1) mX12_token 232 [some (.ref 655), none, some (.int (nI n))] [] 698 u w r 698 P := by
  refine TX12_token_232 ?_
  rw [h6, show (3 : Int32) = nI 3 from rfl, eq_nI (by have := srt_small (tkK N T p); omega) (by omega), h4, nI_add]
  refine ⟨fun q => kk u w ⟨h7, h6, hw, h8, fun z => absurd (srt_3 q) z⟩ f fw, fun q => kk _ w ⟨?_, ?_, hw, fun z => ?_, fun z => ?_⟩ (f.put ⟨rfl, Or.inl rfl⟩) fw⟩
  · rw [x2_i _ _ (by omega)]; exact h7
  · rw [x2_i _ _ (by omega)]; exact h6
  · rw [x2_i _ _ (by omega)]; exact h8 z
  · rw [x2_same, hE z]
/-- where the token begins -/
theorem R_tok_at {u0 u : xU} {w0 : xW} {P : xPost} {p : Nat} (hr : xRf r) (ok : tpOk N T) (hp : p ≤ N) (h : rSz N T u) (h4 : u 655 4 = nI (tkS N T p)) (f : xSn fTk u0 u) (fw : wSn fTw w0 w)
    (kk : ∀ u' w', rTk N T p u' w' → xSn fTk u0 u' → wSn fTw w0 w' → P none u' w' r) :
    xEv g (d + 1) mX12_token 0 [some (.ref 655), none, none] [] 698 u w r 698 P := by
  have n16 := ok.1
  have hs := tkS_le (T := T) hp
  have ws : ¬ cWs (tb N T (tkS N T p)) := tkS_ws hp
  have f1 : xSn fTk u0 (x2 u 655 7 (u 655 4)) := f.put ⟨rfl, by omega⟩
  have k1 : rSz N T (x2 u 655 7 (u 655 4)) := h.kept (F := fTk) ((xSn.rf).put ⟨rfl, by omega⟩) (by omega) (fun i => by omega)
  have g1 : (x2 u 655 7 (u 655 4)) 655 4 = nI (tkS N T p) := by rw [x2_i _ _ (by omega)]; exact h4
  have s1 : (x2 u 655 7 (u 655 4)) 655 7 = nI (tkS N T p) := by rw [x2_same]; exact h4
  refine TX12_token_0 (xPr.use (R_here0 hr ok h h4 (by omega)) ⟨_, rfl, rfl, rfl, rfl, brF (fun z => ws (Or.inl ((hc_is ok (c := 32) (by omega)).1 z))) ?_⟩)
  refine xPr.use (R_here0 hr ok h h4 (by omega)) ⟨_, rfl, rfl, rfl, rfl, brF (fun z => ws (Or.inr ((hc_is ok (c := 10) (by omega)).1 z))) ?_⟩
  refine xPr.use (R_here0 hr ok k1 g1 (by omega)) ⟨_, rfl, rfl, rfl, rfl, ?_⟩
  generalize x2 u 655 7 (u 655 4) = u1 at f1 k1 g1 s1 ⊢
  have f2 : ∀ x, xSn fTk u0 (x2 u1 655 8 x) := fun x => f1.put ⟨rfl, by omega⟩
  have k2 : ∀ x, rSz N T (x2 u1 655 8 x) := fun x => k1.kept (F := fTk) ((xSn.rf).put ⟨rfl, by omega⟩) (by omega) (fun i => by omega)
  have g2 : ∀ x, (x2 u1 655 8 x) 655 4 = nI (tkS N T p) := fun x => by rw [x2_i _ _ (by omega)]; exact g1
  have s2 : ∀ x, (x2 u1 655 8 x) 655 7 = nI (tkS N T p) := fun x => by rw [x2_i _ _ (by omega)]; exact s1
  have fw1 : ∀ x, wSn fTw w0 (x2 w 655 9 x) := fun x => fw.put ⟨rfl, rfl⟩
  rw [hc_nn ok]
  by_cases c0 : tkC N T p = 256
  · have eK : tkK N T p = 0 := if_pos c0
    have eE : tkE N T p = tkS N T p := if_pos c0
    refine ⟨fun z => absurd c0 z, fun _ => R_tok_232 (p := p) (u0 := u0) (w0 := w0) 0 ?_ ?_ ?_ ?_ ?_ ?_ ((f2 0).put ⟨rfl, by omega⟩) (fw1 0) kk⟩
    · rw [x2_i _ _ (by omega)]; exact g2 0
    · rw [x2_i _ _ (by omega)]; exact s2 0
    · rw [x2_same, eK]; rfl
    · rw [eK]; intro z; exact absurd z (by decide)
    · rw [eK]; intro z; exact absurd z (by decide)
    · intro _; rw [eE]; rfl
  · refine ⟨fun _ => ?_, fun z => absurd c0 z⟩
    refine xPr.use (R_isLet ok _) ⟨_, rfl, rfl, rfl, rfl, ?_⟩
    by_cases cl : cLet (tkC N T p)
    · have eK : tkK N T p = if tkL N T p - tkS N T p ≤ 8 then kwd (tkW 256 0 N T p) else 1 := by
        unfold tkK; rw [if_neg c0, if_pos cl]
      have eE : tkE N T p = tkL N T p := by unfold tkE; rw [if_neg c0, if_pos cl]
      have eV : tkV N T p = tkW 256 0 N T p := if_pos cl
      have ge : tkS N T p ≤ tkL N T p := run_ge _ _ _
      refine brF (by rw [xb_pos (show cLet (tb N T (tkS N T p)) from cl)]; decide) (R_tok_78 hr ok (k2 0) hp (g2 0) ?_)
      refine R_tok_232 (p := p) (u0 := u0) (w0 := w0) _ ?_ ?_ ?_ ?_ ?_ ?_ ((f2 0).put ⟨rfl, by omega⟩) (fw1 _) kk
      · rw [x2_i _ _ (by omega)]; exact g2 0
      · rw [x2_i _ _ (by omega)]; exact s2 0
      · rw [x2_same, eK]
        by_cases q : tkL N T p - tkS N T p ≤ 8
        · rw [if_pos q, if_pos q, kwd_srt]; rfl
        · rw [if_neg q, if_neg q]; rfl
      · intro z
        rw [x2_same, eV]
        by_cases q : tkL N T p - tkS N T p ≤ 8
        · unfold m8 tkW; rw [if_pos q]
        · rw [eK, if_neg q] at z; exact absurd z (by decide)
      · intro z
        rw [eK] at z
        by_cases q : tkL N T p - tkS N T p ≤ 8
        · rw [if_pos q] at z; rcases kwd_ge (tkW 256 0 N T p) with y | y <;> omega
        · rw [if_neg q] at z; omega
      · intro _; rw [eE]; omega
    · refine brT (xb_neg (show ¬ cLet (tb N T (tkS N T p)) from cl)) (xPr.use (R_isDig ok _) ⟨_, rfl, rfl, rfl, rfl, ?_⟩)
      by_cases cd : cDig (tkC N T p)
      · have eK : tkK N T p = if tkD N T p - tkS N T p ≤ 4 ∧ ¬ cLet (tb N T (tkD N T p)) then 3 else 1 := by
          unfold tkK; rw [if_neg c0, if_neg cl, if_pos cd]
        have eE : tkE N T p = tkD N T p := by unfold tkE; rw [if_neg c0, if_neg cl, if_pos cd]
        have eV : tkV N T p = dN (tkB N T p) (tkD N T p - tkS N T p) := if_neg cl
        have ge : tkS N T p ≤ tkD N T p := run_ge _ _ _
        refine brF (by rw [xb_pos (show cDig (tb N T (tkS N T p)) from cd)]; decide) (R_tok_144 hr ok k1 hp g1 ?_)
        refine R_tok_232 (p := p) (u0 := u0) (w0 := w0) _ ?_ ?_ ?_ ?_ ?_ ?_ ((f2 _).put ⟨rfl, by omega⟩) (fw1 _) kk
        · rw [x2_i _ _ (by omega)]; exact g2 _
        · rw [x2_i _ _ (by omega)]; exact s2 _
        · rw [x2_same, eK]
          by_cases q : tkD N T p - tkS N T p ≤ 4 ∧ ¬ cLet (tb N T (tkD N T p))
          · rw [if_pos q, if_pos q]; rfl
          · rw [if_neg q, if_neg q]; rfl
        · intro z
          rw [eK] at z
          by_cases q : tkD N T p - tkS N T p ≤ 4 ∧ ¬ cLet (tb N T (tkD N T p))
          · rw [if_pos q] at z; exact absurd z (by decide)
          · rw [if_neg q] at z; exact absurd z (by decide)
        · intro z
          rw [x2_i _ _ (by omega), x2_same, eV]
          by_cases q : tkD N T p - tkS N T p ≤ 4 ∧ ¬ cLet (tb N T (tkD N T p))
          · unfold m8; rw [if_pos q.1]
          · rw [eK, if_neg q] at z; omega
        · intro _; rw [eE]; omega
      · have eK : tkK N T p = sgn (tkC N T p) := by unfold tkK; rw [if_neg c0, if_neg cl, if_neg cd]
        have eE : tkE N T p = tkS N T p + 1 := by unfold tkE; rw [if_neg c0, if_neg cl, if_neg cd]
        refine brT (xb_neg (show ¬ cDig (tb N T (tkS N T p)) from cd)) (xPr.use (R_isSign ok _) ⟨_, rfl, rfl, rfl, rfl, ?_⟩)
        have lt : tkS N T p < N := Nat.lt_of_not_le (fun z => c0 (tb_out z))
        have hcv := (hc_in ok lt).1
        refine R_tok_232 (p := p) (u0 := u0) (w0 := w0) 1 ?_ ?_ ?_ ?_ ?_ ?_ ((f2 0).put ⟨rfl, by omega⟩) (fw1 0) kk
        · rw [x2_i _ _ (by omega)]; exact g2 0
        · rw [x2_i _ _ (by omega)]; exact s2 0
        · rw [x2_same, eK]
          by_cases q : isSg (tkC N T p)
          · have q' : isSg (tb N T (tkS N T p)) := q
            rw [xb_pos q', if_neg (by decide), hcv, (sgn_yes q).1]; rfl
          · have q' : ¬ isSg (tb N T (tkS N T p)) := q
            rw [xb_neg q', if_pos rfl, sgn_not q]; rfl
        · intro z
          rw [eK] at z
          by_cases q : isSg (tkC N T p)
          · rw [(sgn_yes q).1] at z; rcases q with q | q | q | q | q | q | q | q | q | q | q <;> omega
          · rw [sgn_not q] at z; exact absurd z (by decide)
        · intro z
          rw [eK] at z
          by_cases q : isSg (tkC N T p)
          · have := sgn_yes q; omega
          · rw [sgn_not q] at z; omega
        · intro _; rw [eE]
theorem R_token {u : xU} {P : xPost} {p : Nat} (hr : xRf r) (ok : tpOk N T) (hp : p ≤ N) (h : rSz N T u) (h4 : u 655 4 = nI p)
    (kk : ∀ u' w', rTk N T p u' w' → xSn fTk u u' → wSn fTw w w' → P none u' w' r) :
    xCall g (d + 1) mX12_token [.ref 655] 698 u w r 698 P := by
  have n16 := ok.1
  have hs := tkS_le (T := T) hp
  have hg := tkS_ge N p T
  have e0 : u = x2 u 655 4 (nI (p + 0)) := by
    have := x2_id u 655 4
    rw [h4] at this
    exact this.symm
  have hx : ∀ x, xSn fTk u (x2 u 655 4 x) := fun x => (xSn.rf).put ⟨rfl, by omega⟩
  have kx : ∀ x, rSz N T (x2 u 655 4 x) := fun x => h.kept (F := fTk) (hx x) (by omega) (fun i => by omega)
  refine xCall.of plX12 (Nat.le_of_ble_eq_true rfl) rfl ?_
  show xEv g (d + 1) mX12_token 0 [some (.ref 655), none, none] [] 698 u w r 698 P
  have key : xEv g (d + 1) mX12_token 0 [some (.ref 655), none, none] [] 698 (x2 u 655 4 (nI (p + 0))) w r 698 P := by
    refine xlq (N := tkS N T p - p) (G := fun k => xEv g (d + 1) mX12_token 0 [some (.ref 655), none, none] [] 698 (x2 u 655 4 (nI (p + k))) w r 698 P) ?_ ?_
    · refine R_tok_at hr ok hp (kx _) ?_ (hx _) wSn.rf kk
      rw [x2_same, show p + (tkS N T p - p) = tkS N T p by omega]
    · intro k hk kk2
      have hw : cWs (tb N T (p + k)) := of_decide_eq_true (run_in (qWs N T) (show p ≤ p + k by omega) (show p + k < run (qWs N T) N p by unfold tkS at hk; omega))
      have go : xEv g (d + 1) mX12_token 20 [some (.ref 655), none, none] [] 698 (x2 u 655 4 (nI (p + k))) w r 698 P := by
        refine TX12_token_20 ?_
        rw [x2_same, x2_x2, nI_one]
        exact kk2
      have hh : xCall g d mX12_here [.ref 655, .int (0 : Int32)] 698 (x2 u 655 4 (nI (p + k))) w r 698 (xPr (hc N T (p + k)) (x2 u 655 4 (nI (p + k))) w r) := R_here0 hr ok (kx _) (x2_same _ _ _ _) (by omega)
      refine TX12_token_0 (xPr.use hh ⟨_, rfl, rfl, rfl, rfl, ?_⟩)
      by_cases q : tb N T (p + k) = 32
      · exact brT ((hc_is ok (c := 32) (by omega)).2 q) go
      · refine brF (fun z => q ((hc_is ok (c := 32) (by omega)).1 z)) (xPr.use hh ⟨_, rfl, rfl, rfl, rfl, ?_⟩)
        rcases hw with y | y
        · exact absurd y q
        · exact brT ((hc_is ok (c := 10) (by omega)).2 y) go
  rw [← e0] at key
  exact key
end RTOK2
