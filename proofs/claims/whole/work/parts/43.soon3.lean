/-! QUESTIONS: soon, heard, deaf: both sides -/
def aSoon (L : xU) (e : Nat) (σ : Nat → Int32) (i j : Int32) : Int32 := if inN i (lV L) ∧ inN j (lV L) then spE L e σ i.toNatClampNeg j.toNatClampNeg else -1
def aHeardK (L : xU) (e : Nat) (σ : Nat → Int32) (s k : Nat) : Int32 := xfold k (fun v m => if m < spE L e σ s v then spE L e σ s v else m) (-1)
def aHeard (L : xU) (e : Nat) (σ : Nat → Int32) (i : Int32) : Int32 := if inN i (lV L) then aHeardK L e σ i.toNatClampNeg (lV L) else -1
def aDeaf (L : xU) (e : Nat) (σ : Nat → Int32) (i : Int32) : Int32 := if inN i (lV L) then xset (lV L) (fun v => decide (spE L e σ i.toNatClampNeg v = -1)) else -1
/-- the first days in the reference's memory: 300 where none -/
def tR (x : Int32) : Int32 := if x = -1 then 300 else x
def qT (u : xU) (T : Nat → Int32) : Prop := ∀ v, v < 7 → u 689 v = tR (T v)
section SOON3
variable {g : xGT} {d : Nat} {w : xW} {r : xQ} {L : xU} {c : Int32} {l n e : Nat} {σ : Nat → Int32}
theorem K_soon {u : xU} (hK : lOkk L) (hR : kR r l) (hN : kN L l n e u σ) (i j : Int32) : xCall g (d + 6) mX11_soon [.ref 8, .int i, .int j] 698 u w r 698 (xIn (aSoon L e σ i j) (xSm (fLk l) u) w r) := by
  have hv7 := hK.1.1
  refine CX11_soon hR.1 hR.2.1 hR.2.2.2.2.1 (xPr.use (K_isOneOf _ _) ⟨_, rfl, rfl, rfl, rfl, ?_⟩)
  rw [hN.1.1.1.1, xb_eq0]
  unfold aSoon
  refine ⟨fun q => ⟨by rw [if_neg (fun z => q z.1)], xSm.rf, rfl, rfl⟩, fun q => xPr.use (K_isOneOf _ _) ⟨_, rfl, rfl, rfl, rfl, ?_⟩⟩
  rw [Classical.not_not] at q
  rw [xb_eq0]
  refine ⟨fun q2 => ⟨by rw [if_neg (fun z => q2 z.2)], xSm.rf, rfl, rfl⟩, fun q2 => ?_⟩
  rw [Classical.not_not] at q2
  rw [if_pos (show inN i (lV L) ∧ inN j (lV L) from ⟨q, q2⟩)]
  obtain ⟨a, ha, rfl⟩ := inN.get q (by omega)
  obtain ⟨b, hb, rfl⟩ := inN.get q2 (by omega)
  refine xVd.use (K_spread hK hR hN (by omega)) (fun u1 ⟨h1, f1⟩ => ⟨rfl, rfl, rfl, vpn (by omega) (by omega), ?_, f1, rfl, rfl⟩)
  rw [nc (by omega), nc (by omega), h1 b (by omega)]
theorem K_heard {u : xU} (hK : lOkk L) (hR : kR r l) (hN : kN L l n e u σ) (i : Int32) : xCall g (d + 6) mX11_heard [.ref 8, .int i] 698 u w r 698 (xIn (aHeard L e σ i) (xSm (fLk l) u) w r) := by
  have hv7 := hK.1.1
  refine CX11_heard hR.1 hR.2.1 hR.2.2.2.2.1 (xPr.use (K_isOneOf _ _) ⟨_, rfl, rfl, rfl, rfl, ?_⟩)
  rw [hN.1.1.1.1, xb_eq0]
  unfold aHeard
  refine ⟨fun q => ⟨by rw [if_neg q], xSm.rf, rfl, rfl⟩, fun q => ?_⟩
  rw [Classical.not_not] at q
  rw [if_pos q]
  obtain ⟨a, ha, rfl⟩ := inN.get q (by omega)
  refine xVd.use (K_spread hK hR hN (by omega)) (fun u1 ⟨h1, f1⟩ => ⟨rfl, rfl, rfl, ?_⟩)
  rw [nc (by omega)]
  have hl := hR.2.2.2.2.2
  have e0 : u1 l 0 = nI (lV L) := (f1 _ _ (by omega)).trans hN.1.1.1.1
  refine xlq (N := lV L) (G := fun k => xEv g (d + 6) mX11_heard 32 [some (.ref 8), none, some (.int (aHeardK L e σ a k)), some (.int (nI k))] [] 698 u1 w r 698 _) ?_ ?_
  · exact TX11_heard_32 hR.1 hR.2.1 hR.2.2.2.2.1 (brT (by rw [e0]; exact nI_le (Nat.le_refl _) (by omega)) ⟨rfl, f1, rfl, rfl⟩)
  · intro k hk kk
    refine TX11_heard_32 hR.1 hR.2.1 hR.2.2.2.2.1 (brF (by rw [e0]; exact nI_ge (by omega) (by omega)) ⟨vpn (by omega) (by omega), ?_⟩)
    rw [nc (by omega), h1 k (by omega), nI_one]
    exact kk
theorem K_deaf {u : xU} (hK : lOkk L) (hR : kR r l) (hN : kN L l n e u σ) (i : Int32) : xCall g (d + 6) mX11_deaf [.ref 8, .int i] 698 u w r 698 (xIn (aDeaf L e σ i) (xSm (fLk l) u) w r) := by
  have hv7 := hK.1.1
  refine CX11_deaf hR.1 hR.2.1 hR.2.2.2.2.1 (xPr.use (K_isOneOf _ _) ⟨_, rfl, rfl, rfl, rfl, ?_⟩)
  rw [hN.1.1.1.1, xb_eq0]
  unfold aDeaf
  refine ⟨fun q => ⟨by rw [if_neg q], xSm.rf, rfl, rfl⟩, fun q => ?_⟩
  rw [Classical.not_not] at q
  rw [if_pos q]
  obtain ⟨a, ha, rfl⟩ := inN.get q (by omega)
  refine xVd.use (K_spread hK hR hN (by omega)) (fun u1 ⟨h1, f1⟩ => ⟨rfl, rfl, rfl, ?_⟩)
  rw [nc (by omega)]
  have hl := hR.2.2.2.2.2
  have e0 : u1 l 0 = nI (lV L) := (f1 _ _ (by omega)).trans hN.1.1.1.1
  refine xlq (N := lV L) (G := fun k => xEv g (d + 6) mX11_deaf 32 [some (.ref 8), none, some (.int (xset k (fun v => decide (spE L e σ a v = -1)))), some (.int (nI k))] [] 698 u1 w r 698 _) ?_ ?_
  · exact TX11_deaf_32 hR.1 hR.2.1 hR.2.2.2.2.1 (brT (by rw [e0]; exact nI_le (Nat.le_refl _) (by omega)) ⟨rfl, f1, rfl, rfl⟩)
  · intro k hk kk
    refine TX11_deaf_32 hR.1 hR.2.1 hR.2.2.2.2.1 (brF (by rw [e0]; exact nI_ge (by omega) (by omega)) ⟨vpn (by omega) (by omega), ?_⟩)
    rw [nc (by omega), h1 k (by omega)]
    rw [xset_s] at kk
    refine ⟨fun q => TX11_deaf_62 ?_, fun q => TX11_deaf_62 ?_⟩
    · rw [if_pos (decide_eq_true q)] at kk; rw [nI_one]; exact kk
    · rw [if_neg (by simpa using q)] at kk; rw [nI_one]; exact kk
end SOON3
