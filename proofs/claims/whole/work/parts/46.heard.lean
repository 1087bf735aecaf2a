/-! QUESTIONS: heard: the reference -/
section HEARD
variable {g : xGT} {d : Nat} {w : xW} {r : xQ} {L : xU} {c : Int32} {l n e : Nat} {σ : Nat → Int32}
theorem aHeardK_s (L : xU) (e : Nat) (σ : Nat → Int32) (s k : Nat) : aHeardK L e σ s (k + 1) = if aHeardK L e σ s k < spE L e σ s k then spE L e σ s k else aHeardK L e σ s k := rfl
theorem heard_or {s : Nat} (ok : sOk e s (spE L e σ s)) (he : e ≤ 300) : ∀ k, (aHeardK L e σ s k = -1 ∧ k ≤ s) ∨ ∃ x, e ≤ x ∧ x ≤ 300 ∧ aHeardK L e σ s k = nI x := by
  intro k
  induction k with
  | zero => exact Or.inl ⟨rfl, Nat.zero_le _⟩
  | succ k ih =>
    rw [aHeardK_s]
    generalize aHeardK L e σ s k = m at ih ⊢
    split
    · rcases ok.2 k with q | ⟨x, h1, h2, h3, -⟩
      · next hc =>
        rw [q] at hc
        rcases ih with ⟨i, -⟩ | ⟨y, y1, y2, i⟩
        · rw [i] at hc; exact absurd hc (by decide)
        · rw [i, ti_lt, ti_nI (by omega), m1_toInt] at hc; omega
      · exact Or.inr ⟨x, h1, h2, h3⟩
    · next hc =>
      rcases ih with ⟨i, i2⟩ | i
      · by_cases z : k = s
        · subst z
          rw [i, ok.1, ti_lt, ti_nI (by omega), m1_toInt] at hc; omega
        · exact Or.inl ⟨i, by omega⟩
      · exact Or.inr i
theorem R_heard {u : xU} (hr : xRf r) (hK : lOkk L) (hN : rN1 L n e u σ) (i : Int32) : xCall g (d + 6) mX12_heard [.ref 655, .int i] 698 u w r 698 (xIn (aHeard L e σ i) (rA L n e σ u) w r) := by
  have hv7 := hK.1.1
  refine CX12_heard hr (xPr.use (R_isVillage hN.1 hv7 i) ⟨_, rfl, rfl, rfl, rfl, ?_⟩)
  rw [xb_eq0]
  unfold aHeard
  refine ⟨fun q => ⟨by rw [if_neg q], rA.rf hN, rfl, rfl⟩, fun q => ?_⟩
  rw [Classical.not_not] at q
  rw [if_pos q]
  obtain ⟨a, ha, rfl⟩ := inN.get q (by omega)
  have ok := spE_ok (s := a) hK.1 hK.2.2.1 hN.2.2.1
  have he := hN.2.2.1.2.2.1.2
  have ho := heard_or ok he
  refine xVd.use (R_laySoon hr hK hN (by omega)) (fun u1 ⟨h1, f1⟩ => ⟨rfl, rfl, rfl, ?_⟩)
  rw [nc (by omega)]
  have L1 := f1.2.1
  have e90 : u1 683 90 = nI e := by rw [f1.2.2.1]; exact hN.2.2.1.2.2.1.1
  rw [e90]
  have start : nI e = if aHeardK L e σ a 0 = -1 then nI e else aHeardK L e σ a 0 := by
    rw [if_pos (show aHeardK L e σ a 0 = -1 from rfl)]
  rw [start]
  refine xlq (N := lV L) (G := fun k => xEv g (d + 6) mX12_heard 25 [some (.ref 655), none, some (.int (if aHeardK L e σ a k = -1 then nI e else aHeardK L e σ a k)), some (.int (nI k))] [] 698 u1 w r 698 _) ?_ ?_
  · refine TX12_heard_25 hr (brT (by rw [L1.1.1]; exact nI_le (Nat.le_refl _) (by omega)) ⟨?_, f1, rfl, rfl⟩)
    rcases ho (lV L) with ⟨-, q2⟩ | ⟨x, z1, z2, q2⟩
    · omega
    · rw [q2, if_neg (nI_m1 (by omega))]
  · intro k hk kk
    refine TX12_heard_25 hr (brF (by rw [L1.1.1]; exact nI_ge (by omega) (by omega)) ⟨vpn (by omega) (by omega), ?_⟩)
    rw [nc (by omega), h1 k (by omega)]
    have hk0 := ho k
    rw [aHeardK_s] at kk
    generalize aHeardK L e σ a k = m at hk0 kk ⊢
    have st : ∀ x : Int32, (if (if m < spE L e σ a k then spE L e σ a k else m) = -1 then nI e else (if m < spE L e σ a k then spE L e σ a k else m)) = x → xEv g (d + 6) mX12_heard 25 [some (.ref 655), none, some (.int x), some (.int (nI (k + 1)))] [] 698 u1 w r 698 (xIn (aHeardK L e σ a (lV L)) (rA L n e σ u) w r) := fun x hx => by rw [← hx]; exact kk
    rcases ok.2 k with q1 | ⟨x, x1, x2, x3, x4⟩
    · rw [q1] at st ⊢
      have e3 : tR (-1) = 300 := rfl
      rw [e3]
      refine brF (fun z => z.1 (Int32.le_refl _)) (TX12_heard_62 ?_)
      rw [nI_one]
      refine st _ ?_
      have : ¬ m < -1 := by
        rcases hk0 with ⟨i, -⟩ | ⟨y, -, y2, i⟩
        · rw [i]; decide
        · rw [i, ti_lt, ti_nI (by omega), m1_toInt]; omega
      rw [if_neg this]
    · rw [x3] at st ⊢
      have ex : tR (nI x) = nI x := by unfold tR; rw [if_neg (nI_m1 (by omega))]
      rw [ex]
      have l300 : (300 : Int32) = nI 300 := rfl
      rcases hk0 with ⟨i, i2⟩ | ⟨y, y1, y2, i⟩
      · rw [i] at st ⊢
        rw [if_pos rfl]
        have hlt : (-1 : Int32) < nI x := by rw [ti_lt, ti_nI (by omega), m1_toInt]; omega
        rw [if_pos hlt, if_neg (nI_m1 (by omega))] at st
        rw [l300, le_nI (by omega) (by omega), le_nI (by omega) (by omega)]
        refine ⟨fun z => TX12_heard_62 ?_, fun z => TX12_heard_62 ?_⟩
        · rw [nI_one]; exact st _ rfl
        · rw [nI_one]
          have : x = e := by
            by_cases y : k = a
            · subst y
              have := ok.1
              rw [x3] at this
              exact nI_inv (by omega) (by omega) this
            · have := x4 y
              omega
          exact st _ (by rw [this])
      · rw [i] at st ⊢
        rw [if_neg (nI_m1 (by omega))]
        rw [l300, le_nI (by omega) (by omega), le_nI (by omega) (by omega)]
        refine ⟨fun z => TX12_heard_62 ?_, fun z => TX12_heard_62 ?_⟩
        · rw [nI_one]
          refine st _ ?_
          rw [if_pos ((lt_nI (by omega) (by omega)).mpr (by omega)), if_neg (nI_m1 (by omega))]
        · rw [nI_one]
          refine st _ ?_
          have : ¬ nI y < nI x := by
            rw [lt_nI (by omega) (by omega)]
            intro yx
            by_cases y : k = a
            · subst y
              have := ok.1
              rw [x3] at this
              have := nI_inv (by omega) (by omega) this
              omega
            · have := x4 y
              omega
          rw [if_neg this, if_neg (nI_m1 (by omega))]
end HEARD
