/-! WAYS that were told already -/
abbrev wt1 (A B : Nat → Int32) (a b : Int32) (k : Nat) : Prop := (A k = a ∧ B k = b) ∨ (A k = b ∧ B k = a)
def wtB (A B : Nat → Int32) (a b : Int32) : Nat → Bool
  | 0 => false
  | n + 1 => wtB A B a b n || decide (wt1 A B a b n)
theorem wtB_iff {A B : Nat → Int32} {a b : Int32} : ∀ n, wtB A B a b n = true ↔ ∃ k, k < n ∧ wt1 A B a b k := by
  intro n
  induction n with
  | zero => exact ⟨fun h => (by cases h), fun ⟨k, hk, _⟩ => absurd hk (Nat.not_lt_zero _)⟩
  | succ n ih =>
    rw [wtB, Bool.or_eq_true, ih, decide_eq_true_iff]
    constructor
    · intro h
      rcases h with ⟨k, hk, h⟩ | h
      · exact ⟨k, by omega, h⟩
      · exact ⟨n, by omega, h⟩
    · intro ⟨k, hk, h⟩
      by_cases q : k = n
      · subst q; exact Or.inr h
      · exact Or.inl ⟨k, by omega, h⟩
theorem wtB_cg {A B A' B' : Nat → Int32} {a b : Int32} : ∀ n, (∀ k, k < n → A k = A' k ∧ B k = B' k) → wtB A B a b n = wtB A' B' a b n := by
  intro n
  induction n with
  | zero => intro _; rfl
  | succ n ih =>
    intro h
    have e : wt1 A B a b n ↔ wt1 A' B' a b n := by
      unfold wt1
      rw [(h n (by omega)).1, (h n (by omega)).2]
    rw [wtB, wtB, ih (fun k hk => h k (by omega)), decide_eq_decide.mpr e]
def aWt (x : Bool) : Int32 := if x = true then 1 else 0
section WAYS
variable {g : xGT} {d : Nat} {w : xW} {r : xQ} {l n : Nat}
theorem K_hasWay {u : xU} (h_l : xLd l) (q_l : xLr l r) (hn : n ≤ 12) (h1 : u l 1 = nI n) (a b : Int32) : xCall g d mX2_hasWay [.ref l, .int a, .int b] 698 u w r 698 (xPr (aWt (wtB (u (l + 1)) (u (l + 2)) a b n)) u w r) := by
  have key : ∀ k i, k + i = n → (∀ i', i' < i → ¬ wt1 (u (l + 1)) (u (l + 2)) a b i') → xEv g d mX2_hasWay 2 [some (.ref l), some (.int a), some (.int b), some (.int (nI i))] [] 698 u w r 698 (xPr (aWt (wtB (u (l + 1)) (u (l + 2)) a b n)) u w r) := by
    intro k
    induction k with
    | zero =>
      intro i hi hb
      have ei : i = n := by omega
      subst ei
      refine TX2_hasWay_2 h_l q_l (brT (by rw [h1]; exact nI_le (Nat.le_refl _) (by omega)) ⟨?_, rfl, rfl, rfl⟩)
      have : wtB (u (l + 1)) (u (l + 2)) a b i = false := Bool.eq_false_iff.mpr (fun z => by
        obtain ⟨k, hk, z⟩ := (wtB_iff i).1 z
        exact hb k hk z)
      rw [this]; rfl
    | succ k ih =>
      intro i hi hb
      refine TX2_hasWay_2 h_l q_l (brF (by rw [h1]; exact nI_ge (by omega) (by omega)) ⟨vpn (by omega) (by omega), ?_⟩)
      rw [nc (by omega)]
      have yes : wt1 (u (l + 1)) (u (l + 2)) a b i → xPr (aWt (wtB (u (l + 1)) (u (l + 2)) a b n)) u w r (some (.int 1)) u w r := fun z => by
        have : wtB (u (l + 1)) (u (l + 2)) a b n = true := (wtB_iff n).2 ⟨i, by omega, z⟩
        rw [this]; exact ⟨rfl, rfl, rfl, rfl⟩
      refine ⟨fun z1 => ⟨fun z2 => yes (Or.inr z2), fun z2 => ?_⟩, fun z1 => yes (Or.inl ?_)⟩
      · rw [nI_one]
        refine ih (i + 1) (by omega) (fun i' hi' => ?_)
        by_cases y : i' = i
        · subst y
          intro z3
          rcases z3 with z3 | z3
          · rcases z1 with z1 | z1
            · exact z1 z3.1
            · exact z1 z3.2
          · exact z2 z3
        · exact hb i' (by omega)
      · exact ⟨Classical.byContradiction (fun z => z1 (Or.inl z)), Classical.byContradiction (fun z => z1 (Or.inr z))⟩
  exact CX2_hasWay (key n 0 rfl (fun i' hi' => absurd hi' (Nat.not_lt_zero _)))
theorem R_isWayTold {u : xU} (hr : xRf r) (hn : n ≤ 12) (h1 : u 655 44 = nI n) (a b : Int32) : xCall g d mX12_isWayTold [.ref 655, .int a, .int b] 698 u w r 698 (xPr (aWt (wtB (u 665) (u 666) a b n)) u w r) := by
  refine CX12_isWayTold ?_
  refine xlq (N := n) (G := fun k => xEv g d mX12_isWayTold 5 [some (.ref 655), some (.int a), some (.int b), some (.int (aWt (wtB (u 665) (u 666) a b k))), some (.int (nI k))] [] 698 u w r 698 _) ?_ ?_
  · refine TX12_isWayTold_5 hr (brT (by rw [h1]; exact nI_le (Nat.le_refl _) (by omega)) ⟨?_, rfl, rfl, rfl, rfl⟩)
    cases wtB (u 665) (u 666) a b n
    · exact Or.inl rfl
    · exact Or.inr rfl
  · intro k hk kk
    refine TX12_isWayTold_5 hr (brF (by rw [h1]; exact nI_ge (by omega) (by omega)) ?_)
    rw [nc (by omega)]
    have go : ∀ x : Bool, (wtB (u 665) (u 666) a b (k + 1) = x) → xEv g d mX12_isWayTold 67 [some (.ref 655), some (.int a), some (.int b), none, some (.int (nI k))] [.int (aWt x)] 698 u w r 698 (xPr (aWt (wtB (u 665) (u 666) a b n)) u w r) := by
      intro x hx
      refine TX12_isWayTold_67 ?_
      rw [hx] at kk
      rw [nI_one]
      exact kk
    have e : wtB (u 665) (u 666) a b (k + 1) = (wtB (u 665) (u 666) a b k || decide (wt1 (u 665) (u 666) a b k)) := rfl
    have yes : wt1 (u 665) (u 666) a b k → xEv g d mX12_isWayTold 62 [some (.ref 655), some (.int a), some (.int b), none, some (.int (nI k))] [] 698 u w r 698 (xPr (aWt (wtB (u 665) (u 666) a b n)) u w r) := fun z => TX12_isWayTold_62 (go true (by rw [e, decide_eq_true z, Bool.or_true]))
    cases hk2 : wtB (u 665) (u 666) a b k
    · refine brT rfl ⟨vpn (by omega) (by omega), fun z1 => ⟨fun z2 => yes (Or.inr z2), fun z2 => go false ?_⟩, fun z1 => yes (Or.inl ⟨Classical.byContradiction (fun z => z1 (Or.inl z)), Classical.byContradiction (fun z => z1 (Or.inr z))⟩)⟩
      rw [e, hk2, Bool.false_or]
      refine decide_eq_false (fun z3 => ?_)
      rcases z3 with z3 | z3
      · rcases z1 with z1 | z1
        · exact z1 z3.1
        · exact z1 z3.2
      · exact z2 z3
    · exact brF (by decide) (TX12_isWayTold_62 (go true (by rw [e, hk2, Bool.true_or])))
end WAYS
