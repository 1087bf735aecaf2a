/-! PATHS: the way home is finite; sets passed; the nearest of them -/
/-- how many of the first n -/
def cn (n : Nat) (p : Nat → Bool) : Nat := xfold n (fun i s => if p i then s + 1 else s) 0
theorem cn_s (n : Nat) (p : Nat → Bool) : cn (n + 1) p = if p n then cn n p + 1 else cn n p := rfl
theorem cn_le (n : Nat) (p : Nat → Bool) : cn n p ≤ n := by
  induction n with
  | zero => exact Nat.le_refl _
  | succ n ih => rw [cn_s]; split <;> omega
theorem cn_mono {p q : Nat → Bool} : ∀ {n : Nat}, (∀ i, i < n → p i = true → q i = true) → cn n p ≤ cn n q := by
  intro n
  induction n with
  | zero => intro _; exact Nat.le_refl _
  | succ n ih =>
    intro h
    have i := ih (fun j hj => h j (by omega))
    rw [cn_s, cn_s]
    by_cases hp : p n = true
    · rw [if_pos hp, if_pos (h n (by omega) hp)]; omega
    · rw [if_neg hp]; split <;> omega
theorem cn_lt {p q : Nat → Bool} : ∀ {n : Nat}, (∀ i, i < n → p i = true → q i = true) → (∃ i, i < n ∧ q i = true ∧ p i = false) → cn n p < cn n q := by
  intro n
  induction n with
  | zero => intro _ h; obtain ⟨i, hi, -⟩ := h; omega
  | succ n ih =>
    intro h he
    obtain ⟨i, hi, hq, hp⟩ := he
    rw [cn_s, cn_s]
    by_cases z : i = n
    · subst z
      have m := cn_mono (n := i) (fun j hj => h j (by omega))
      rw [hq, hp, if_pos rfl, if_neg (by decide)]; omega
    · have := ih (fun j hj => h j (by omega)) ⟨i, by omega, hq, hp⟩
      by_cases hp' : p n = true
      · rw [if_pos hp', if_pos (h n (by omega) hp')]; omega
      · rw [if_neg hp']; split <;> omega
theorem cn_congr {n : Nat} {p q : Nat → Bool} (h : ∀ i, i < n → p i = q i) : cn n p = cn n q := xfold_congr (fun k y hk => by rw [h k hk])
/-- the first way of a shortest path -/
theorem gFirst {L : xU} {c : Int32} {nv m : Nat} (h : gLandW L nv m) : ∀ n a b, (gFar n (gWay L c gF0 m) a b).toInt < 1000 → a ≠ b → ∃ o, gDays L c m a o ≠ -1 ∧ (gDays L c m a o).toInt + (gFar n (gWay L c gF0 m) o b).toInt ≤ (gFar n (gWay L c gF0 m) a b).toInt := by
  intro n
  induction n with
  | zero =>
    intro a b hl hne
    have e : gFar 0 (gWay L c gF0 m) = gWay L c gF0 m := rfl
    rw [e] at hl ⊢
    have ok := gWay_ok (c := c) h
    rcases gWay_or (c := c) gF0 (fun _ _ => -1) h m (Nat.le_refl _) a b with ⟨e1, e2⟩ | ⟨e1, e2, e3, e4, e5, e6⟩
    · rw [e1] at hl
      unfold gF0 at hl
      rw [if_neg hne, k_toInt] at hl
      omega
    · refine ⟨b, ?_, ?_⟩
      · show gWay L c (fun _ _ => -1) m a b ≠ -1
        rw [← e1]
        intro q
        rw [q, m1_toInt] at e2
        omega
      · show (gWay L c (fun _ _ => -1) m a b).toInt + _ ≤ _
        rw [← e1, ok.2 b, z_toInt]
        omega
  | succ n ih =>
    intro a b hl hne
    have ok := gFar_ok (gWay_ok (c := c) h) n
    have e : ∀ x y, (gFar (n + 1) (gWay L c gF0 m) x y).toInt = min (gFar n (gWay L c gF0 m) x y).toInt ((gFar n (gWay L c gF0 m) x n).toInt + (gFar n (gWay L c gF0 m) n y).toInt) := fun x y => gShort_int ok n x y
    by_cases hc : (gFar n (gWay L c gF0 m) a b).toInt ≤ (gFar n (gWay L c gF0 m) a n).toInt + (gFar n (gWay L c gF0 m) n b).toInt
    · rw [e] at hl
      obtain ⟨o, h1, h2⟩ := ih a b (by omega) hne
      refine ⟨o, h1, ?_⟩
      rw [e, e]
      omega
    · rw [e] at hl
      have p1 := ok.1 a n
      have p2 := ok.1 n b
      have hn : a ≠ n := by
        intro q
        subst q
        rw [ok.2 a, z_toInt] at hc
        omega
      obtain ⟨o, h1, h2⟩ := ih a n (by omega) hn
      refine ⟨o, h1, ?_⟩
      rw [e, e]
      omega
/-- what is found is the least, and is taken -/
theorem gNextF_is {D F : Nat → Nat → Int32} (hD : gDok D) (hF : gOk F) (a h : Nat) : ∀ k, (∀ o, o < k → D a o ≠ -1 → (gNextF D F a h k).2.toInt ≤ (D a o).toInt + (F o h).toInt) ∧ ((gNextF D F a h k).1 = -1 ∧ (gNextF D F a h k).2 = 1000 ∨ ∃ o, o < k ∧ (gNextF D F a h k).1 = nI o ∧ D a o ≠ -1 ∧ (gNextF D F a h k).2.toInt = (D a o).toInt + (F o h).toInt ∧ (gNextF D F a h k).2.toInt < 1000) := by
  intro k
  induction k with
  | zero => exact ⟨fun o ho => by omega, Or.inl ⟨rfl, rfl⟩⟩
  | succ k ih =>
    obtain ⟨i1, i2⟩ := ih
    have le1000 : (gNextF D F a h k).2.toInt ≤ 1000 := by
      rcases i2 with ⟨-, q⟩ | ⟨o, -, -, -, -, q⟩
      · rw [q, k_toInt]; omega
      · omega
    rw [gNextF_s]
    have hneg := hD.neg a k
    by_cases hn : D a k = -1
    · rw [if_pos (Or.inl (hneg.mpr hn))]
      refine ⟨fun o ho hne => ?_, ?_⟩
      · by_cases q : o = k
        · subst q; exact absurd hn hne
        · exact i1 o (by omega) hne
      · rcases i2 with q | ⟨o, q1, q2⟩
        · exact Or.inl q
        · exact Or.inr ⟨o, by omega, q2⟩
    · have d19 : 1 ≤ (D a k).toInt ∧ (D a k).toInt ≤ 9 := (hD a k).resolve_left hn
      have f := hF.1 k h
      have es : (D a k + F k h).toInt = (D a k).toInt + (F k h).toInt := ti_add (by omega) (by omega)
      by_cases hc : (gNextF D F a h k).2 ≤ D a k + F k h
      · rw [if_pos (Or.inr hc)]
        rw [ti_le, es] at hc
        refine ⟨fun o ho hne => ?_, ?_⟩
        · by_cases q : o = k
          · subst q; exact hc
          · exact i1 o (by omega) hne
        · rcases i2 with q | ⟨o, q1, q2⟩
          · exact Or.inl q
          · exact Or.inr ⟨o, by omega, q2⟩
      · rw [if_neg (fun z => z.elim (fun y => hn (hneg.mp y)) hc)]
        rw [ti_le, es] at hc
        refine ⟨fun o ho hne => ?_, Or.inr ⟨k, by omega, rfl, hn, es, ?_⟩⟩
        · show (D a k + F k h).toInt ≤ _
          rw [es]
          by_cases q : o = k
          · subst q; omega
          · have := i1 o (by omega) hne; omega
        · show (D a k + F k h).toInt < 1000
          rw [es]; omega
/-- days, far, next of a land whose ways c are closed -/
def lD (L : xU) (c : Int32) : Nat → Nat → Int32 := gDays L c (lW L)
def lF (L : xU) (c : Int32) : Nat → Nat → Int32 := gDist L c (lV L) (lW L)
def lNx (L : xU) (c : Int32) (a h : Nat) : Int32 := gNext (lD L c) (lF L c) (lV L) a h
/-- the ways told are what they may be -/
def lWok (L : xU) : Prop := gLandW L (lV L) (lW L)
theorem lF_ok {L : xU} (h : lWok L) (c : Int32) : gOk (lF L c) := gFar_ok (gWay_ok h) _
theorem lD_ok {L : xU} (h : lWok L) (c : Int32) : gDok (lD L c) := gDays_ok h
/-- the next one is nearer -/
theorem lNx_or {L : xU} (h : lWok L) (c : Int32) (a b : Nat) : lNx L c a b = -1 ∨ ∃ o, o < lV L ∧ lNx L c a b = nI o ∧ lD L c a o ≠ -1 ∧ (lF L c o b).toInt < (lF L c a b).toInt := by
  unfold lNx gNext
  by_cases hc : a = b ∨ ¬ lF L c a b < 1000
  · rw [if_pos hc]; exact Or.inl rfl
  · rw [if_neg hc]
    have h1 : a ≠ b := fun q => hc (Or.inl q)
    have h2 : lF L c a b < 1000 := Classical.not_not.mp (fun q => hc (Or.inr q))
    rw [ti_lt, k_toInt] at h2
    obtain ⟨q1, q2⟩ := gNextF_is (lD_ok h c) (lF_ok h c) a b (lV L)
    rcases q2 with ⟨q2, -⟩ | ⟨o, o1, o2, o3, o4, o5⟩
    · exact Or.inl q2
    · refine Or.inr ⟨o, o1, o2, o3, ?_⟩
      obtain ⟨p, p1, p2⟩ := gFirst h (lV L) a b h2 h1
      have pv : p < lV L := Nat.lt_of_not_le (fun q => p1 (gDays_iso h (Or.inr q)))
      have := q1 p pv p1
      have d19 : 1 ≤ (lD L c a o).toInt ∧ _ := ((lD_ok h c) a o).resolve_left o3
      have e : (lD L c a p).toInt + (lF L c p b).toInt ≤ (lF L c a b).toInt := p2
      omega
/-- the way home from v: the i-th stop, -1 behind the last -/
def lP (L : xU) (c : Int32) (v h : Nat) : Nat → Int32
  | 0 => nI v
  | i + 1 => if lP L c v h i < 0 then -1 else lNx L c (lP L c v h i).toNatClampNeg h
theorem m1_neg : (-1 : Int32) < 0 := by decide
theorem nI_nn {k : Nat} (hk : k < 2147483648) : ¬ nI k < 0 := nI_pos hk
theorem lP_or {L : xU} (hW : lWok L) (c : Int32) {v : Nat} (hv : v < lV L) (h i : Nat) : lP L c v h i = -1 ∨ ∃ o, o < lV L ∧ lP L c v h i = nI o := by
  induction i with
  | zero => exact Or.inr ⟨v, hv, rfl⟩
  | succ i ih =>
    show (if _ then _ else _) = _ ∨ _
    rw [lP]
    rcases ih with e | ⟨o, ho, e⟩
    · rw [e, if_pos m1_neg]; exact Or.inl rfl
    · rw [e, if_neg (nI_nn (by have := hW.1; omega)), nc (by have := hW.1; omega)]
      rcases lNx_or hW c o h with q | ⟨p, q1, q2, -⟩
      · exact Or.inl q
      · exact Or.inr ⟨p, q1, q2⟩
/-- how many villages are nearer home -/
def lC (L : xU) (c : Int32) (v h : Nat) : Nat := cn (lV L) (fun j => decide ((lF L c j h).toInt < (lF L c v h).toInt))
theorem lP_cn {L : xU} (hW : lWok L) (c : Int32) {v : Nat} (hv : v < lV L) (h : Nat) : ∀ i o, lP L c v h i = nI o → o < lV L → lC L c o h + i < lV L := by
  have hv7 := hW.1
  intro i
  induction i with
  | zero =>
    intro o e ho
    have : cn (lV L) (fun j => decide ((lF L c j h).toInt < (lF L c o h).toInt)) < cn (lV L) (fun _ => true) := cn_lt (fun _ _ _ => rfl) ⟨o, ho, rfl, by simp⟩
    have := cn_le (lV L) (fun _ => true)
    unfold lC
    omega
  | succ i ih =>
    intro o e ho
    rw [lP] at e
    rcases lP_or hW c hv h i with q | ⟨p, hp, q⟩
    · rw [q, if_pos m1_neg] at e
      have := nI_nn (k := o) (by omega)
      rw [← e] at this
      exact absurd m1_neg this
    · rw [q, if_neg (nI_nn (by omega)), nc (by omega)] at e
      have i1 := ih p q hp
      rcases lNx_or hW c p h with z | ⟨o', z1, z2, -, z4⟩
      · rw [z] at e
        have := nI_nn (k := o) (by omega)
        rw [← e] at this
        exact absurd m1_neg this
      · rw [z2] at e
        have : o' = o := (nI_eq (by omega) (by omega)).mp e
        subst this
        have : lC L c o' h < lC L c p h := cn_lt (fun j _ hj => by
          have := of_decide_eq_true hj
          exact decide_eq_true (by omega)) ⟨o', z1, decide_eq_true z4, by simp⟩
        omega
theorem lP_end {L : xU} (hW : lWok L) (c : Int32) {v : Nat} (hv : v < lV L) (h : Nat) : lP L c v h 7 = -1 := by
  rcases lP_or hW c hv h 7 with e | ⟨o, ho, e⟩
  · exact e
  · have := lP_cn hW c hv h 7 o e ho
    have := hW.1
    omega
theorem lP_stay {L : xU} {c : Int32} {v h i : Nat} (e : lP L c v h i < 0) : ∀ j, i ≤ j → lP L c v h j < 0 := by
  intro j hj
  induction j with
  | zero => rw [← Nat.le_zero.mp hj]; exact e
  | succ j ih =>
    by_cases q : i = j + 1
    · subst q; exact e
    · rw [lP, if_pos (ih (by omega))]; exact m1_neg
/-- the villages passed -/
def lRk (L : xU) (c : Int32) (v h k : Nat) : Int32 := xfold k (fun i s => if lP L c v h i < 0 then s else s ||| ((1 : Int32) <<< (lP L c v h i &&& 31))) 0
def lR (L : xU) (c : Int32) (v h : Nat) : Int32 := lRk L c v h 7
theorem lRk_s (L : xU) (c : Int32) (v h k : Nat) : lRk L c v h (k + 1) = if lP L c v h k < 0 then lRk L c v h k else lRk L c v h k ||| ((1 : Int32) <<< (lP L c v h k &&& 31)) := rfl
theorem lRk_end {L : xU} {c : Int32} {v h i : Nat} (e : lP L c v h i < 0) : ∀ j, i ≤ j → lRk L c v h j = lRk L c v h i := by
  intro j hj
  induction j with
  | zero => rw [← Nat.le_zero.mp hj]
  | succ j ih =>
    by_cases q : i = j + 1
    · rw [q]
    · rw [lRk_s, if_pos (lP_stay e j (by omega)), ih (by omega)]
theorem bt_lRk {L : xU} (hW : lWok L) (c : Int32) {v : Nat} (hv : v < lV L) (h : Nat) {j : Nat} (hj : j < 32) : ∀ k, bt (lRk L c v h k) j = true ↔ ∃ i, i < k ∧ lP L c v h i = nI j := by
  have hv7 := hW.1
  intro k
  induction k with
  | zero => exact ⟨fun q => by rw [show lRk L c v h 0 = 0 from rfl, b_0] at q; exact absurd q (by decide), fun ⟨i, hi, _⟩ => by omega⟩
  | succ k ih =>
    rw [lRk_s]
    rcases lP_or hW c hv h k with e | ⟨o, ho, e⟩
    · rw [if_pos (by rw [e]; exact m1_neg), ih]
      refine ⟨fun ⟨i, q1, q2⟩ => ⟨i, by omega, q2⟩, fun ⟨i, q1, q2⟩ => ?_⟩
      by_cases z : i = k
      · subst z
        rw [e] at q2
        have := nI_nn (k := j) (by omega)
        rw [← q2] at this
        exact absurd m1_neg this
      · exact ⟨i, by omega, q2⟩
    · rw [e, if_neg (nI_nn (by omega)), b_or, bt_sh (by omega) hj, Bool.or_eq_true, ih, decide_eq_true_iff]
      refine ⟨fun q => q.elim (fun ⟨i, q1, q2⟩ => ⟨i, by omega, q2⟩) (fun q => ⟨k, by omega, by rw [e, q]⟩), fun ⟨i, q1, q2⟩ => ?_⟩
      by_cases z : i = k
      · subst z
        rw [e] at q2
        exact Or.inr ((nI_eq (by omega) (by omega)).mp q2).symm
      · exact Or.inl ⟨i, by omega, q2⟩
/-- the nearest to g of those passed -/
def lMk (L : xU) (c : Int32) (v h t k : Nat) : Int32 := xfold k (fun i m => if lP L c v h i < 0 then m else if lF L c (lP L c v h i).toNatClampNeg t < m then lF L c (lP L c v h i).toNatClampNeg t else m) 1000
def lM (L : xU) (c : Int32) (v h t : Nat) : Int32 := lMk L c v h t 7
theorem lMk_s (L : xU) (c : Int32) (v h t k : Nat) : lMk L c v h t (k + 1) = if lP L c v h k < 0 then lMk L c v h t k else if lF L c (lP L c v h k).toNatClampNeg t < lMk L c v h t k then lF L c (lP L c v h k).toNatClampNeg t else lMk L c v h t k := rfl
theorem lMk_end {L : xU} {c : Int32} {v h t i : Nat} (e : lP L c v h i < 0) : ∀ j, i ≤ j → lMk L c v h t j = lMk L c v h t i := by
  intro j hj
  induction j with
  | zero => rw [← Nat.le_zero.mp hj]
  | succ j ih =>
    by_cases q : i = j + 1
    · rw [q]
    · rw [lMk_s, if_pos (lP_stay e j (by omega)), ih (by omega)]
/-- the least of what S names, or 1000 -/
def isM (F : Nat → Int32) (S : Nat → Prop) (m : Int32) : Prop := m.toInt ≤ 1000 ∧ (∀ v, S v → m.toInt ≤ (F v).toInt) ∧ (m.toInt = 1000 ∨ ∃ v, S v ∧ m.toInt = (F v).toInt)
theorem isM.one {F : Nat → Int32} {S T : Nat → Prop} {m m' : Int32} (h : isM F S m) (h' : isM F T m') (e : ∀ v, S v ↔ T v) : m = m' := by
  rw [ti_eq]
  obtain ⟨a1, a2, a3⟩ := h
  obtain ⟨b1, b2, b3⟩ := h'
  rcases a3 with a3 | ⟨v, a3, a4⟩ <;> rcases b3 with b3 | ⟨y, b3, b4⟩
  · omega
  · have := a2 y ((e y).mpr b3); omega
  · have := b2 v ((e v).mp a3); omega
  · have := a2 y ((e y).mpr b3); have := b2 v ((e v).mp a3); omega
theorem isM.step {F : Nat → Int32} {S : Nat → Prop} {m : Int32} (h : isM F S m) (v : Nat) : isM F (fun x => S x ∨ x = v) (if F v < m then F v else m) := by
  obtain ⟨a1, a2, a3⟩ := h
  by_cases q : F v < m
  · rw [if_pos q]
    rw [ti_lt] at q
    refine ⟨by omega, fun x hx => ?_, Or.inr ⟨v, Or.inr rfl, rfl⟩⟩
    rcases hx with hx | rfl
    · have := a2 x hx; omega
    · omega
  · rw [if_neg q]
    rw [ti_lt] at q
    refine ⟨a1, fun x hx => ?_, a3.imp_right (fun ⟨y, h1, h2⟩ => ⟨y, Or.inl h1, h2⟩)⟩
    rcases hx with hx | rfl
    · exact a2 x hx
    · omega
theorem isM.to {F : Nat → Int32} {S T : Nat → Prop} {m : Int32} (h : isM F S m) (e : ∀ v, S v ↔ T v) : isM F T m := by
  have : S = T := funext fun v => propext (e v)
  rw [← this]; exact h
theorem isM.zero {F : Nat → Int32} : isM F (fun _ => False) 1000 := ⟨Int.le_refl _, fun _ h => h.elim, Or.inl rfl⟩
theorem lMk_is {L : xU} (hW : lWok L) (c : Int32) {v : Nat} (hv : v < lV L) (h t : Nat) : ∀ k, isM (fun x => lF L c x t) (fun x => x < lV L ∧ ∃ i, i < k ∧ lP L c v h i = nI x) (lMk L c v h t k) := by
  have hv7 := hW.1
  intro k
  induction k with
  | zero => exact isM.zero.to (fun v => ⟨fun q => q.elim, fun ⟨_, i, hi, _⟩ => by omega⟩)
  | succ k ih =>
    rw [lMk_s]
    rcases lP_or hW c hv h k with e | ⟨o, ho, e⟩
    · rw [if_pos (by rw [e]; exact m1_neg)]
      refine ih.to (fun x => ⟨fun ⟨hx, i, q1, q2⟩ => ⟨hx, i, by omega, q2⟩, fun ⟨hx, i, q1, q2⟩ => ?_⟩)
      by_cases z : i = k
      · subst z
        rw [e] at q2
        have := nI_nn (k := x) (by omega)
        rw [← q2] at this
        exact absurd m1_neg this
      · exact ⟨hx, i, by omega, q2⟩
    · rw [e, if_neg (nI_nn (by omega)), nc (by omega)]
      refine (ih.step o).to (fun x => ⟨fun q => q.elim (fun ⟨hx, i, q1, q2⟩ => ⟨hx, i, by omega, q2⟩) (fun q => by subst q; exact ⟨ho, k, by omega, e⟩), fun ⟨hx, i, q1, q2⟩ => ?_⟩)
      by_cases z : i = k
      · subst z
        rw [e] at q2
        exact Or.inr ((nI_eq (by omega) (by omega)).mp q2).symm
      · exact Or.inl ⟨hx, i, by omega, q2⟩
