/-! WORDS OF THE PICTURES: small numbers, folds, frames -/
theorem le_nI {a b : Nat} (ha : a < 2147483648) (hb : b < 2147483648) : nI a ≤ nI b ↔ a ≤ b := by
  rw [Int32.le_iff_toInt_le, nI_toInt ha, nI_toInt hb]; omega
theorem lt_nI {a b : Nat} (ha : a < 2147483648) (hb : b < 2147483648) : nI a < nI b ↔ a < b := by
  rw [Int32.lt_iff_toInt_lt, nI_toInt ha, nI_toInt hb]; omega
theorem eq_nI {a b : Nat} (ha : a < 2147483648) (hb : b < 2147483648) : nI a = nI b ↔ a = b := by
  rw [← Int32.toInt_inj, nI_toInt ha, nI_toInt hb]; omega
theorem nI_lit (n : Nat) : (OfNat.ofNat n : Int32) = nI n := rfl
theorem nI_one (n : Nat) : nI n + 1 = nI (n + 1) := nI_1 n
theorem lit_add (n k : Nat) : (OfNat.ofNat n : Int32) + nI k = nI (n + k) := nI_add n k
theorem nI_mul (a b : Nat) : nI a * nI b = nI (a * b) := by unfold nI; exact (Int32.ofNat_mul a b).symm
theorem vpn {k n : Nat} (h : k < n) (hn : n ≤ 2147483648) : vp_in (nI k) n := by
  intro q
  rcases q with q | q
  · exact nI_pos (by omega) q
  · rw [nI_clamp (by omega)] at q; omega
theorem vp_nI {i : Int32} {n : Nat} (h : vp_in i n) : ∃ k, k < n ∧ i = nI k := by
  refine ⟨i.toNatClampNeg, vp_lt h, ?_⟩
  have h0 : ¬ i < 0 := fun q => h (Or.inl q)
  rw [← Int32.toInt_inj]
  have hz : (0 : Int) ≤ i.toInt := by
    have := Int32.not_lt.mp h0
    simpa using Int32.le_iff_toInt_le.mp this
  have hl : i.toInt < 2 ^ 31 := Int32.toInt_lt i
  have e : i.toNatClampNeg = i.toInt.toNat := rfl
  rw [nI_toInt (by rw [e]; omega), e]
  omega
theorem nc {k : Nat} (h : k < 2147483648) : (nI k).toNatClampNeg = k := nI_clamp h
/-- steps 0, 1 .. n - 1, one after the other -/
def xfold {α : Type} : Nat → (Nat → α → α) → α → α
  | 0, _, x => x
  | n + 1, f, x => f n (xfold n f x)
theorem xfold_s {α : Type} (n : Nat) (f : Nat → α → α) (x : α) : xfold (n + 1) f x = f n (xfold n f x) := rfl
theorem xfold_inv {α : Type} {I : Nat → α → Prop} {f : Nat → α → α} {x : α} : ∀ {n : Nat}, I 0 x → (∀ k y, k < n → I k y → I (k + 1) (f k y)) → I n (xfold n f x) := by
  intro n
  induction n with
  | zero => intro h _; exact h
  | succ n ih => intro h s; exact s n _ (Nat.lt_succ_self n) (ih h (fun k y hk => s k y (Nat.lt_succ_of_lt hk)))
theorem xfold_congr {α : Type} {f g : Nat → α → α} {x : α} : ∀ {n : Nat}, (∀ k y, k < n → f k y = g k y) → xfold n f x = xfold n g x := by
  intro n
  induction n with
  | zero => intro _; rfl
  | succ n ih => intro s; rw [xfold_s, xfold_s, ih (fun k y hk => s k y (Nat.lt_succ_of_lt hk)), s n _ (Nat.lt_succ_self n)]
/-- two folds side by side -/
theorem xfold_rel {α β : Type} {I : Nat → α → β → Prop} {f : Nat → α → α} {g : Nat → β → β} {x : α} {y : β} : ∀ {n : Nat}, I 0 x y → (∀ k a b, k < n → I k a b → I (k + 1) (f k a) (g k b)) → I n (xfold n f x) (xfold n g y) := by
  intro n
  induction n with
  | zero => intro h _; exact h
  | succ n ih => intro h s; exact s n _ _ (Nat.lt_succ_self n) (ih h (fun k a b hk => s k a b (Nat.lt_succ_of_lt hk)))
/-- memory is the same outside F -/
def xSm (F : Nat → Prop) (u u' : xU) : Prop := ∀ b i, ¬ F b → u' b i = u b i
theorem xSm.rf {F : Nat → Prop} {u : xU} : xSm F u u := fun _ _ _ => rfl
theorem xSm.tr {F : Nat → Prop} {u v w : xU} (h1 : xSm F u v) (h2 : xSm F v w) : xSm F u w := fun b i h => (h2 b i h).trans (h1 b i h)
theorem xSm.to {F G : Nat → Prop} {u v : xU} (h : xSm F u v) (hs : ∀ b, F b → G b) : xSm G u v := fun b i hb => h b i (fun q => hb (hs b q))
theorem xSm.put {F : Nat → Prop} {u v : xU} {a k : Nat} {x : Int32} (h : xSm F u v) (ha : F a) : xSm F u (x2 v a k x) := fun b i hb => by
  rw [x2_ne _ _ (fun q => hb (by rw [q.1]; exact ha))]
  exact h b i hb
theorem x2_a {α : Type} (f : Nat → Nat → α) {a k b j : Nat} (x : α) (h : b ≠ a) : x2 f a k x b j = f b j := x2_ne f x (fun q => h q.1)
theorem x2_i {α : Type} (f : Nat → Nat → α) {a k j : Nat} (x : α) (h : j ≠ k) : x2 f a k x a j = f a j := x2_ne f x (fun q => h q.2)
/-- a method that answers v and changes nothing -/
def xPr (v : Int32) (u : xU) (w : xW) (r : xQ) : xPost := fun rv u' w' r' => rv = some (.int v) ∧ u = u' ∧ w = w' ∧ r = r'
/-- a method that answers nothing, and behind which memory is as B says -/
def xVd (B : xU → Prop) (w : xW) (r : xQ) : xPost := fun rv u' w' r' => rv = none ∧ B u' ∧ w = w' ∧ r = r'
/-- a method that answers v, and behind which memory is as B says -/
def xIn (v : Int32) (B : xU → Prop) (w : xW) (r : xQ) : xPost := fun rv u' w' r' => rv = some (.int v) ∧ B u' ∧ w = w' ∧ r = r'
theorem xPr.use {v : Int32} {u : xU} {w : xW} {r : xQ} {g : xGT} {d : Nat} {mi : xMI} {args : List Value} {P : xPost} (h : xCall g d mi args 698 u w r 698 (xPr v u w r)) (k : P (some (.int v)) u w r) : xCall g d mi args 698 u w r 698 P :=
  h.mono (fun rv u' w' r' q => by obtain ⟨rfl, rfl, rfl, rfl⟩ := q; exact k)
theorem xVd.use {B : xU → Prop} {u : xU} {w : xW} {r : xQ} {g : xGT} {d : Nat} {mi : xMI} {args : List Value} {P : xPost} (h : xCall g d mi args 698 u w r 698 (xVd B w r)) (k : ∀ u', B u' → P none u' w r) : xCall g d mi args 698 u w r 698 P :=
  h.mono (fun rv u' w' r' q => by obtain ⟨rfl, hb, rfl, rfl⟩ := q; exact k u' hb)
theorem xIn.use {v : Int32} {B : xU → Prop} {u : xU} {w : xW} {r : xQ} {g : xGT} {d : Nat} {mi : xMI} {args : List Value} {P : xPost} (h : xCall g d mi args 698 u w r 698 (xIn v B w r)) (k : ∀ u', B u' → P (some (.int v)) u' w r) : xCall g d mi args 698 u w r 698 P :=
  h.mono (fun rv u' w' r' q => by obtain ⟨rfl, hb, rfl, rfl⟩ := q; exact k u' hb)
theorem xi32 (x : Int32) : x.toInt < 2147483648 ∧ -2147483648 ≤ x.toInt := ⟨Int32.toInt_lt x, Int32.le_toInt x⟩
theorem ti_add {x y : Int32} (h1 : -2147483648 ≤ x.toInt + y.toInt) (h2 : x.toInt + y.toInt < 2147483648) : (x + y).toInt = x.toInt + y.toInt := by
  rw [Int32.toInt_add]
  apply Int.bmod_eq_of_le <;> omega
theorem ti_sub {x y : Int32} (h1 : -2147483648 ≤ x.toInt - y.toInt) (h2 : x.toInt - y.toInt < 2147483648) : (x - y).toInt = x.toInt - y.toInt := by
  rw [Int32.toInt_sub]
  apply Int.bmod_eq_of_le <;> omega
theorem ti_lt {x y : Int32} : x < y ↔ x.toInt < y.toInt := Int32.lt_iff_toInt_lt
theorem ti_le {x y : Int32} : x ≤ y ↔ x.toInt ≤ y.toInt := Int32.le_iff_toInt_le
theorem ti_eq {x y : Int32} : x = y ↔ x.toInt = y.toInt := Int32.toInt_inj.symm
theorem ti_nI {n : Nat} (h : n < 2147483648) : (nI n).toInt = (n : Int) := nI_toInt h
theorem brT {p A B : Prop} (h : p) (k : A) : (p → A) ∧ (¬ p → B) := ⟨fun _ => k, fun q => absurd h q⟩
theorem brF {p A B : Prop} (h : ¬ p) (k : B) : (p → A) ∧ (¬ p → B) := ⟨fun q => absurd q h, fun _ => k⟩
theorem ge0 {i : Int32} (h : ¬ i < 0) : 0 ≤ i.toInt := by
  rw [ti_lt, show (0 : Int32).toInt = 0 from rfl] at h
  omega
theorem vp_of {i : Int32} {n : Nat} (h0 : ¬ i < 0) (h1 : ¬ nI n ≤ i) (hn : n < 2147483648) : vp_in i n := by
  have h0' := ge0 h0
  rw [ti_le, ti_nI hn] at h1
  intro q
  rcases q with q | q
  · exact h0 q
  · have e : i.toNatClampNeg = i.toInt.toNat := rfl
    omega
