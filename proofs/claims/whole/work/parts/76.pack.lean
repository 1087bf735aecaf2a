/-! WORDS AS NUMBERS (the first rows began as kit/laws/BITS.to-paste) -/
theorem wb_tb (n : Nat) : (lN n).toBitVec = BitVec.ofNat 64 n := rfl
theorem wb_inj {a b : Int64} (h : a.toBitVec = b.toBitVec) : a = b := Int64.toBitVec_inj.mp h
theorem wb_tn {n : Nat} (h : n < 2 ^ 64) : (lN n).toBitVec.toNat = n := by rw [wb_tb, BitVec.toNat_ofNat, Nat.mod_eq_of_lt h]
theorem wb_c : ∀ k, k < 64 → ((nI k).toInt64 &&& 63) = lN k := by decide +kernel
theorem wb_sm : ∀ k, k < 64 → (BitVec.ofNat 64 k).smod 64 = BitVec.ofNat 64 k := by decide +kernel
theorem wb_shl (n : Nat) {k : Nat} (hk : k < 64) : lN n <<< ((nI k).toInt64 &&& 63) = lN (n * 2 ^ k) := by
  rw [wb_c k hk]
  apply wb_inj
  rw [Int64.toBitVec_shiftLeft, wb_tb, wb_tb, wb_tb, wb_sm k hk]
  apply BitVec.eq_of_toNat_eq
  rw [BitVec.shiftLeft_eq', BitVec.toNat_shiftLeft, BitVec.toNat_ofNat, BitVec.toNat_ofNat, BitVec.toNat_ofNat, Nat.mod_eq_of_lt (show k < 2 ^ 64 by omega), Nat.shiftLeft_eq, Nat.mul_mod, Nat.mod_mod, ← Nat.mul_mod]
theorem u_tn {n : Nat} (h : n < 2 ^ 64) : (UInt64.ofNat n).toNat = n := Nat.mod_eq_of_lt h
theorem g_or {k p a b : Nat} (hp : 2 ^ k = p) (ha : a < p) (h : b * p + a < 2 ^ 64) : lN (b * p) ||| lN a = lN (b * p + a) := by
  subst hp
  have h1 : b * 2 ^ k ||| a = b * 2 ^ k + a := by rw [← Nat.shiftLeft_eq, Nat.shiftLeft_add_eq_or_of_lt ha]
  have h3 : UInt64.ofNat (b * 2 ^ k) ||| UInt64.ofNat a = UInt64.ofNat (b * 2 ^ k + a) := UInt64.toNat_inj.mp (by rw [UInt64.toNat_or, u_tn (by omega), u_tn (by omega), u_tn h, h1])
  have h2 := congrArg UInt64.toInt64 h3
  exact h2
theorem lN_inj {a b : Nat} (ha : a < 2 ^ 64) (hb : b < 2 ^ 64) : lN a = lN b ↔ a = b := ⟨fun h => by rw [← wb_tn ha, ← wb_tn hb, h], fun h => by rw [h]⟩
/-- a byte behind the others -/
theorem pk256 {c v : Nat} (hv : v < 256) (hc : c * 256 + v < 2 ^ 64) : (lN c <<< ((8 : Int32).toInt64 &&& 63)) ||| (nI v).toInt64 = lN (c * 256 + v) := by
  have h1 := wb_shl c (k := 8) (by decide)
  have h2 : (nI v).toInt64 = lN v := nI_l (by omega)
  have h3 : lN (c * 2 ^ 8) ||| lN v = lN (c * 256 + v) := g_or (k := 8) (p := 256) rfl hv hc
  rw [h2, ← h3, ← h1]
  rfl
theorem pk27 {c v : Nat} (hv : 97 ≤ v) (h2 : v < 256) : ((lN c * (27 : Int64) + (nI v).toInt64) - (97 : Int64)) + (1 : Int64) = lN (c * 27 + (v - 96)) := by
  rw [nI_l (by omega), show (27 : Int64) = lN 27 from rfl, show (97 : Int64) = lN 97 from rfl, lN_mul, lN_add, lN_sub (by omega), lN_1]
  congr 1; omega
/-- k letters as one number -/
def pkW (b o : Nat) (f : Nat → Nat) : Nat → Nat
  | 0 => 0
  | k + 1 => pkW b o f k * b + (f k - o)
theorem pkW_lt {b o : Nat} {f : Nat → Nat} : ∀ k, (∀ i, i < k → f i - o < b) → pkW b o f k < b ^ k := by
  intro k
  induction k with
  | zero => intro _; exact Nat.one_pos
  | succ k ih =>
    intro h
    have h1 := ih (fun i hi => h i (by omega))
    have h2 := h k (by omega)
    show pkW b o f k * b + (f k - o) < b ^ k * b
    have h3 : (pkW b o f k + 1) * b ≤ b ^ k * b := Nat.mul_le_mul_right b h1
    rw [Nat.add_mul, Nat.one_mul] at h3
    omega
theorem pkW_inj {b o : Nat} {f f' : Nat → Nat} : ∀ k k', (∀ i, i < k → o < f i ∧ f i - o < b) → (∀ i, i < k' → o < f' i ∧ f' i - o < b) → pkW b o f k = pkW b o f' k' → k = k' ∧ ∀ i, i < k → f i = f' i := by
  intro k
  induction k with
  | zero =>
    intro k' _ h' e
    cases k' with
    | zero => exact ⟨rfl, fun i hi => by omega⟩
    | succ k' =>
      have := h' k' (by omega)
      have e' : 0 = pkW b o f' k' * b + (f' k' - o) := e
      omega
  | succ k ih =>
    intro k' h h' e
    cases k' with
    | zero =>
      have := h k (by omega)
      have e' : pkW b o f k * b + (f k - o) = 0 := e
      omega
    | succ k' =>
      have a1 := h k (by omega)
      have a2 := h' k' (by omega)
      have e' : pkW b o f k * b + (f k - o) = pkW b o f' k' * b + (f' k' - o) := e
      have bp : 0 < b := by omega
      have m1 : (pkW b o f k * b + (f k - o)) % b = f k - o := by rw [Nat.mul_comm, Nat.mul_add_mod, Nat.mod_eq_of_lt a1.2]
      have m2 : (pkW b o f' k' * b + (f' k' - o)) % b = f' k' - o := by rw [Nat.mul_comm, Nat.mul_add_mod, Nat.mod_eq_of_lt a2.2]
      have ex : f k - o = f' k' - o := by rw [← m1, ← m2, e']
      have eA : pkW b o f k = pkW b o f' k' := by
        have : pkW b o f k * b = pkW b o f' k' * b := by omega
        exact Nat.eq_of_mul_eq_mul_right bp this
      obtain ⟨q1, q2⟩ := ih k' (fun i hi => h i (by omega)) (fun i hi => h' i (by omega)) eA
      subst q1
      refine ⟨rfl, fun i hi => ?_⟩
      by_cases y : i = k
      · subst y; omega
      · exact q2 i (by omega)
theorem pkW_cg {b o : Nat} {f f' : Nat → Nat} : ∀ k, (∀ i, i < k → f i = f' i) → pkW b o f k = pkW b o f' k := by
  intro k
  induction k with
  | zero => intro _; rfl
  | succ k ih =>
    intro h
    show pkW b o f k * b + (f k - o) = pkW b o f' k * b + (f' k - o)
    rw [ih (fun i hi => h i (by omega)), h k (by omega)]
/-- as the class packs, or as the reference does: one is the same where the other is -/
abbrev cLet (c : Nat) : Prop := 97 ≤ c ∧ c ≤ 122
theorem pkW_same {f f' : Nat → Nat} {k k' : Nat} (h : ∀ i, i < k → cLet (f i)) (h' : ∀ i, i < k' → cLet (f' i)) : pkW 27 96 f k = pkW 27 96 f' k' ↔ pkW 256 0 f k = pkW 256 0 f' k' := by
  constructor
  · intro e
    obtain ⟨q1, q2⟩ := pkW_inj k k' (fun i hi => by have := h i hi; omega) (fun i hi => by have := h' i hi; omega) e
    subst q1; exact pkW_cg k q2
  · intro e
    obtain ⟨q1, q2⟩ := pkW_inj k k' (fun i hi => by have := h i hi; omega) (fun i hi => by have := h' i hi; omega) e
    subst q1; exact pkW_cg k q2
theorem pkW_8 {b o : Nat} {f : Nat → Nat} {k : Nat} (hb : b ≤ 256) (b1 : 1 ≤ b) (hk : k ≤ 8) (h : ∀ i, i < k → f i - o < b) : pkW b o f k < 2 ^ 64 := by
  have h1 := pkW_lt k h
  have h2 : b ^ k ≤ 256 ^ 8 := Nat.le_trans (Nat.pow_le_pow_left hb k) (Nat.pow_le_pow_right (by decide) hk)
  have h3 : 256 ^ 8 = 2 ^ 64 := by decide
  omega
