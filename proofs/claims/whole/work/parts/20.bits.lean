/-! rows on bits, shifts and unsigned numbers, to paste: each family out of a closed proof of our own, whole with what it rests on; each by itself clean at Lean in its own claim (generation 39, form 5). Take a family whole -/
/-! ===== Int32 by its bits: bt x i ===== -/
def bt (x : Int32) (i : Nat) : Bool := x.toBitVec.getLsbD i
theorem b_ext {x y : Int32} (h : ∀ i, i < 32 → bt x i = bt y i) : x = y := Int32.toBitVec_inj.mp (BitVec.eq_of_getLsbD_eq (fun i hi => h i hi))
theorem b_or (x y : Int32) (i : Nat) : bt (x ||| y) i = (bt x i || bt y i) := by unfold bt; rw [Int32.toBitVec_or, BitVec.getLsbD_or]
theorem b_and (x y : Int32) (i : Nat) : bt (x &&& y) i = (bt x i && bt y i) := by unfold bt; rw [Int32.toBitVec_and, BitVec.getLsbD_and]
theorem b_xor (x y : Int32) (i : Nat) : bt (x ^^^ y) i = (bt x i ^^ bt y i) := by unfold bt; rw [Int32.toBitVec_xor, BitVec.getLsbD_xor]
theorem b_big {x : Int32} {i : Nat} (h : 32 ≤ i) : bt x i = false := BitVec.getLsbD_of_ge _ _ h
theorem b_255 (i : Nat) : bt 255 i = decide (i < 8) := by
  rcases Nat.lt_or_ge i 32 with h | h
  · exact (by decide +kernel : ∀ i, i < 32 → bt 255 i = decide (i < 8)) i h
  · rw [b_big h, decide_eq_false (by omega)]
theorem b_65535 (i : Nat) : bt 65535 i = decide (i < 16) := by
  rcases Nat.lt_or_ge i 32 with h | h
  · exact (by decide +kernel : ∀ i, i < 32 → bt 65535 i = decide (i < 16)) i h
  · rw [b_big h, decide_eq_false (by omega)]
theorem b_m1 : ∀ i, i < 32 → bt (-1) i = true := by decide +kernel
theorem b_0 (i : Nat) : bt 0 i = false := BitVec.getLsbD_zero
theorem s_l : ∀ n, n < 32 → ((nI n &&& 31).toBitVec.smod 32).toNat = n := by decide +kernel
theorem s_u : ∀ n, n < 32 → (((nI n).toUInt32 &&& Int32.toUInt32 31).toBitVec % 32).toNat = n := by decide +kernel
theorem b_shl (n : Nat) (hn : n < 32) (x : Int32) {i : Nat} (hi : i < 32) : bt (x <<< (nI n &&& 31)) i = (decide (n ≤ i) && bt x (i - n)) := by
  unfold bt
  rw [Int32.toBitVec_shiftLeft]
  show (x.toBitVec <<< ((nI n &&& 31).toBitVec.smod 32).toNat).getLsbD i = _
  rw [s_l n hn, BitVec.getLsbD_shiftLeft]
  rcases Nat.lt_or_ge i n with h | h
  · simp [h, Nat.not_le.mpr h]
  · simp [hi, h, Nat.not_lt.mpr h]
theorem b_ushr (n : Nat) (hn : n < 32) (x : Int32) (i : Nat) : bt ((x.toUInt32 >>> ((nI n).toUInt32 &&& Int32.toUInt32 31)).toInt32) i = bt x (n + i) := by
  show (x.toUInt32 >>> ((nI n).toUInt32 &&& Int32.toUInt32 31)).toBitVec.getLsbD i = x.toUInt32.toBitVec.getLsbD (n + i)
  rw [UInt32.toBitVec_shiftRight]
  show (x.toUInt32.toBitVec >>> (((nI n).toUInt32 &&& Int32.toUInt32 31).toBitVec % 32).toNat).getLsbD i = _
  rw [s_u n hn, BitVec.getLsbD_ushiftRight]
theorem b_sshr (n : Nat) (hn : n < 32) (x : Int32) {i : Nat} (hi : i < 32) : bt (x >>> (nI n &&& 31)) i = if n + i < 32 then bt x (n + i) else bt x 31 := by
  unfold bt
  rw [Int32.toBitVec_shiftRight]
  show (x.toBitVec.sshiftRight ((nI n &&& 31).toBitVec.smod 32).toNat).getLsbD i = _
  rw [s_l n hn, BitVec.getLsbD_sshiftRight, BitVec.msb_eq_getLsbD_last]
  simp [hi]
/-! SETS AS BITS -/
theorem bt_one (i : Nat) : bt 1 i = decide (i = 0) := by
  by_cases h : i < 32
  · revert i; decide +kernel
  · rw [b_big (by omega)]; exact (decide_eq_false (by omega)).symm
theorem bt_sh {n : Nat} (hn : n < 32) {i : Nat} (hi : i < 32) : bt ((1 : Int32) <<< (nI n &&& 31)) i = decide (i = n) := by
  rw [b_shl n hn 1 hi, bt_one]
  by_cases h : i = n
  · subst h; simp
  · by_cases h2 : n ≤ i
    · rw [show decide (i - n = 0) = false from decide_eq_false (by omega), decide_eq_false h, Bool.and_false]
    · rw [show decide (n ≤ i) = false from decide_eq_false h2, decide_eq_false h, Bool.false_and]
theorem bt_sh0 {n : Nat} (hn : n < 32) : ((0 : Int32) <<< (nI n &&& 31)) = 0 := b_ext (fun i hi => by rw [b_shl n hn 0 hi, b_0, b_0, Bool.and_false])
theorem and_one (x : Int32) : x &&& 1 = if bt x 0 then 1 else 0 := by
  refine b_ext (fun i hi => ?_)
  rw [b_and, bt_one]
  by_cases h : i = 0
  · subst h
    cases hx : bt x 0 <;> simp [bt_one, b_0]
  · rw [decide_eq_false h, Bool.and_false]
    cases hx : bt x 0
    · exact (b_0 i).symm
    · show false = bt 1 i
      rw [bt_one, decide_eq_false h]
theorem test_bit {n : Nat} (hn : n < 32) (x : Int32) : ((x >>> (nI n &&& 31)) &&& 1) = if bt x n then 1 else 0 := by
  have e : bt (x >>> (nI n &&& 31)) 0 = bt x n := by
    rw [b_sshr n hn x (i := 0) (by omega)]
    simp [hn]
  rw [and_one, e]
theorem test_1 {n : Nat} (hn : n < 32) (x : Int32) : ((x >>> (nI n &&& 31)) &&& 1) = 1 ↔ bt x n = true := by
  rw [test_bit hn]
  cases bt x n <;> decide
theorem test_0 {n : Nat} (hn : n < 32) (x : Int32) : ((x >>> (nI n &&& 31)) &&& 1) = 0 ↔ bt x n = false := by
  rw [test_bit hn]
  cases bt x n <;> decide
/-- the set of those below n of which p says so -/
def xset (n : Nat) (p : Nat → Bool) : Int32 := xfold n (fun i s => if p i then s ||| ((1 : Int32) <<< (nI i &&& 31)) else s) 0
theorem bt_xset {n : Nat} (hn : n ≤ 32) (p : Nat → Bool) {i : Nat} (hi : i < 32) : bt (xset n p) i = (decide (i < n) && p i) := by
  induction n with
  | zero => rw [show xset 0 p = 0 from rfl, b_0]; simp
  | succ n ih =>
    have e := ih (by omega)
    unfold xset at e ⊢
    rw [xfold_s]
    by_cases hp : p n = true
    · rw [if_pos hp, b_or, e, bt_sh (by omega) hi]
      by_cases h : i = n
      · subst h; simp [hp]
      · rw [decide_eq_false h, Bool.or_false]
        by_cases h2 : i < n
        · rw [decide_eq_true h2, decide_eq_true (show i < n + 1 by omega)]
        · rw [decide_eq_false h2, decide_eq_false (show ¬ i < n + 1 by omega)]
    · rw [if_neg hp, e]
      by_cases h : i = n
      · subst h; simp [hp]
      · by_cases h2 : i < n
        · rw [decide_eq_true h2, decide_eq_true (show i < n + 1 by omega)]
        · rw [decide_eq_false h2, decide_eq_false (show ¬ i < n + 1 by omega)]
theorem xset_s (n : Nat) (p : Nat → Bool) : xset (n + 1) p = if p n then xset n p ||| ((1 : Int32) <<< (nI n &&& 31)) else xset n p := rfl
theorem xset_congr {n : Nat} {p q : Nat → Bool} (h : ∀ i, i < n → p i = q i) : xset n p = xset n q := xfold_congr (fun k y hk => by rw [h k hk])
/-- a set is known by its bits -/
theorem xset_of {n : Nat} (hn : n ≤ 32) {s : Int32} (h : ∀ i, n ≤ i → i < 32 → bt s i = false) : xset n (bt s) = s := b_ext (fun i hi => by
  rw [bt_xset hn _ hi]
  by_cases q : i < n
  · rw [decide_eq_true q, Bool.true_and]
  · rw [decide_eq_false q, Bool.false_and, h i (by omega) hi])
