/-! where everything lies: the cells that law, class and reference make, in the order in which they are made; the places below 8 stand for what was there before -/
abbrev xKd : Type := Nat ⊕ (FieldType × Nat)
def xA (n : Nat) : xKd := .inr (.int, n)
def xLst : List xKd := [.inl 9, xA 6, xA 6, xA 6, xA 6, xA 10, xA 10, xA 10, xA 10, xA 10, xA 10, xA 10]
def xLln : List xKd := [.inl 2, xA 12, xA 12, xA 12, xA 6, xA 6, xA 6, xA 6, xA 8, xA 8, xA 8, xA 8, .inl 1, xA 270, xA 30]
def xLrd : List xKd := [.inl 7, .inl 10, .inr (.byte, 1600), xA 1601, .inr (.long, 1601), xA 1601, .inr (.long, 19), .inl 5, .inr (.long, 7), .inl 5, .inr (.long, 6), .inl 5, .inr (.long, 8)]
def xL77 : List xKd := [.inr (.array .int, 7), xA 7, xA 7, xA 7, xA 7, xA 7, xA 7, xA 7]
def xLco : List xKd := [.inl 0, .inl 8] ++ (xL77 ++ (xL77 ++ (xL77 ++ [xA 7])))
def xLlk : List xKd := [.inl 3] ++ (xLst ++ [xA 7, xA 300, xA 7, .inr (.array .int, 6), xA 7, xA 7, xA 7, xA 7, xA 7, xA 7, .inr (.array .int, 2), xA 10, xA 10])
def xSts : Nat → List xKd
  | 0 => []
  | n + 1 => xLst ++ xSts n
def xTst : FieldType := .object "FuneralPost$State"
def xLmo : List xKd := [.inl 12, xA 1600, .inr (.long, 21), xA 320, xA 320, xA 320, xA 320, xA 160, xA 64, xA 4, xA 12, xA 12, xA 12, xA 12, xA 12, xA 12, xA 6, xA 6, xA 6, xA 6, xA 6, xA 6, xA 6, xA 6, xA 8, xA 8, xA 8, xA 8, xA 92, xA 92, xA 49, xA 20, xA 3680, xA 42, xA 7, xA 20, xA 30, xA 30, xA 30, .inr (.boolean, 30), xA 7, .inr (.boolean, 3), xA 276]
def xLay : List xKd := [.inl 11] ++ (xLrd ++ (xLln ++ (xLln ++ (xLco ++ (xLlk ++ (xLst ++ ([.inl 6, .inr (xTst, 41)] ++ (xSts 41 ++ ([.inl 4, xA 30, .inr (.boolean, 30), xA 30, xA 30, .inr (xTst, 3)] ++ (xSts 3 ++ ([.inr (.boolean, 3), xA 300] ++ xLmo)))))))))))
/-- what lies at a place -/
def xKK (a : Nat) : Option xKd := if a < 8 then none else xLay[a - 8]?
/-- behind the last place -/
abbrev xNX : Nat := 698
theorem xLay_len : xLay.length = 690 := by decide +kernel
theorem xKK_lt {a : Nat} {kd : xKd} (h : xKK a = some kd) : a < 698 := by
  unfold xKK at h
  by_cases h8 : a < 8
  · rw [if_pos h8] at h; cases h
  · rw [if_neg h8] at h
    have h1 := (List.getElem?_eq_some_iff.mp h).1
    rw [xLay_len] at h1
    omega
theorem xKK_ge {a : Nat} {kd : xKd} (h : xKK a = some kd) : 8 ≤ a := by
  unfold xKK at h
  by_cases h8 : a < 8
  · rw [if_pos h8] at h; cases h
  · omega
/-- how many fields an object of a class has -/
def xNf (ci : Nat) : Nat := match vwCl[ci]? with
  | some r => r.2.2
  | none => 0
def xks : Option xKd → Nat
  | some (.inl ci) => xNf ci
  | some (.inr q) => q.2
  | none => 0
/-- fields and elements ahead of a place -/
def xsl : Nat → Nat
  | 0 => 0
  | n + 1 => xsl n + xks (xKK n)
theorem xsl_le {a b : Nat} (h : a ≤ b) : xsl a ≤ xsl b := by
  induction b with
  | zero => rw [Nat.le_zero.mp h]; exact Nat.le_refl _
  | succ n ih =>
    rcases Nat.lt_or_ge n a with q | q
    · have : a = n + 1 := by omega
      rw [this]; exact Nat.le_refl _
    · exact Nat.le_trans (ih q) (by show xsl n ≤ xsl n + _; omega)
/-- the types of a class's fields -/
def xty (ci : Nat) : Nat → FieldType := match ci with
  | 0 => tyX0
  | 1 => tyX1
  | 2 => tyX2
  | 3 => tyX3
  | 4 => tyX4
  | 5 => tyX5
  | 6 => tyX6
  | 7 => tyX7
  | 8 => tyX8
  | 9 => tyX9
  | 10 => tyX10
  | 11 => tyX11
  | _ => tyX12
