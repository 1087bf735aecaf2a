/-! small helps for the T-rows -/
/-- ls' knows no more than ls -/
def xfw : List (Option Value) → List (Option Value) → Prop
  | [], _ => True
  | none :: a, _ :: b => xfw a b
  | some v :: a, some v' :: b => v = v' ∧ xfw a b
  | _, _ => False
theorem xfw_nil (b : List (Option Value)) : xfw [] b := trivial
theorem xfw_n {a b : List (Option Value)} {y : Option Value} (h : xfw a b) : xfw (none :: a) (y :: b) := h
theorem xfw_s {a b : List (Option Value)} {v : Value} (h : xfw a b) : xfw (some v :: a) (some v :: b) := ⟨rfl, h⟩
theorem xfw_get : ∀ {a b : List (Option Value)}, xfw a b → ∀ (i : Nat) (v : Value), a[i]? = some (some v) → b[i]? = some (some v) := by
  intro a
  induction a with
  | nil => intro b _ i v h; simp at h
  | cons y a ih =>
    intro b hb i v h
    cases y with
    | none =>
      cases b with
      | nil => exact hb.elim
      | cons z b =>
        cases i with
        | zero => simp at h
        | succ i => exact ih (b := b) hb i v (by simpa using h)
    | some y =>
      cases b with
      | nil => exact hb.elim
      | cons z b =>
        cases z with
        | none => exact hb.elim
        | some z =>
          obtain ⟨rfl, hb⟩ := hb
          cases i with
          | zero => simpa using h
          | succ i => simpa using ih (b := b) hb i v (by simpa using h)
/-- 1 where it holds, else 0 -/
def xb (p : Prop) [Decidable p] : Int32 := if p then 1 else 0
theorem xb_pos {p : Prop} [Decidable p] (h : p) : xb p = 1 := if_pos h
theorem xb_neg {p : Prop} [Decidable p] (h : ¬ p) : xb p = 0 := if_neg h
theorem xb01 (p : Prop) [Decidable p] : xb p = 0 ∨ xb p = 1 := by
  by_cases h : p
  · exact Or.inr (xb_pos h)
  · exact Or.inl (xb_neg h)
theorem xb_eq0 {p : Prop} [Decidable p] : xb p = 0 ↔ ¬ p := by
  by_cases h : p
  · rw [xb_pos h]; exact ⟨fun q => absurd q (by decide), fun q => absurd h q⟩
  · rw [xb_neg h]; exact ⟨fun _ => h, fun _ => rfl⟩
theorem xrokZ {v : Int32} (h : v = 0 ∨ v = 1) : xrok (some .boolean) (some (.int v)) := by rcases h with rfl | rfl <;> rfl
section XHELP
variable {g : xGT} {d : Nat} {mi : xMI} {pc : Nat} {ls : List (Option Value)} {st : List Value} {nx nx' : Nat} {u : xU} {w : xW} {r : xQ} {P : xPost}
theorem xtop {x y : Int32} (h : x = y) (k : xEv g d mi pc ls (.int x :: st) nx u w r nx' P) : xEv g d mi pc ls (.int y :: st) nx u w r nx' P := h ▸ k
/-- Math.max and Math.min as they are linked -/
def xLM (own : String) (idx : Nat) (y : MethodName) (cc : ByteArray) : Prop := Cond.methodLink own idx y ∈ xT ∧ Cond.static y ∈ xT ∧ Cond.initialized "java/lang/Math" ∈ xT ∧ Cond.code y cc 2 (some .int) ∈ xT
theorem xe_mmax {idx : Nat} {x y : Int32} (hd : decode mi.2.1 pc = .ok (.invokestatic idx, 3)) (hk : xLM mi.1.cls idx Lib.Math.max.name Lib.Math.max.code) (hsm : (st.map fun v => v.category).sum ≤ 8) (kk : xEv g (d + 1) mi (pc + 3) ls (.int (if x < y then y else x) :: st) nx u w r nx' P) : xEv g (d + 1) mi pc ls (.int y :: .int x :: st) nx u w r nx' P := by
  refine ⟨kk.1, fun p e R s m args below meth c H locs n1 rl Q F G hR hl hn1 hdR hL hcc hss ho hQ => ?_⟩
  have hsum : (((st.map (xv g)).map fun v => v.category).sum) ≤ 8 := by
    rw [List.map_map]
    rw [show ((fun v : Value => v.category) ∘ xv g) = (fun v : Value => v.category) from funext fun v => xv_cat g v]
    exact hsm
  have h1 := kk.1
  have m1 := xsl_le h1
  have m3 := xsl_le hn1
  exact va_mmax F.1 F.2.1 (F.2.2.1.trans ho.1.symm) F.2.2.2.1 (F.2.2.2.2.1 _ hk.1) (F.2.2.2.2.1 _ hk.2.1) (F.2.2.2.2.1 _ hk.2.2.1) (F.2.2.2.2.1 _ hk.2.2.2) (by omega) (by omega) (by omega) (by omega) hd (kk.2 p e R s m args below meth c H locs n1 rl Q F G hR hl hn1 hdR hL hcc hss ho hQ)
theorem xe_mmin {idx : Nat} {x y : Int32} (hd : decode mi.2.1 pc = .ok (.invokestatic idx, 3)) (hk : xLM mi.1.cls idx Lib.Math.min.name Lib.Math.min.code) (hsm : (st.map fun v => v.category).sum ≤ 8) (kk : xEv g (d + 1) mi (pc + 3) ls (.int (if y < x then y else x) :: st) nx u w r nx' P) : xEv g (d + 1) mi pc ls (.int y :: .int x :: st) nx u w r nx' P := by
  refine ⟨kk.1, fun p e R s m args below meth c H locs n1 rl Q F G hR hl hn1 hdR hL hcc hss ho hQ => ?_⟩
  have hsum : (((st.map (xv g)).map fun v => v.category).sum) ≤ 8 := by
    rw [List.map_map]
    rw [show ((fun v : Value => v.category) ∘ xv g) = (fun v : Value => v.category) from funext fun v => xv_cat g v]
    exact hsm
  have h1 := kk.1
  have m1 := xsl_le h1
  have m3 := xsl_le hn1
  exact va_mmin F.1 F.2.1 (F.2.2.1.trans ho.1.symm) F.2.2.2.1 (F.2.2.2.2.1 _ hk.1) (F.2.2.2.2.1 _ hk.2.1) (F.2.2.2.2.1 _ hk.2.2.1) (F.2.2.2.2.1 _ hk.2.2.2) (by omega) (by omega) (by omega) (by omega) hd (kk.2 p e R s m args below meth c H locs n1 rl Q F G hR hl hn1 hdR hL hcc hss ho hQ)
/-- the first n places of an array come over those of another one -/
def xcp (f : xU) (a b n : Nat) : xU := fun c j => if c = b ∧ j < n then f a j else f c j
/-- System.arraycopy as it is linked -/
def xLC (own : String) (idx : Nat) : Prop := Cond.methodLink own idx arraycopyName ∈ xT ∧ Cond.native arraycopyName ∈ xT ∧ Cond.static arraycopyName ∈ xT ∧ Cond.initialized "java/lang/System" ∈ xT
theorem xe_copy {idx N a0 a1 n0 n1 : Nat} {n : Int32} (hd : decode mi.2.1 pc = .ok (.invokestatic idx, 3)) (hk : xLC mi.1.cls idx) (hK0 : xKK a0 = some (.inr (.int, n0))) (hK1 : xKK a1 = some (.inr (.int, n1))) (h0 : a0 < nx) (h1 : a1 < nx) (hn : n = Int32.ofNat N) (hN : N < 2 ^ 31) (hle : N ≤ n0 ∧ N ≤ n1) (hsm : (st.map fun v => v.category).sum ≤ 8)
    (kk : xEv g (d + 1) mi (pc + 3) ls st nx (xcp u a0 a1 N) w r nx' P) : xEv g (d + 1) mi pc ls (.int n :: .int 0 :: .ref a1 :: .int 0 :: .ref a0 :: st) nx u w r nx' P := by
  refine ⟨kk.1, fun p e R s m args below meth c H locs k1 rl Q F G hR hl hn1 hdR hL hcc hss ho hQ => ?_⟩
  have hsum : (((st.map (xv g)).map fun v => v.category).sum) ≤ 8 := by
    rw [List.map_map]
    rw [show ((fun v : Value => v.category) ∘ xv g) = (fun v : Value => v.category) from funext fun v => xv_cat g v]
    exact hsm
  have hcn : n.toNatClampNeg = N := by rw [hn]; exact nI_clamp hN
  have hn0 : ¬ n < 0 := by rw [hn]; exact nI_pos hN
  have hc0 : H[xi g a0]? = some (arrV (xDA g .int) n0 (fun j => .int (u a0 j))) := hR.2.2.2 a0 _ h0 hK0
  have hc1 : H[xi g a1]? = some (arrV (xDA g .int) n1 (fun j => .int (u a1 j))) := hR.2.2.2 a1 _ h1 hK1
  intro T hT Xs
  obtain ⟨-, k0, hk0, cm0, hkk0⟩ := (xtys_of (ty := .int) (by simp) G).1 n0 (fun j => .int (u a0 j))
  obtain ⟨-, k2, hk2, cm2, hkk2⟩ := (xtys_of (ty := .int) (by simp) G).1 n1 (fun j => .int (u a1 j))
  have z0 : ((0 : Int32).toNatClampNeg) = 0 := rfl
  have nn : n.toInt = (N : Int) := by rw [hn]; exact nI_toInt hN
  obtain ⟨vm', X', step⟩ := Xs.arraycopy F.1 F.2.2.2.1 (F.2.2.2.2.1 _ hk.1) (F.2.2.2.2.1 _ hk.2.1) (F.2.2.2.2.1 _ hk.2.2.1) (F.2.2.2.2.1 _ hk.2.2.2) (src := xi g a0) (dst := xi g a1) (cs := arrV (xDA g .int) n0 (fun j => .int (u a0 j))) (cd := arrV (xDA g .int) n1 (fun j => .int (u a1 j))) (srcPos := 0) (destPos := 0) (n := n) (by rw [hT]; exact hc0) (by rw [hT]; exact hc1)
    (fun _ h => by cases h) (fun _ h => by cases h) (fun h => by cases h) (fun h => by cases h) hk0 hk2 hkk0 hkk2 (by simp [refKind]) (by decide) (by decide) hn0
    (by rw [nn]; show ¬ (0 : Int) + _ > ((arrV _ n0 _).slots.size : Int); rw [arrV_size]; omega)
    (by rw [nn]; show ¬ (0 : Int) + _ > ((arrV _ n1 _).slots.size : Int); rw [arrV_size]; omega)
    (fun vm₁ _ i hi => by
      have e : (arrV (xDA g .int) n0 (fun j => .int (u a0 j))).slots.getD ((0 : Int32).toNatClampNeg + i) .null = .int (u a0 i) := by
        rw [z0, Nat.zero_add, Array.getD_eq_getD_getElem?, arrV_read _ _ (by omega)]
        rfl
      refine ⟨?_, ?_⟩
      · rw [e]
        rfl
      · rw [e]
        exact trivial)
    (g := F0 m pc rl (.int n :: .int 0 :: .ref (xi g a1) :: .int 0 :: .ref (xi g a0) :: st.map (xv g))) rfl (by rw [F.2.2.1]; exact ho.1) (rest := st.map (xv g)) rfl (by rw [F.2.1]; exact hd) (by omega) (by
      have : nativeFrameWords "java/lang/System" "arraycopy" 5 + 11 ≤ 40 := by decide +kernel
      show 2 * 0 + _ + _ ≤ _
      omega)
  have e1 : copied (arrV (xDA g .int) n0 (fun j => .int (u a0 j))) (arrV (xDA g .int) n1 (fun j => .int (u a1 j))) 0 0 n = arrV (xDA g .int) n1 (fun j => .int (xcp u a0 a1 N a1 j)) := by
    have q := va_copied (fun z : Int32 => Value.int z) (xDA g .int) (xDA g .int) (n0 := n0) (n1 := n1) (sp := 0) (dp := 0) (n := N) (u a0) (u a1) (by omega)
    show (arrV (xDA g .int) n1 (fun j => Value.int (u a1 j))).storeRun ((0 : Int32).toNatClampNeg) ((arrV (xDA g .int) n0 (fun j => Value.int (u a0 j))).stretch ((0 : Int32).toNatClampNeg) n.toNatClampNeg) = _
    rw [z0, hcn]
    refine q.trans ?_
    congr 1
    funext j
    unfold va_cpy xcp
    simp
  rw [e1] at X' step
  have hlt : xi g a1 < H.size := (Array.getElem?_eq_some_iff.mp hc1).1
  have hheap : ((T.setVm vm').setCell (xi g a1) (arrV (xDA g .int) n1 (fun j => .int (xcp u a0 a1 N a1 j)))).heap = H.setIfInBounds (xi g a1) (arrV (xDA g .int) n1 (fun j => .int (xcp u a0 a1 N a1 j))) := by rw [← hT]; rfl
  have oq : ∀ q : Nat, q ≠ xi g a1 → (H.setIfInBounds (xi g a1) (arrV (xDA g .int) n1 (fun j => .int (xcp u a0 a1 N a1 j))))[q]? = H[q]? := fun q hq => by simp [Array.getElem?_setIfInBounds, Ne.symm hq]
  have hR' : xR g nx (xcp u a0 a1 N) w r (H.setIfInBounds (xi g a1) (arrV (xDA g .int) n1 (fun j => .int (xcp u a0 a1 N a1 j)))) := by
    refine hR.put (xKK_ge hK1) (by simp) oq (fun kd hkd => ?_) (fun b i hb => ?_) (fun _ _ _ => rfl) (fun _ _ _ => rfl)
    · cases hK1.symm.trans hkd
      show (H.setIfInBounds (xi g a1) _)[xi g a1]? = some _
      simp [Array.getElem?_setIfInBounds, hlt]
      rfl
    · unfold xcp
      rw [if_neg (fun z => hb z.1)]
  obtain ⟨t, a2, b2⟩ := kk.2 p e R s m args below meth c _ (locs ++ _) k1 rl Q F G hR' (fun q hq => by
      rcases List.mem_append.mp hq with h | h
      · exact hl q h
      · obtain ⟨z, -, hz⟩ := List.mem_map.mp h
        rw [← hz]
        exact xi_zle (xKK_ge hK1)) hn1 hdR hL hcc hss ho hQ _ hheap X'
  exact ⟨t, step t a2, b2⟩
end XHELP
theorem plX0 : plainName RX0 = true := by decide +kernel
theorem plX1 : plainName RX1 = true := by decide +kernel
theorem plX2 : plainName RX2 = true := by decide +kernel
theorem plX3 : plainName RX3 = true := by decide +kernel
theorem plX4 : plainName RX4 = true := by decide +kernel
theorem plX5 : plainName RX5 = true := by decide +kernel
theorem plX6 : plainName RX6 = true := by decide +kernel
theorem plX7 : plainName RX7 = true := by decide +kernel
theorem plX8 : plainName RX8 = true := by decide +kernel
theorem plX9 : plainName RX9 = true := by decide +kernel
theorem plX10 : plainName RX10 = true := by decide +kernel
theorem plX11 : plainName RX11 = true := by decide +kernel
theorem plX12 : plainName RX12 = true := by decide +kernel
theorem yf0_0 : ∀ q : vw_C, vwCl[0]? = some q → (q.2.1 0).2.2.2 = true ∧ (q.2.1 0).1 = RX0 := fun q h => by cases h; exact ⟨rfl, rfl⟩
theorem nf0_1 : ∀ q : vw_C, vwCl[0]? = some q → (q.2.1 1).2.2.2 = false := fun q h => by cases h; rfl
theorem yf1_0 : ∀ q : vw_C, vwCl[1]? = some q → (q.2.1 0).2.2.2 = true ∧ (q.2.1 0).1 = RX1 := fun q h => by cases h; exact ⟨rfl, rfl⟩
theorem yf1_1 : ∀ q : vw_C, vwCl[1]? = some q → (q.2.1 1).2.2.2 = true ∧ (q.2.1 1).1 = RX1 := fun q h => by cases h; exact ⟨rfl, rfl⟩
theorem nf1_2 : ∀ q : vw_C, vwCl[1]? = some q → (q.2.1 2).2.2.2 = false := fun q h => by cases h; rfl
theorem nf1_3 : ∀ q : vw_C, vwCl[1]? = some q → (q.2.1 3).2.2.2 = false := fun q h => by cases h; rfl
theorem nf2_0 : ∀ q : vw_C, vwCl[2]? = some q → (q.2.1 0).2.2.2 = false := fun q h => by cases h; rfl
theorem nf2_1 : ∀ q : vw_C, vwCl[2]? = some q → (q.2.1 1).2.2.2 = false := fun q h => by cases h; rfl
theorem yf2_2 : ∀ q : vw_C, vwCl[2]? = some q → (q.2.1 2).2.2.2 = true ∧ (q.2.1 2).1 = RX2 := fun q h => by cases h; exact ⟨rfl, rfl⟩
theorem yf2_3 : ∀ q : vw_C, vwCl[2]? = some q → (q.2.1 3).2.2.2 = true ∧ (q.2.1 3).1 = RX2 := fun q h => by cases h; exact ⟨rfl, rfl⟩
theorem yf2_4 : ∀ q : vw_C, vwCl[2]? = some q → (q.2.1 4).2.2.2 = true ∧ (q.2.1 4).1 = RX2 := fun q h => by cases h; exact ⟨rfl, rfl⟩
theorem nf2_5 : ∀ q : vw_C, vwCl[2]? = some q → (q.2.1 5).2.2.2 = false := fun q h => by cases h; rfl
theorem yf2_6 : ∀ q : vw_C, vwCl[2]? = some q → (q.2.1 6).2.2.2 = true ∧ (q.2.1 6).1 = RX2 := fun q h => by cases h; exact ⟨rfl, rfl⟩
theorem yf2_7 : ∀ q : vw_C, vwCl[2]? = some q → (q.2.1 7).2.2.2 = true ∧ (q.2.1 7).1 = RX2 := fun q h => by cases h; exact ⟨rfl, rfl⟩
theorem yf2_8 : ∀ q : vw_C, vwCl[2]? = some q → (q.2.1 8).2.2.2 = true ∧ (q.2.1 8).1 = RX2 := fun q h => by cases h; exact ⟨rfl, rfl⟩
theorem yf2_9 : ∀ q : vw_C, vwCl[2]? = some q → (q.2.1 9).2.2.2 = true ∧ (q.2.1 9).1 = RX2 := fun q h => by cases h; exact ⟨rfl, rfl⟩
theorem nf2_10 : ∀ q : vw_C, vwCl[2]? = some q → (q.2.1 10).2.2.2 = false := fun q h => by cases h; rfl
theorem yf2_11 : ∀ q : vw_C, vwCl[2]? = some q → (q.2.1 11).2.2.2 = true ∧ (q.2.1 11).1 = RX2 := fun q h => by cases h; exact ⟨rfl, rfl⟩
theorem yf2_12 : ∀ q : vw_C, vwCl[2]? = some q → (q.2.1 12).2.2.2 = true ∧ (q.2.1 12).1 = RX2 := fun q h => by cases h; exact ⟨rfl, rfl⟩
theorem yf2_13 : ∀ q : vw_C, vwCl[2]? = some q → (q.2.1 13).2.2.2 = true ∧ (q.2.1 13).1 = RX2 := fun q h => by cases h; exact ⟨rfl, rfl⟩
theorem yf2_14 : ∀ q : vw_C, vwCl[2]? = some q → (q.2.1 14).2.2.2 = true ∧ (q.2.1 14).1 = RX2 := fun q h => by cases h; exact ⟨rfl, rfl⟩
theorem nf2_15 : ∀ q : vw_C, vwCl[2]? = some q → (q.2.1 15).2.2.2 = false := fun q h => by cases h; rfl
theorem nf2_16 : ∀ q : vw_C, vwCl[2]? = some q → (q.2.1 16).2.2.2 = false := fun q h => by cases h; rfl
theorem yf2_17 : ∀ q : vw_C, vwCl[2]? = some q → (q.2.1 17).2.2.2 = true ∧ (q.2.1 17).1 = RX2 := fun q h => by cases h; exact ⟨rfl, rfl⟩
theorem yf3_0 : ∀ q : vw_C, vwCl[3]? = some q → (q.2.1 0).2.2.2 = true ∧ (q.2.1 0).1 = RX3 := fun q h => by cases h; exact ⟨rfl, rfl⟩
theorem yf3_1 : ∀ q : vw_C, vwCl[3]? = some q → (q.2.1 1).2.2.2 = true ∧ (q.2.1 1).1 = RX3 := fun q h => by cases h; exact ⟨rfl, rfl⟩
theorem yf3_2 : ∀ q : vw_C, vwCl[3]? = some q → (q.2.1 2).2.2.2 = true ∧ (q.2.1 2).1 = RX3 := fun q h => by cases h; exact ⟨rfl, rfl⟩
theorem yf3_3 : ∀ q : vw_C, vwCl[3]? = some q → (q.2.1 3).2.2.2 = true ∧ (q.2.1 3).1 = RX3 := fun q h => by cases h; exact ⟨rfl, rfl⟩
theorem nf3_4 : ∀ q : vw_C, vwCl[3]? = some q → (q.2.1 4).2.2.2 = false := fun q h => by cases h; rfl
theorem nf3_5 : ∀ q : vw_C, vwCl[3]? = some q → (q.2.1 5).2.2.2 = false := fun q h => by cases h; rfl
theorem yf3_6 : ∀ q : vw_C, vwCl[3]? = some q → (q.2.1 6).2.2.2 = true ∧ (q.2.1 6).1 = RX3 := fun q h => by cases h; exact ⟨rfl, rfl⟩
theorem nf3_7 : ∀ q : vw_C, vwCl[3]? = some q → (q.2.1 7).2.2.2 = false := fun q h => by cases h; rfl
theorem nf3_8 : ∀ q : vw_C, vwCl[3]? = some q → (q.2.1 8).2.2.2 = false := fun q h => by cases h; rfl
theorem yf3_9 : ∀ q : vw_C, vwCl[3]? = some q → (q.2.1 9).2.2.2 = true ∧ (q.2.1 9).1 = RX3 := fun q h => by cases h; exact ⟨rfl, rfl⟩
theorem yf3_10 : ∀ q : vw_C, vwCl[3]? = some q → (q.2.1 10).2.2.2 = true ∧ (q.2.1 10).1 = RX3 := fun q h => by cases h; exact ⟨rfl, rfl⟩
theorem nf3_11 : ∀ q : vw_C, vwCl[3]? = some q → (q.2.1 11).2.2.2 = false := fun q h => by cases h; rfl
theorem nf3_12 : ∀ q : vw_C, vwCl[3]? = some q → (q.2.1 12).2.2.2 = false := fun q h => by cases h; rfl
theorem nf3_13 : ∀ q : vw_C, vwCl[3]? = some q → (q.2.1 13).2.2.2 = false := fun q h => by cases h; rfl
theorem yf4_0 : ∀ q : vw_C, vwCl[4]? = some q → (q.2.1 0).2.2.2 = true ∧ (q.2.1 0).1 = RX4 := fun q h => by cases h; exact ⟨rfl, rfl⟩
theorem yf4_1 : ∀ q : vw_C, vwCl[4]? = some q → (q.2.1 1).2.2.2 = true ∧ (q.2.1 1).1 = RX4 := fun q h => by cases h; exact ⟨rfl, rfl⟩
theorem yf4_2 : ∀ q : vw_C, vwCl[4]? = some q → (q.2.1 2).2.2.2 = true ∧ (q.2.1 2).1 = RX4 := fun q h => by cases h; exact ⟨rfl, rfl⟩
theorem yf4_3 : ∀ q : vw_C, vwCl[4]? = some q → (q.2.1 3).2.2.2 = true ∧ (q.2.1 3).1 = RX4 := fun q h => by cases h; exact ⟨rfl, rfl⟩
theorem nf4_4 : ∀ q : vw_C, vwCl[4]? = some q → (q.2.1 4).2.2.2 = false := fun q h => by cases h; rfl
theorem nf4_5 : ∀ q : vw_C, vwCl[4]? = some q → (q.2.1 5).2.2.2 = false := fun q h => by cases h; rfl
theorem yf5_0 : ∀ q : vw_C, vwCl[5]? = some q → (q.2.1 0).2.2.2 = true ∧ (q.2.1 0).1 = RX5 := fun q h => by cases h; exact ⟨rfl, rfl⟩
theorem nf5_1 : ∀ q : vw_C, vwCl[5]? = some q → (q.2.1 1).2.2.2 = false := fun q h => by cases h; rfl
theorem yf6_0 : ∀ q : vw_C, vwCl[6]? = some q → (q.2.1 0).2.2.2 = true ∧ (q.2.1 0).1 = RX6 := fun q h => by cases h; exact ⟨rfl, rfl⟩
theorem nf6_1 : ∀ q : vw_C, vwCl[6]? = some q → (q.2.1 1).2.2.2 = false := fun q h => by cases h; rfl
theorem nf6_2 : ∀ q : vw_C, vwCl[6]? = some q → (q.2.1 2).2.2.2 = false := fun q h => by cases h; rfl
theorem nf6_3 : ∀ q : vw_C, vwCl[6]? = some q → (q.2.1 3).2.2.2 = false := fun q h => by cases h; rfl
theorem yf7_0 : ∀ q : vw_C, vwCl[7]? = some q → (q.2.1 0).2.2.2 = true ∧ (q.2.1 0).1 = RX7 := fun q h => by cases h; exact ⟨rfl, rfl⟩
theorem yf7_1 : ∀ q : vw_C, vwCl[7]? = some q → (q.2.1 1).2.2.2 = true ∧ (q.2.1 1).1 = RX7 := fun q h => by cases h; exact ⟨rfl, rfl⟩
theorem yf7_2 : ∀ q : vw_C, vwCl[7]? = some q → (q.2.1 2).2.2.2 = true ∧ (q.2.1 2).1 = RX7 := fun q h => by cases h; exact ⟨rfl, rfl⟩
theorem yf7_3 : ∀ q : vw_C, vwCl[7]? = some q → (q.2.1 3).2.2.2 = true ∧ (q.2.1 3).1 = RX7 := fun q h => by cases h; exact ⟨rfl, rfl⟩
theorem nf7_4 : ∀ q : vw_C, vwCl[7]? = some q → (q.2.1 4).2.2.2 = false := fun q h => by cases h; rfl
theorem nf7_5 : ∀ q : vw_C, vwCl[7]? = some q → (q.2.1 5).2.2.2 = false := fun q h => by cases h; rfl
theorem nf7_6 : ∀ q : vw_C, vwCl[7]? = some q → (q.2.1 6).2.2.2 = false := fun q h => by cases h; rfl
theorem nf7_7 : ∀ q : vw_C, vwCl[7]? = some q → (q.2.1 7).2.2.2 = false := fun q h => by cases h; rfl
theorem nf7_8 : ∀ q : vw_C, vwCl[7]? = some q → (q.2.1 8).2.2.2 = false := fun q h => by cases h; rfl
theorem nf7_9 : ∀ q : vw_C, vwCl[7]? = some q → (q.2.1 9).2.2.2 = false := fun q h => by cases h; rfl
theorem yf8_0 : ∀ q : vw_C, vwCl[8]? = some q → (q.2.1 0).2.2.2 = true ∧ (q.2.1 0).1 = RX8 := fun q h => by cases h; exact ⟨rfl, rfl⟩
theorem yf8_1 : ∀ q : vw_C, vwCl[8]? = some q → (q.2.1 1).2.2.2 = true ∧ (q.2.1 1).1 = RX8 := fun q h => by cases h; exact ⟨rfl, rfl⟩
theorem yf8_2 : ∀ q : vw_C, vwCl[8]? = some q → (q.2.1 2).2.2.2 = true ∧ (q.2.1 2).1 = RX8 := fun q h => by cases h; exact ⟨rfl, rfl⟩
theorem yf8_3 : ∀ q : vw_C, vwCl[8]? = some q → (q.2.1 3).2.2.2 = true ∧ (q.2.1 3).1 = RX8 := fun q h => by cases h; exact ⟨rfl, rfl⟩
theorem nf9_0 : ∀ q : vw_C, vwCl[9]? = some q → (q.2.1 0).2.2.2 = false := fun q h => by cases h; rfl
theorem nf9_1 : ∀ q : vw_C, vwCl[9]? = some q → (q.2.1 1).2.2.2 = false := fun q h => by cases h; rfl
theorem nf9_2 : ∀ q : vw_C, vwCl[9]? = some q → (q.2.1 2).2.2.2 = false := fun q h => by cases h; rfl
theorem yf9_3 : ∀ q : vw_C, vwCl[9]? = some q → (q.2.1 3).2.2.2 = true ∧ (q.2.1 3).1 = RX9 := fun q h => by cases h; exact ⟨rfl, rfl⟩
theorem yf9_4 : ∀ q : vw_C, vwCl[9]? = some q → (q.2.1 4).2.2.2 = true ∧ (q.2.1 4).1 = RX9 := fun q h => by cases h; exact ⟨rfl, rfl⟩
theorem yf9_5 : ∀ q : vw_C, vwCl[9]? = some q → (q.2.1 5).2.2.2 = true ∧ (q.2.1 5).1 = RX9 := fun q h => by cases h; exact ⟨rfl, rfl⟩
theorem yf9_6 : ∀ q : vw_C, vwCl[9]? = some q → (q.2.1 6).2.2.2 = true ∧ (q.2.1 6).1 = RX9 := fun q h => by cases h; exact ⟨rfl, rfl⟩
theorem yf9_7 : ∀ q : vw_C, vwCl[9]? = some q → (q.2.1 7).2.2.2 = true ∧ (q.2.1 7).1 = RX9 := fun q h => by cases h; exact ⟨rfl, rfl⟩
theorem yf9_8 : ∀ q : vw_C, vwCl[9]? = some q → (q.2.1 8).2.2.2 = true ∧ (q.2.1 8).1 = RX9 := fun q h => by cases h; exact ⟨rfl, rfl⟩
theorem yf9_9 : ∀ q : vw_C, vwCl[9]? = some q → (q.2.1 9).2.2.2 = true ∧ (q.2.1 9).1 = RX9 := fun q h => by cases h; exact ⟨rfl, rfl⟩
theorem yf9_10 : ∀ q : vw_C, vwCl[9]? = some q → (q.2.1 10).2.2.2 = true ∧ (q.2.1 10).1 = RX9 := fun q h => by cases h; exact ⟨rfl, rfl⟩
theorem yf9_11 : ∀ q : vw_C, vwCl[9]? = some q → (q.2.1 11).2.2.2 = true ∧ (q.2.1 11).1 = RX9 := fun q h => by cases h; exact ⟨rfl, rfl⟩
theorem yf9_12 : ∀ q : vw_C, vwCl[9]? = some q → (q.2.1 12).2.2.2 = true ∧ (q.2.1 12).1 = RX9 := fun q h => by cases h; exact ⟨rfl, rfl⟩
theorem yf9_13 : ∀ q : vw_C, vwCl[9]? = some q → (q.2.1 13).2.2.2 = true ∧ (q.2.1 13).1 = RX9 := fun q h => by cases h; exact ⟨rfl, rfl⟩
theorem yf10_0 : ∀ q : vw_C, vwCl[10]? = some q → (q.2.1 0).2.2.2 = true ∧ (q.2.1 0).1 = RX10 := fun q h => by cases h; exact ⟨rfl, rfl⟩
theorem nf10_1 : ∀ q : vw_C, vwCl[10]? = some q → (q.2.1 1).2.2.2 = false := fun q h => by cases h; rfl
theorem yf10_2 : ∀ q : vw_C, vwCl[10]? = some q → (q.2.1 2).2.2.2 = true ∧ (q.2.1 2).1 = RX10 := fun q h => by cases h; exact ⟨rfl, rfl⟩
theorem yf10_3 : ∀ q : vw_C, vwCl[10]? = some q → (q.2.1 3).2.2.2 = true ∧ (q.2.1 3).1 = RX10 := fun q h => by cases h; exact ⟨rfl, rfl⟩
theorem yf10_4 : ∀ q : vw_C, vwCl[10]? = some q → (q.2.1 4).2.2.2 = true ∧ (q.2.1 4).1 = RX10 := fun q h => by cases h; exact ⟨rfl, rfl⟩
theorem nf10_5 : ∀ q : vw_C, vwCl[10]? = some q → (q.2.1 5).2.2.2 = false := fun q h => by cases h; rfl
theorem yf10_6 : ∀ q : vw_C, vwCl[10]? = some q → (q.2.1 6).2.2.2 = true ∧ (q.2.1 6).1 = RX10 := fun q h => by cases h; exact ⟨rfl, rfl⟩
theorem yf11_0 : ∀ q : vw_C, vwCl[11]? = some q → (q.2.1 0).2.2.2 = true ∧ (q.2.1 0).1 = RX11 := fun q h => by cases h; exact ⟨rfl, rfl⟩
theorem yf11_1 : ∀ q : vw_C, vwCl[11]? = some q → (q.2.1 1).2.2.2 = true ∧ (q.2.1 1).1 = RX11 := fun q h => by cases h; exact ⟨rfl, rfl⟩
theorem yf11_2 : ∀ q : vw_C, vwCl[11]? = some q → (q.2.1 2).2.2.2 = true ∧ (q.2.1 2).1 = RX11 := fun q h => by cases h; exact ⟨rfl, rfl⟩
theorem yf11_3 : ∀ q : vw_C, vwCl[11]? = some q → (q.2.1 3).2.2.2 = true ∧ (q.2.1 3).1 = RX11 := fun q h => by cases h; exact ⟨rfl, rfl⟩
theorem yf11_4 : ∀ q : vw_C, vwCl[11]? = some q → (q.2.1 4).2.2.2 = true ∧ (q.2.1 4).1 = RX11 := fun q h => by cases h; exact ⟨rfl, rfl⟩
theorem yf11_5 : ∀ q : vw_C, vwCl[11]? = some q → (q.2.1 5).2.2.2 = true ∧ (q.2.1 5).1 = RX11 := fun q h => by cases h; exact ⟨rfl, rfl⟩
theorem yf11_6 : ∀ q : vw_C, vwCl[11]? = some q → (q.2.1 6).2.2.2 = true ∧ (q.2.1 6).1 = RX11 := fun q h => by cases h; exact ⟨rfl, rfl⟩
theorem yf11_7 : ∀ q : vw_C, vwCl[11]? = some q → (q.2.1 7).2.2.2 = true ∧ (q.2.1 7).1 = RX11 := fun q h => by cases h; exact ⟨rfl, rfl⟩
theorem yf11_8 : ∀ q : vw_C, vwCl[11]? = some q → (q.2.1 8).2.2.2 = true ∧ (q.2.1 8).1 = RX11 := fun q h => by cases h; exact ⟨rfl, rfl⟩
theorem nf11_9 : ∀ q : vw_C, vwCl[11]? = some q → (q.2.1 9).2.2.2 = false := fun q h => by cases h; rfl
theorem nf11_10 : ∀ q : vw_C, vwCl[11]? = some q → (q.2.1 10).2.2.2 = false := fun q h => by cases h; rfl
theorem nf11_11 : ∀ q : vw_C, vwCl[11]? = some q → (q.2.1 11).2.2.2 = false := fun q h => by cases h; rfl
theorem yf12_0 : ∀ q : vw_C, vwCl[12]? = some q → (q.2.1 0).2.2.2 = true ∧ (q.2.1 0).1 = RX12 := fun q h => by cases h; exact ⟨rfl, rfl⟩
theorem nf12_1 : ∀ q : vw_C, vwCl[12]? = some q → (q.2.1 1).2.2.2 = false := fun q h => by cases h; rfl
theorem nf12_2 : ∀ q : vw_C, vwCl[12]? = some q → (q.2.1 2).2.2.2 = false := fun q h => by cases h; rfl
theorem nf12_3 : ∀ q : vw_C, vwCl[12]? = some q → (q.2.1 3).2.2.2 = false := fun q h => by cases h; rfl
theorem nf12_4 : ∀ q : vw_C, vwCl[12]? = some q → (q.2.1 4).2.2.2 = false := fun q h => by cases h; rfl
theorem nf12_5 : ∀ q : vw_C, vwCl[12]? = some q → (q.2.1 5).2.2.2 = false := fun q h => by cases h; rfl
theorem nf12_6 : ∀ q : vw_C, vwCl[12]? = some q → (q.2.1 6).2.2.2 = false := fun q h => by cases h; rfl
theorem nf12_7 : ∀ q : vw_C, vwCl[12]? = some q → (q.2.1 7).2.2.2 = false := fun q h => by cases h; rfl
theorem nf12_8 : ∀ q : vw_C, vwCl[12]? = some q → (q.2.1 8).2.2.2 = false := fun q h => by cases h; rfl
theorem nf12_9 : ∀ q : vw_C, vwCl[12]? = some q → (q.2.1 9).2.2.2 = false := fun q h => by cases h; rfl
theorem yf12_10 : ∀ q : vw_C, vwCl[12]? = some q → (q.2.1 10).2.2.2 = true ∧ (q.2.1 10).1 = RX12 := fun q h => by cases h; exact ⟨rfl, rfl⟩
theorem yf12_11 : ∀ q : vw_C, vwCl[12]? = some q → (q.2.1 11).2.2.2 = true ∧ (q.2.1 11).1 = RX12 := fun q h => by cases h; exact ⟨rfl, rfl⟩
theorem yf12_12 : ∀ q : vw_C, vwCl[12]? = some q → (q.2.1 12).2.2.2 = true ∧ (q.2.1 12).1 = RX12 := fun q h => by cases h; exact ⟨rfl, rfl⟩
theorem yf12_13 : ∀ q : vw_C, vwCl[12]? = some q → (q.2.1 13).2.2.2 = true ∧ (q.2.1 13).1 = RX12 := fun q h => by cases h; exact ⟨rfl, rfl⟩
theorem yf12_14 : ∀ q : vw_C, vwCl[12]? = some q → (q.2.1 14).2.2.2 = true ∧ (q.2.1 14).1 = RX12 := fun q h => by cases h; exact ⟨rfl, rfl⟩
theorem yf12_15 : ∀ q : vw_C, vwCl[12]? = some q → (q.2.1 15).2.2.2 = true ∧ (q.2.1 15).1 = RX12 := fun q h => by cases h; exact ⟨rfl, rfl⟩
theorem yf12_16 : ∀ q : vw_C, vwCl[12]? = some q → (q.2.1 16).2.2.2 = true ∧ (q.2.1 16).1 = RX12 := fun q h => by cases h; exact ⟨rfl, rfl⟩
theorem nf12_17 : ∀ q : vw_C, vwCl[12]? = some q → (q.2.1 17).2.2.2 = false := fun q h => by cases h; rfl
theorem nf12_18 : ∀ q : vw_C, vwCl[12]? = some q → (q.2.1 18).2.2.2 = false := fun q h => by cases h; rfl
theorem nf12_19 : ∀ q : vw_C, vwCl[12]? = some q → (q.2.1 19).2.2.2 = false := fun q h => by cases h; rfl
theorem nf12_20 : ∀ q : vw_C, vwCl[12]? = some q → (q.2.1 20).2.2.2 = false := fun q h => by cases h; rfl
theorem nf12_21 : ∀ q : vw_C, vwCl[12]? = some q → (q.2.1 21).2.2.2 = false := fun q h => by cases h; rfl
theorem nf12_22 : ∀ q : vw_C, vwCl[12]? = some q → (q.2.1 22).2.2.2 = false := fun q h => by cases h; rfl
theorem nf12_23 : ∀ q : vw_C, vwCl[12]? = some q → (q.2.1 23).2.2.2 = false := fun q h => by cases h; rfl
theorem yf12_24 : ∀ q : vw_C, vwCl[12]? = some q → (q.2.1 24).2.2.2 = true ∧ (q.2.1 24).1 = RX12 := fun q h => by cases h; exact ⟨rfl, rfl⟩
theorem yf12_25 : ∀ q : vw_C, vwCl[12]? = some q → (q.2.1 25).2.2.2 = true ∧ (q.2.1 25).1 = RX12 := fun q h => by cases h; exact ⟨rfl, rfl⟩
theorem yf12_26 : ∀ q : vw_C, vwCl[12]? = some q → (q.2.1 26).2.2.2 = true ∧ (q.2.1 26).1 = RX12 := fun q h => by cases h; exact ⟨rfl, rfl⟩
theorem yf12_27 : ∀ q : vw_C, vwCl[12]? = some q → (q.2.1 27).2.2.2 = true ∧ (q.2.1 27).1 = RX12 := fun q h => by cases h; exact ⟨rfl, rfl⟩
theorem yf12_28 : ∀ q : vw_C, vwCl[12]? = some q → (q.2.1 28).2.2.2 = true ∧ (q.2.1 28).1 = RX12 := fun q h => by cases h; exact ⟨rfl, rfl⟩
theorem yf12_29 : ∀ q : vw_C, vwCl[12]? = some q → (q.2.1 29).2.2.2 = true ∧ (q.2.1 29).1 = RX12 := fun q h => by cases h; exact ⟨rfl, rfl⟩
theorem yf12_30 : ∀ q : vw_C, vwCl[12]? = some q → (q.2.1 30).2.2.2 = true ∧ (q.2.1 30).1 = RX12 := fun q h => by cases h; exact ⟨rfl, rfl⟩
theorem yf12_31 : ∀ q : vw_C, vwCl[12]? = some q → (q.2.1 31).2.2.2 = true ∧ (q.2.1 31).1 = RX12 := fun q h => by cases h; exact ⟨rfl, rfl⟩
theorem yf12_32 : ∀ q : vw_C, vwCl[12]? = some q → (q.2.1 32).2.2.2 = true ∧ (q.2.1 32).1 = RX12 := fun q h => by cases h; exact ⟨rfl, rfl⟩
theorem yf12_33 : ∀ q : vw_C, vwCl[12]? = some q → (q.2.1 33).2.2.2 = true ∧ (q.2.1 33).1 = RX12 := fun q h => by cases h; exact ⟨rfl, rfl⟩
theorem yf12_34 : ∀ q : vw_C, vwCl[12]? = some q → (q.2.1 34).2.2.2 = true ∧ (q.2.1 34).1 = RX12 := fun q h => by cases h; exact ⟨rfl, rfl⟩
theorem yf12_35 : ∀ q : vw_C, vwCl[12]? = some q → (q.2.1 35).2.2.2 = true ∧ (q.2.1 35).1 = RX12 := fun q h => by cases h; exact ⟨rfl, rfl⟩
theorem yf12_36 : ∀ q : vw_C, vwCl[12]? = some q → (q.2.1 36).2.2.2 = true ∧ (q.2.1 36).1 = RX12 := fun q h => by cases h; exact ⟨rfl, rfl⟩
theorem yf12_37 : ∀ q : vw_C, vwCl[12]? = some q → (q.2.1 37).2.2.2 = true ∧ (q.2.1 37).1 = RX12 := fun q h => by cases h; exact ⟨rfl, rfl⟩
theorem yf12_38 : ∀ q : vw_C, vwCl[12]? = some q → (q.2.1 38).2.2.2 = true ∧ (q.2.1 38).1 = RX12 := fun q h => by cases h; exact ⟨rfl, rfl⟩
theorem yf12_39 : ∀ q : vw_C, vwCl[12]? = some q → (q.2.1 39).2.2.2 = true ∧ (q.2.1 39).1 = RX12 := fun q h => by cases h; exact ⟨rfl, rfl⟩
theorem yf12_40 : ∀ q : vw_C, vwCl[12]? = some q → (q.2.1 40).2.2.2 = true ∧ (q.2.1 40).1 = RX12 := fun q h => by cases h; exact ⟨rfl, rfl⟩
theorem yf12_41 : ∀ q : vw_C, vwCl[12]? = some q → (q.2.1 41).2.2.2 = true ∧ (q.2.1 41).1 = RX12 := fun q h => by cases h; exact ⟨rfl, rfl⟩
theorem yf12_42 : ∀ q : vw_C, vwCl[12]? = some q → (q.2.1 42).2.2.2 = true ∧ (q.2.1 42).1 = RX12 := fun q h => by cases h; exact ⟨rfl, rfl⟩
theorem nf12_43 : ∀ q : vw_C, vwCl[12]? = some q → (q.2.1 43).2.2.2 = false := fun q h => by cases h; rfl
theorem nf12_44 : ∀ q : vw_C, vwCl[12]? = some q → (q.2.1 44).2.2.2 = false := fun q h => by cases h; rfl
theorem nf12_45 : ∀ q : vw_C, vwCl[12]? = some q → (q.2.1 45).2.2.2 = false := fun q h => by cases h; rfl
theorem nf12_46 : ∀ q : vw_C, vwCl[12]? = some q → (q.2.1 46).2.2.2 = false := fun q h => by cases h; rfl
theorem nf12_47 : ∀ q : vw_C, vwCl[12]? = some q → (q.2.1 47).2.2.2 = false := fun q h => by cases h; rfl
theorem nf12_48 : ∀ q : vw_C, vwCl[12]? = some q → (q.2.1 48).2.2.2 = false := fun q h => by cases h; rfl
theorem nf12_49 : ∀ q : vw_C, vwCl[12]? = some q → (q.2.1 49).2.2.2 = false := fun q h => by cases h; rfl
theorem nf12_50 : ∀ q : vw_C, vwCl[12]? = some q → (q.2.1 50).2.2.2 = false := fun q h => by cases h; rfl
theorem nf12_51 : ∀ q : vw_C, vwCl[12]? = some q → (q.2.1 51).2.2.2 = false := fun q h => by cases h; rfl
theorem nf12_52 : ∀ q : vw_C, vwCl[12]? = some q → (q.2.1 52).2.2.2 = false := fun q h => by cases h; rfl
theorem nf12_53 : ∀ q : vw_C, vwCl[12]? = some q → (q.2.1 53).2.2.2 = false := fun q h => by cases h; rfl
theorem nf12_54 : ∀ q : vw_C, vwCl[12]? = some q → (q.2.1 54).2.2.2 = false := fun q h => by cases h; rfl
theorem nf12_55 : ∀ q : vw_C, vwCl[12]? = some q → (q.2.1 55).2.2.2 = false := fun q h => by cases h; rfl
theorem nf12_56 : ∀ q : vw_C, vwCl[12]? = some q → (q.2.1 56).2.2.2 = false := fun q h => by cases h; rfl
theorem yf12_57 : ∀ q : vw_C, vwCl[12]? = some q → (q.2.1 57).2.2.2 = true ∧ (q.2.1 57).1 = RX12 := fun q h => by cases h; exact ⟨rfl, rfl⟩
theorem yf12_58 : ∀ q : vw_C, vwCl[12]? = some q → (q.2.1 58).2.2.2 = true ∧ (q.2.1 58).1 = RX12 := fun q h => by cases h; exact ⟨rfl, rfl⟩
theorem yf12_59 : ∀ q : vw_C, vwCl[12]? = some q → (q.2.1 59).2.2.2 = true ∧ (q.2.1 59).1 = RX12 := fun q h => by cases h; exact ⟨rfl, rfl⟩
theorem yf12_60 : ∀ q : vw_C, vwCl[12]? = some q → (q.2.1 60).2.2.2 = true ∧ (q.2.1 60).1 = RX12 := fun q h => by cases h; exact ⟨rfl, rfl⟩
theorem nf12_61 : ∀ q : vw_C, vwCl[12]? = some q → (q.2.1 61).2.2.2 = false := fun q h => by cases h; rfl
theorem yf12_62 : ∀ q : vw_C, vwCl[12]? = some q → (q.2.1 62).2.2.2 = true ∧ (q.2.1 62).1 = RX12 := fun q h => by cases h; exact ⟨rfl, rfl⟩
theorem nf12_63 : ∀ q : vw_C, vwCl[12]? = some q → (q.2.1 63).2.2.2 = false := fun q h => by cases h; rfl
theorem nf12_64 : ∀ q : vw_C, vwCl[12]? = some q → (q.2.1 64).2.2.2 = false := fun q h => by cases h; rfl
theorem yf12_65 : ∀ q : vw_C, vwCl[12]? = some q → (q.2.1 65).2.2.2 = true ∧ (q.2.1 65).1 = RX12 := fun q h => by cases h; exact ⟨rfl, rfl⟩
theorem yf12_66 : ∀ q : vw_C, vwCl[12]? = some q → (q.2.1 66).2.2.2 = true ∧ (q.2.1 66).1 = RX12 := fun q h => by cases h; exact ⟨rfl, rfl⟩
theorem yf12_67 : ∀ q : vw_C, vwCl[12]? = some q → (q.2.1 67).2.2.2 = true ∧ (q.2.1 67).1 = RX12 := fun q h => by cases h; exact ⟨rfl, rfl⟩
theorem nf12_68 : ∀ q : vw_C, vwCl[12]? = some q → (q.2.1 68).2.2.2 = false := fun q h => by cases h; rfl
theorem yf12_69 : ∀ q : vw_C, vwCl[12]? = some q → (q.2.1 69).2.2.2 = true ∧ (q.2.1 69).1 = RX12 := fun q h => by cases h; exact ⟨rfl, rfl⟩
theorem yf12_70 : ∀ q : vw_C, vwCl[12]? = some q → (q.2.1 70).2.2.2 = true ∧ (q.2.1 70).1 = RX12 := fun q h => by cases h; exact ⟨rfl, rfl⟩
theorem yf12_71 : ∀ q : vw_C, vwCl[12]? = some q → (q.2.1 71).2.2.2 = true ∧ (q.2.1 71).1 = RX12 := fun q h => by cases h; exact ⟨rfl, rfl⟩
theorem yf12_72 : ∀ q : vw_C, vwCl[12]? = some q → (q.2.1 72).2.2.2 = true ∧ (q.2.1 72).1 = RX12 := fun q h => by cases h; exact ⟨rfl, rfl⟩
theorem nf12_73 : ∀ q : vw_C, vwCl[12]? = some q → (q.2.1 73).2.2.2 = false := fun q h => by cases h; rfl
theorem nf12_74 : ∀ q : vw_C, vwCl[12]? = some q → (q.2.1 74).2.2.2 = false := fun q h => by cases h; rfl
theorem yf12_75 : ∀ q : vw_C, vwCl[12]? = some q → (q.2.1 75).2.2.2 = true ∧ (q.2.1 75).1 = RX12 := fun q h => by cases h; exact ⟨rfl, rfl⟩
theorem yf12_76 : ∀ q : vw_C, vwCl[12]? = some q → (q.2.1 76).2.2.2 = true ∧ (q.2.1 76).1 = RX12 := fun q h => by cases h; exact ⟨rfl, rfl⟩
theorem yf12_77 : ∀ q : vw_C, vwCl[12]? = some q → (q.2.1 77).2.2.2 = true ∧ (q.2.1 77).1 = RX12 := fun q h => by cases h; exact ⟨rfl, rfl⟩
theorem mlX11_288 : xLM RX11 288 Lib.Math.max.name Lib.Math.max.code := ⟨(xT_at 1260 (by decide +kernel) (by decide +kernel)), (xT_at 246 (by decide +kernel) (by decide +kernel)), (xT_at 126 (by decide +kernel) (by decide +kernel)), (xT_at 247 (by decide +kernel) (by decide +kernel))⟩
theorem clX11_306 : xLC RX11 306 := ⟨(xT_at 1289 (by decide +kernel) (by decide +kernel)), (xT_at 676 (by decide +kernel) (by decide +kernel)), (xT_at 675 (by decide +kernel) (by decide +kernel)), (xT_at 135 (by decide +kernel) (by decide +kernel))⟩
theorem mlX0_112 : xLM RX0 112 Lib.Math.min.name Lib.Math.min.code := ⟨(xT_at 1041 (by decide +kernel) (by decide +kernel)), (xT_at 660 (by decide +kernel) (by decide +kernel)), (xT_at 126 (by decide +kernel) (by decide +kernel)), (xT_at 661 (by decide +kernel) (by decide +kernel))⟩
theorem mlX0_117 : xLM RX0 117 Lib.Math.max.name Lib.Math.max.code := ⟨(xT_at 1042 (by decide +kernel) (by decide +kernel)), (xT_at 246 (by decide +kernel) (by decide +kernel)), (xT_at 126 (by decide +kernel) (by decide +kernel)), (xT_at 247 (by decide +kernel) (by decide +kernel))⟩
theorem mlX5_9 : xLM RX5 9 Lib.Math.max.name Lib.Math.max.code := ⟨(xT_at 245 (by decide +kernel) (by decide +kernel)), (xT_at 246 (by decide +kernel) (by decide +kernel)), (xT_at 126 (by decide +kernel) (by decide +kernel)), (xT_at 247 (by decide +kernel) (by decide +kernel))⟩
theorem mlX8_68 : xLM RX8 68 Lib.Math.min.name Lib.Math.min.code := ⟨(xT_at 659 (by decide +kernel) (by decide +kernel)), (xT_at 660 (by decide +kernel) (by decide +kernel)), (xT_at 126 (by decide +kernel) (by decide +kernel)), (xT_at 661 (by decide +kernel) (by decide +kernel))⟩
theorem clX9_71 : xLC RX9 71 := ⟨(xT_at 674 (by decide +kernel) (by decide +kernel)), (xT_at 676 (by decide +kernel) (by decide +kernel)), (xT_at 675 (by decide +kernel) (by decide +kernel)), (xT_at 135 (by decide +kernel) (by decide +kernel))⟩
theorem xsw_0_5_6 {x : Int32} (c0 : ¬ x = 0) (c1 : ¬ x = 1) (c2 : ¬ x = 2) (c3 : ¬ x = 3) (c4 : ¬ x = 4) (c5 : ¬ x = 5) (h : ¬ (x.toInt < 0 ∨ 5 < x.toInt)) : False := by
  have q : x.toInt = 0 ∨ x.toInt = 1 ∨ x.toInt = 2 ∨ x.toInt = 3 ∨ x.toInt = 4 ∨ x.toInt = 5 := by omega
  rcases q with q | q | q | q | q | q
  · exact absurd (Int32.toInt_inj.mp (by rw [q]; rfl)) c0
  · exact absurd (Int32.toInt_inj.mp (by rw [q]; rfl)) c1
  · exact absurd (Int32.toInt_inj.mp (by rw [q]; rfl)) c2
  · exact absurd (Int32.toInt_inj.mp (by rw [q]; rfl)) c3
  · exact absurd (Int32.toInt_inj.mp (by rw [q]; rfl)) c4
  · exact absurd (Int32.toInt_inj.mp (by rw [q]; rfl)) c5
theorem xsw_0_6_7 {x : Int32} (c0 : ¬ x = 0) (c1 : ¬ x = 1) (c2 : ¬ x = 2) (c3 : ¬ x = 3) (c4 : ¬ x = 4) (c5 : ¬ x = 5) (c6 : ¬ x = 6) (h : ¬ (x.toInt < 0 ∨ 6 < x.toInt)) : False := by
  have q : x.toInt = 0 ∨ x.toInt = 1 ∨ x.toInt = 2 ∨ x.toInt = 3 ∨ x.toInt = 4 ∨ x.toInt = 5 ∨ x.toInt = 6 := by omega
  rcases q with q | q | q | q | q | q | q
  · exact absurd (Int32.toInt_inj.mp (by rw [q]; rfl)) c0
  · exact absurd (Int32.toInt_inj.mp (by rw [q]; rfl)) c1
  · exact absurd (Int32.toInt_inj.mp (by rw [q]; rfl)) c2
  · exact absurd (Int32.toInt_inj.mp (by rw [q]; rfl)) c3
  · exact absurd (Int32.toInt_inj.mp (by rw [q]; rfl)) c4
  · exact absurd (Int32.toInt_inj.mp (by rw [q]; rfl)) c5
  · exact absurd (Int32.toInt_inj.mp (by rw [q]; rfl)) c6
theorem xsw_0_2_3 {x : Int32} (c0 : ¬ x = 0) (c1 : ¬ x = 1) (c2 : ¬ x = 2) (h : ¬ (x.toInt < 0 ∨ 2 < x.toInt)) : False := by
  have q : x.toInt = 0 ∨ x.toInt = 1 ∨ x.toInt = 2 := by omega
  rcases q with q | q | q
  · exact absurd (Int32.toInt_inj.mp (by rw [q]; rfl)) c0
  · exact absurd (Int32.toInt_inj.mp (by rw [q]; rfl)) c1
  · exact absurd (Int32.toInt_inj.mp (by rw [q]; rfl)) c2
theorem xsw_0_13_14 {x : Int32} (c0 : ¬ x = 0) (c1 : ¬ x = 1) (c2 : ¬ x = 2) (c3 : ¬ x = 3) (c4 : ¬ x = 4) (c5 : ¬ x = 5) (c6 : ¬ x = 6) (c7 : ¬ x = 7) (c8 : ¬ x = 8) (c9 : ¬ x = 9) (c10 : ¬ x = 10) (c11 : ¬ x = 11) (c12 : ¬ x = 12) (c13 : ¬ x = 13) (h : ¬ (x.toInt < 0 ∨ 13 < x.toInt)) : False := by
  have q : x.toInt = 0 ∨ x.toInt = 1 ∨ x.toInt = 2 ∨ x.toInt = 3 ∨ x.toInt = 4 ∨ x.toInt = 5 ∨ x.toInt = 6 ∨ x.toInt = 7 ∨ x.toInt = 8 ∨ x.toInt = 9 ∨ x.toInt = 10 ∨ x.toInt = 11 ∨ x.toInt = 12 ∨ x.toInt = 13 := by omega
  rcases q with q | q | q | q | q | q | q | q | q | q | q | q | q | q
  · exact absurd (Int32.toInt_inj.mp (by rw [q]; rfl)) c0
  · exact absurd (Int32.toInt_inj.mp (by rw [q]; rfl)) c1
  · exact absurd (Int32.toInt_inj.mp (by rw [q]; rfl)) c2
  · exact absurd (Int32.toInt_inj.mp (by rw [q]; rfl)) c3
  · exact absurd (Int32.toInt_inj.mp (by rw [q]; rfl)) c4
  · exact absurd (Int32.toInt_inj.mp (by rw [q]; rfl)) c5
  · exact absurd (Int32.toInt_inj.mp (by rw [q]; rfl)) c6
  · exact absurd (Int32.toInt_inj.mp (by rw [q]; rfl)) c7
  · exact absurd (Int32.toInt_inj.mp (by rw [q]; rfl)) c8
  · exact absurd (Int32.toInt_inj.mp (by rw [q]; rfl)) c9
  · exact absurd (Int32.toInt_inj.mp (by rw [q]; rfl)) c10
  · exact absurd (Int32.toInt_inj.mp (by rw [q]; rfl)) c11
  · exact absurd (Int32.toInt_inj.mp (by rw [q]; rfl)) c12
  · exact absurd (Int32.toInt_inj.mp (by rw [q]; rfl)) c13
theorem xsw_37_62_9 {x : Int32} (c0 : ¬ x = 37) (c1 : ¬ x = 38) (c2 : ¬ x = 42) (c3 : ¬ x = 43) (c4 : ¬ x = 45) (c5 : ¬ x = 47) (c6 : ¬ x = 60) (c7 : ¬ x = 61) (c8 : ¬ x = 62) (h : ¬ (x.toInt < 37 ∨ 62 < x.toInt)) : x = 39 ∨ x = 40 ∨ x = 41 ∨ x = 44 ∨ x = 46 ∨ x = 48 ∨ x = 49 ∨ x = 50 ∨ x = 51 ∨ x = 52 ∨ x = 53 ∨ x = 54 ∨ x = 55 ∨ x = 56 ∨ x = 57 ∨ x = 58 ∨ x = 59 := by
  have q : x.toInt = 37 ∨ x.toInt = 38 ∨ x.toInt = 39 ∨ x.toInt = 40 ∨ x.toInt = 41 ∨ x.toInt = 42 ∨ x.toInt = 43 ∨ x.toInt = 44 ∨ x.toInt = 45 ∨ x.toInt = 46 ∨ x.toInt = 47 ∨ x.toInt = 48 ∨ x.toInt = 49 ∨ x.toInt = 50 ∨ x.toInt = 51 ∨ x.toInt = 52 ∨ x.toInt = 53 ∨ x.toInt = 54 ∨ x.toInt = 55 ∨ x.toInt = 56 ∨ x.toInt = 57 ∨ x.toInt = 58 ∨ x.toInt = 59 ∨ x.toInt = 60 ∨ x.toInt = 61 ∨ x.toInt = 62 := by omega
  rcases q with q | q | q | q | q | q | q | q | q | q | q | q | q | q | q | q | q | q | q | q | q | q | q | q | q | q
  · exact absurd (Int32.toInt_inj.mp (by rw [q]; rfl)) c0
  · exact absurd (Int32.toInt_inj.mp (by rw [q]; rfl)) c1
  · exact (Or.inl (Int32.toInt_inj.mp (by rw [q]; rfl)))
  · exact (Or.inr (Or.inl (Int32.toInt_inj.mp (by rw [q]; rfl))))
  · exact (Or.inr (Or.inr (Or.inl (Int32.toInt_inj.mp (by rw [q]; rfl)))))
  · exact absurd (Int32.toInt_inj.mp (by rw [q]; rfl)) c2
  · exact absurd (Int32.toInt_inj.mp (by rw [q]; rfl)) c3
  · exact (Or.inr (Or.inr (Or.inr (Or.inl (Int32.toInt_inj.mp (by rw [q]; rfl))))))
  · exact absurd (Int32.toInt_inj.mp (by rw [q]; rfl)) c4
  · exact (Or.inr (Or.inr (Or.inr (Or.inr (Or.inl (Int32.toInt_inj.mp (by rw [q]; rfl)))))))
  · exact absurd (Int32.toInt_inj.mp (by rw [q]; rfl)) c5
  · exact (Or.inr (Or.inr (Or.inr (Or.inr (Or.inr (Or.inl (Int32.toInt_inj.mp (by rw [q]; rfl))))))))
  · exact (Or.inr (Or.inr (Or.inr (Or.inr (Or.inr (Or.inr (Or.inl (Int32.toInt_inj.mp (by rw [q]; rfl)))))))))
  · exact (Or.inr (Or.inr (Or.inr (Or.inr (Or.inr (Or.inr (Or.inr (Or.inl (Int32.toInt_inj.mp (by rw [q]; rfl))))))))))
  · exact (Or.inr (Or.inr (Or.inr (Or.inr (Or.inr (Or.inr (Or.inr (Or.inr (Or.inl (Int32.toInt_inj.mp (by rw [q]; rfl)))))))))))
  · exact (Or.inr (Or.inr (Or.inr (Or.inr (Or.inr (Or.inr (Or.inr (Or.inr (Or.inr (Or.inl (Int32.toInt_inj.mp (by rw [q]; rfl))))))))))))
  · exact (Or.inr (Or.inr (Or.inr (Or.inr (Or.inr (Or.inr (Or.inr (Or.inr (Or.inr (Or.inr (Or.inl (Int32.toInt_inj.mp (by rw [q]; rfl)))))))))))))
  · exact (Or.inr (Or.inr (Or.inr (Or.inr (Or.inr (Or.inr (Or.inr (Or.inr (Or.inr (Or.inr (Or.inr (Or.inl (Int32.toInt_inj.mp (by rw [q]; rfl))))))))))))))
  · exact (Or.inr (Or.inr (Or.inr (Or.inr (Or.inr (Or.inr (Or.inr (Or.inr (Or.inr (Or.inr (Or.inr (Or.inr (Or.inl (Int32.toInt_inj.mp (by rw [q]; rfl)))))))))))))))
  · exact (Or.inr (Or.inr (Or.inr (Or.inr (Or.inr (Or.inr (Or.inr (Or.inr (Or.inr (Or.inr (Or.inr (Or.inr (Or.inr (Or.inl (Int32.toInt_inj.mp (by rw [q]; rfl))))))))))))))))
  · exact (Or.inr (Or.inr (Or.inr (Or.inr (Or.inr (Or.inr (Or.inr (Or.inr (Or.inr (Or.inr (Or.inr (Or.inr (Or.inr (Or.inr (Or.inl (Int32.toInt_inj.mp (by rw [q]; rfl)))))))))))))))))
  · exact (Or.inr (Or.inr (Or.inr (Or.inr (Or.inr (Or.inr (Or.inr (Or.inr (Or.inr (Or.inr (Or.inr (Or.inr (Or.inr (Or.inr (Or.inr (Or.inl (Int32.toInt_inj.mp (by rw [q]; rfl))))))))))))))))))
  · exact (Or.inr (Or.inr (Or.inr (Or.inr (Or.inr (Or.inr (Or.inr (Or.inr (Or.inr (Or.inr (Or.inr (Or.inr (Or.inr (Or.inr (Or.inr (Or.inr (Int32.toInt_inj.mp (by rw [q]; rfl))))))))))))))))))
  · exact absurd (Int32.toInt_inj.mp (by rw [q]; rfl)) c6
  · exact absurd (Int32.toInt_inj.mp (by rw [q]; rfl)) c7
  · exact absurd (Int32.toInt_inj.mp (by rw [q]; rfl)) c8
theorem xsw_24_33_5 {x : Int32} (c0 : ¬ x = 24) (c1 : ¬ x = 30) (c2 : ¬ x = 31) (c3 : ¬ x = 32) (c4 : ¬ x = 33) (h : ¬ (x.toInt < 24 ∨ 33 < x.toInt)) : x = 25 ∨ x = 26 ∨ x = 27 ∨ x = 28 ∨ x = 29 := by
  have q : x.toInt = 24 ∨ x.toInt = 25 ∨ x.toInt = 26 ∨ x.toInt = 27 ∨ x.toInt = 28 ∨ x.toInt = 29 ∨ x.toInt = 30 ∨ x.toInt = 31 ∨ x.toInt = 32 ∨ x.toInt = 33 := by omega
  rcases q with q | q | q | q | q | q | q | q | q | q
  · exact absurd (Int32.toInt_inj.mp (by rw [q]; rfl)) c0
  · exact (Or.inl (Int32.toInt_inj.mp (by rw [q]; rfl)))
  · exact (Or.inr (Or.inl (Int32.toInt_inj.mp (by rw [q]; rfl))))
  · exact (Or.inr (Or.inr (Or.inl (Int32.toInt_inj.mp (by rw [q]; rfl)))))
  · exact (Or.inr (Or.inr (Or.inr (Or.inl (Int32.toInt_inj.mp (by rw [q]; rfl))))))
  · exact (Or.inr (Or.inr (Or.inr (Or.inr (Int32.toInt_inj.mp (by rw [q]; rfl))))))
  · exact absurd (Int32.toInt_inj.mp (by rw [q]; rfl)) c1
  · exact absurd (Int32.toInt_inj.mp (by rw [q]; rfl)) c2
  · exact absurd (Int32.toInt_inj.mp (by rw [q]; rfl)) c3
  · exact absurd (Int32.toInt_inj.mp (by rw [q]; rfl)) c4
theorem xsw_7_29_9 {x : Int32} (c0 : ¬ x = 7) (c1 : ¬ x = 8) (c2 : ¬ x = 9) (c3 : ¬ x = 10) (c4 : ¬ x = 11) (c5 : ¬ x = 12) (c6 : ¬ x = 13) (c7 : ¬ x = 28) (c8 : ¬ x = 29) (h : ¬ (x.toInt < 7 ∨ 29 < x.toInt)) : x = 14 ∨ x = 15 ∨ x = 16 ∨ x = 17 ∨ x = 18 ∨ x = 19 ∨ x = 20 ∨ x = 21 ∨ x = 22 ∨ x = 23 ∨ x = 24 ∨ x = 25 ∨ x = 26 ∨ x = 27 := by
  have q : x.toInt = 7 ∨ x.toInt = 8 ∨ x.toInt = 9 ∨ x.toInt = 10 ∨ x.toInt = 11 ∨ x.toInt = 12 ∨ x.toInt = 13 ∨ x.toInt = 14 ∨ x.toInt = 15 ∨ x.toInt = 16 ∨ x.toInt = 17 ∨ x.toInt = 18 ∨ x.toInt = 19 ∨ x.toInt = 20 ∨ x.toInt = 21 ∨ x.toInt = 22 ∨ x.toInt = 23 ∨ x.toInt = 24 ∨ x.toInt = 25 ∨ x.toInt = 26 ∨ x.toInt = 27 ∨ x.toInt = 28 ∨ x.toInt = 29 := by omega
  rcases q with q | q | q | q | q | q | q | q | q | q | q | q | q | q | q | q | q | q | q | q | q | q | q
  · exact absurd (Int32.toInt_inj.mp (by rw [q]; rfl)) c0
  · exact absurd (Int32.toInt_inj.mp (by rw [q]; rfl)) c1
  · exact absurd (Int32.toInt_inj.mp (by rw [q]; rfl)) c2
  · exact absurd (Int32.toInt_inj.mp (by rw [q]; rfl)) c3
  · exact absurd (Int32.toInt_inj.mp (by rw [q]; rfl)) c4
  · exact absurd (Int32.toInt_inj.mp (by rw [q]; rfl)) c5
  · exact absurd (Int32.toInt_inj.mp (by rw [q]; rfl)) c6
  · exact (Or.inl (Int32.toInt_inj.mp (by rw [q]; rfl)))
  · exact (Or.inr (Or.inl (Int32.toInt_inj.mp (by rw [q]; rfl))))
  · exact (Or.inr (Or.inr (Or.inl (Int32.toInt_inj.mp (by rw [q]; rfl)))))
  · exact (Or.inr (Or.inr (Or.inr (Or.inl (Int32.toInt_inj.mp (by rw [q]; rfl))))))
  · exact (Or.inr (Or.inr (Or.inr (Or.inr (Or.inl (Int32.toInt_inj.mp (by rw [q]; rfl)))))))
  · exact (Or.inr (Or.inr (Or.inr (Or.inr (Or.inr (Or.inl (Int32.toInt_inj.mp (by rw [q]; rfl))))))))
  · exact (Or.inr (Or.inr (Or.inr (Or.inr (Or.inr (Or.inr (Or.inl (Int32.toInt_inj.mp (by rw [q]; rfl)))))))))
  · exact (Or.inr (Or.inr (Or.inr (Or.inr (Or.inr (Or.inr (Or.inr (Or.inl (Int32.toInt_inj.mp (by rw [q]; rfl))))))))))
  · exact (Or.inr (Or.inr (Or.inr (Or.inr (Or.inr (Or.inr (Or.inr (Or.inr (Or.inl (Int32.toInt_inj.mp (by rw [q]; rfl)))))))))))
  · exact (Or.inr (Or.inr (Or.inr (Or.inr (Or.inr (Or.inr (Or.inr (Or.inr (Or.inr (Or.inl (Int32.toInt_inj.mp (by rw [q]; rfl))))))))))))
  · exact (Or.inr (Or.inr (Or.inr (Or.inr (Or.inr (Or.inr (Or.inr (Or.inr (Or.inr (Or.inr (Or.inl (Int32.toInt_inj.mp (by rw [q]; rfl)))))))))))))
  · exact (Or.inr (Or.inr (Or.inr (Or.inr (Or.inr (Or.inr (Or.inr (Or.inr (Or.inr (Or.inr (Or.inr (Or.inl (Int32.toInt_inj.mp (by rw [q]; rfl))))))))))))))
  · exact (Or.inr (Or.inr (Or.inr (Or.inr (Or.inr (Or.inr (Or.inr (Or.inr (Or.inr (Or.inr (Or.inr (Or.inr (Or.inl (Int32.toInt_inj.mp (by rw [q]; rfl)))))))))))))))
  · exact (Or.inr (Or.inr (Or.inr (Or.inr (Or.inr (Or.inr (Or.inr (Or.inr (Or.inr (Or.inr (Or.inr (Or.inr (Or.inr (Int32.toInt_inj.mp (by rw [q]; rfl)))))))))))))))
  · exact absurd (Int32.toInt_inj.mp (by rw [q]; rfl)) c7
  · exact absurd (Int32.toInt_inj.mp (by rw [q]; rfl)) c8
theorem xsw_15_19_5 {x : Int32} (c0 : ¬ x = 15) (c1 : ¬ x = 16) (c2 : ¬ x = 17) (c3 : ¬ x = 18) (c4 : ¬ x = 19) (h : ¬ (x.toInt < 15 ∨ 19 < x.toInt)) : False := by
  have q : x.toInt = 15 ∨ x.toInt = 16 ∨ x.toInt = 17 ∨ x.toInt = 18 ∨ x.toInt = 19 := by omega
  rcases q with q | q | q | q | q
  · exact absurd (Int32.toInt_inj.mp (by rw [q]; rfl)) c0
  · exact absurd (Int32.toInt_inj.mp (by rw [q]; rfl)) c1
  · exact absurd (Int32.toInt_inj.mp (by rw [q]; rfl)) c2
  · exact absurd (Int32.toInt_inj.mp (by rw [q]; rfl)) c3
  · exact absurd (Int32.toInt_inj.mp (by rw [q]; rfl)) c4
theorem xsw_15_20_6 {x : Int32} (c0 : ¬ x = 15) (c1 : ¬ x = 16) (c2 : ¬ x = 17) (c3 : ¬ x = 18) (c4 : ¬ x = 19) (c5 : ¬ x = 20) (h : ¬ (x.toInt < 15 ∨ 20 < x.toInt)) : False := by
  have q : x.toInt = 15 ∨ x.toInt = 16 ∨ x.toInt = 17 ∨ x.toInt = 18 ∨ x.toInt = 19 ∨ x.toInt = 20 := by omega
  rcases q with q | q | q | q | q | q
  · exact absurd (Int32.toInt_inj.mp (by rw [q]; rfl)) c0
  · exact absurd (Int32.toInt_inj.mp (by rw [q]; rfl)) c1
  · exact absurd (Int32.toInt_inj.mp (by rw [q]; rfl)) c2
  · exact absurd (Int32.toInt_inj.mp (by rw [q]; rfl)) c3
  · exact absurd (Int32.toInt_inj.mp (by rw [q]; rfl)) c4
  · exact absurd (Int32.toInt_inj.mp (by rw [q]; rfl)) c5
theorem xsw_0_3_4 {x : Int32} (c0 : ¬ x = 0) (c1 : ¬ x = 1) (c2 : ¬ x = 2) (c3 : ¬ x = 3) (h : ¬ (x.toInt < 0 ∨ 3 < x.toInt)) : False := by
  have q : x.toInt = 0 ∨ x.toInt = 1 ∨ x.toInt = 2 ∨ x.toInt = 3 := by omega
  rcases q with q | q | q | q
  · exact absurd (Int32.toInt_inj.mp (by rw [q]; rfl)) c0
  · exact absurd (Int32.toInt_inj.mp (by rw [q]; rfl)) c1
  · exact absurd (Int32.toInt_inj.mp (by rw [q]; rfl)) c2
  · exact absurd (Int32.toInt_inj.mp (by rw [q]; rfl)) c3
