/-! NEW OBJECTS: places are taken in their order; what is not made yet is 0 in memory -/
def xdk : FieldType → Bool
  | .float => false
  | .double => false
  | _ => true
theorem xdef {g : xGT} {ty : FieldType} {u : xU} {w : xW} {r : xQ} {a i : Nat} (h : xdk ty = true) (h0 : u a i = 0) (h1 : w a i = 0) (h2 : r a i = none) : defaultValue ty = xvl g ty u w r a i := by
  cases ty <;> first | (simp [xdk] at h; done) | (simp only [xvl, h0, h1, h2]; rfl)
theorem xdk_of {ci : Nat} {q : vw_C} (h : vwCl[ci]? = some q) : ∀ j, j < q.2.2 → xdk (xty ci j) = true := by
  have key : ∀ ci, ci < 13 → ∀ j, j < xNf ci → xdk (xty ci j) = true := by decide +kernel
  have hl := (List.getElem?_eq_some_iff.mp h).1
  have l13 : vwCl.length = 13 := by decide +kernel
  have e : xNf ci = q.2.2 := by unfold xNf; rw [h]
  intro j hj
  exact key ci (by omega) j (by omega)
def xZ (nx : Nat) (u : xU) (w : xW) (r : xQ) : Prop := ∀ b i, nx ≤ b → u b i = 0 ∧ w b i = 0 ∧ r b i = none
theorem xZ.le {nx n2 : Nat} {u : xU} {w : xW} {r : xQ} (h : xZ nx u w r) (hn : nx ≤ n2) : xZ n2 u w r := fun b i hb => h b i (Nat.le_trans hn hb)
theorem xZ.pu {nx a k : Nat} {x : Int32} {u : xU} {w : xW} {r : xQ} (h : xZ nx u w r) (ha : a < nx) : xZ nx (x2 u a k x) w r := fun b i hb => ⟨(x2_a _ _ (by omega)).trans (h b i hb).1, (h b i hb).2⟩
theorem xZ.pw {nx a k : Nat} {x : Int64} {u : xU} {w : xW} {r : xQ} (h : xZ nx u w r) (ha : a < nx) : xZ nx u (x2 w a k x) r := fun b i hb => ⟨(h b i hb).1, (x2_a _ _ (by omega)).trans (h b i hb).2.1, (h b i hb).2.2⟩
theorem xZ.pr {nx a k : Nat} {x : Option Nat} {u : xU} {w : xW} {r : xQ} (h : xZ nx u w r) (ha : a < nx) : xZ nx u w (x2 r a k x) := fun b i hb => ⟨(h b i hb).1, (h b i hb).2.1, (x2_a _ _ (by omega)).trans (h b i hb).2.2⟩
theorem xR.new {g : xGT} {nx : Nat} {u : xU} {w : xW} {r : xQ} {kd : xKd} {H H' : Heap} (h : xR g nx u w r H) (hK : xKK nx = some kd) (hz : H'.size = xi g nx + 1) (ho : ∀ q, q < xi g nx → H'[q]? = H[q]?) (he : xat g u w r nx kd H') : xR g (nx + 1) u w r H' := by
  obtain ⟨g1, g2, g3, g4⟩ := h
  have z1 := xi_ge (g := g) g1
  refine ⟨by omega, ?_, fun q hq => ?_, fun a kd' ha hk => ?_⟩
  · rw [hz, z1, xi_ge (show 8 ≤ nx + 1 by omega)]; omega
  · rw [ho q (by omega)]; exact g3 q hq
  · by_cases q : a = nx
    · subst q
      cases hK.symm.trans hk
      exact he
    · have z2 := xi_ge (g := g) (xKK_ge hk)
      have a8 := xKK_ge hk
      exact (g4 a kd' (by omega) hk).to (fun _ => rfl) (fun _ => rfl) (fun _ => rfl) (ho _ (by omega))
section XNEW
variable {g : xGT} {d : Nat} {mi : xMI} {pc : Nat} {ls : List (Option Value)} {st : List Value} {nx nx' : Nat} {u : xU} {w : xW} {r : xQ} {P : xPost}
theorem xe_new {ci idx : Nat} {q : vw_C} (hd : decode mi.2.1 pc = .ok (.new idx, 3)) (hq : vwCl[ci]? = some q) (hw1 : Cond.classLink mi.1.cls idx q.1 ∈ xT) (hw2 : Cond.instantiable q.1 q.2.2 ∈ xT) (hw3 : Cond.initialized q.1 ∈ xT) (hK : xKK nx = some (.inl ci)) (hZ : xZ nx u w r)
    (kk : xEv g d mi (pc + 3) ls (.ref nx :: st) (nx + 1) u w r nx' P) : xEv g d mi pc ls st nx u w r nx' P := by
  have le := kk.1
  have ksl : xsl (nx + 1) = xsl nx + q.2.2 := by
    show xsl nx + xks (xKK nx) = _
    rw [hK]
    show xsl nx + xNf ci = _
    unfold xNf
    rw [hq]
  have hle := xsl_le le
  refine ⟨by omega, fun p e R s m args below meth c H locs n1 rl Q F G hR hl hn1 hdR hL hc hs ho hQ => ?_⟩
  have hn2 := xsl_le hn1
  have hKn := G.1.1 ci _ hq
  refine W.newcK F.1 F.2.1 F.2.2.2.1 (F.2.2.2.2.1 _ hw1) (F.2.2.2.2.1 _ hw2) (F.2.2.2.2.1 _ hw3) rfl hd (by omega) (by omega) hKn.2.1 hR.2.1 (fun H' kC hkC e1 z1 o1 => ?_)
  have K := kk.2 p e R s m args below meth c H' locs n1 rl Q F G (hR.new hK z1 o1 ⟨q, hq, (u_born (xty ci) F.2.2.2.2.1 (xin hq) hKn hkC e1 (xty_ok hq)).to (fun j hj => xdef (xdk_of hq j hj) (hZ nx j (Nat.le_refl _)).1 (hZ nx j (Nat.le_refl _)).2.1 (hZ nx j (Nat.le_refl _)).2.2)⟩) hl (by omega) hdR hL hc hs ho hQ
  rw [show nx - n1 + 1 = nx + 1 - n1 by omega, show xsl nx - xsl n1 + q.2.2 = xsl (nx + 1) - xsl n1 by omega]
  exact K
theorem xe_newa {n : Nat} {v : Int32} {ty : FieldType} {atype : ArrayType} (hd : decode mi.2.1 pc = .ok (.newarray atype, 2)) (hty : newarray.typeOf atype = ty) (hw : Cond.arrayClass ty ∈ xT) (hv : v = nI n) (hn : n ≤ 10000) (h4 : ty = .int ∨ ty = .byte ∨ ty = .boolean ∨ ty = .long) (hK : xKK nx = some (.inr (ty, n))) (hZ : xZ nx u w r)
    (kk : xEv g d mi (pc + 2) ls (.ref nx :: st) (nx + 1) u w r nx' P) : xEv g d mi pc ls (.int v :: st) nx u w r nx' P := by
  subst hty; subst hv
  have le := kk.1
  have ksl : xsl (nx + 1) = xsl nx + n := by
    show xsl nx + xks (xKK nx) = _
    rw [hK]
    rfl
  have hle := xsl_le le
  have hdk : xdk (newarray.typeOf atype) = true := by rcases h4 with h | h | h | h <;> rw [h] <;> rfl
  have hbytes : n * componentBytes (newarray.typeOf atype) ≤ 536870912 := by
    rcases h4 with h | h | h | h <;> rw [h]
    · show n * 4 ≤ _; omega
    · show n * 1 ≤ _; omega
    · show n * 1 ≤ _; omega
    · show n * 8 ≤ _; omega
  refine ⟨by omega, fun p e R s m args below meth c H locs n1 rl Q F G hR hl hn1 hdR hL hc hs ho hQ => ?_⟩
  have hn2 := xsl_le hn1
  refine va_newaK (N := n) F.1 F.2.1 (F.2.2.2.2.1 _ hw) rfl hd rfl (nI_nn (by omega)) (nc (by omega)) hbytes (by omega) (by omega) hR.2.1 (fun H' cA e1 z1 o1 hAr hNm => ?_)
  have ecA : cA = xDA g (newarray.typeOf atype) := by
    have h := (xtys_of (ty := newarray.typeOf atype) (by rcases h4 with h | h | h | h <;> rw [h] <;> simp) G).2
    have h' : s.vm.findClass ("[" ++ (newarray.typeOf atype).toString) = some (xDA g (newarray.typeOf atype)) := by
      generalize newarray.typeOf atype = ty at h h4 ⊢
      rcases h4 with rfl | rfl | rfl | rfl <;> exact h
    exact Option.some.inj (hNm.symm.trans h')
  subst ecA
  have K := kk.2 p e R s m args below meth c H' locs n1 rl Q F G (hR.new hK z1 o1 (by
    show H'[xi g nx]? = some (arrV (xDA g (newarray.typeOf atype)) n (fun j => xvl g (newarray.typeOf atype) u w r nx j))
    rw [e1]
    congr 2
    funext j
    exact xdef hdk (hZ nx j (Nat.le_refl _)).1 (hZ nx j (Nat.le_refl _)).2.1 (hZ nx j (Nat.le_refl _)).2.2)) hl (by omega) hdR hL hc hs ho hQ
  rw [show nx - n1 + 1 = nx + 1 - n1 by omega, show xsl nx - xsl n1 + n = xsl (nx + 1) - xsl n1 by omega]
  exact K
/-- a row of states -/
theorem xe_anewS {n idx : Nat} {v : Int32} (hd : decode mi.2.1 pc = .ok (.anewarray idx, 3)) (hw : Cond.classLink mi.1.cls idx "FuneralPost$State" ∈ xT) (hAO : ∀ s, xG g s → va_AO "FuneralPost$State" s) (hv : v = nI n) (hn : n ≤ 10000) (hK : xKK nx = some (.inr (xTst, n))) (hZ : xZ nx u w r)
    (kk : xEv g d mi (pc + 3) ls (.ref nx :: st) (nx + 1) u w r nx' P) : xEv g d mi pc ls (.int v :: st) nx u w r nx' P := by
  subst hv
  have le := kk.1
  have ksl : xsl (nx + 1) = xsl nx + n := by
    show xsl nx + xks (xKK nx) = _
    rw [hK]
    rfl
  have hle := xsl_le le
  have en : (nI n).toNatClampNeg = n := nc (by omega)
  refine ⟨by omega, fun p e R s m args below meth c H locs n1 rl Q F G hR hl hn1 hdR hL hc hs ho hQ => ?_⟩
  have hn2 := xsl_le hn1
  refine W.anew F.1 F.2.1 F.2.2.2.1 (F.2.2.2.2.1 _ hw) (va_AO.use (hAO s G)) rfl hd rfl (nI_nn (by omega)) (by rw [en]; omega) (by omega) (by rw [en]; omega) (fun cA kA comp f1 f2 f3 f4 => ?_)
  rw [en]
  have hsz := hR.2.1
  have z1 : (H.push ({ cls := cA, slots := Array.replicate n .null, vm := .none } : Cell)).size = xi g nx + 1 := by rw [Array.size_push, hsz]
  have e1 : (H.push ({ cls := cA, slots := Array.replicate n .null, vm := .none } : Cell))[xi g nx]? = some (arrV cA n (fun _ => .null)) := by rw [← hsz, Array.getElem?_push_size, ← arrV_new]
  have o1 : ∀ q : Nat, q < xi g nx → (H.push ({ cls := cA, slots := Array.replicate n .null, vm := .none } : Cell))[q]? = H[q]? := fun q hq => by rw [Array.getElem?_push, if_neg (by omega)]
  rw [hsz]
  generalize H.push ({ cls := cA, slots := Array.replicate n .null, vm := .none } : Cell) = H' at z1 e1 o1 ⊢
  have ecA : cA = xDA g xTst := by
    obtain ⟨kA', comp', -, -, -, h4⟩ := (xtys_of (ty := xTst) (by simp) G).2
    exact Option.some.inj (f1.symm.trans h4)
  subst ecA
  have K := kk.2 p e R s m args below meth c H' locs n1 rl Q F G (hR.new hK z1 o1 (by
    show H'[xi g nx]? = some (arrV (xDA g xTst) n (fun j => xvl g xTst u w r nx j))
    rw [e1]
    congr 2
    funext j
    exact xdef (ty := xTst) rfl (hZ nx j (Nat.le_refl _)).1 (hZ nx j (Nat.le_refl _)).2.1 (hZ nx j (Nat.le_refl _)).2.2)) hl (by omega) hdR hL hc hs ho hQ
  rw [show nx - n1 + 1 = nx + 1 - n1 by omega, show xsl nx - xsl n1 + n = xsl (nx + 1) - xsl n1 by omega]
  exact K
/-- rows of rows of numbers -/
def xrw (nx N : Nat) (r : xQ) : xQ := fun b i => if b = nx ∧ i < N then some (nx + 1 + i) else r b i
theorem xsl_rows {nx N M : Nat} (h : ∀ i, i < N → xKK (nx + i) = some (.inr (.int, M))) : ∀ i, i ≤ N → xsl (nx + i) = xsl nx + i * M := by
  intro i
  induction i with
  | zero => intro _; simp
  | succ i ih =>
    intro hi
    have e : xsl (nx + (i + 1)) = xsl (nx + i) + xks (xKK (nx + i)) := rfl
    rw [e, ih (by omega), h i (by omega), Nat.succ_mul]
    show _ + M = _
    omega
theorem xe_multi {N M idx : Nat} {v1 v2 : Int32} (hd : decode mi.2.1 pc = .ok (.multianewarray idx 2, 4)) (hw : Cond.classLink mi.1.cls idx "[[I" ∈ xT) (hAO : ∀ s, xG g s → xAOA s) (h1 : v1 = nI N) (h2 : v2 = nI M) (bN : N ≤ 1000) (bM : M ≤ 1000) (hK : xKK nx = some (.inr (.array .int, N))) (hKi : ∀ i, i < N → xKK (nx + 1 + i) = some (.inr (.int, M))) (hZ : xZ nx u w r)
    (kk : xEv g d mi (pc + 4) ls (.ref nx :: st) (nx + 1 + N) u w (xrw nx N r) nx' P) : xEv g d mi pc ls (.int v2 :: .int v1 :: st) nx u w r nx' P := by
  subst h1; subst h2
  have le := kk.1
  have k1 : xsl (nx + 1) = xsl nx + N := by
    show xsl nx + xks (xKK nx) = _
    rw [hK]
    rfl
  have k2 : xsl (nx + 1 + N) = xsl nx + N + N * M := by rw [xsl_rows hKi N (Nat.le_refl _), k1]
  have hle := xsl_le le
  refine ⟨by omega, fun p e R s m args below meth c H locs n1 rl Q F G hR hl hn1 hdR hL hc hs ho hQ => ?_⟩
  have hn2 := xsl_le hn1
  have hsz := hR.2.1
  have g8 := hR.1
  have tI := xtys_of (ty := .int) (by simp) G
  have hcI : s.vm.findClass "[I" = some (xDA g .int) := tI.2
  obtain ⟨kI, hkI, c0, hkindI⟩ : ∃ kI : Class, s.vm.classes[xDA g .int]? = some kI ∧ ∃ c0, kI.kind = .array c0 .int := by
    obtain ⟨-, k, hk, c0, hkind⟩ := tI.1 0 (fun _ => .null)
    exact ⟨k, hk, c0, hkind⟩
  refine W_multi (N := N) (M := M) F.1 F.2.1 F.2.2.2.1 (F.2.2.2.2.1 _ hw) (hAO s G) hcI hkI hkindI rfl hd rfl (nI_nn (by omega)) (nI_nn (by omega)) (nc (by omega)) (nc (by omega)) bN bM (by omega) (by omega) (fun cA H' locs' f1 f2 f3 f4 f5 f6 => ?_)
  have tA := xtys_of (ty := .array .int) (by simp) G
  have ecA : cA = xDA g (.array .int) := by
    have h' : s.vm.findClass "[[I" = some (xDA g (.array .int)) := tA.2
    exact Option.some.inj (f1.symm.trans h')
  subst ecA
  rw [hsz] at f2 f3 f4 f5 f6 ⊢
  have zi : ∀ k, xi g (nx + k) = xi g nx + k := fun k => by rw [xi_ge g8, xi_ge (by omega)]; omega
  have hR' : xR g (nx + 1 + N) u w (xrw nx N r) H' := by
    obtain ⟨g1, g2, g3, g4⟩ := hR
    refine ⟨by omega, ?_, fun q hq => ?_, fun a kd ha hk => ?_⟩
    · rw [f2, show nx + 1 + N = nx + (1 + N) by omega, zi]; omega
    · rw [f3 q (by have := xi_zle (g := g) g8; omega)]; exact g3 q hq
    · have a8 := xKK_ge hk
      rcases Nat.lt_or_ge a nx with y | y
      · exact (g4 a kd y hk).to (fun _ => rfl) (fun _ => rfl) (fun i => if_neg (by omega)) (f3 _ (by rw [xi_ge a8, xi_ge g8]; omega))
      · by_cases q : a = nx
        · subst q
          cases hK.symm.trans hk
          show H'[xi g a]? = some (arrV (xDA g (.array .int)) N (fun j => xvl g (.array .int) u w (xrw a N r) a j))
          rw [f4]
          congr 1
          rw [show (arrV (xDA g (.array .int)) N (mwF (xi g a) N)) = arrV (xDA g (.array .int)) N (fun j => xvl g (.array .int) u w (xrw a N r) a j) from by
            unfold arrV
            congr 2
            funext j
            have hj := j.2
            show mwF (xi g a) N j.1 = va_rf ((xrw a N r a j.1).map (xi g))
            unfold mwF xrw
            rw [if_pos hj, if_pos ⟨rfl, hj⟩]
            show Value.ref (xi g a + 1 + j.1) = Value.ref (xi g (a + 1 + j.1))
            rw [show a + 1 + j.1 = a + (1 + j.1) by omega, zi, Nat.add_assoc]]
        · have ex : ∃ j, j < N ∧ a = nx + 1 + j := ⟨a - (nx + 1), by omega, by omega⟩
          obtain ⟨j, hj, rfl⟩ := ex
          cases (hKi j hj).symm.trans hk
          show H'[xi g (nx + 1 + j)]? = some (arrV (xDA g .int) M (fun i => xvl g .int u w (xrw nx N r) (nx + 1 + j) i))
          rw [show nx + 1 + j = nx + (1 + j) by omega, zi, ← Nat.add_assoc, f5 j hj]
          congr 2
          funext i
          show Value.int 0 = Value.int (u (nx + (1 + j)) i)
          rw [(hZ (nx + (1 + j)) i (by omega)).1]
  have K := kk.2 p e R s m args below meth c H' locs' n1 rl Q F G hR' (fun q hq => by
    rcases f6 q hq with h | h
    · exact hl q h
    · rw [h]; exact xi_zle g8) (by omega) hdR hL hc hs ho hQ
  rw [show nx - n1 + 1 + N = nx + 1 + N - n1 by omega, show xsl nx - xsl n1 + N + N * M = xsl (nx + 1 + N) - xsl n1 by omega]
  exact K
/-- a state into a row of states -/
theorem xe_aastS {a n b : Nat} {i : Int32} (hd : decode mi.2.1 pc = .ok (.aastore, 1)) (hK : xKK a = some (.inr (xTst, n))) (ha : a < nx) (hin : vp_in i n) (hKb : xKK b = some (.inl 9)) (hb : b < nx) (kk : xEv g d mi (pc + 1) ls st nx u w (x2 r a i.toNatClampNeg (some b)) nx' P) : xEv g d mi pc ls (.ref b :: .int i :: .ref a :: st) nx u w r nx' P := by
  refine ⟨kk.1, fun p e R s m args below meth c H locs n1 rl Q F G hR hl hn1 hdR hL hc hs ho hQ => ?_⟩
  have hc0 : H[xi g a]? = some (arrV (xDA g xTst) n (fun j => xvl g xTst u w r a j)) := hR.2.2.2 a _ ha hK
  have hlt : i.toNatClampNeg < n := Nat.not_le.mp fun q => hin (Or.inr q)
  have h0 : ¬ i < 0 := fun q => hin (Or.inl q)
  obtain ⟨q, hq, cellV, g1, g2, g3, -⟩ := hR.2.2.2 b _ hb hKb
  have hq9 : q = (RX9, TX9, 14) := by
    have e : vwCl[9]? = some (RX9, TX9, 14) := rfl
    exact Option.some.inj (hq.symm.trans e)
  have hcls := (G.1.1 9 q hq).2
  obtain ⟨kA, comp, k1, k2, k3, -⟩ := (xtys_of (ty := xTst) (by simp) G).2
  have hcomp : comp = (xDD g).1 9 := by
    have h := hcls.1
    rw [hq9] at h
    exact Option.some.inj (k3.symm.trans h)
  subst hcomp
  obtain ⟨kC, hkC, -⟩ := hcls.2
  refine W.aast F.1 F.2.1 hc0 (fun q h => by cases h) (fun h => by cases h) k1 k2 rfl hkC ⟨h0, by rw [arrV_size]; exact hlt⟩ g1 (fun q h => by rw [g3] at h; cases h) (by rw [g2]; exact hkC) (by rw [g2]; exact va_assign hcls) rfl (rest := st.map (xv g)) rfl hd (fun H' e1 e2 e3 => ?_)
  refine kk.2 p e R s m args below meth c H' _ n1 rl Q F G (hR.ast hK ha e2 e3 e1 (by
    show va_rf ((x2 r a _ (some b) a _).map (xi g)) = _
    rw [x2_same]; rfl) (fun _ _ _ => rfl) (fun _ _ _ => rfl) (fun b' i' h => x2_ne _ _ h)) (fun z hz => ?_) hn1 hdR hL hc hs ho hQ
  rcases List.mem_append.mp hz with hz | hz
  · exact hl z hz
  · rw [List.mem_singleton.mp hz]
    exact xi_zle (xKK_ge hK)
/-- the constructor of all objects does nothing -/
theorem xe_objInit {a idx : Nat} (hd : decode mi.2.1 pc = .ok (.invokespecial idx, 3)) (hw : Cond.methodLink mi.1.cls idx Lib.objectInit ∈ xT) (hsm : (st.map fun v => v.category).sum ≤ 8) (kk : xEv g (d + 1) mi (pc + 3) ls st nx u w r nx' P) : xEv g (d + 1) mi pc ls (.ref a :: st) nx u w r nx' P := by
  refine ⟨kk.1, fun p e R s m args below meth c H locs n1 rl Q F G hR hl hn1 hdR hL hc hs ho hQ => ?_⟩
  have hsum : (((st.map (xv g)).map fun v => v.category).sum) ≤ 8 := by
    rw [List.map_map]
    rw [show ((fun v : Value => v.category) ∘ xv g) = (fun v : Value => v.category) from funext fun v => xv_cat g v]
    exact hsm
  have hro : 2 * (F0 m pc rl ((Value.ref a :: st).map (xv g))).monitorRoom + ((st.map (xv g)).map fun v => v.category).sum ≤ 8 := lv_room hsum
  refine W.objInit F.1 F.2.1 F.2.2.2.1 (F.2.2.2.2.1 _ hw) (F.2.2.2.2.1 _ (xT_at 145 (by decide +kernel) (by decide +kernel))) (F.2.2.2.2.1 _ (xT_at 146 (by decide +kernel) (by decide +kernel))) rfl (ho.1.trans F.2.2.1.symm) (a := xi g a) (rest := st.map (xv g)) rfl hd (by omega) (by omega) ?_
  exact kk.2 p e R s m args below meth c H locs n1 rl Q F G hR hl hn1 hdR hL hc hs ho hQ
theorem xe_callI {idx n b nx1 : Nat} {mi2 : xMI} {P1 : xPost} {args stk : List Value} (hd : decode mi.2.1 pc = .ok (.invokespecial idx, 3)) (hk : xLI mi.1.cls idx mi2 n) (hst : stk = args.reverse ++ .ref b :: st) (hn : args.length = n) (hsm : (st.map fun v => v.category).sum ≤ 8)
    (hc : xCall g d mi2 (.ref b :: args) nx u w r nx1 P1) (hle : nx1 ≤ nx') (kk : ∀ rv1 u1 w1 r1, P1 rv1 u1 w1 r1 → xEv g (d + 1) mi (pc + 3) ls (rv1.toList ++ st) nx1 u1 w1 r1 nx' P) :
    xEv g (d + 1) mi pc ls stk nx u w r nx' P := by
  obtain ⟨hcd, hlk, hnp, hnm, hret, hin⟩ := hk
  refine ⟨Nat.le_trans hc.1 hle, fun p e R s m args' below meth c H locs n1 rl Q F G hR hl hn1 hdR hL hcc hss ho hQ => ?_⟩
  have hsum : (((st.map (xv g)).map fun v => v.category).sum) ≤ 8 := by
    rw [List.map_map]
    rw [show ((fun v : Value => v.category) ∘ xv g) = (fun v : Value => v.category) from funext fun v => xv_cat g v]
    exact hsm
  have h1 := hle
  have h2 := hc.1
  have m1 := xsl_le h1
  have m2 := xsl_le h2
  have m3 := xsl_le hn1
  have cb := xcallB (nx := nx) (nx1 := nx1) (d1 := d) (R := R) (s := s) (args' := args') hcd hlk hnp F.2.2.2.2.1 hdR hL
  rw [hret] at cb
  refine xe_after (args := .ref b :: args) hc.1 kk F G hl hn1 hdR hL hcc hss ho hQ ?_
  exact va_runI (b := xi g b) (As := args.map (xv g)) (n := n) ⟨F.1, F.2.1, F.2.2.1, F.2.2.2.1, F.2.2.2.2.1⟩ hc.2 ⟨cb, hnm, F.2.2.2.2.1 _ hin⟩
    ⟨xPc_blind, fun U hU hW => ⟨rfl, xG_warm hW G, by rw [hU]; exact hR⟩⟩ rfl (by rw [List.length_map]; exact hn) ho.1 (by rw [hst]; simp [List.map_reverse, xv]) (lv_room hsum) hd ⟨by omega, by omega⟩
theorem xe_callIN {idx n b nx1 : Nat} {mi2 : xMI} {P1 : xPost} {args stk : List Value} (hd : decode mi.2.1 pc = .ok (.invokespecial idx, 3)) (hk : xLIN mi.1.cls idx mi2 n) (hst : stk = args.reverse ++ .ref b :: st) (hn : args.length = n) (hsm : (st.map fun v => v.category).sum ≤ 8)
    (hc : xCall g d mi2 (.ref b :: args) nx u w r nx1 P1) (hle : nx1 ≤ nx') (kk : ∀ rv1 u1 w1 r1, P1 rv1 u1 w1 r1 → xEv g (d + 1) mi (pc + 3) ls (rv1.toList ++ st) nx1 u1 w1 r1 nx' P) :
    xEv g (d + 1) mi pc ls stk nx u w r nx' P := by
  obtain ⟨hcd, ⟨host, hlk⟩, hnp, hnm, hret, hin⟩ := hk
  refine ⟨Nat.le_trans hc.1 hle, fun p e R s m args' below meth c H locs n1 rl Q F G hR hl hn1 hdR hL hcc hss ho hQ => ?_⟩
  have hsum : (((st.map (xv g)).map fun v => v.category).sum) ≤ 8 := by
    rw [List.map_map]
    rw [show ((fun v : Value => v.category) ∘ xv g) = (fun v : Value => v.category) from funext fun v => xv_cat g v]
    exact hsm
  have h1 := hle
  have h2 := hc.1
  have m1 := xsl_le h1
  have m2 := xsl_le h2
  have m3 := xsl_le hn1
  have cb := xcallN (nx := nx) (nx1 := nx1) (d1 := d) (R := R) (s := s) (args' := args') hcd hlk hnp F.2.2.2.2.1 G hdR hL
  rw [hret] at cb
  refine xe_after (args := .ref b :: args) hc.1 kk F G hl hn1 hdR hL hcc hss ho hQ ?_
  exact va_runIN (host := host) (b := xi g b) (As := args.map (xv g)) (n := n) ⟨F.1, F.2.1, F.2.2.1, F.2.2.2.1, F.2.2.2.2.1⟩ hc.2 ⟨cb, hnm, F.2.2.2.2.1 _ hin⟩
    ⟨xPc_blind, fun U hU hW => ⟨rfl, xG_warm hW G, by rw [hU]; exact hR⟩⟩ rfl (by rw [List.length_map]; exact hn) ho.1 (by rw [hst]; simp [List.map_reverse, xv]) (lv_room hsum) hd ⟨by omega, by omega⟩
end XNEW
