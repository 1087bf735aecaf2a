/-! THE RULES OF THE HEAP -/
def x2 {α : Type} (f : Nat → Nat → α) (a k : Nat) (x : α) : Nat → Nat → α := fun b j => if b = a ∧ j = k then x else f b j
theorem x2_same {α : Type} (f : Nat → Nat → α) (a k : Nat) (x : α) : x2 f a k x a k = x := by simp [x2]
theorem x2_ne {α : Type} (f : Nat → Nat → α) {a k b j : Nat} (x : α) (h : ¬ (b = a ∧ j = k)) : x2 f a k x b j = f b j := by simp only [x2, if_neg h]
/-- 0: a whole number, 1: a long, 2: a reference -/
def xcat : FieldType → Nat
  | .long => 1
  | .object _ => 2
  | .array _ => 2
  | _ => 0
theorem xvl_0 {g : xGT} {ty : FieldType} (h : xcat ty = 0) (u : xU) (w : xW) (r : xQ) (a i : Nat) : xvl g ty u w r a i = .int (u a i) := by
  cases ty <;> first | rfl | simp [xcat] at h
theorem xvl_1 {g : xGT} {ty : FieldType} (h : xcat ty = 1) (u : xU) (w : xW) (r : xQ) (a i : Nat) : xvl g ty u w r a i = .long (w a i) := by
  cases ty <;> first | rfl | simp [xcat] at h
theorem xvl_2 {g : xGT} {ty : FieldType} (h : xcat ty = 2) (u : xU) (w : xW) (r : xQ) (a i : Nat) : xvl g ty u w r a i = va_rf ((r a i).map (xi g)) := by
  cases ty <;> first | rfl | simp [xcat] at h
theorem xvl_same {g : xGT} {ty : FieldType} {u u' : xU} {w w' : xW} {r r' : xQ} {a i : Nat} (h0 : u' a i = u a i) (h1 : w' a i = w a i) (h2 : r' a i = r a i) : xvl g ty u' w' r' a i = xvl g ty u w r a i := by
  cases ty <;> simp only [xvl, h0, h1, h2]
theorem xat.to {g : xGT} {u u' : xU} {w w' : xW} {r r' : xQ} {a : Nat} {kd : xKd} {H H' : Heap} (h : xat g u w r a kd H) (h0 : ∀ i, u' a i = u a i) (h1 : ∀ i, w' a i = w a i) (h2 : ∀ i, r' a i = r a i) (hH : H'[xi g a]? = H[xi g a]?) : xat g u' w' r' a kd H' := by
  cases kd with
  | inl ci =>
    obtain ⟨q, hq, ho⟩ := h
    exact ⟨q, hq, (ho.kept hH).to (fun k _ => (xvl_same (h0 k) (h1 k) (h2 k)).symm)⟩
  | inr q =>
    show H'[xi g a]? = _
    rw [hH]
    rw [show H[xi g a]? = _ from h]
    congr 2
    funext j
    exact (xvl_same (h0 j) (h1 j) (h2 j)).symm
/-- one cell is written -/
theorem xR.put {g : xGT} {nx : Nat} {u u' : xU} {w w' : xW} {r r' : xQ} {a : Nat} {H H' : Heap} (h : xR g nx u w r H) (ha8 : 8 ≤ a) (hz : H'.size = H.size) (ho : ∀ q, q ≠ xi g a → H'[q]? = H[q]?) (he : ∀ kd, xKK a = some kd → xat g u' w' r' a kd H')
    (h0 : ∀ b i, b ≠ a → u' b i = u b i) (h1 : ∀ b i, b ≠ a → w' b i = w b i) (h2 : ∀ b i, b ≠ a → r' b i = r b i) : xR g nx u' w' r' H' := by
  obtain ⟨g1, g2, g3, g4⟩ := h
  refine ⟨g1, hz.trans g2, fun q hq => ?_, fun b kd hb hk => ?_⟩
  · rw [ho q (fun e => by have := xi_zle (g := g) ha8; omega)]
    exact g3 q hq
  · by_cases hba : b = a
    · subst hba
      exact he kd hk
    · exact (g4 b kd hb hk).to (fun i => h0 b i hba) (fun i => h1 b i hba) (fun i => h2 b i hba) (ho _ (xi_ne (xKK_ge hk) ha8 hba))
section XHEAP
variable {g : xGT} {d : Nat} {mi : xMI} {pc : Nat} {ls : List (Option Value)} {st : List Value} {nx nx' : Nat} {u : xU} {w : xW} {r : xQ} {P : xPost}
theorem xe_get {a ci k idx : Nat} {v : Value} (hd : decode mi.2.1 pc = .ok (.getfield idx, 3)) (hf : xfl mi.1.cls idx ci k) (hK : xKK a = some (.inl ci)) (ha : a < nx) (hv : xvl g (xty ci k) u w r a k = xv g v) (kk : xEv g d mi (pc + 3) ls (v :: st) nx u w r nx' P) : xEv g d mi pc ls (.ref a :: st) nx u w r nx' P := by
  obtain ⟨q, hq, hk, hw⟩ := hf
  refine xEv.lift (fun p e R s m args below meth c H locs kc ks rl Q F G hR ho kk => ?_) kk
  obtain ⟨q', h1, cell, q1, q2, q3, q4⟩ := hR.2.2.2 a _ ha hK
  cases hq.symm.trans h1
  obtain ⟨hS, hfc, kC, hkC, hkind⟩ := G.1.1 ci _ hq
  obtain ⟨cf, kf, fi, f, hi, hsl⟩ := hS k hk
  refine W.getf (a := xi g a) (rest := st.map (xv g)) F.1 F.2.1 F.2.2.2.1 (F.2.2.2.2.1 _ hw) hi (u_facts hfc hkC (u_lays F.2.2.2.2.1 (xin hq) hk) hi).1 q1 (by rw [q3]; exact fun h => by cases h) (v := xv g v) ?_ rfl rfl hd kk
  rw [hsl, q4 k hk]
  exact congrArg some hv
theorem xe_getI {a ci k idx : Nat} (hd : decode mi.2.1 pc = .ok (.getfield idx, 3)) (hf : xfl mi.1.cls idx ci k) (hK : xKK a = some (.inl ci)) (ha : a < nx) (hty : xcat (xty ci k) = 0) (kk : xEv g d mi (pc + 3) ls (.int (u a k) :: st) nx u w r nx' P) : xEv g d mi pc ls (.ref a :: st) nx u w r nx' P :=
  xe_get hd hf hK ha (xvl_0 hty u w r a k) kk
theorem xe_getL {a ci k idx : Nat} (hd : decode mi.2.1 pc = .ok (.getfield idx, 3)) (hf : xfl mi.1.cls idx ci k) (hK : xKK a = some (.inl ci)) (ha : a < nx) (hty : xcat (xty ci k) = 1) (kk : xEv g d mi (pc + 3) ls (.long (w a k) :: st) nx u w r nx' P) : xEv g d mi pc ls (.ref a :: st) nx u w r nx' P :=
  xe_get hd hf hK ha (xvl_1 hty u w r a k) kk
theorem xe_getR {a ci k idx b : Nat} (hd : decode mi.2.1 pc = .ok (.getfield idx, 3)) (hf : xfl mi.1.cls idx ci k) (hK : xKK a = some (.inl ci)) (ha : a < nx) (hty : xcat (xty ci k) = 2) (hr : r a k = some b) (kk : xEv g d mi (pc + 3) ls (.ref b :: st) nx u w r nx' P) : xEv g d mi pc ls (.ref a :: st) nx u w r nx' P :=
  xe_get hd hf hK ha (by rw [xvl_2 hty, hr]; rfl) kk
/-- a field is written: u', w', r' are memory with it -/
theorem xe_put {a ci k idx : Nat} {v : Value} {u1 : xU} {w1 : xW} {r1 : xQ} {fin : Bool} (hd : decode mi.2.1 pc = .ok (.putfield idx, 3)) (hf : xfl mi.1.cls idx ci k) (hK : xKK a = some (.inl ci)) (ha : a < nx) (hfin : ∀ q : vw_C, vwCl[ci]? = some q → (q.2.1 k).2.2.2 = fin ∧ (fin = true → (q.2.1 k).1 = mi.1.cls)) (hin : fin = true → mi.1.name = "<init>")
    (hfit : narrow (xty ci k) (xv g v) = xv g v ∧ fits (xty ci k) (xv g v) = true) (hv : xvl g (xty ci k) u1 w1 r1 a k = xv g v)
    (h0 : ∀ b i, ¬ (b = a ∧ i = k) → u1 b i = u b i) (h1 : ∀ b i, ¬ (b = a ∧ i = k) → w1 b i = w b i) (h2 : ∀ b i, ¬ (b = a ∧ i = k) → r1 b i = r b i)
    (kk : xEv g d mi (pc + 3) ls st nx u1 w1 r1 nx' P) : xEv g d mi pc ls (v :: .ref a :: st) nx u w r nx' P := by
  obtain ⟨q, hq, hk, hw⟩ := hf
  have ha8 := xKK_ge hK
  refine ⟨kk.1, fun p e R s m args below meth c H locs n1 rl Q F G hR hl hn1 hdR hL hc hs ho hQ => ?_⟩
  obtain ⟨q', hq', cell, q1, q2, q3, q4⟩ := hR.2.2.2 a _ ha hK
  cases hq.symm.trans hq'
  have hap := va_apart (own := mi.1.cls) F.2.2.2.2.1 (xin hq) (xty ci) (xty_ok hq) (xnm hq) G.1 hq
  obtain ⟨hS, hfc, kC, hkC, hkind⟩ := G.1.1 ci _ hq
  obtain ⟨cf, kf, fi, f, hi, hsl⟩ := hS k hk
  have hst := (u_facts hfc hkC (u_lays F.2.2.2.2.1 (xin hq) hk) hi).1
  have hlt : f.slot < cell.slots.size := by rw [hsl]; exact k2_hasslot (q4 k hk)
  have fin' : ∀ H' : Heap, H'[xi g a]? = some (cell.setSlot f.slot (xv g v)) → H'.size = H.size → (∀ q : Nat, q ≠ xi g a → H'[q]? = H[q]?) →
      W p (xl g) e R s m args below meth c H' (locs ++ [⟨xi g a, f.slot⟩]) (nx - n1) (xsl nx - xsl n1) Q (F0 m (pc + 3) rl (st.map (xv g))) := by
    intro H' e1 e2 e3
    refine kk.2 p e R s m args below meth c H' _ n1 rl Q F G (hR.put ha8 e2 e3 (fun kd hkd => ?_) (fun b i hb => h0 b i (fun z => hb z.1)) (fun b i hb => h1 b i (fun z => hb z.1)) (fun b i hb => h2 b i (fun z => hb z.1))) (fun z hz => ?_) hn1 hdR hL hc hs ho hQ
    · cases hK.symm.trans hkd
      refine ⟨q, hq, t_OB.to (V := updV (fun k => xvl g (xty ci k) u w r a k) k (xv g v)) ⟨_, e1, q2, q3, by rw [hsl]; exact t_set q4 hap hk _⟩ (fun j hj => ?_)⟩
      by_cases hjk : j = k
      · subst hjk
        simp only [updV, if_true]
        exact hv.symm
      · simp only [updV, if_neg hjk]
        exact (xvl_same (h0 a j (fun z => hjk z.2)) (h1 a j (fun z => hjk z.2)) (h2 a j (fun z => hjk z.2))).symm
    · rcases List.mem_append.mp hz with hz | hz
      · exact hl z hz
      · rw [List.mem_singleton.mp hz]
        exact xi_zle ha8
  obtain ⟨hfi1, hfi2⟩ := hfin q hq
  cases fin with
  | false =>
    have hlay := F.2.2.2.2.1 _ (xin hq _ (u_in_lay hk))
    unfold u_lay at hlay
    rw [if_neg (by rw [hfi1]; decide)] at hlay
    have h6 := u_store hfc hkC hkind hlay hi (xty_ok hq k hk) hfit.1 hfit.2
    exact W.putK (a := xi g a) (v := xv g v) (rest := st.map (xv g)) F.1 F.2.1 (f := f) ⟨F.2.2.2.1, F.2.2.2.2.1 _ hw, ⟨_, _, _, hi⟩, hst⟩ (by rw [q2]; exact h6) q1 q3 hlt rfl rfl hd fin'
  | true =>
    have hlay := F.2.2.2.2.1 _ (xin hq _ (u_in_lay hk))
    unfold u_lay at hlay
    rw [if_pos hfi1] at hlay
    have hcf : m.cls = cf := by
      obtain ⟨_, _, c', _, _, _, -, -, hf', -, -, -, hown2, -⟩ := Cond.laysFinal_spec hlay
      have e1 : c' = cf := by have := hi.symm.trans hf'; simp at this; exact this.1.symm
      rw [hfi2 rfl] at hown2
      rw [← e1]; exact Option.some.inj (F.2.2.2.1.symm.trans hown2)
    have h7 := u_fits hfc hkC hkind (Or.inr hlay) hi (xty_ok hq k hk) hfit.1 hfit.2
    exact W.putFinK (a := xi g a) (v := xv g v) (rest := st.map (xv g)) F.1 F.2.1 F.2.2.2.1 (F.2.2.2.2.1 _ hw) hi hst hcf (F.2.2.2.2.2.2.2.trans (hin rfl)) (by rw [q2]; exact h7) q1 q3 hlt rfl rfl hd fin'
theorem xe_putI {a ci k idx : Nat} {x : Int32} (hd : decode mi.2.1 pc = .ok (.putfield idx, 3)) (hf : xfl mi.1.cls idx ci k) (hK : xKK a = some (.inl ci)) (ha : a < nx) (hfin : ∀ q : vw_C, vwCl[ci]? = some q → (q.2.1 k).2.2.2 = false) (hty : xty ci k = .int) (kk : xEv g d mi (pc + 3) ls st nx (x2 u a k x) w r nx' P) : xEv g d mi pc ls (.int x :: .ref a :: st) nx u w r nx' P :=
  xe_put (v := .int x) hd hf hK ha (fin := false) (fun q hq => ⟨hfin q hq, fun h => by cases h⟩) (fun h => by cases h) (by rw [hty]; exact ⟨rfl, rfl⟩) (by rw [hty]; show Value.int (x2 u a k x a k) = Value.int x; rw [x2_same]) (fun b i h => x2_ne _ _ h) (fun _ _ _ => rfl) (fun _ _ _ => rfl) kk
/-- a boolean field is given 0 or 1 -/
theorem xe_putZ {a ci k idx : Nat} {x : Int32} (hd : decode mi.2.1 pc = .ok (.putfield idx, 3)) (hf : xfl mi.1.cls idx ci k) (hK : xKK a = some (.inl ci)) (ha : a < nx) (hfin : ∀ q : vw_C, vwCl[ci]? = some q → (q.2.1 k).2.2.2 = false) (hty : xty ci k = .boolean) (hx : x = 0 ∨ x = 1) (kk : xEv g d mi (pc + 3) ls st nx (x2 u a k x) w r nx' P) : xEv g d mi pc ls (.int x :: .ref a :: st) nx u w r nx' P :=
  xe_put (v := .int x) hd hf hK ha (fin := false) (fun q hq => ⟨hfin q hq, fun h => by cases h⟩) (fun h => by cases h) (by rw [hty]; rcases hx with rfl | rfl <;> exact ⟨rfl, rfl⟩) (by rw [hty]; show Value.int (x2 u a k x a k) = Value.int x; rw [x2_same]) (fun b i h => x2_ne _ _ h) (fun _ _ _ => rfl) (fun _ _ _ => rfl) kk
theorem xe_putL {a ci k idx : Nat} {x : Int64} (hd : decode mi.2.1 pc = .ok (.putfield idx, 3)) (hf : xfl mi.1.cls idx ci k) (hK : xKK a = some (.inl ci)) (ha : a < nx) (hfin : ∀ q : vw_C, vwCl[ci]? = some q → (q.2.1 k).2.2.2 = false) (hty : xty ci k = .long) (kk : xEv g d mi (pc + 3) ls st nx u (x2 w a k x) r nx' P) : xEv g d mi pc ls (.long x :: .ref a :: st) nx u w r nx' P :=
  xe_put (v := .long x) hd hf hK ha (fin := false) (fun q hq => ⟨hfin q hq, fun h => by cases h⟩) (fun h => by cases h) (by rw [hty]; exact ⟨rfl, rfl⟩) (by rw [hty]; show Value.long (x2 w a k x a k) = Value.long x; rw [x2_same]) (fun _ _ _ => rfl) (fun b i h => x2_ne _ _ h) (fun _ _ _ => rfl) kk
theorem xfit_ref {ty : FieldType} (h : xcat ty = 2) (a : Nat) : narrow ty (.ref a) = .ref a ∧ fits ty (.ref a) = true := by
  cases ty <;> first | exact ⟨rfl, rfl⟩ | simp [xcat] at h
theorem xe_putR {a ci k idx b : Nat} (hd : decode mi.2.1 pc = .ok (.putfield idx, 3)) (hf : xfl mi.1.cls idx ci k) (hK : xKK a = some (.inl ci)) (ha : a < nx) (hfin : ∀ q : vw_C, vwCl[ci]? = some q → (q.2.1 k).2.2.2 = false) (hty : xcat (xty ci k) = 2) (kk : xEv g d mi (pc + 3) ls st nx u w (x2 r a k (some b)) nx' P) : xEv g d mi pc ls (.ref b :: .ref a :: st) nx u w r nx' P :=
  xe_put (v := .ref b) hd hf hK ha (fin := false) (fun q hq => ⟨hfin q hq, fun h => by cases h⟩) (fun h => by cases h) (xfit_ref hty _) (by rw [xvl_2 hty, x2_same]; rfl) (fun _ _ _ => rfl) (fun _ _ _ => rfl) (fun b i h => x2_ne _ _ h) kk
theorem xe_putRF {a ci k idx b : Nat} (hd : decode mi.2.1 pc = .ok (.putfield idx, 3)) (hf : xfl mi.1.cls idx ci k) (hK : xKK a = some (.inl ci)) (ha : a < nx) (hfin : ∀ q : vw_C, vwCl[ci]? = some q → (q.2.1 k).2.2.2 = true ∧ (q.2.1 k).1 = mi.1.cls) (hin : mi.1.name = "<init>") (hty : xcat (xty ci k) = 2) (kk : xEv g d mi (pc + 3) ls st nx u w (x2 r a k (some b)) nx' P) : xEv g d mi pc ls (.ref b :: .ref a :: st) nx u w r nx' P :=
  xe_put (v := .ref b) hd hf hK ha (fin := true) (fun q hq => ⟨(hfin q hq).1, fun _ => (hfin q hq).2⟩) (fun _ => hin) (xfit_ref hty _) (by rw [xvl_2 hty, x2_same]; rfl) (fun _ _ _ => rfl) (fun _ _ _ => rfl) (fun b i h => x2_ne _ _ h) kk
/-! arrays -/
/-- an index that lies within -/
abbrev xin_ (i : Int32) (n : Nat) : Prop := vp_in i n
theorem xtys_of {ty : FieldType} (h : ty = .int ∨ ty = .byte ∨ ty = .boolean ∨ ty = .long ∨ ty = .array .int ∨ ty = xTst) {s : State} (G : xG g s) : ArrOfT s (xDA g ty) ty ∧ va_RA s (xDA g ty) ty := by
  rcases h with rfl | rfl | rfl | rfl | rfl | rfl
  · exact G.1.2 0 _ rfl
  · exact G.1.2 1 _ rfl
  · exact G.1.2 2 _ rfl
  · exact G.1.2 3 _ rfl
  · exact G.1.2 4 _ rfl
  · exact G.1.2 5 _ rfl
theorem xe_alen {a n : Nat} {ty : FieldType} {v : Int32} (hd : decode mi.2.1 pc = .ok (.arraylength, 1)) (hK : xKK a = some (.inr (ty, n))) (ha : a < nx) (hty : ty = .int ∨ ty = .byte ∨ ty = .boolean ∨ ty = .long ∨ ty = .array .int ∨ ty = xTst) (hv : Int32.ofNat n = v) (kk : xEv g d mi (pc + 1) ls (.int v :: st) nx u w r nx' P) : xEv g d mi pc ls (.ref a :: st) nx u w r nx' P := by
  subst hv
  refine xEv.lift (fun p e R s m args below meth c H locs kc ks rl Q F G hR ho kk => ?_) kk
  have hc : H[xi g a]? = some (arrV (xDA g ty) n (fun j => xvl g ty u w r a j)) := hR.2.2.2 a _ ha hK
  exact W.alen (a := xi g a) (n := Int32.ofNat n) (rest := st.map (xv g)) F.1 F.2.1 hc ((xtys_of hty G).1 n _) (by rw [arrV_size] <;> rfl) rfl rfl hd kk
theorem xe_iald {a n : Nat} {i : Int32} (hd : decode mi.2.1 pc = .ok (.iaload, 1)) (hK : xKK a = some (.inr (.int, n))) (ha : a < nx) (hin : vp_in i n) (kk : xEv g d mi (pc + 1) ls (.int (u a i.toNatClampNeg) :: st) nx u w r nx' P) : xEv g d mi pc ls (.int i :: .ref a :: st) nx u w r nx' P := by
  refine xEv.lift (fun p e R s m args below meth c H locs kc ks rl Q F G hR ho kk => ?_) kk
  have hc : H[xi g a]? = some (arrV (xDA g .int) n (fun j => xvl g .int u w r a j)) := hR.2.2.2 a _ ha hK
  have hlt : i.toNatClampNeg < n := Nat.not_le.mp fun q => hin (Or.inr q)
  exact W.iald (a := xi g a) (v := xv g (.int (u a i.toNatClampNeg))) (rest := st.map (xv g)) F.1 F.2.1 hc ((xtys_of (by simp) G).1 n _) (fun q => by cases q) (by rw [arrV_size]; exact hin) (by rw [arrV_read _ _ hlt]; rfl) rfl rfl hd kk
theorem xe_bald {a n : Nat} {i : Int32} (hd : decode mi.2.1 pc = .ok (.baload, 1)) (hK : xKK a = some (.inr (.byte, n))) (ha : a < nx) (hin : vp_in i n) (kk : xEv g d mi (pc + 1) ls (.int (u a i.toNatClampNeg) :: st) nx u w r nx' P) : xEv g d mi pc ls (.int i :: .ref a :: st) nx u w r nx' P := by
  refine xEv.lift (fun p e R s m args below meth c H locs kc ks rl Q F G hR ho kk => ?_) kk
  have hc : H[xi g a]? = some (arrV (xDA g .byte) n (fun j => xvl g .byte u w r a j)) := hR.2.2.2 a _ ha hK
  have hlt : i.toNatClampNeg < n := Nat.not_le.mp fun q => hin (Or.inr q)
  exact W.bald (a := xi g a) (v := xv g (.int (u a i.toNatClampNeg))) (rest := st.map (xv g)) F.1 F.2.1 hc ((xtys_of (by simp) G).1 n _) (fun q => by cases q) (by rw [arrV_size]; exact hin) (by rw [arrV_read _ _ hlt]; rfl) rfl rfl hd kk
theorem xe_zald {a n : Nat} {i : Int32} (hd : decode mi.2.1 pc = .ok (.baload, 1)) (hK : xKK a = some (.inr (.boolean, n))) (ha : a < nx) (hin : vp_in i n) (kk : xEv g d mi (pc + 1) ls (.int (u a i.toNatClampNeg) :: st) nx u w r nx' P) : xEv g d mi pc ls (.int i :: .ref a :: st) nx u w r nx' P := by
  refine xEv.lift (fun p e R s m args below meth c H locs kc ks rl Q F G hR ho kk => ?_) kk
  have hc : H[xi g a]? = some (arrV (xDA g .boolean) n (fun j => xvl g .boolean u w r a j)) := hR.2.2.2 a _ ha hK
  have hlt : i.toNatClampNeg < n := Nat.not_le.mp fun q => hin (Or.inr q)
  exact W.zald (a := xi g a) (v := xv g (.int (u a i.toNatClampNeg))) (rest := st.map (xv g)) F.1 F.2.1 hc ((xtys_of (by simp) G).1 n _) (fun q => by cases q) (by rw [arrV_size]; exact hin) (by rw [arrV_read _ _ hlt]; rfl) rfl rfl hd kk
theorem xe_lald {a n : Nat} {i : Int32} (hd : decode mi.2.1 pc = .ok (.laload, 1)) (hK : xKK a = some (.inr (.long, n))) (ha : a < nx) (hin : vp_in i n) (kk : xEv g d mi (pc + 1) ls (.long (w a i.toNatClampNeg) :: st) nx u w r nx' P) : xEv g d mi pc ls (.int i :: .ref a :: st) nx u w r nx' P := by
  refine xEv.lift (fun p e R s m args below meth c H locs kc ks rl Q F G hR ho kk => ?_) kk
  have hc : H[xi g a]? = some (arrV (xDA g .long) n (fun j => xvl g .long u w r a j)) := hR.2.2.2 a _ ha hK
  have hlt : i.toNatClampNeg < n := Nat.not_le.mp fun q => hin (Or.inr q)
  exact W.lald (a := xi g a) (v := xv g (.long (w a i.toNatClampNeg))) (rest := st.map (xv g)) F.1 F.2.1 hc ((xtys_of (by simp) G).1 n _) (fun q => by cases q) (by rw [arrV_size]; exact hin) (by rw [arrV_read _ _ hlt]; rfl) rfl rfl hd kk
theorem xe_aald {a n b : Nat} {ty : FieldType} {i : Int32} (hd : decode mi.2.1 pc = .ok (.aaload, 1)) (hK : xKK a = some (.inr (ty, n))) (ha : a < nx) (hty : ty = .array .int ∨ ty = xTst) (hin : vp_in i n) (hr : r a i.toNatClampNeg = some b) (kk : xEv g d mi (pc + 1) ls (.ref b :: st) nx u w r nx' P) : xEv g d mi pc ls (.int i :: .ref a :: st) nx u w r nx' P := by
  refine xEv.lift (fun p e R s m args below meth c H locs kc ks rl Q F G hR ho kk => ?_) kk
  have hc : H[xi g a]? = some (arrV (xDA g ty) n (fun j => xvl g ty u w r a j)) := hR.2.2.2 a _ ha hK
  have hlt : i.toNatClampNeg < n := Nat.not_le.mp fun q => hin (Or.inr q)
  have h2 : xcat ty = 2 := by rcases hty with rfl | rfl <;> rfl
  exact W.aald (a := xi g a) (v := xv g (.ref b)) (rest := st.map (xv g)) (ty := ty) F.1 F.2.1 hc ((xtys_of (by rcases hty with rfl | rfl <;> simp) G).1 n _) (by rcases hty with rfl | rfl <;> rfl) (fun q => by cases q) (by rw [arrV_size]; exact hin) (by rw [arrV_read _ _ hlt, xvl_2 h2, hr]; rfl) rfl rfl hd kk
/-- a place of an array is written -/
theorem xR.ast {a n k : Nat} {ty : FieldType} {H H' : Heap} {u1 : xU} {w1 : xW} {r1 : xQ} {v : Value} (h : xR g nx u w r H) (hK : xKK a = some (.inr (ty, n))) (ha : a < nx) (hz : H'.size = H.size) (ho : ∀ q, q ≠ xi g a → H'[q]? = H[q]?) (he : H'[xi g a]? = some ((arrV (xDA g ty) n (fun j => xvl g ty u w r a j)).setSlot k v)) (hv : xvl g ty u1 w1 r1 a k = v)
    (h0 : ∀ b i, ¬ (b = a ∧ i = k) → u1 b i = u b i) (h1 : ∀ b i, ¬ (b = a ∧ i = k) → w1 b i = w b i) (h2 : ∀ b i, ¬ (b = a ∧ i = k) → r1 b i = r b i) : xR g nx u1 w1 r1 H' := by
  refine h.put (xKK_ge hK) hz ho (fun kd hkd => ?_) (fun b i hb => h0 b i (fun z => hb z.1)) (fun b i hb => h1 b i (fun z => hb z.1)) (fun b i hb => h2 b i (fun z => hb z.1))
  cases hK.symm.trans hkd
  show H'[xi g a]? = _
  rw [he, arrV_store]
  congr 2
  funext j
  by_cases hj : j = k
  · subst hj
    simp only [updV, if_true]
    exact hv.symm
  · simp only [updV, if_neg hj]
    exact (xvl_same (h0 a j (fun z => hj z.2)) (h1 a j (fun z => hj z.2)) (h2 a j (fun z => hj z.2))).symm
theorem xe_iast {a n : Nat} {i : Int32} {x : Int32} (hd : decode mi.2.1 pc = .ok (.iastore, 1)) (hK : xKK a = some (.inr (.int, n))) (ha : a < nx) (hin : vp_in i n)  (kk : xEv g d mi (pc + 1) ls st nx (x2 u a i.toNatClampNeg x) w r nx' P) : xEv g d mi pc ls (.int x :: .int i :: .ref a :: st) nx u w r nx' P := by
  refine ⟨kk.1, fun p e R s m args below meth c H locs n1 rl Q F G hR hl hn1 hdR hL hc hs ho hQ => ?_⟩
  have hc0 : H[xi g a]? = some (arrV (xDA g .int) n (fun j => xvl g .int u w r a j)) := hR.2.2.2 a _ ha hK
  refine W.iast (a := xi g a) (x := x) (rest := st.map (xv g)) F.1 F.2.1 hc0 ((xtys_of (by simp) G).1 n _) (fun q => by cases q) (by rw [arrV_size]; exact hin) rfl rfl hd fun H' e1 e2 e3 => ?_
  refine kk.2 p e R s m args below meth c H' _ n1 rl Q F G (hR.ast hK ha e2 e3 e1 (by show Value.int (x2 u a _ _ a _) = _; rw [x2_same]) (fun b i h => x2_ne _ _ h) (fun _ _ _ => rfl) (fun _ _ _ => rfl)) (fun z hz => ?_) hn1 hdR hL hc hs ho hQ
  rcases List.mem_append.mp hz with hz | hz
  · exact hl z hz
  · rw [List.mem_singleton.mp hz]
    exact xi_zle (xKK_ge hK)
theorem xe_last {a n : Nat} {i : Int32} {x : Int64} (hd : decode mi.2.1 pc = .ok (.lastore, 1)) (hK : xKK a = some (.inr (.long, n))) (ha : a < nx) (hin : vp_in i n)  (kk : xEv g d mi (pc + 1) ls st nx u (x2 w a i.toNatClampNeg x) r nx' P) : xEv g d mi pc ls (.long x :: .int i :: .ref a :: st) nx u w r nx' P := by
  refine ⟨kk.1, fun p e R s m args below meth c H locs n1 rl Q F G hR hl hn1 hdR hL hc hs ho hQ => ?_⟩
  have hc0 : H[xi g a]? = some (arrV (xDA g .long) n (fun j => xvl g .long u w r a j)) := hR.2.2.2 a _ ha hK
  refine W.last (a := xi g a) (x := x) (rest := st.map (xv g)) F.1 F.2.1 hc0 ((xtys_of (by simp) G).1 n _) (fun q => by cases q) (by rw [arrV_size]; exact hin) rfl rfl hd fun H' e1 e2 e3 => ?_
  refine kk.2 p e R s m args below meth c H' _ n1 rl Q F G (hR.ast hK ha e2 e3 e1 (by show Value.long (x2 w a _ _ a _) = _; rw [x2_same]) (fun _ _ _ => rfl) (fun b i h => x2_ne _ _ h) (fun _ _ _ => rfl)) (fun z hz => ?_) hn1 hdR hL hc hs ho hQ
  rcases List.mem_append.mp hz with hz | hz
  · exact hl z hz
  · rw [List.mem_singleton.mp hz]
    exact xi_zle (xKK_ge hK)
theorem xe_bast {a n : Nat} {i : Int32} {x : Int32} (hd : decode mi.2.1 pc = .ok (.bastore, 1)) (hK : xKK a = some (.inr (.byte, n))) (ha : a < nx) (hin : vp_in i n)  (kk : xEv g d mi (pc + 1) ls st nx (x2 u a i.toNatClampNeg x.toInt8.toInt32) w r nx' P) : xEv g d mi pc ls (.int x :: .int i :: .ref a :: st) nx u w r nx' P := by
  refine ⟨kk.1, fun p e R s m args below meth c H locs n1 rl Q F G hR hl hn1 hdR hL hc hs ho hQ => ?_⟩
  have hc0 : H[xi g a]? = some (arrV (xDA g .byte) n (fun j => xvl g .byte u w r a j)) := hR.2.2.2 a _ ha hK
  refine W.bast (a := xi g a) (x := x) (rest := st.map (xv g)) F.1 F.2.1 hc0 ((xtys_of (by simp) G).1 n _) (fun q => by cases q) (by rw [arrV_size]; exact hin) rfl rfl hd fun H' e1 e2 e3 => ?_
  refine kk.2 p e R s m args below meth c H' _ n1 rl Q F G (hR.ast hK ha e2 e3 e1 (by show Value.int (x2 u a _ _ a _) = _; rw [x2_same]; rfl) (fun b i h => x2_ne _ _ h) (fun _ _ _ => rfl) (fun _ _ _ => rfl)) (fun z hz => ?_) hn1 hdR hL hc hs ho hQ
  rcases List.mem_append.mp hz with hz | hz
  · exact hl z hz
  · rw [List.mem_singleton.mp hz]
    exact xi_zle (xKK_ge hK)
theorem xe_zast {a n : Nat} {i : Int32} {x : Int32} (hd : decode mi.2.1 pc = .ok (.bastore, 1)) (hK : xKK a = some (.inr (.boolean, n))) (ha : a < nx) (hin : vp_in i n) (hx : x = 0 ∨ x = 1) (kk : xEv g d mi (pc + 1) ls st nx (x2 u a i.toNatClampNeg x) w r nx' P) : xEv g d mi pc ls (.int x :: .int i :: .ref a :: st) nx u w r nx' P := by
  refine ⟨kk.1, fun p e R s m args below meth c H locs n1 rl Q F G hR hl hn1 hdR hL hc hs ho hQ => ?_⟩
  have hc0 : H[xi g a]? = some (arrV (xDA g .boolean) n (fun j => xvl g .boolean u w r a j)) := hR.2.2.2 a _ ha hK
  refine W.zast (a := xi g a) (x := x) (rest := st.map (xv g)) F.1 F.2.1 hc0 ((xtys_of (by simp) G).1 n _) (fun q => by cases q) (by rw [arrV_size]; exact hin) rfl rfl hd fun H' e1 e2 e3 => ?_
  refine kk.2 p e R s m args below meth c H' _ n1 rl Q F G (hR.ast hK ha e2 e3 e1 (by show Value.int (x2 u a _ _ a _) = _; rw [x2_same]; rcases hx with rfl | rfl <;> rfl) (fun b i h => x2_ne _ _ h) (fun _ _ _ => rfl) (fun _ _ _ => rfl)) (fun z hz => ?_) hn1 hdR hL hc hs ho hQ
  rcases List.mem_append.mp hz with hz | hz
  · exact hl z hz
  · rw [List.mem_singleton.mp hz]
    exact xi_zle (xKK_ge hK)
end XHEAP
