/-! CALLS: a method from its start to its end, by its arguments, its answer, and memory ahead of it and behind -/
def xQc (g : xGT) (nx' : Nat) (P : xPost) : Array Value → State → Outcome → State → Prop := fun _ _ o t => ∃ rv u' w' r', P rv u' w' r' ∧ o = .returned (rv.map (xv g)) ∧ xR g nx' u' w' r' t.heap
def xPc (g : xGT) (args : List Value) (nx : Nat) (u : xU) (w : xW) (r : xQ) : Array Value → State → Prop := fun a U => a = (args.map (xv g)).toArray ∧ xG g U ∧ xR g nx u w r U.heap
def xws (mi : xMI) : List Cond := Cond.code mi.1 mi.2.1 mi.2.2.1 mi.2.2.2 :: xT
def xRm (d nx nx' : Nat) : Room := { frames := d, cells := nx' - nx, slots := xsl nx' - xsl nx, locals := 64 * d }
def xCall (g : xGT) (d : Nat) (mi : xMI) (args : List Value) (nx : Nat) (u : xU) (w : xW) (r : xQ) (nx' : Nat) (P : xPost) : Prop :=
  nx ≤ nx' ∧ Met (xl g) mi.1 (xws mi) (xRm d nx nx') (xPc g args nx u w r) (xQc g nx' P) (nx' - nx) (xsl nx' - xsl nx) (fun q => xz g ≤ q)
/-- the locals at the start -/
theorem xCall.mono {g : xGT} {d : Nat} {mi : xMI} {args : List Value} {nx nx' : Nat} {u : xU} {w : xW} {r : xQ} {P P2 : xPost} (kk : xCall g d mi args nx u w r nx' P) (h : ∀ rv u' w' r', P rv u' w' r' → P2 rv u' w' r') : xCall g d mi args nx u w r nx' P2 := by
  refine ⟨kk.1, fun p e a1 a2 a3 s m as below hf hap hp hk => ?_⟩
  obtain ⟨k, o, h1, h2, h3, h4, h5⟩ := kk.2 p e a1 a2 a3 s m as below hf hap hp hk
  obtain ⟨rv, u', w', r', hP, e1, e2⟩ := h4
  exact ⟨k, o, h1, h2, h3, ⟨rv, u', w', r', h _ _ _ _ hP, e1, e2⟩, h5⟩
def xargs : List Value → List (Option Value)
  | [] => []
  | v :: vs => if v.category = 2 then some v :: none :: xargs vs else some v :: xargs vs
theorem xargs_in {vs : List Value} : ∀ {i k : Nat} {v : Value}, (xargs vs)[i]? = some (some v) → (k + i, v) ∈ lv_args k vs := by
  induction vs with
  | nil => intro i k v h; simp [xargs] at h
  | cons x xs ih =>
    intro i k v h
    unfold xargs at h
    unfold lv_args
    by_cases hx : x.category = 2
    · rw [if_pos hx] at h ⊢
      match i, h with
      | 0, h => cases h; exact List.mem_cons_self
      | 1, h => cases h
      | j + 2, h =>
        have := ih (k := k + 2) (show (xargs xs)[j]? = some (some v) from h)
        rw [show k + (j + 2) = k + 2 + j by omega]
        exact List.mem_cons_of_mem _ this
    · rw [if_neg hx] at h ⊢
      match i, h with
      | 0, h => cases h; exact List.mem_cons_self
      | j + 1, h =>
        have := ih (k := k + 1) (show (xargs xs)[j]? = some (some v) from h)
        rw [show k + (j + 1) = k + 1 + j by omega]
        exact List.mem_cons_of_mem _ this
theorem xargs_map (g : xGT) (vs : List Value) : ∀ (i : Nat) (v : Value), (xargs vs)[i]? = some (some v) → (i, xv g v) ∈ lv_args 0 (vs.map (xv g)) := by
  have key : ∀ (vs : List Value) (k : Nat) (q : Nat × Value), q ∈ lv_args k vs → (q.1, xv g q.2) ∈ lv_args k (vs.map (xv g)) := by
    intro vs
    induction vs with
    | nil => intro k q h; cases h
    | cons x xs ih =>
      intro k q h
      show _ ∈ (k, xv g x) :: lv_args (if (xv g x).category = 2 then k + 2 else k + 1) (xs.map (xv g))
      rw [xv_cat]
      rcases List.mem_cons.mp h with rfl | h
      · exact List.mem_cons_self
      · exact List.mem_cons_of_mem _ (ih _ q h)
  intro i v h
  have := key vs 0 _ (xargs_in (k := 0) h)
  simpa using this
theorem xargs_len (vs : List Value) : (lg_sl vs).length = (xargs vs).length := by
  induction vs with
  | nil => rfl
  | cons x xs ih =>
    have e : lg_sl (x :: xs) = (if x.category = 2 then [Slot.val x, Slot.second] else [Slot.val x]) ++ lg_sl xs := rfl
    rw [e]
    unfold xargs
    by_cases hx : x.category = 2
    · simp [hx, ih]
    · simp [hx, ih]
theorem lg_sl_map (g : xGT) (vs : List Value) : (lg_sl (vs.map (xv g))).length = (lg_sl vs).length := by
  induction vs with
  | nil => rfl
  | cons x xs ih =>
    have e : ∀ (y : Value) (ys : List Value), lg_sl (y :: ys) = (if y.category = 2 then [Slot.val y, Slot.second] else [Slot.val y]) ++ lg_sl ys := fun _ _ => rfl
    rw [List.map_cons, e, e, xv_cat]
    by_cases hx : x.category = 2
    · simp [hx, ih]
    · simp [hx, ih]
theorem xCall.of {g : xGT} {d : Nat} {mi : xMI} {args : List Value} {ls : List (Option Value)} {nx nx' : Nat} {u : xU} {w : xW} {r : xQ} {P : xPost} (hpl : plainName mi.1.cls = true) (hlen : (xargs args).length ≤ mi.2.2.1) (hls : xargs args ++ List.replicate (mi.2.2.1 - (xargs args).length) none = ls)
    (k : xEv g d mi 0 ls [] nx u w r nx' P) : xCall g d mi args nx u w r nx' P := by
  refine ⟨k.1, Met.ofW (cc := mi.2.1) (maxL := mi.2.2.1) (ret := mi.2.2.2) hpl rfl ?_⟩
  intro p e s m args' below meth c s₁ B hml hv
  obtain ⟨rfl, hG, hR⟩ := hv
  have hts := atoms_spec (ws := xws mi) B.pre
  have hown : s.vm.findClass mi.1.cls = some m.cls := findClass_of_methodNamed B.named
  have hnm : meth.name = mi.1.name := (name_of_methodNamed B.named B.method).1
  have hl := lv_entry (args.map (xv g)) (n := mi.2.2.1) (by rw [lg_sl_map, xargs_len]; exact hlen)
  rw [lg_entry_eq]
  generalize (lg_sl (args.map (xv g)) ++ List.replicate (mi.2.2.1 - (lg_sl (args.map (xv g))).length) Slot.unset).toArray = rl at hl ⊢
  have hlo : xLo g rl mi.2.2.1 ls := by
    refine ⟨hl.1, hl.2.1, fun i v h => ?_⟩
    rw [← hls] at h
    by_cases hi : i < (xargs args).length
    · rw [List.getElem?_append_left hi] at h
      exact hl.2.2 _ (xargs_map g args i v h)
    · rw [List.getElem?_append_right (by omega)] at h
      have h9 := List.eq_of_mem_replicate (List.mem_of_getElem? h)
      cases h9
  have e0 : nx - nx = 0 := Nat.sub_self _
  have e1 : xsl nx - xsl nx = 0 := Nat.sub_self _
  have K := k.2 p e (headSpec (xws mi) (xRm d nx nx')).room s m (args.map (xv g)).toArray below meth c s.heap [] nx rl (MQ below (xQc g nx' P) (args.map (xv g)).toArray s (nx' - nx) (xsl nx' - xsl nx) (fun q => xz g ≤ q))
    ⟨B.exec, B.bytes, hml, hown, fun w hw => hts w (List.mem_cons_of_mem _ hw), B.returns, B.notSynchronized, hnm⟩ hG hR (fun q h => by cases h) (Nat.le_refl _) (Nat.le_refl _) (Nat.le_refl _) (Nat.le_refl _) (Nat.le_refl _) hlo
    (fun pcr rl' H' locs' rv u' w' r' hP hret hrv hR' hl' => by
      have hq : ∀ t : State, t.heap = H' → s.WarmedH t.vm → xQc g nx' P (args.map (xv g)).toArray s (.returned (rv.map (xv g))) t := fun t ht _ => ⟨rv, u', w', r', hP, rfl, by rw [ht]; exact hR'⟩
      have hmr : meth.sig.returnType = mi.2.2.2 := B.returns
      generalize mi.2.2.2 = rt at hmr hrv
      match rt, rv, hrv, hret, hq with
      | none, none, _, hret, hq => exact W.vret B.exec B.bytes hmr hq hl' hret (hlocks := B.notSynchronized)
      | some ty, some (.int v), hrv, hret, hq => exact W.zret B.exec B.bytes hmr hrv hq hl' hret (hlocks := B.notSynchronized)
      | some .long, some (.long v), _, hret, hq => exact W.lret B.exec B.bytes hmr hq hl' hret (hlocks := B.notSynchronized)
      | some (.object n), some (.ref v), _, hret, hq => exact W.aret B.exec B.bytes hmr (Or.inl ⟨n, rfl⟩) (Or.inr ⟨_, rfl⟩) hq hl' hret (hlocks := B.notSynchronized)
      | some (.array n), some (.ref v), _, hret, hq => exact W.aret B.exec B.bytes hmr (Or.inr ⟨n, rfl⟩) (Or.inr ⟨_, rfl⟩) hq hl' hret (hlocks := B.notSynchronized))
  rw [e0, e1] at K
  exact K
section XCALLS
variable {g : xGT} {d : Nat} {mi : xMI} {pc : Nat} {ls : List (Option Value)} {st : List Value} {nx nx' : Nat} {u : xU} {w : xW} {r : xQ} {P : xPost}
theorem xPc_blind {args : List Value} : FrameBlind (xPc g args nx u w r) := fun a U fr mk h => ⟨h.1, xG_same (s := U) (U := U.calling fr mk a) rfl h.2.1, h.2.2⟩
/-- behind a call -/
theorem xe_after {nx1 : Nat} {P1 : xPost} {args : List Value} (hle : nx ≤ nx1) (kk : ∀ rv1 u1 w1 r1, P1 rv1 u1 w1 r1 → xEv g d mi (pc + 3) ls (rv1.toList ++ st) nx1 u1 w1 r1 nx' P)
    {p : Program} {e : Env} {R : Room} {s : State} {m : MethodId} {args' : Array Value} {below : List Frame} {meth : Method} {c : Code} {H : Heap} {locs : List Loc} {n1 : Nat} {rl : Array Slot} {Q : State → Prop} {st0 : List Value}
    (F : xFr mi p s m args' meth c) (G : xG g s) (hl : ∀ q ∈ locs, xz g ≤ q.base) (hn1 : n1 ≤ nx) (hd : d ≤ R.frames) (hL : 64 * d ≤ R.locals) (hc : nx' - n1 ≤ R.cells) (hs : xsl nx' - xsl n1 ≤ R.slots) (ho : xLo g rl mi.2.2.1 ls)
    (hQ : ∀ (pcr : Nat) (rl' : Array Slot) (H' : Heap) (locs' : List Loc) (rv : Option Value) (u' : xU) (w' : xW) (r' : xQ), P rv u' w' r' → xRet mi.2.1 pcr rv → xrok mi.2.2.2 rv → xR g nx' u' w' r' H' → (∀ q ∈ locs', xz g ≤ q.base) →
      W p (xl g) e R s m args' below meth c H' locs' (nx' - n1) (xsl nx' - xsl n1) Q (F0 m pcr rl' (rv.map (xv g)).toList))
    (hr : va_Run p (xl g) e R s m args' below meth c H locs (nx - n1) (xsl nx - xsl n1) (nx1 - nx) (xsl nx1 - xsl nx) (F0 m pc rl st0) (st.map (xv g)) (xQc g nx1 P1 (args.map (xv g)).toArray) (fun q => xz g ≤ q)) :
    W p (xl g) e R s m args' below meth c H locs (nx - n1) (xsl nx - xsl n1) Q (F0 m pc rl st0) := by
  intro T hT X
  obtain ⟨v, st₀, t, T', L, h0, X', hL', e1, e2, ⟨rv1, u1, w1, r1, hP1, hv, hR1⟩, stp⟩ := hr T hT X
  cases hv
  have hm := xsl_le hle
  have hm1 := xsl_le hn1
  rw [show nx - n1 + (nx1 - nx) = nx1 - n1 by omega, show xsl nx - xsl n1 + (xsl nx1 - xsl nx) = xsl nx1 - xsl n1 by omega] at X'
  obtain ⟨t2, a1, b1⟩ := (kk rv1 u1 w1 r1 hP1).2 p e R s m args' below meth c T'.heap (locs ++ L) n1 rl Q F G (by rw [e1]; exact hR1) (fun q hq => by
    rcases List.mem_append.mp hq with h | h
    · exact hl q h
    · exact hL' q h) (by omega) hd hL hc hs ho hQ T' rfl X'
  refine ⟨t2, stp t2 ?_, b1⟩
  rw [List.map_append] at a1
  cases rv1 with
  | none => exact a1
  | some x => exact a1
theorem xrecv {a ci : Nat} {q : vw_C} {H : Heap} {s : State} (G : xG g s) (hR : xR g nx u w r H) (hK : xKK a = some (.inl ci)) (ha : a < nx) (hq : vwCl[ci]? = some q) : ∃ cell : Cell, H[xi g a]? = some cell ∧ cell.vm.isStatics = false ∧ s.vm.findClass q.1 = some cell.cls := by
  obtain ⟨q', h1, cell, q1, q2, q3, q4⟩ := hR.2.2.2 a _ ha hK
  cases hq.symm.trans h1
  exact ⟨cell, q1, by rw [q3]; rfl, by rw [q2]; exact (G.1.1 ci _ hq).2.1⟩
theorem xcallB {own : String} {idx n d1 nx1 : Nat} {mi2 : xMI} {R : Room} {s : State} {args' : Array Value} (hcd : xcd mi2) (hlk : Cond.methodLink own idx mi2.1 ∈ xT) (hnp : xnp mi2 n) (ht : ∀ w ∈ xT, w.before args' s = true) (hd : d1 + 1 ≤ R.frames) (hL : 64 * (d1 + 1) ≤ R.locals) :
    CallB R s args' own idx mi2.1 mi2.2.1 mi2.2.2.1 mi2.2.2.2 (xws mi2) (xRm d1 nx nx1) (nx1 - nx) (xsl nx1 - xsl nx) n :=
  callB_of n ht (fun w hw => by
    rcases List.mem_cons.mp hw with rfl | hw
    · exact xT_good _ hcd.1
    · exact xT_good _ hw) rfl rfl rfl (ht _ hcd.2.1) (ht _ hlk) ⟨hcd.2.2.2.1, hcd.2.2.2.2, hnp⟩ ⟨hd, by have := hcd.2.2.1; show 8 + (mi2.2.2.1 + 11) + 64 * d1 ≤ _; omega⟩
theorem xe_callV {idx n b ci nx1 : Nat} {mi2 : xMI} {P1 : xPost} {args stk : List Value} {q : vw_C} (hd : decode mi.2.1 pc = .ok (.invokevirtual idx, 3)) (hk : xLV mi.1.cls idx mi2 n) (hst : stk = args.reverse ++ .ref b :: st) (hn : args.length = n) (hsm : (st.map fun v => v.category).sum ≤ 8)
    (hK : xKK b = some (.inl ci)) (hb : b < nx) (hq : vwCl[ci]? = some q) (hcls : q.1 = mi2.1.cls) (hc : xCall g d mi2 (.ref b :: args) nx u w r nx1 P1) (hle : nx1 ≤ nx') (kk : ∀ rv1 u1 w1 r1, P1 rv1 u1 w1 r1 → xEv g (d + 1) mi (pc + 3) ls (rv1.toList ++ st) nx1 u1 w1 r1 nx' P) :
    xEv g (d + 1) mi pc ls stk nx u w r nx' P := by
  obtain ⟨hcd, hlk, hnp, hin, hse⟩ := hk
  refine ⟨Nat.le_trans hc.1 hle, fun p e R s m args' below meth c H locs n1 rl Q F G hR hl hn1 hdR hL hcc hss ho hQ => ?_⟩
  have hsum : (((st.map (xv g)).map fun v => v.category).sum) ≤ 8 := by
    rw [List.map_map]
    rw [show ((fun v : Value => v.category) ∘ xv g) = (fun v : Value => v.category) from funext fun v => xv_cat g v]
    exact hsm
  have h1 := hle
  have h2 := hc.1
  have m1 := xsl_le h1
  have m2 := xsl_le h2
  have m3 := xsl_le hn1
  refine xe_after (args := .ref b :: args) hc.1 kk F G hl hn1 hdR hL hcc hss ho hQ ?_
  exact va_runV (C := q.1) (b := xi g b) (As := args.map (xv g)) (n := n) ⟨F.1, F.2.1, F.2.2.1, F.2.2.2.1, F.2.2.2.2.1⟩ hc.2 ⟨xcallB hcd hlk hnp F.2.2.2.2.1 hdR hL, F.2.2.2.2.1 _ hin, by rw [hcls]; exact F.2.2.2.2.1 _ hse⟩
    ⟨xPc_blind, xrecv G hR hK hb hq, fun U hU hW => ⟨rfl, xG_warm hW G, by rw [hU]; exact hR⟩⟩ rfl (by rw [List.length_map]; exact hn) ho.1 (by rw [hst]; simp [List.map_reverse, xv]) (lv_room hsum) hd ⟨by omega, by omega⟩
theorem xe_callS {idx n nx1 : Nat} {mi2 : xMI} {P1 : xPost} {args stk : List Value} (hd : decode mi.2.1 pc = .ok (.invokestatic idx, 3)) (hk : xLS mi.1.cls idx mi2 n) (hst : stk = args.reverse ++ st) (hn : args.length = n) (hsm : (st.map fun v => v.category).sum ≤ 8)
    (hc : xCall g d mi2 args nx u w r nx1 P1) (hle : nx1 ≤ nx') (kk : ∀ rv1 u1 w1 r1, P1 rv1 u1 w1 r1 → xEv g (d + 1) mi (pc + 3) ls (rv1.toList ++ st) nx1 u1 w1 r1 nx' P) :
    xEv g (d + 1) mi pc ls stk nx u w r nx' P := by
  obtain ⟨hcd, hlk, hnp, hse⟩ := hk
  refine ⟨Nat.le_trans hc.1 hle, fun p e R s m args' below meth c H locs n1 rl Q F G hR hl hn1 hdR hL hcc hss ho hQ => ?_⟩
  have hsum : (((st.map (xv g)).map fun v => v.category).sum) ≤ 8 := by
    rw [List.map_map]
    rw [show ((fun v : Value => v.category) ∘ xv g) = (fun v : Value => v.category) from funext fun v => xv_cat g v]
    exact hsm
  have h1 := hle
  have h2 := hc.1
  have m1 := xsl_le h1
  have m2 := xsl_le h2
  have m3 := xsl_le hn1
  refine xe_after (args := args) hc.1 kk F G hl hn1 hdR hL hcc hss ho hQ ?_
  exact va_runS (As := args.map (xv g)) (n := n) ⟨F.1, F.2.1, F.2.2.1, F.2.2.2.1, F.2.2.2.2.1⟩ hc.2 ⟨xcallB hcd hlk hnp F.2.2.2.2.1 hdR hL, F.2.2.2.2.1 _ hse⟩
    ⟨xPc_blind, fun U hU hW => ⟨rfl, xG_warm hW G, by rw [hU]; exact hR⟩⟩ rfl (by rw [List.length_map]; exact hn) ho.1 (by rw [hst]; simp [List.map_reverse]) (lv_room hsum) hd ⟨by omega, by omega⟩
theorem xcallN {own host : String} {idx n d1 nx1 : Nat} {mi2 : xMI} {R : Room} {s : State} {args' : Array Value} (hcd : xcd mi2) (hlk : Cond.methodLinkNest own idx mi2.1 host ∈ xNs) (hnp : xnp mi2 n) (ht : ∀ w ∈ xT, w.before args' s = true) (G : xG g s) (hd : d1 + 1 ≤ R.frames) (hL : 64 * (d1 + 1) ≤ R.locals) :
    va_CN R s args' own idx mi2.1 host mi2.2.1 mi2.2.2.1 mi2.2.2.2 (xws mi2) (xRm d1 nx nx1) (nx1 - nx) (xsl nx1 - xsl nx) n :=
  va_cnB n ht (fun w hw => by
    rcases List.mem_cons.mp hw with rfl | hw
    · exact xT_good _ hcd.1
    · exact xT_good _ hw) rfl rfl rfl (G.2.1 _ hlk) (ht _ hcd.2.1) ⟨hcd.2.2.2.1, hcd.2.2.2.2, hnp⟩ ⟨hd, by have := hcd.2.2.1; show 8 + (mi2.2.2.1 + 11) + 64 * d1 ≤ _; omega⟩
theorem xe_callSN {idx n nx1 : Nat} {mi2 : xMI} {P1 : xPost} {args stk : List Value} (hd : decode mi.2.1 pc = .ok (.invokestatic idx, 3)) (hk : xLSN mi.1.cls idx mi2 n) (hst : stk = args.reverse ++ st) (hn : args.length = n) (hsm : (st.map fun v => v.category).sum ≤ 8)
    (hc : xCall g d mi2 args nx u w r nx1 P1) (hle : nx1 ≤ nx') (kk : ∀ rv1 u1 w1 r1, P1 rv1 u1 w1 r1 → xEv g (d + 1) mi (pc + 3) ls (rv1.toList ++ st) nx1 u1 w1 r1 nx' P) :
    xEv g (d + 1) mi pc ls stk nx u w r nx' P := by
  obtain ⟨hcd, ⟨host, hlk⟩, hnp, hse⟩ := hk
  refine ⟨Nat.le_trans hc.1 hle, fun p e R s m args' below meth c H locs n1 rl Q F G hR hl hn1 hdR hL hcc hss ho hQ => ?_⟩
  have hsum : (((st.map (xv g)).map fun v => v.category).sum) ≤ 8 := by
    rw [List.map_map]
    rw [show ((fun v : Value => v.category) ∘ xv g) = (fun v : Value => v.category) from funext fun v => xv_cat g v]
    exact hsm
  have h1 := hle
  have h2 := hc.1
  have m1 := xsl_le h1
  have m2 := xsl_le h2
  have m3 := xsl_le hn1
  refine xe_after (args := args) hc.1 kk F G hl hn1 hdR hL hcc hss ho hQ ?_
  exact va_runSN (host := host) (As := args.map (xv g)) (n := n) ⟨F.1, F.2.1, F.2.2.1, F.2.2.2.1, F.2.2.2.2.1⟩ hc.2 ⟨xcallN hcd hlk hnp F.2.2.2.2.1 G hdR hL, F.2.2.2.2.1 _ hse, trivial⟩
    ⟨xPc_blind, fun U hU hW => ⟨rfl, xG_warm hW G, by rw [hU]; exact hR⟩⟩ rfl (by rw [List.length_map]; exact hn) ho.1 (by rw [hst]; simp [List.map_reverse]) (lv_room hsum) hd ⟨by omega, by omega⟩
end XCALLS
