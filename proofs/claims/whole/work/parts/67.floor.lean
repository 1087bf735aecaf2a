/-! Math.floorMod: a method of a class that also has natives -/
section MOF
variable {l : Launch}
theorem xMet_ofF {y : MethodName} {ws ws' : List Cond} {rm : Room} {Pc : Array Value → State → Prop} {Qc : Array Value → State → Outcome → State → Prop} {mc ms : Nat} {free : Addr → Prop} {cc : ByteArray} {maxL : Nat} {ret : Option FieldType}
    (hy : plainFor y = true) (hw : ws = Cond.code y cc maxL ret :: ws')
    (body : ∀ p e s m args below meth c s₁, BodyLoose p l y (headSpec ws rm) cc maxL ret e s m args below meth c s₁ → c.maxLocals = maxL → Pc args s →
      W p l e (headSpec ws rm).room s m args below meth c s.heap [] 0 0 (MQ below Qc args s mc ms free) (entryFrame m args maxL)) : Met l y ws rm Pc Qc mc ms free :=
  MetFree.of_bodySF (code := cc) (maxLocals := maxL) (ret := ret) hy (fun args s m h hn => by
      obtain ⟨meth, c, h1, h2, h3, h4, h5, h6, -, -⟩ := Cond.code_spec hn (atoms_spec (ws := ws) h _ (hw ▸ List.mem_cons_self))
      exact ⟨meth, c, h1, h2, h3, h4, h5, h6⟩) (fun p e s m args below meth c s₁ B hml hP _ => by
      have hh : s₁.heap = s.heap := by rw [B.state]; rfl
      obtain ⟨t, a1, o, b1, b2, b3⟩ := body p e s m args below meth c s₁ B hml hP s₁ hh (Stand.of_body B)
      exact ⟨t, o, a1, b1, b2, b3⟩)
end MOF
theorem xCall.ofF {g : xGT} {d : Nat} {mi : xMI} {args : List Value} {ls : List (Option Value)} {nx nx' : Nat} {u : xU} {w : xW} {r : xQ} {P : xPost} (hpl : plainFor mi.1 = true) (hlen : (xargs args).length ≤ mi.2.2.1) (hls : xargs args ++ List.replicate (mi.2.2.1 - (xargs args).length) none = ls)
    (k : xEv g d mi 0 ls [] nx u w r nx' P) : xCall g d mi args nx u w r nx' P := by
  refine ⟨k.1, xMet_ofF (cc := mi.2.1) (maxL := mi.2.2.1) (ret := mi.2.2.2) hpl rfl ?_⟩
  intro p e s m args' below meth c s₁ B hml hv
  obtain ⟨rfl, hG, hR⟩ := hv
  have hts := atoms_spec (ws := xws mi) B.pre
  have hown : s.vm.findClass mi.1.cls = some m.cls := findClass_of_methodNamed B.named
  have hnm : meth.name = mi.1.name := (name_of_methodNamed B.named B.method).1
  have hl := lv_entry (args.map (xv g)) (n := mi.2.2.1) (by rw [lg_sl_map, xargs_len]; exact hlen)
  rw [lg_entry_eq]
  generalize (lg_sl (args.map (xv g)) ++ List.replicate (mi.2.2.1 - (lg_sl (args.map (xv g))).length) Slot.unset).toArray = rl at hl ⊢
  have hlo : xLo g rl mi.2.2.1 ls := by
    refine ⟨hl.1, hl.2.1, fun i v h => ?_⟩
    rw [← hls] at h
    by_cases hi : i < (xargs args).length
    · rw [List.getElem?_append_left hi] at h
      exact hl.2.2 _ (xargs_map g args i v h)
    · rw [List.getElem?_append_right (by omega)] at h
      have h9 := List.eq_of_mem_replicate (List.mem_of_getElem? h)
      cases h9
  have e0 : nx - nx = 0 := Nat.sub_self _
  have e1 : xsl nx - xsl nx = 0 := Nat.sub_self _
  have K := k.2 p e (headSpec (xws mi) (xRm d nx nx')).room s m (args.map (xv g)).toArray below meth c s.heap [] nx rl (MQ below (xQc g nx' P) (args.map (xv g)).toArray s (nx' - nx) (xsl nx' - xsl nx) (fun q => xz g ≤ q))
    ⟨B.exec, B.bytes, hml, hown, fun w hw => hts w (List.mem_cons_of_mem _ hw), B.returns, B.notSynchronized, hnm⟩ hG hR (fun q h => by cases h) (Nat.le_refl _) (Nat.le_refl _) (Nat.le_refl _) (Nat.le_refl _) (Nat.le_refl _) hlo
    (fun pcr rl' H' locs' rv u' w' r' hP hret hrv hR' hl' => by
      have hq : ∀ t : State, t.heap = H' → s.WarmedH t.vm → xQc g nx' P (args.map (xv g)).toArray s (.returned (rv.map (xv g))) t := fun t ht _ => ⟨rv, u', w', r', hP, rfl, by rw [ht]; exact hR'⟩
      have hmr : meth.sig.returnType = mi.2.2.2 := B.returns
      generalize mi.2.2.2 = rt at hmr hrv
      match rt, rv, hrv, hret, hq with
      | none, none, _, hret, hq => exact W.vret B.exec B.bytes hmr hq hl' hret (hlocks := B.notSynchronized)
      | some ty, some (.int v), hrv, hret, hq => exact W.zret B.exec B.bytes hmr hrv hq hl' hret (hlocks := B.notSynchronized)
      | some .long, some (.long v), _, hret, hq => exact W.lret B.exec B.bytes hmr hq hl' hret (hlocks := B.notSynchronized)
      | some (.object n), some (.ref v), _, hret, hq => exact W.aret B.exec B.bytes hmr (Or.inl ⟨n, rfl⟩) (Or.inr ⟨_, rfl⟩) hq hl' hret (hlocks := B.notSynchronized)
      | some (.array n), some (.ref v), _, hret, hq => exact W.aret B.exec B.bytes hmr (Or.inr ⟨n, rfl⟩) (Or.inr ⟨_, rfl⟩) hq hl' hret (hlocks := B.notSynchronized))
  rw [e0, e1] at K
  exact K
theorem plJ9_floorMod : plainFor yJ9_floorMod_7cf53 = true := by decide +kernel
theorem rem_41 {p : Nat} (hp : p < 1000000) : nI p - nI p / 41 * 41 = nI (p % 41) := by
  have h1 : (nI p / 41 : Int32).toInt = ((p / 41 : Nat) : Int) := by
    rw [show (41 : Int32) = nI 41 from rfl, Int32.toInt_div, ti_nI (by omega), ti_nI (by omega)]
    rw [show ((p : Int).tdiv ((41 : Nat) : Int)) = ((p / 41 : Nat) : Int) from rfl]
    apply Int.bmod_eq_of_le <;> omega
  have h2 : nI p / 41 = nI (p / 41) := by rw [ti_eq, h1, ti_nI (by omega)]
  rw [h2, show (41 : Int32) = nI 41 from rfl, nI_mul, nI_sub (by omega)]
  congr 1
  omega
theorem K_floorMod {g : xGT} {d : Nat} {u : xU} {w : xW} {r : xQ} {p : Nat} (hp : p < 1000000) : xCall g d mJ9_floorMod_7cf53 [.int (nI p), .int 41] 698 u w r 698 (xPr (nI (p % 41)) u w r) := by
  have hx : (0 : Int32) ≤ nI p ^^^ 41 := by
    have b31 : bt (nI p ^^^ 41) 31 = false := by
      rw [b_xor, bt_nI p (by omega), show bt 41 31 = false by decide +kernel, Nat.testBit_lt_two_pow (by omega)]; rfl
    have : ¬ (nI p ^^^ 41) < 0 := fun z => by
      rw [ti_lt, z_toInt] at z
      have hm : (nI p ^^^ 41).toBitVec.msb = true := by
        rw [BitVec.msb_eq_toInt]
        exact decide_eq_true z
      rw [BitVec.msb_eq_getLsbD_last] at hm
      unfold bt at b31
      rw [b31] at hm
      cases hm
    exact Int32.not_lt.mp this
  refine xCall.ofF plJ9_floorMod (Nat.le_of_ble_eq_true rfl) rfl ?_
  refine xe_iload_n dJ9_floorMod_7cf53_0 rfl ?_
  refine xe_iload_n dJ9_floorMod_7cf53_1 rfl ?_
  refine xe_irem dJ9_floorMod_7cf53_2 (by decide) ?_
  rw [rem_41 hp]
  refine xe_istore_n (ls' := [some (.int (nI p)), some (.int 41), some (.int (nI (p % 41)))]) dJ9_floorMod_7cf53_3 rfl (by decide) rfl ?_
  refine xe_iload_n dJ9_floorMod_7cf53_4 rfl ?_
  refine xe_iload_n dJ9_floorMod_7cf53_5 rfl ?_
  refine xe_ixor dJ9_floorMod_7cf53_6 ?_
  refine xe_if_ge dJ9_floorMod_7cf53_7 rfl (fun _ => ?_) (fun z => absurd hx z)
  refine xe_iload_n dJ9_floorMod_7cf53_18 rfl ?_
  exact xe_ireturn dJ9_floorMod_7cf53_19 rfl ⟨rfl, rfl, rfl, rfl⟩
theorem K_slot {g : xGT} {d : Nat} {u : xU} {w : xW} {r : xQ} {p : Nat} (hr : xRf r) (hp : p < 1000000) {P : xPost} (kk : P (some (.ref (119 + 12 * (p % 41)))) u w r) : xCall g (d + 1) mX6_slot [.ref 117, .int (nI p)] 698 u w r 698 P := by
  refine CX6_slot hr (xPr.use (K_floorMod hp) ⟨_, rfl, rfl, rfl, rfl, vpn (Nat.mod_lt _ (by omega)) (by omega), ?_⟩)
  rw [nc (by omega)]
  exact kk
