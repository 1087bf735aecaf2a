/-! THE JUDGEMENT. A machine in pure words: memory is three functions of place and index (whole numbers, longs, references); what lies at a place is fixed by xKK. xEv: from this instruction, with these locals and this stack, the method comes to its end with that answer and that memory, whatever else the real machine holds. -/
abbrev xU : Type := Nat → Nat → Int32
abbrev xW : Type := Nat → Nat → Int64
abbrev xQ : Type := Nat → Nat → Option Nat
abbrev xGT : Type := (Nat → Nat) × Nat × Heap × va_G × (FieldType → ClassId) × Nat × (Nat → Int32) × Launch
def xpre (g : xGT) : Nat → Nat := g.1
def xz (g : xGT) : Nat := g.2.1
def xH0 (g : xGT) : Heap := g.2.2.1
def xDD (g : xGT) : va_G := g.2.2.2.1
def xDA (g : xGT) : FieldType → ClassId := g.2.2.2.2.1
def xL (g : xGT) : Nat := g.2.2.2.2.2.1
def xXs (g : xGT) : Nat → Int32 := g.2.2.2.2.2.2.1
def xl (g : xGT) : Launch := g.2.2.2.2.2.2.2
/-- the real address of a place -/
def xi (g : xGT) (a : Nat) : Nat := if a < 8 then xpre g a else xz g + (a - 8)
def xv (g : xGT) : Value → Value
  | .ref a => .ref (xi g a)
  | v => v
theorem xv_cat (g : xGT) (v : Value) : (xv g v).category = v.category := by cases v <;> rfl
theorem xi_ge {g : xGT} {a : Nat} (h : 8 ≤ a) : xi g a = xz g + (a - 8) := by unfold xi; rw [if_neg (by omega)]
theorem xi_zle {g : xGT} {a : Nat} (h : 8 ≤ a) : xz g ≤ xi g a := by rw [xi_ge h]; omega
theorem xi_ne {g : xGT} {a b : Nat} (ha : 8 ≤ a) (hb : 8 ≤ b) (h : a ≠ b) : xi g a ≠ xi g b := by rw [xi_ge ha, xi_ge hb]; omega
/-- what a cell holds -/
def xvl (g : xGT) (ty : FieldType) (u : xU) (w : xW) (r : xQ) (a i : Nat) : Value := match ty with
  | .long => .long (w a i)
  | .object _ => va_rf ((r a i).map (xi g))
  | .array _ => va_rf ((r a i).map (xi g))
  | _ => .int (u a i)
def xat (g : xGT) (u : xU) (w : xW) (r : xQ) (a : Nat) (kd : xKd) (H : Heap) : Prop := match kd with
  | .inl ci => ∃ q : vw_C, vwCl[ci]? = some q ∧ t_OB (xi g a) ((xDD g).1 ci) q.2.2 ((xDD g).2 ci) H (fun k => xvl g (xty ci k) u w r a k)
  | .inr q => H[xi g a]? = some (arrV (xDA g q.1) q.2 (fun j => xvl g q.1 u w r a j))
def xR (g : xGT) (nx : Nat) (u : xU) (w : xW) (r : xQ) (H : Heap) : Prop :=
  8 ≤ nx ∧ H.size = xi g nx ∧ (∀ q : Nat, q < xz g → H[q]? = (xH0 g)[q]?) ∧ ∀ (a : Nat) (kd : xKd), a < nx → xKK a = some kd → xat g u w r a kd H
def xtys (g : xGT) : List (ClassId × FieldType) := [(xDA g .int, .int), (xDA g .byte, .byte), (xDA g .boolean, .boolean), (xDA g .long, .long), (xDA g (.array .int), .array .int), (xDA g xTst, xTst)]
def xWA (g : xGT) : Nat → Prop := fun q => xz g ≤ q
def xWORDS : String := "village way bier letter wait winter from to on holds at by worth or and not day ways rest "
def xSIGNS : String := ";()<>=+-*/%"
def xByt : List (List Int32) := [(xWORDS.toList.map fun c => Int32.ofNat c.toNat), (xSIGNS.toList.map fun c => Int32.ofNat c.toNat)]
def xLen : List Nat := [90, 11]
/-- the two texts, and the statics that the library's members read -/
def xStr (g : xGT) (s : State) : Prop :=
  vk_S 2 xLen xByt (fun i => xpre g (1 + i)) (fun i => xpre g (3 + i)) (xWA g) s (xH0 g) ∧ vk_R "FuneralPost$Tokens" 29 xWORDS (xpre g 1) s ∧ vk_R "FuneralPost$Tokens" 68 xSIGNS (xpre g 2) s ∧
  va_Z "java/lang/String" "COMPACT_STRINGS" "Z" (.int 1) (xWA g) s (xH0 g) ∧ (va_Z "jdk/internal/util/Preconditions" "SIOOBE_FORMATTER" "Ljava/util/function/BiFunction;" .null (xWA g) s (xH0 g) ∨ va_Z "jdk/internal/util/Preconditions" "SIOOBE_FORMATTER" "Ljava/util/function/BiFunction;" (.ref (xpre g 5)) (xWA g) s (xH0 g))
def xAOA (s : State) : Prop := (Cond.arrayOver (.array .int)).before #[] s = true
theorem xAOA_moved {u U : State} (hvm : u.vm.Alike U.vm) (h : xAOA u) : xAOA U := by
  obtain ⟨comp, c, k, h1, h2, h3, h4, h5⟩ := arrayOverA_spec h
  obtain ⟨k', hk', he⟩ := hvm.2.2 _ _ h3
  have hi : (U.vm.classes.findIdx? fun (x : Class) => match x.kind with | .array component _ => component == comp | _ => false) = some c := by
    rw [hvm.findIdx?_eq _ (fun _ => rfl)]
    exact h2
  have hkind : k'.kind = .array comp (.array .int) := by rw [he]; exact h4
  have f1 : U.vm.findClass (FieldType.array .int).toString = some comp := by rw [hvm.findClass]; exact h1
  have f2 : U.vm.findClass ("[" ++ (FieldType.array .int).toString) = some c := by rw [hvm.findClass]; exact h5
  unfold xAOA Cond.before Cond.holds
  simp only [Cond.value]
  rw [f1, Option.bind_some]
  refine (congrArg (fun o : Option Nat => (o.bind (fun c => (U.vm.classes[c]?).map fun (k : Class) => match k.kind with | .array _ ty => decide (ty = FieldType.array .int) && decide (U.vm.findClass ("[" ++ (FieldType.array .int).toString) = some c) | _ => false) == some true)) hi).trans ?_
  simp [hk', hkind, f2]
/-- what holds of the tables, the script and the texts at a frame's start -/
def xG (g : xGT) (s : State) : Prop := va_K (xDD g) vwCl (xtys g) s ∧ (∀ w ∈ xNs, va_Nw w s) ∧ (va_X (xpre g 0) (xL g) (xXs g) s (xH0 g) ∧ va_AO "FuneralPost$State" s ∧ xAOA s) ∧ xStr g s
theorem xNs_warm {s U : State} (hW : s.WarmedH U.vm) (h : ∀ w ∈ xNs, va_Nw w s) : ∀ w ∈ xNs, va_Nw w U := by
  intro w hw
  have h1 := h w hw
  unfold xNs at hw
  simp only [List.mem_cons, List.not_mem_nil, or_false] at hw
  rcases hw with rfl | rfl | rfl | rfl | rfl | rfl | rfl | rfl | rfl | rfl | rfl | rfl | rfl | rfl <;> exact va_Nw.warmM hW h1
theorem xNs_same {s U : State} (hW : s.vm = U.vm) (h : ∀ w ∈ xNs, va_Nw w s) : ∀ w ∈ xNs, va_Nw w U := by
  intro w hw
  have h1 := h w hw
  unfold xNs at hw
  simp only [List.mem_cons, List.not_mem_nil, or_false] at hw
  rcases hw with rfl | rfl | rfl | rfl | rfl | rfl | rfl | rfl | rfl | rfl | rfl | rfl | rfl | rfl <;> exact va_Nw.same rfl hW h1
theorem xStr_warm {g : xGT} {s U : State} (hW : s.WarmedH U.vm) (h : xStr g s) : xStr g U :=
  ⟨h.1.moved hW.alike, h.2.1.warm hW, h.2.2.1.warm hW, h.2.2.2.1.moved hW.alike, h.2.2.2.2.imp (fun z => z.moved hW.alike) (fun z => z.moved hW.alike)⟩
theorem xal {s U : State} (hW : s.vm = U.vm) : s.vm.Alike U.vm := by
  rw [hW]
  exact Vm.Alike.refl _
theorem xStr_same {g : xGT} {s U : State} (hW : s.vm = U.vm) (h : xStr g s) : xStr g U :=
  ⟨h.1.moved (xal hW), h.2.1.same hW.symm, h.2.2.1.same hW.symm, h.2.2.2.1.moved (xal hW), h.2.2.2.2.imp (fun z => z.moved (xal hW)) (fun z => z.moved (xal hW))⟩
theorem xG_warm {g : xGT} {s U : State} (hW : s.WarmedH U.vm) (h : xG g s) : xG g U :=
  ⟨h.1.moved hW.alike, xNs_warm hW h.2.1, ⟨h.2.2.1.1.moved hW.alike, h.2.2.1.2.1.moved hW.alike, xAOA_moved hW.alike h.2.2.1.2.2⟩, xStr_warm hW h.2.2.2⟩
theorem xG_same {g : xGT} {s U : State} (hW : s.vm = U.vm) (h : xG g s) : xG g U :=
  ⟨h.1.moved (xal hW), xNs_same hW h.2.1, ⟨h.2.2.1.1.moved (xal hW), h.2.2.1.2.1.moved (xal hW), xAOA_moved (xal hW) h.2.2.1.2.2⟩, xStr_same hW h.2.2.2⟩
/-- what holds of the frame's method -/
def xFr (mi : xMI) (p : Program) (s : State) (m : MethodId) (args : Array Value) (meth : Method) (c : Code) : Prop :=
  p.tables.exec = Jvm.exec ∧ c.code = mi.2.1 ∧ c.maxLocals = mi.2.2.1 ∧ s.vm.findClass mi.1.cls = some m.cls ∧ (∀ w ∈ xT, w.before args s = true) ∧ meth.sig.returnType = mi.2.2.2 ∧ meth.locks = false ∧ meth.name = mi.1.name
/-- the locals that are known -/
def xLo (g : xGT) (rl : Array Slot) (n : Nat) (ls : List (Option Value)) : Prop := rl.size = n ∧ lv_wf rl ∧ ∀ (i : Nat) (v : Value), ls[i]? = some (some v) → rl[i]? = some (.val (xv g v))
def xRet (cc : ByteArray) (pc : Nat) : Option Value → Prop
  | none => decode cc pc = .ok (.return_, 1)
  | some (.int _) => decode cc pc = .ok (.ireturn, 1)
  | some (.long _) => decode cc pc = .ok (.lreturn, 1)
  | some (.ref _) => decode cc pc = .ok (.areturn, 1)
  | _ => False
/-- the answer is one of the method's type -/
def xrok : Option FieldType → Option Value → Prop
  | none, none => True
  | some ty, some (.int v) => narrow ty (.int v) = .int v
  | some .long, some (.long _) => True
  | some (.object _), some (.ref _) => True
  | some (.array _), some (.ref _) => True
  | _, _ => False
/-- what holds at a method's end: of its answer and of memory -/
abbrev xPost : Type := Option Value → xU → xW → xQ → Prop
def xEv (g : xGT) (d : Nat) (mi : xMI) (pc : Nat) (ls : List (Option Value)) (st : List Value) (nx : Nat) (u : xU) (w : xW) (r : xQ) (nx' : Nat) (P : xPost) : Prop :=
  nx ≤ nx' ∧ ∀ (p : Program) (e : Env) (R : Room) (s : State) (m : MethodId) (args : Array Value) (below : List Frame) (meth : Method) (c : Code) (H : Heap) (locs : List Loc) (n1 : Nat) (rl : Array Slot) (Q : State → Prop),
    xFr mi p s m args meth c → xG g s → xR g nx u w r H → (∀ q ∈ locs, xz g ≤ q.base) → n1 ≤ nx → d ≤ R.frames → 64 * d ≤ R.locals → nx' - n1 ≤ R.cells → xsl nx' - xsl n1 ≤ R.slots → xLo g rl mi.2.2.1 ls →
    (∀ (pcr : Nat) (rl' : Array Slot) (H' : Heap) (locs' : List Loc) (rv : Option Value) (u' : xU) (w' : xW) (r' : xQ), P rv u' w' r' → xRet mi.2.1 pcr rv → xrok mi.2.2.2 rv → xR g nx' u' w' r' H' → (∀ q ∈ locs', xz g ≤ q.base) →
      W p (xl g) e R s m args below meth c H' locs' (nx' - n1) (xsl nx' - xsl n1) Q (F0 m pcr rl' (rv.map (xv g)).toList)) →
    W p (xl g) e R s m args below meth c H locs (nx - n1) (xsl nx - xsl n1) Q (F0 m pc rl (st.map (xv g)))
section XLIFT
variable {g : xGT} {d : Nat} {mi : xMI} {pc pc' : Nat} {ls ls' : List (Option Value)} {st st' : List Value} {nx nx' : Nat} {u : xU} {w : xW} {r : xQ} {P : xPost}
/-- one step that leaves heap and locals -/
theorem xEv.lift (h : ∀ (p : Program) (e : Env) (R : Room) (s : State) (m : MethodId) (args : Array Value) (below : List Frame) (meth : Method) (c : Code) (H : Heap) (locs : List Loc) (k n : Nat) (rl : Array Slot) (Q : State → Prop),
      xFr mi p s m args meth c → xG g s → xR g nx u w r H → xLo g rl mi.2.2.1 ls → W p (xl g) e R s m args below meth c H locs k n Q (F0 m pc' rl (st'.map (xv g))) → W p (xl g) e R s m args below meth c H locs k n Q (F0 m pc rl (st.map (xv g))))
    (kk : xEv g d mi pc' ls st' nx u w r nx' P) : xEv g d mi pc ls st nx u w r nx' P :=
  ⟨kk.1, fun p e R s m args below meth c H locs n1 rl Q F G hR hl h1 hd hL hc hs ho hQ => h p e R s m args below meth c H locs _ _ rl Q F G hR ho (kk.2 p e R s m args below meth c H locs n1 rl Q F G hR hl h1 hd hL hc hs ho hQ)⟩
/-- one step that changes the locals -/
theorem xEv.liftL (h : ∀ (p : Program) (e : Env) (R : Room) (s : State) (m : MethodId) (args : Array Value) (below : List Frame) (meth : Method) (c : Code) (H : Heap) (locs : List Loc) (k n : Nat) (rl : Array Slot) (Q : State → Prop),
      xFr mi p s m args meth c → xLo g rl mi.2.2.1 ls → (∀ rl' : Array Slot, xLo g rl' mi.2.2.1 ls' → W p (xl g) e R s m args below meth c H locs k n Q (F0 m pc' rl' (st'.map (xv g)))) → W p (xl g) e R s m args below meth c H locs k n Q (F0 m pc rl (st.map (xv g))))
    (kk : xEv g d mi pc' ls' st' nx u w r nx' P) : xEv g d mi pc ls st nx u w r nx' P :=
  ⟨kk.1, fun p e R s m args below meth c H locs n1 rl Q F G hR hl h1 hd hL hc hs ho hQ => h p e R s m args below meth c H locs _ _ rl Q F ho (fun rl' ho' => kk.2 p e R s m args below meth c H locs n1 rl' Q F G hR hl h1 hd hL hc hs ho' hQ)⟩
/-- fewer locals are known -/
theorem xEv.fewer (kk : xEv g d mi pc ls' st nx u w r nx' P) (h : ∀ (i : Nat) (v : Value), ls'[i]? = some (some v) → ls[i]? = some (some v)) : xEv g d mi pc ls st nx u w r nx' P :=
  ⟨kk.1, fun p e R s m args below meth c H locs n1 rl Q F G hR hl h1 hd hL hc hs ho hQ => kk.2 p e R s m args below meth c H locs n1 rl Q F G hR hl h1 hd hL hc hs ⟨ho.1, ho.2.1, fun i v q => ho.2.2 i v (h i v q)⟩ hQ⟩
theorem xEv.mono {P2 : xPost} (kk : xEv g d mi pc ls st nx u w r nx' P) (h : ∀ rv u' w' r', P rv u' w' r' → P2 rv u' w' r') : xEv g d mi pc ls st nx u w r nx' P2 :=
  ⟨kk.1, fun p e R s m args below meth c H locs n1 rl Q F G hR hl h1 hd hL hc hs ho hQ => kk.2 p e R s m args below meth c H locs n1 rl Q F G hR hl h1 hd hL hc hs ho (fun pcr rl' H' locs' rv u' w' r' hP => hQ pcr rl' H' locs' rv u' w' r' (h _ _ _ _ hP))⟩
end XLIFT
