/-! ROWS OF ROWS ARE MADE: the outer one, then each inner one, put into its place at once -/
def mwF (h i : Nat) : Nat → Value := fun j => if j < i then .ref (h + 1 + j) else .null
def mwS (s : State) (cA cI : ClassId) (N M : Nat) : Nat → State
  | 0 => s.pushCell (arrV cA N (fun _ => .null))
  | i + 1 => ((mwS s cA cI N M i).pushCell (arrV cI M (fun _ => .int 0))).setCell s.heap.size ((arrV cA N (mwF s.heap.size i)).setSlot i (.ref (s.heap.size + 1 + i)))
theorem mwF_0 (h : Nat) : (fun _ => Value.null) = mwF h 0 := by
  funext j
  exact (if_neg (Nat.not_lt_zero _)).symm
theorem mwF_s (cA : ClassId) (N h i : Nat) : (arrV cA N (mwF h i)).setSlot i (.ref (h + 1 + i)) = arrV cA N (mwF h (i + 1)) := by
  rw [arrV_store]
  congr 1
  funext j
  unfold updV mwF
  by_cases q : j = i
  · rw [if_pos q, if_pos (show j < i + 1 by omega), q]
  · rw [if_neg q]
    by_cases y : j < i
    · rw [if_pos y, if_pos (show j < i + 1 by omega)]
    · rw [if_neg y, if_neg (show ¬ j < i + 1 by omega)]
theorem mwS_at (s : State) (cA cI : ClassId) (N M : Nat) : ∀ i, (mwS s cA cI N M i).heap.size = s.heap.size + 1 + i ∧ (mwS s cA cI N M i).heap[s.heap.size]? = some (arrV cA N (mwF s.heap.size i)) ∧ (mwS s cA cI N M i).vm = s.vm ∧ (mwS s cA cI N M i).slotsUsed = s.slotsUsed + N + i * M ∧
    (∀ q, q < s.heap.size → (mwS s cA cI N M i).heap[q]? = s.heap[q]?) ∧ ∀ j, j < i → (mwS s cA cI N M i).heap[s.heap.size + 1 + j]? = some (arrV cI M (fun _ => .int 0)) := by
  intro i
  induction i with
  | zero =>
    refine ⟨by simp [mwS], ?_, rfl, ?_, fun q hq => State.heap_pushCell_of_lt _ _ hq, fun j hj => absurd hj (Nat.not_lt_zero _)⟩
    · rw [← mwF_0]
      exact State.heap_pushCell_size _ _
    · have e := arrV_size cA N (fun _ => .null)
      simp [mwS, e]
  | succ i ih =>
    obtain ⟨a1, a2, a3, a4, a5, a6⟩ := ih
    have lt0 : s.heap.size < (mwS s cA cI N M i).heap.size := by omega
    have hb : ((mwS s cA cI N M i).pushCell (arrV cI M (fun _ => .int 0))).heap[s.heap.size]? = some (arrV cA N (mwF s.heap.size i)) := by
      rw [State.heap_pushCell_of_lt _ _ lt0]; exact a2
    have other : ∀ q, ¬ q = s.heap.size → (mwS s cA cI N M (i + 1)).heap[q]? = ((mwS s cA cI N M i).pushCell (arrV cI M (fun _ => .int 0))).heap[q]? := fun q hq => State.heap_setCell_other (fun z => hq z.symm)
    refine ⟨?_, ?_, by simp [mwS, a3], ?_, fun q hq => ?_, fun j hj => ?_⟩
    · simp [mwS, State.setCell, a1]; omega
    · have h := State.heap_setCell_self (x := (arrV cA N (mwF s.heap.size i)).setSlot i (.ref (s.heap.size + 1 + i))) hb
      rw [mwF_s] at h
      rw [← h]
      show ((mwS s cA cI N M i).pushCell (arrV cI M (fun _ => .int 0))).setCell s.heap.size ((arrV cA N (mwF s.heap.size i)).setSlot i (.ref (s.heap.size + 1 + i))) |>.heap[s.heap.size]? |> fun x => x = _
      rw [mwF_s]
    · have e := arrV_size cI M (fun _ => .int 0)
      simp [mwS, a4, e, Nat.succ_mul]; omega
    · rw [other q (by omega), State.heap_pushCell_of_lt _ _ (show q < (mwS s cA cI N M i).heap.size by omega)]
      exact a5 q hq
    · rw [other _ (by omega)]
      rcases Nat.lt_or_ge j i with y | y
      · rw [State.heap_pushCell_of_lt _ _ (show s.heap.size + 1 + j < (mwS s cA cI N M i).heap.size by omega)]
        exact a6 j y
      · have ej : j = i := by omega
        subst ej
        have h := State.heap_pushCell_size (mwS s cA cI N M j) (arrV cI M (fun _ => .int 0))
        rw [a1] at h
        exact h
theorem mwS_top (s : State) (f : JFrame) (cA cI : ClassId) (N M : Nat) : ∀ i, mwS (s.setTop f) cA cI N M i = (mwS s cA cI N M i).setTop f := by
  intro i
  induction i with
  | zero => rfl
  | succ i ih => simp only [mwS, ih, State.heap_setTop, State.pushCell_setTop, State.setCell_setTop]
section MWP
variable {E : CtlPost} {e : Env} {d : Bool} {acts : List Action} {s : State}
theorem mw_new {c comp : ClassId} {k : Class} {ty : FieldType} {len : Nat} {x : Value} (hk : s.vm.classes[c]? = some k) (hkind : k.kind = .array comp ty) (h1 : ¬ len > e.platform.arrayLengthLimit) (h2 : ¬ len * componentBytes ty > e.platform.maxHeapBytes)
    (hfit : fits ty x = true) (hx : x.isDefault = true) {Q : Addr → Pre} (r1 : s.heap.size < e.platform.maxCells) (r2 : s.slotsUsed + len ≤ e.platform.maxSlots)
    (hq : Q s.heap.size d acts (s.pushCell (arrV c len (fun _ => x)))) : wp (Jvm.newArray c len x) Q E e d acts s := by
  have hfits : ∀ i v, (Array.replicate len x)[i]? = some v → s.fitsSlot c .none i v = true := by
    intro i v hv
    simp only [Array.getElem?_replicate] at hv
    split at hv
    · cases hv; simp [State.fitsSlot, State.slotType?, hk, hkind, hfit]
    · cases hv
  have hda : allocActs (Array.replicate len x) s.heap.size acts = acts := by
    have hall : ((Array.replicate len x).all (·.isDefault)) = true := by
      rw [Array.all_replicate]; split <;> simp [hx]
    unfold allocActs; rw [if_pos hall]
  rw [← arrV_new] at hq
  simp only [Jvm.newArray, Jvm.arrayFits, wp_bind', W.ask, W.ite, h1, if_false, wp_pure', W.theClass, hk, hkind, h2, W.alloc, W.stop, Option.some.injEq, exists_eq_left', Array.size_replicate, hda]
  rw [if_neg (by omega)]
  exact ⟨r1, r2, hfits, hq⟩
theorem mw_make {cA cI c0 : ClassId} {kA kI : Class} {N M : Nat} {n m : Int32} (hkA : s.vm.classes[cA]? = some kA) (hkindA : kA.kind = .array cI (.array .int)) (hkI : s.vm.classes[cI]? = some kI) (hkindI : kI.kind = .array c0 .int) (hn : ¬ n < 0) (hm : ¬ m < 0) (hN : n.toNatClampNeg = N) (hM : m.toNatClampNeg = M)
    (l1 : ¬ N > e.platform.arrayLengthLimit) (l2 : ¬ N * 4 > e.platform.maxHeapBytes) (l3 : ¬ M > e.platform.arrayLengthLimit) (l4 : ¬ M * 4 > e.platform.maxHeapBytes)
    (r1 : s.heap.size + 1 + N ≤ e.platform.maxCells) (r2 : s.slotsUsed + N + N * M ≤ e.platform.maxSlots) {Q : Addr → Pre} (hq : ∀ d' acts', Q s.heap.size d' acts' (mwS s cA cI N M N)) :
    wp (multianewarray.make cA [n, m]) Q E e d acts s := by
  subst hN; subst hM
  have hfind : ([m].find? (· < 0)) = none := by simp [hm]
  have mul0 := Nat.zero_le (n.toNatClampNeg * m.toNatClampNeg)
  rw [multianewarray.make]
  simp only [wp_bind', W.ite, hn, if_false, wp_pure', W.theClass, hkA, hkindA, Option.some.injEq, exists_eq_left']
  refine mw_new hkA hkindA l1 l2 rfl rfl (by omega) (by omega) ?_
  simp only [hfind]
  rw [ite_self, wp_bind', Std.Legacy.Range.forIn_eq_forIn_range']
  have hsz : ([:n.toNatClampNeg] : Std.Legacy.Range).size = n.toNatClampNeg := by simp [Std.Legacy.Range.size]
  rw [hsz]
  show wp (forIn (List.range' 0 n.toNatClampNeg 1) PUnit.unit _) _ E e d acts _
  refine wp_forIn_inv (fun rest s' => ∃ i, i ≤ n.toNatClampNeg ∧ rest = List.range' i (n.toNatClampNeg - i) ∧ s' = mwS s cA cI n.toNatClampNeg m.toNatClampNeg i) _ _ ⟨0, Nat.zero_le _, rfl, rfl⟩ ?_ ?_
  · rintro x rest s' d' acts' Q' ⟨i, hi, hl, rfl⟩ hnext
    have hlt : i < n.toNatClampNeg := by
      rcases Nat.lt_or_ge i n.toNatClampNeg with h | h
      · exact h
      · rw [show n.toNatClampNeg - i = 0 from by omega] at hl
        simp at hl
    rw [show n.toNatClampNeg - i = (n.toNatClampNeg - (i + 1)) + 1 from by omega, List.range'_succ] at hl
    obtain ⟨ex, er⟩ := List.cons.inj hl
    subst ex
    obtain ⟨f1, f2, f3, f4, -, -⟩ := mwS_at s cA cI n.toNatClampNeg m.toNatClampNeg x
    have hmul : x * m.toNatClampNeg + m.toNatClampNeg ≤ n.toNatClampNeg * m.toNatClampNeg := by
      have := Nat.mul_le_mul_right m.toNatClampNeg (show x + 1 ≤ n.toNatClampNeg from hlt)
      rw [Nat.succ_mul] at this
      exact this
    simp only [wp_bind']
    rw [multianewarray.make]
    simp only [wp_bind', W.ite, hm, if_false, wp_pure', W.theClass, f3, hkI, hkindI, Option.some.injEq, exists_eq_left']
    refine mw_new (by rw [f3]; exact hkI) hkindI l3 l4 rfl rfl (by rw [f1]; omega) (by rw [f4]; omega) ?_
    have lt0 : s.heap.size < (mwS s cA cI n.toNatClampNeg m.toNatClampNeg x).heap.size := by rw [f1]; omega
    simp only [wp_bind', W.writeLoc, wp_pure']
    refine ⟨arrV cA n.toNatClampNeg (mwF s.heap.size x), by rw [State.heap_pushCell_of_lt _ _ lt0]; exact f2, (fun z => by cases z), by rw [arrV_size]; exact hlt, ?_, hnext _ _ _ ⟨x + 1, hlt, er, ?_⟩⟩
    · show ((mwS s cA cI n.toNatClampNeg m.toNatClampNeg x).pushCell _).fitsSlot cA .none x _ = true
      simp [State.fitsSlot, State.slotType?, f3, hkA, hkindA]
      rfl
    · rw [f1]; rfl
  · rintro s' d' acts' ⟨i, hi, hl, rfl⟩
    have hiN : i = n.toNatClampNeg := by
      rcases Nat.lt_or_ge i n.toNatClampNeg with h | h
      · rw [show n.toNatClampNeg - i = (n.toNatClampNeg - (i + 1)) + 1 from by omega, List.range'_succ] at hl
        cases hl
      · omega
    subst hiN
    simp only [wp_pure']
    exact hq _ _
end MWP
section MWS
variable {p : Program} {l : Launch} {e : Env} {R : Room} {s : State} {m : MethodId} {args : Array Value} {below : List Frame} {meth : Method} {c : Code} {H : Heap} {locs : List Loc} {cells slots : Nat} {Q : State → Prop}
theorem mwS_stand {T : State} (X : Stand p l e R s m args below meth c T locs cells slots) (cA cI : ClassId) (N M : Nat) : ∀ i, Stand p l e R s m args below meth c (mwS T cA cI N M i) (locs ++ (List.range i).map fun j => ⟨T.heap.size, j⟩) (cells + 1 + i) (slots + N + i * M) := by
  intro i
  induction i with
  | zero =>
    have h := X.pushed (arrV cA N (fun _ => .null))
    rw [arrV_size] at h
    simpa [mwS] using h
  | succ i ih =>
    obtain ⟨f1, f2, -, -, -, -⟩ := mwS_at T cA cI N M i
    have lt0 : T.heap.size < (mwS T cA cI N M i).heap.size := by omega
    have hb : ((mwS T cA cI N M i).pushCell (arrV cI M (fun _ => .int 0))).heap[T.heap.size]? = some (arrV cA N (mwF T.heap.size i)) := by
      rw [State.heap_pushCell_of_lt _ _ lt0]; exact f2
    have h := (ih.pushed (arrV cI M (fun _ => .int 0))).stored hb i (.ref (T.heap.size + 1 + i))
    rw [arrV_size] at h
    have e2 : (locs ++ (List.range (i + 1)).map fun j => (⟨T.heap.size, j⟩ : Loc)) = (locs ++ (List.range i).map fun j => (⟨T.heap.size, j⟩ : Loc)) ++ [⟨T.heap.size, i⟩] := by simp [List.range_succ, List.append_assoc]
    have e3 : slots + N + (i + 1) * M = slots + N + i * M + M := by rw [Nat.succ_mul]; omega
    rw [e2, e3]
    exact h
theorem W_multi {cc : ByteArray} (hexec : p.tables.exec = Jvm.exec) (hb : c.code = cc) {own : String} {index : Nat} (hown : s.vm.findClass own = some m.cls) (hclink : (Cond.classLink own index "[[I").before args s = true) (hover : (Cond.arrayOver (.array .int)).before #[] s = true)
    {cI c0 : ClassId} {kI : Class} (hcI : s.vm.findClass "[I" = some cI) (hkI : s.vm.classes[cI]? = some kI) (hkindI : kI.kind = .array c0 .int)
    {g : JFrame} (hg : g.method = m) (hdg : decode cc g.pc = .ok (.multianewarray index 2, 4)) {n k : Int32} {N M : Nat} {rest : List Value} (hstack : g.stack = .int k :: .int n :: rest) (hn : ¬ n < 0) (hk : ¬ k < 0) (hN : n.toNatClampNeg = N) (hM : k.toNatClampNeg = M) (bN : N ≤ 1000) (bM : M ≤ 1000)
    (hcells : cells + (1 + N) ≤ R.cells) (hslots : slots + (N + N * M) ≤ R.slots)
    (kk : ∀ (cA : ClassId) (H' : Heap) (locs' : List Loc), s.vm.findClass "[[I" = some cA → H'.size = H.size + 1 + N → (∀ q, q < H.size → H'[q]? = H[q]?) → H'[H.size]? = some (arrV cA N (mwF H.size N)) → (∀ j, j < N → H'[H.size + 1 + j]? = some (arrV cI M (fun _ => .int 0))) → (∀ x ∈ locs', x ∈ locs ∨ x.base = H.size) →
      W p l e R s m args below meth c H' locs' (cells + 1 + N) (slots + N + N * M) Q { g with pc := g.pc + 4, stack := .ref H.size :: rest }) : W p l e R s m args below meth c H locs cells slots Q g := by
  intro T hT X
  subst hT; subst hb; subst hg
  have hpl : e.platform.magicAccessors = ({} : Platform).magicAccessors := by rw [X.admits.platform]
  obtain ⟨comp, cA, kA, hcomp, -, hkA, hkindA, hnameA⟩ := arrayOverA_spec hover
  have ecomp : comp = cI := Option.some.inj (hcomp.symm.trans hcI)
  subst ecomp
  obtain ⟨c1, hfc1, hcl⟩ := Cond.classLink_spec hown hclink e.platform hpl
  cases hnameA.symm.trans hfc1
  obtain ⟨hg₁, hwarm₁, hready₁⟩ := State.classEntry (e := e) X.warmed hcl
  generalize T.vm.noted g.method.cls index (.cls cA) = vm₁ at hg₁ hwarm₁ hready₁
  have hal : s.vm.Alike vm₁ := hwarm₁.alike
  obtain ⟨kA₁, hkA₁, heA⟩ := hal.2.2 _ _ hkA
  obtain ⟨kI₁, hkI₁, heI⟩ := hal.2.2 _ _ hkI
  have hkindA₁ : kA₁.kind = .array comp (.array .int) := by rw [heA]; exact hkindA
  have hkindI₁ : kI₁.kind = .array c0 .int := by rw [heI]; exact hkindI
  have X₁ := X.noted hwarm₁
  obtain ⟨hr1, hr2⟩ := X.roomAbove hcells hslots
  have XF := mwS_stand X₁ cA comp N M N
  obtain ⟨f1, f2, f3, f4, f5, f6⟩ := mwS_at (T.setVm vm₁) cA comp N M N
  obtain ⟨t, a1, b1⟩ := kk cA _ _ hnameA f1 f5 f2 f6 (fun x hx => by
    rcases List.mem_append.mp hx with h | h
    · exact Or.inl h
    · obtain ⟨j, -, rfl⟩ := List.mem_map.mp h
      exact Or.inr rfl) (mwS (T.setVm vm₁) cA comp N M N) rfl XF
  refine ⟨t, ?_, b1⟩
  have l1 : ¬ N > e.platform.arrayLengthLimit := by rw [Launch.admits_arrayLengthLimit X.admits]; omega
  have l2 : ¬ N * 4 > e.platform.maxHeapBytes := by rw [Launch.admits_maxHeapBytes X.admits]; omega
  have l3 : ¬ M > e.platform.arrayLengthLimit := by rw [Launch.admits_arrayLengthLimit X.admits]; omega
  have l4 : ¬ M * 4 > e.platform.maxHeapBytes := by rw [Launch.admits_maxHeapBytes X.admits]; omega
  jvm_step X.here [hexec, hdg]
  simp only [multianewarray.sem, wp_bind', W.resolveClassAt_links (State.method?_setTop g X.here.top) hg₁]
  rw [W.popN, if_neg (by decide)]
  refine ⟨g, State.topJava?_setTop' (s := T.setVm vm₁) g X.here.top, [.int n, .int k], rest, rfl, hstack, ?_⟩
  simp only [List.mapM_cons, List.mapM_nil, wp_bind', wp_pure']
  refine mw_make (kA := kA₁) (kI := kI₁) (c0 := c0) (cI := comp) hkA₁ hkindA₁ hkI₁ hkindI₁ hn hk hN hM l1 l2 l3 l4 (by show T.heap.size + 1 + _ ≤ _; omega) (by show T.slotsUsed + _ + _ ≤ _; omega) (fun d' acts' => ?_)
  have eS : ((T.setTop g).setVm vm₁).setTop { g with stack := rest } = (T.setVm vm₁).setTop { g with stack := rest } := by
    show ((T.setVm vm₁).setTop g).setTop _ = _
    rw [State.setTop_setTop]
  rw [eS, mwS_top]
  simp only [wp_bind', W.mark, W.pushRef, State.topJava?_setTop' _ XF.here.top, Option.some.injEq, exists_eq_left', State.setTop_setTop, State.heap_setTop]
  intro acts
  simp [jvm, XF.here.top]
  exact a1
end MWS
