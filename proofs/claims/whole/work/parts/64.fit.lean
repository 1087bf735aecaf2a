/-! QUESTIONS: fit -/
/-- a had counts at k -/
abbrev ftC (Z : xU) (k : Int32) (j : Nat) : Prop := ¬ k < Z 2 j ∧ (Z 3 j = -1 ∨ k < Z 3 j)
def ftInto (L : xU) (e : Nat) (σ : Nat → Int32) (t v : Nat) : Int32 := aBt (tE L e σ v t).2.1 (tE L e σ v t).2.2
/-- it agrees with a set of biers -/
abbrev ftOk (Z : xU) (s : Int32) (j : Nat) : Prop := xb (((s >>> (Z 0 j &&& 31)) &&& 1) = 1) = Z 1 j
def ftK (Z : xU) (k s : Int32) (m : Nat) : Bool := xfold m (fun j a => a && decide (ftC Z k j → ftOk Z s j)) true
theorem ftK_s (Z : xU) (k s : Int32) (m : Nat) : ftK Z k s (m + 1) = (ftK Z k s m && decide (ftC Z k m → ftOk Z s m)) := rfl
theorem ftK_iff (Z : xU) (k s : Int32) : ∀ m, ftK Z k s m = true ↔ ∀ j, j < m → ftC Z k j → ftOk Z s j := by
  intro m
  induction m with
  | zero => exact ⟨fun _ j hj => by omega, fun _ => rfl⟩
  | succ m ih =>
    rw [ftK_s, Bool.and_eq_true, ih, decide_eq_true_iff]
    refine ⟨fun h j hj => ?_, fun h => ⟨fun j hj => h j (by omega), h m (by omega)⟩⟩
    by_cases q : j = m
    · subst q; exact h.2
    · exact h.1 j (by omega)
theorem ftK_stay {Z : xU} {k s : Int32} {m : Nat} (h : ftK Z k s m = false) : ∀ n, m ≤ n → ftK Z k s n = false := by
  intro n hn
  cases q : ftK Z k s n
  · rfl
  · have : ftK Z k s m = true := (ftK_iff Z k s m).mpr (fun j hj => (ftK_iff Z k s n).mp q j (by omega))
    rw [h] at this; cases this
/-- the biers that must, or must not, as the class gathers them -/
def ftM (Z : xU) (k is : Int32) (m : Nat) : Int32 := xfold m (fun j s => if Z 1 j = is ∧ ftC Z k j then s ||| ((1 : Int32) <<< (Z 0 j &&& 31)) else s) 0
theorem ftM_s (Z : xU) (k is : Int32) (m : Nat) : ftM Z k is (m + 1) = if Z 1 m = is ∧ ftC Z k m then ftM Z k is m ||| ((1 : Int32) <<< (Z 0 m &&& 31)) else ftM Z k is m := rfl
theorem bt_ftM {L : xU} {h t : Nat} {Z : xU} (hok : loOk L h t Z) (hb6 : lB L ≤ 6) (k is : Int32) {b : Nat} (hb : b < 32) : ∀ m, m ≤ h → (bt (ftM Z k is m) b = true ↔ ∃ j, j < m ∧ Z 1 j = is ∧ ftC Z k j ∧ Z 0 j = nI b) := by
  intro m
  induction m with
  | zero =>
    intro _
    rw [show ftM Z k is 0 = 0 from rfl, b_0]
    exact ⟨(fun q => by cases q), fun ⟨j, hj, _⟩ => by omega⟩
  | succ m ih =>
    intro hm
    have ih' := ih (by omega)
    obtain ⟨⟨p, hp, ep⟩, -⟩ := hok.2.2 m (by omega)
    rw [ftM_s]
    by_cases q : Z 1 m = is ∧ ftC Z k m
    · rw [if_pos q, b_or, ep, bt_sh (by omega) hb, Bool.or_eq_true, ih', decide_eq_true_iff]
      refine ⟨fun y => ?_, fun ⟨j, hj, j1, j2, j3⟩ => ?_⟩
      · rcases y with ⟨j, hj, y⟩ | y
        · exact ⟨j, by omega, y⟩
        · exact ⟨m, by omega, q.1, q.2, by rw [ep, y]⟩
      · by_cases z : j = m
        · subst z
          right
          exact nI_inv (by omega) (by omega) (j3.symm.trans ep)
        · left
          exact ⟨j, by omega, j1, j2, j3⟩
    · rw [if_neg q, ih']
      refine ⟨fun ⟨j, hj, y⟩ => ⟨j, by omega, y⟩, fun ⟨j, hj, j1, j2, j3⟩ => ?_⟩
      by_cases z : j = m
      · subst z; exact absurd ⟨j1, j2⟩ q
      · exact ⟨j, by omega, j1, j2, j3⟩
/-- fitting, in the class's words -/
theorem ft_iff {L : xU} {h t : Nat} {Z : xU} (hok : loOk L h t Z) (hb6 : lB L ≤ 6) (k s : Int32) : (s &&& ftM Z k 1 h = ftM Z k 1 h ∧ s &&& ftM Z k 0 h = 0) ↔ ftK Z k s h = true := by
  rw [ftK_iff]
  have key : ∀ j, j < h → ∃ b, b < lB L ∧ Z 0 j = nI b ∧ (ftOk Z s j ↔ ((bt s b = true ∧ Z 1 j = 1) ∨ (bt s b = false ∧ Z 1 j = 0))) := by
    intro j hj
    obtain ⟨⟨b, hb, eb⟩, z1, -⟩ := hok.2.2 j hj
    refine ⟨b, hb, eb, ?_⟩
    unfold ftOk
    rw [eb, xb_iff (test_1 (show b < 32 by omega) s)]
    cases q : bt s b
    · rw [xb_neg (by decide)]
      exact ⟨fun y => Or.inr ⟨rfl, y.symm⟩, fun y => y.elim (fun y => by cases y.1) (fun y => y.2.symm)⟩
    · rw [xb_pos rfl]
      exact ⟨fun y => Or.inl ⟨rfl, y.symm⟩, fun y => y.elim (fun y => y.2.symm) (fun y => by cases y.1)⟩
  refine ⟨fun ⟨h1, h2⟩ j hj hc => ?_, fun hall => ⟨b_ext (fun b hb => ?_), b_ext (fun b hb => ?_)⟩⟩
  · obtain ⟨b, hb, eb, ok⟩ := key j hj
    rw [ok]
    rcases (hok.2.2 j hj).2.1 with z | z
    · right
      have m : bt (ftM Z k 0 h) b = true := (bt_ftM hok hb6 k 0 (by omega) h (Nat.le_refl _)).mpr ⟨j, hj, z, hc, eb⟩
      have := congrArg (fun x => bt x b) h2
      simp only [b_and, m, b_0, Bool.and_true] at this
      exact ⟨this, z⟩
    · left
      have m : bt (ftM Z k 1 h) b = true := (bt_ftM hok hb6 k 1 (by omega) h (Nat.le_refl _)).mpr ⟨j, hj, z, hc, eb⟩
      have := congrArg (fun x => bt x b) h1
      simp only [b_and, m, Bool.and_true] at this
      exact ⟨this, z⟩
  · rw [b_and]
    cases q : bt (ftM Z k 1 h) b
    · rw [Bool.and_false]
    · obtain ⟨j, hj, j1, j2, j3⟩ := (bt_ftM hok hb6 k 1 hb h (Nat.le_refl _)).mp q
      obtain ⟨b', hb', eb, ok⟩ := key j hj
      have : b = b' := nI_inv (by omega) (by omega) (j3.symm.trans eb)
      subst this
      rcases ok.mp (hall j hj j2) with y | y
      · rw [y.1]; rfl
      · rw [j1] at y; exact absurd y.2 (by decide)
  · rw [b_and, b_0]
    cases q : bt (ftM Z k 0 h) b
    · rw [Bool.and_false]
    · obtain ⟨j, hj, j1, j2, j3⟩ := (bt_ftM hok hb6 k 0 hb h (Nat.le_refl _)).mp q
      obtain ⟨b', hb', eb, ok⟩ := key j hj
      have : b = b' := nI_inv (by omega) (by omega) (j3.symm.trans eb)
      subst this
      rcases ok.mp (hall j hj j2) with y | y
      · rw [j1] at y; exact absurd y.2 (by decide)
      · rw [y.1]; rfl
/-- does v fit for t -/
def ftP (L : xU) (e : Nat) (σ : Nat → Int32) (h : Nat) (Z : xU) (k : Int32) (t v : Nat) : Bool := !decide (v = t) && ftK Z k (ftInto L e σ t v) h
def ftS (L : xU) (e : Nat) (σ : Nat → Int32) (h : Nat) (Z : xU) (k : Int32) (t : Nat) : Int32 := xset (lV L) (ftP L e σ h Z k t)
def aFit (L : xU) (e : Nat) (σ : Nat → Int32) (h : Nat) (Z : xU) (i k : Int32) : Int32 := if inN i (lV L) then ftS L e σ h Z k i.toNatClampNeg else -1
section FIT
variable {g : xGT} {d : Nat} {w : xW} {r : xQ} {L : xU} {l n e h t : Nat} {σ : Nat → Int32} {Z : xU}
theorem K_biersThat {u : xU} (hr : xRf r) (hlo : cLo u h t Z) (h30 : h ≤ 30) (is k : Int32) : xCall g d mX4_biersThat [.ref 611, .int is, .int k] 698 u w r 698 (xPr (ftM Z k is h) u w r) := by
  obtain ⟨l1, l2, l3⟩ := hlo
  refine CX4_biersThat ?_
  refine xlq (N := h) (G := fun m => xEv g d mX4_biersThat 5 [some (.ref 611), some (.int is), some (.int k), some (.int (ftM Z k is m)), some (.int (nI m)), none] [] 698 u w r 698 _) ?_ ?_
  · exact TX4_biersThat_5 hr (brT (by rw [l1]; exact nI_le (Nat.le_refl _) (by omega)) ⟨rfl, rfl, rfl, rfl⟩)
  · intro m hm kk
    refine TX4_biersThat_5 hr (brF (by rw [l1]; exact nI_ge (by omega) (by omega)) ⟨vpn (by omega) (by omega), ?_⟩)
    obtain ⟨z0, z1, z2, z3⟩ := l3 m hm
    rw [nc (by omega), z0, z1, z2, z3, xb_eq0]
    rw [ftM_s] at kk
    have hc : (Z 1 m = is ∧ (¬ k < Z 2 m ∧ ¬ (¬ Z 3 m = -1 ∧ ¬ k < Z 3 m))) ↔ (Z 1 m = is ∧ ftC Z k m) := by
      refine and_congr_right (fun _ => and_congr_right (fun _ => ?_))
      by_cases a : Z 3 m = -1 <;> by_cases b : k < Z 3 m <;> simp [a, b]
    rw [hc]
    refine ⟨fun q => TX4_biersThat_82 ?_, fun q => TX4_biersThat_82 ?_⟩
    · rw [if_pos q] at kk; rw [nI_one]; exact kk
    · rw [if_neg q] at kk; rw [nI_one]; exact kk
theorem K_fitting {u : xU} (hK : lOkk L) (hR : kR r l) (hN : kN L l n e u σ) (hok : loOk L h t Z) (hlo : cLo u h t Z) {p : Nat} (hp : p < lV L) (k : Int32) :
    xCall g (d + 6) mX11_fitting [.ref 8, .int (nI p), .int k] 698 u w r 698 (xIn (ftS L e σ h Z k p) (fun u' => (∀ v, v < lV L → v ≠ p → u' 94 v = ftInto L e σ p v) ∧ xSm (fLk l) u u') w r) := by
  have hv7 := hK.1.1
  have hb6 := hK.2.2.1.1
  obtain ⟨hr, h_l, q_l, hm, ht, hl⟩ := id hR
  refine CX11_fitting hr (xPr.use (K_biersThat hr hlo hok.1 1 k) ⟨_, rfl, rfl, rfl, rfl, xPr.use (K_biersThat hr hlo hok.1 0 k) ⟨_, rfl, rfl, rfl, rfl, ?_⟩⟩)
  refine xlp (N := lV L) (Q := fun m u' => (∀ v, v < m → v ≠ p → u' 94 v = ftInto L e σ p v) ∧ xSm (fLk l) u u') (G := fun m u' => xEv g (d + 6) mX11_fitting 27 [some (.ref 8), some (.int (nI p)), none, some (.int (ftM Z k 1 h)), some (.int (ftM Z k 0 h)), some (.int (xset m (ftP L e σ h Z k p))), some (.int (nI m)), none] [] 698 u' w r 698 _) ?_ ?_ ⟨fun v hv => by omega, xSm.rf⟩
  · intro u1 ⟨h1, f1⟩
    have N1 : kN L l n e u1 σ := hN.kept hR f1 (fun b hb => by omega)
    exact TX11_fitting_27 hr h_l ht (brT (by rw [N1.1.1.1.1]; exact nI_le (Nat.le_refl _) (by omega)) ⟨rfl, ⟨h1, f1⟩, rfl, rfl⟩)
  · intro m u1 hmm ⟨h1, f1⟩ kk
    have N1 : kN L l n e u1 σ := hN.kept hR f1 (fun b hb => by omega)
    refine TX11_fitting_27 hr h_l ht (brF (by rw [N1.1.1.1.1]; exact nI_ge (by omega) (by omega)) ?_)
    rw [xset_s] at kk
    refine ⟨fun q => TX11_fitting_106 ?_, fun q => ?_⟩
    · have em : m = p := nI_inv (by omega) (by omega) q
      have ef : ftP L e σ h Z k p m = false := by unfold ftP; rw [em, decide_eq_true rfl]; rfl
      rw [ef, if_neg (by decide)] at kk
      rw [nI_one]
      exact kk u1 ⟨fun v hv hne => h1 v (by omega) hne, f1⟩
    · have nm : m ≠ p := fun z => q (by rw [z])
      refine xIn.use (K_follow hK hR N1 (show m < lV L from hmm) hp) (fun u2 ⟨c2, y2, f2⟩ => ⟨_, rfl, rfl, rfl, vpn (by omega) (by omega), ?_⟩)
      rw [c2.2.2, nc (by omega)]
      have ei : aBt (tE L e σ m p).2.1 (tE L e σ m p).2.2 = ftInto L e σ p m := rfl
      rw [ei, ft_iff hok hb6]
      have ef : ftP L e σ h Z k p m = ftK Z k (ftInto L e σ p m) h := by unfold ftP; rw [decide_eq_false nm]; rfl
      rw [ef] at kk
      have fin : (∀ v, v < m + 1 → v ≠ p → x2 u2 94 m (ftInto L e σ p m) 94 v = ftInto L e σ p v) ∧ xSm (fLk l) u (x2 u2 94 m (ftInto L e σ p m)) := by
        refine ⟨fun v hv hne => ?_, (f1.tr (f2.to (fun b hb => fFo_lk hb))).put (Or.inl ⟨by omega, by omega⟩)⟩
        by_cases z : v = m
        · subst z; rw [x2_same]
        · rw [x2_i _ _ z, f2 94 v (by omega)]
          exact h1 v (by omega) hne
      refine ⟨fun q2 => TX11_fitting_106 ?_, fun q2 => TX11_fitting_106 ?_⟩
      · rw [if_pos q2] at kk; rw [nI_one]; exact kk _ fin
      · rw [if_neg q2] at kk; rw [nI_one]; exact kk _ fin
end FIT
