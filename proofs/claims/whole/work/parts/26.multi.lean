/-! SEVEN ROWS OF TWELVE NUMBERS, made at once -/
def mgR (c1 : ClassId) : Cell := arrV c1 12 (fun _ => .int 0)
def mgO (c0 : ClassId) (h0 i : Nat) : Cell := arrV c0 7 (fun j => if j < i then .ref (h0 + 1 + j) else .null)
def mgS (s : State) (c0 c1 : ClassId) : Nat → State
  | 0 => s.pushCell (mgO c0 s.heap.size 0)
  | i + 1 => ((mgS s c0 c1 i).pushCell (mgR c1)).setCell s.heap.size (mgO c0 s.heap.size (i + 1))
theorem mgO_next (c0 : ClassId) (h0 i : Nat) : (mgO c0 h0 i).setSlot i (.ref (h0 + 1 + i)) = mgO c0 h0 (i + 1) := by
  unfold mgO
  rw [arrV_store]
  congr 1
  funext j
  unfold updV
  by_cases e : j = i
  · subst e; rw [if_pos rfl, if_pos (by omega)]
  · rw [if_neg e]
    show (if j < i then Value.ref (h0 + 1 + j) else Value.null) = _
    by_cases h : j < i
    · rw [if_pos h, if_pos (by omega)]
    · rw [if_neg h, if_neg (by omega)]
theorem mgO_sz (c0 : ClassId) (h0 i : Nat) : (mgO c0 h0 i).slots.size = 7 := arrV_size _ _ _
theorem mgR_sz (c1 : ClassId) : (mgR c1).slots.size = 12 := arrV_size _ _ _
theorem mgS_facts (s : State) (c0 c1 : ClassId) : ∀ i, (mgS s c0 c1 i).heap.size = s.heap.size + 1 + i ∧ (mgS s c0 c1 i).heap[s.heap.size]? = some (mgO c0 s.heap.size i) ∧ (mgS s c0 c1 i).vm = s.vm ∧ (mgS s c0 c1 i).slotsUsed = s.slotsUsed + 7 + i * 12 ∧ (∀ j, j < i → (mgS s c0 c1 i).heap[s.heap.size + 1 + j]? = some (mgR c1)) ∧ ∀ q, q < s.heap.size → (mgS s c0 c1 i).heap[q]? = s.heap[q]? := by
  intro i
  induction i with
  | zero => exact ⟨by simp [mgS], by simp [mgS], rfl, by simp [mgS, mgO_sz], fun j hj => absurd hj (Nat.not_lt_zero j), fun q hq => State.heap_pushCell_of_lt _ _ hq⟩
  | succ i ih =>
    obtain ⟨a, b, d, u, w, o⟩ := ih
    have h0 : s.heap.size < (mgS s c0 c1 i).heap.size := by omega
    have b2 : ((mgS s c0 c1 i).pushCell (mgR c1)).heap[s.heap.size]? = some (mgO c0 s.heap.size i) := by rw [State.heap_pushCell_of_lt (h := h0)]; exact b
    refine ⟨?_, State.heap_setCell_self b2, by simp [mgS, d], ?_, fun j hj => ?_, fun q hq => ?_⟩
    · simp [mgS, State.setCell, a]; omega
    · simp [mgS, u, mgR_sz]; omega
    · show (((mgS s c0 c1 i).pushCell (mgR c1)).setCell s.heap.size _).heap[s.heap.size + 1 + j]? = _
      rw [State.heap_setCell_other (show s.heap.size ≠ s.heap.size + 1 + j by omega)]
      by_cases e : j = i
      · subst e
        rw [← a]
        exact State.heap_pushCell_size _ _
      · rw [State.heap_pushCell_of_lt (h := show s.heap.size + 1 + j < (mgS s c0 c1 i).heap.size by omega)]
        exact w j (by omega)
    · show (((mgS s c0 c1 i).pushCell (mgR c1)).setCell s.heap.size _).heap[q]? = _
      rw [State.heap_setCell_other (Nat.ne_of_gt hq), State.heap_pushCell_of_lt (h := show q < (mgS s c0 c1 i).heap.size by omega)]
      exact o q hq
theorem mgS_top (s : State) (f : JFrame) (c0 c1 : ClassId) : ∀ i, mgS (s.setTop f) c0 c1 i = (mgS s c0 c1 i).setTop f := by
  intro i
  induction i with
  | zero => rfl
  | succ i ih => simp only [mgS, ih, State.heap_setTop, State.pushCell_setTop, State.setCell_setTop]
section
variable {E : CtlPost} {e : Env} {d : Bool} {acts : List Action} {s : State}
theorem mg_wp {c0 c1 cc : ClassId} {k k1 : Class} (hk : s.vm.classes[c0]? = some k) (hkind : k.kind = .array c1 (.array .int)) (hk1 : s.vm.classes[c1]? = some k1) (hkind1 : k1.kind = .array cc .int)
    (hl : 12 ≤ e.platform.arrayLengthLimit) (hh : 48 ≤ e.platform.maxHeapBytes) (hc : s.heap.size + 8 ≤ e.platform.maxCells) (hs : s.slotsUsed + 91 ≤ e.platform.maxSlots) {Q : Addr → Jvm.Pre} (hq : ∀ d' acts', Q s.heap.size d' acts' (mgS s c0 c1 7)) :
    wp (Op.multianewarray.make c0 [7, 12]) Q E e d acts s := by
  have row : ∀ (t : State) (d1 : Bool) (a1 : List Action) (Q1 : Addr → Jvm.Pre), t.vm = s.vm → t.heap.size + 1 ≤ e.platform.maxCells → t.slotsUsed + 12 ≤ e.platform.maxSlots → (∀ a2, Q1 t.heap.size d1 a2 (t.pushCell (mgR c1))) → wp (Op.multianewarray.make c1 [12]) Q1 E e d1 a1 t := by
    intro t d1 a1 Q1 hv g1 g2 g3
    rw [Op.multianewarray.make]
    simp only [wp_bind', W.ite, show ¬ (12 : Int32) < 0 by decide, if_false, wp_pure', W.theClass, hv, hk1, hkind1, Option.some.injEq, exists_eq_left']
    refine W.newArray_of (k := k1) (comp := cc) (type := .int) (by rw [hv]; exact hk1) hkind1 (by rw [show (12 : Int32).toNatClampNeg = 12 by decide]; omega) (by rw [show (12 : Int32).toNatClampNeg = 12 by decide]; show ¬ 12 * 4 > _; omega) (by omega) (by rw [show (12 : Int32).toNatClampNeg = 12 by decide]; exact g2) rfl (fun a2 => ?_)
    have := g3 a2
    rw [show mgR c1 = ({ cls := c1, slots := Array.replicate 12 (.int 0), vm := .none } : Cell) from (arrV_new c1 12 (.int 0)).symm] at this
    exact this
  rw [Op.multianewarray.make]
  simp only [wp_bind', W.ite, show ¬ (7 : Int32) < 0 by decide, if_false, wp_pure', W.theClass, hk, hkind, Option.some.injEq, exists_eq_left']
  refine W.newArray_of (k := k) (comp := c1) (type := .array .int) hk hkind (by rw [show (7 : Int32).toNatClampNeg = 7 by decide]; omega) (by rw [show (7 : Int32).toNatClampNeg = 7 by decide]; show ¬ 7 * 4 > _; omega) (by omega) (by rw [show (7 : Int32).toNatClampNeg = 7 by decide]; omega) rfl (fun a2 => ?_)
  rw [show (7 : Int32).toNatClampNeg = 7 by decide]
  have e0 : s.pushCell ({ cls := c0, slots := Array.replicate 7 .null, vm := .none } : Cell) = mgS s c0 c1 0 := by
    rw [arrV_new]
    rfl
  have hfind : ([(12 : Int32)].find? (· < 0)) = none := by decide
  simp only [hfind]
  rw [ite_self, wp_bind', Std.Legacy.Range.forIn_eq_forIn_range']
  have hsz : ([:7] : Std.Legacy.Range).size = 7 := by decide
  rw [hsz]
  show wp (forIn (List.range' 0 7 1) PUnit.unit _) _ E e d a2 _
  refine wp_forIn_inv (fun rest t => ∃ i, i ≤ 7 ∧ rest = List.range' i (7 - i) ∧ t = mgS s c0 c1 i) _ _ ⟨0, Nat.zero_le _, rfl, e0⟩ ?_ ?_
  · rintro x rest t d' acts' Q' ⟨i, hi, hl2, rfl⟩ hnext
    have hlt : i < 7 := by
      rcases Nat.lt_or_ge i 7 with h | h
      · exact h
      · rw [show 7 - i = 0 by omega] at hl2; simp at hl2
    rw [show 7 - i = (7 - (i + 1)) + 1 by omega, List.range'_succ] at hl2
    obtain ⟨rfl, hrest⟩ := List.cons.inj hl2
    obtain ⟨f1, f2, f3, f4, _, _⟩ := mgS_facts s c0 c1 x
    simp only [wp_bind']
    refine row _ _ _ _ f3 (by omega) (by omega) (fun a3 => ?_)
    have h0 : s.heap.size < (mgS s c0 c1 x).heap.size := by omega
    simp only [wp_bind', W.writeLoc, wp_pure']
    refine ⟨mgO c0 s.heap.size x, by rw [State.heap_pushCell_of_lt (h := h0)]; exact f2, by simp [mgO, arrV], by rw [mgO_sz]; exact hlt, ?_, hnext _ _ _ ⟨x + 1, hlt, hrest, ?_⟩⟩
    · simp [mgO, arrV, State.fitsSlot, State.slotType?, f3, hk, hkind, fits]
    · rw [f1, mgO_next]; rfl
  · rintro t d' acts' ⟨i, hi, hl2, rfl⟩
    have h7 : i = 7 := by
      rcases Nat.lt_or_ge i 7 with h | h
      · rw [show 7 - i = (7 - (i + 1)) + 1 by omega, List.range'_succ] at hl2; cases hl2
      · omega
    subst h7
    simp only [wp_pure']
    exact hq _ _
end
section
variable {p : Program} {l : Launch} {e : Env} {R : Room} {s : State} {m : MethodId} {args : Array Value} {below : List Frame} {meth : Method} {c : Code} {T : State} {locs : List Loc} {cells slots : Nat}
theorem mg_stand (X : Stand p l e R s m args below meth c T locs cells slots) (c0 c1 : ClassId) : ∀ i, ∃ L : List Loc, (∀ q ∈ L, q.base = T.heap.size) ∧ Stand p l e R s m args below meth c (mgS T c0 c1 i) (locs ++ L) (cells + 1 + i) (slots + 7 + i * 12) := by
  intro i
  induction i with
  | zero =>
    have h := X.pushed (mgO c0 T.heap.size 0)
    rw [mgO_sz] at h
    exact ⟨[], fun q hq => absurd hq List.not_mem_nil, by rw [List.append_nil]; exact h⟩
  | succ i ih =>
    obtain ⟨L, hL, Xi⟩ := ih
    obtain ⟨f1, f2, _, _, _, _⟩ := mgS_facts T c0 c1 i
    have h0 : T.heap.size < (mgS T c0 c1 i).heap.size := by omega
    have hcell : ((mgS T c0 c1 i).pushCell (mgR c1)).heap[T.heap.size]? = some (mgO c0 T.heap.size i) := by rw [State.heap_pushCell_of_lt (h := h0)]; exact f2
    have h := (Xi.pushed (mgR c1)).stored hcell i (.ref (T.heap.size + 1 + i))
    rw [mgO_next, mgR_sz, List.append_assoc] at h
    refine ⟨_, fun q hq => ?_, by rw [show slots + 7 + (i + 1) * 12 = slots + 7 + i * 12 + 12 by omega]; exact h⟩
    rcases List.mem_append.mp hq with h | h
    · exact hL q h
    · rw [List.mem_singleton.mp h]
end
