/-! SEVEN ROWS OF TWELVE NUMBERS: the row of the instruction -/
section
variable {p : Program} {l : Launch} {e : Env} {R : Room} {s : State} {m : MethodId} {args : Array Value} {below : List Frame} {meth : Method} {c : Code} {cells slots : Nat} {Q : State → Prop}
variable {cc : ByteArray} {own : String} {nL : Nat} {D : va_G} {cA : Nat → ClassId} {F : Nat → Prop} {ws : va_W} {pc : Nat} {lv : List (Nat × Value)} {st : List Value}
def mgW (cA : Nat → ClassId) (q : Nat) : va_W := [(q, .inl (cA 4, 7, .inr (.inr (.inr (.inr (fun i => some (q + 1 + i))))))), (q + 1 + 0, .inl (cA 0, 12, .inl (fun _ => 0))), (q + 1 + 1, .inl (cA 0, 12, .inl (fun _ => 0))), (q + 1 + 2, .inl (cA 0, 12, .inl (fun _ => 0))), (q + 1 + 3, .inl (cA 0, 12, .inl (fun _ => 0))), (q + 1 + 4, .inl (cA 0, 12, .inl (fun _ => 0))), (q + 1 + 5, .inl (cA 0, 12, .inl (fun _ => 0))), (q + 1 + 6, .inl (cA 0, 12, .inl (fun _ => 0)))]
theorem mgW_mem {cA : Nat → ClassId} {q : Nat} {x : Nat × va_E} (h : x ∈ mgW cA q) : x = (q, .inl (cA 4, 7, .inr (.inr (.inr (.inr (fun i => some (q + 1 + i))))))) ∨ ∃ j, j < 7 ∧ x = (q + 1 + j, .inl (cA 0, 12, .inl (fun _ => 0))) := by
  unfold mgW at h
  rcases List.mem_cons.mp h with h | h
  · exact Or.inl h
  · refine Or.inr ?_
    simp only [List.mem_cons, List.not_mem_nil, or_false] at h
    rcases h with h | h | h | h | h | h | h
    · exact ⟨0, by omega, h⟩
    · exact ⟨1, by omega, h⟩
    · exact ⟨2, by omega, h⟩
    · exact ⟨3, by omega, h⟩
    · exact ⟨4, by omega, h⟩
    · exact ⟨5, by omega, h⟩
    · exact ⟨6, by omega, h⟩
set_option maxHeartbeats 4000000 in
theorem wx_multi {idx : Nat} (C : CxX p s m args meth c cc own nL D cA F) (hw : Cond.classLink own idx "[[I" ∈ WT) (hcells : cells + 8 ≤ R.cells) (hslots : slots + 91 ≤ R.slots) (hdg : decode cc pc = .ok (.multianewarray idx 2, 4)) (kk : ∀ q : Nat, WX p l e R s m args below meth c (cells + 8) (slots + 91) Q D F nL (ws ++ mgW cA q) (pc + 4) lv (.ref q :: st)) : WX p l e R s m args below meth c cells slots Q D F nL ws pc lv (.int 12 :: .int 7 :: st) := by
  intro H locs hP hD hS ls hl T hT X
  subst hT
  have hexec := C.1.1
  have hdg2 : decode c.code pc = .ok (.multianewarray idx 2, 4) := by rw [C.1.2.1]; exact hdg
  have hpl : e.platform.magicAccessors = ({} : Platform).magicAccessors := by rw [X.admits.platform]
  obtain ⟨⟨kA, hkA, hkindA⟩, _, _⟩ := C.2.2.2.2.2.2
  have ra4 : s.vm.findClass "[[I" = some (cA 4) := (C.2.2.2.1.2 4 (cA 4, .array .int) rfl).2
  have ra0 : s.vm.findClass "[I" = some (cA 0) := (C.2.2.2.1.2 0 (cA 0, .int) rfl).2
  obtain ⟨c1, kC, cc0, hcomp, hkC, hkindC⟩ := Cond.arrayClass_spec (C.2.1 _ wt_acI)
  have e1 : c1 = cA 0 := Option.some.inj (hcomp.symm.trans ra0)
  subst e1
  obtain ⟨c0, hfc0, hcl⟩ := Cond.classLink_spec C.1.2.2.2 (C.2.1 _ hw) e.platform hpl
  have e4 : c0 = cA 4 := Option.some.inj (hfc0.symm.trans ra4)
  subst e4
  obtain ⟨hg1, hwarm1, hready1⟩ := State.classEntry (e := e) X.warmed hcl
  generalize T.vm.noted m.cls idx (.cls (cA 4)) = vm1 at hg1 hwarm1 hready1
  have hal : s.vm.Alike vm1 := hwarm1.alike
  obtain ⟨kA1, hkA1, heA⟩ := hal.2.2 _ _ hkA
  obtain ⟨kC1, hkC1, heC⟩ := hal.2.2 _ _ hkC
  have hkindA1 : kA1.kind = .array (cA 0) (.array .int) := by rw [heA]; exact hkindA
  have hkindC1 : kC1.kind = .array cc0 .int := by rw [heC]; exact hkindC
  have X1 := X.noted hwarm1
  obtain ⟨hr1, hr2⟩ := X.roomAbove hcells hslots
  obtain ⟨L, hL, X7⟩ := mg_stand X1 (cA 4) (cA 0) 7
  obtain ⟨f1, f2, f3, f4, f5, f6⟩ := mgS_facts (T.setVm vm1) (cA 4) (cA 0) 7
  have hsz : (T.setVm vm1).heap = T.heap := rfl
  rw [hsz] at f1 f2 f5 f6
  rw [show cells + 1 + 7 = cells + 8 by omega, show slots + 7 + 7 * 12 = slots + 91 by omega] at X7
  have hFn : ∀ q, T.heap.size ≤ q → F q := fun q h => C.2.2.2.2.1 q (Nat.le_trans hS.1 h)
  have hP1 : va_P D vwCl (ws ++ mgW cA T.heap.size) (mgS (T.setVm vm1) (cA 4) (cA 0) 7).heap := by
    refine P_mem.mpr (fun x hx => ?_)
    rcases List.mem_append.mp hx with h | h
    · have hx := P_mem.mp hP x h
      exact hx.kept (f6 _ hx.lt)
    · rcases mgW_mem h with rfl | ⟨j, hj, rfl⟩
      · show _ = some (vp_cell _ _)
        rw [f2]
        congr 1
      · show _ = some (vp_cell _ _)
        rw [f5 j hj]
        rfl
  have hD1 : va_D F (ws ++ mgW cA T.heap.size) := by
    have hd := D_mem.mp hD
    refine D_mem.mpr ⟨?_, fun x hx => ?_⟩
    · rw [List.map_append, List.pairwise_append]
      refine ⟨hd.1, ?_, fun a ha b hb e => ?_⟩
      · unfold mgW
        simp
        omega
      · obtain ⟨x, hx, rfl⟩ := List.mem_map.mp ha
        obtain ⟨y, hy, rfl⟩ := List.mem_map.mp hb
        have h1 := (P_mem.mp hP x hx).lt
        rcases mgW_mem hy with rfl | ⟨j, hj, rfl⟩
        · exact absurd e (Nat.ne_of_lt h1)
        · have e : x.1 = T.heap.size + 1 + j := e
          omega
    · rcases List.mem_append.mp hx with h | h
      · exact hd.2 x h
      · rcases mgW_mem h with rfl | ⟨j, hj, rfl⟩
        · exact hFn _ (Nat.le_refl _)
        · exact hFn _ (by show T.heap.size ≤ T.heap.size + 1 + j; omega)
  have hS1 : va_S F s.heap (mgS (T.setVm vm1) (cA 4) (cA 0) 7).heap (locs ++ L) := by
    refine ⟨by rw [f1]; have := hS.1; omega, fun q h1 h2 => ?_, fun q hq => ?_⟩
    · rw [f6 q (Nat.lt_of_lt_of_le h1 hS.1)]
      exact hS.2.1 q h1 h2
    · rcases List.mem_append.mp hq with h | h
      · exact hS.2.2 q h
      · rw [hL q h]; exact hFn _ (Nat.le_refl _)
  obtain ⟨t, a1, b1⟩ := kk T.heap.size _ _ hP1 hD1 hS1 ls hl (mgS (T.setVm vm1) (cA 4) (cA 0) 7) rfl X7
  refine ⟨t, ?_, b1⟩
  have hal2 : 12 ≤ e.platform.arrayLengthLimit := by rw [Launch.admits_arrayLengthLimit X.admits]; omega
  have hah : 48 ≤ e.platform.maxHeapBytes := by rw [Launch.admits_maxHeapBytes X.admits]; omega
  jvm_step X.here [hexec, hdg2]
  simp only [Op.multianewarray.sem, wp_bind', W.resolveClassAt_links (State.method?_setTop (F0 m pc ls (.int 12 :: .int 7 :: st)) X.here.top) hg1]
  rw [W.popN, if_neg (by decide)]
  refine ⟨F0 m pc ls (.int 12 :: .int 7 :: st), State.topJava?_setTop' (s := T.setVm vm1) _ X.here.top, [.int 7, .int 12], st, rfl, rfl, ?_⟩
  simp only [List.mapM_cons, List.mapM_nil, wp_bind', wp_pure']
  refine mg_wp hkA1 hkindA1 hkC1 hkindC1 hal2 hah (by show T.heap.size + 8 ≤ _; omega) (by show T.slotsUsed + 91 ≤ _; omega) (fun d' acts' => ?_)
  have eS : ((T.setTop (F0 m pc ls (.int 12 :: .int 7 :: st))).setVm vm1).setTop (F0 m pc ls st) = (T.setVm vm1).setTop (F0 m pc ls st) := by
    show ((T.setVm vm1).setTop _).setTop _ = _
    rw [State.setTop_setTop]
  rw [show ({ F0 m pc ls (.int 12 :: .int 7 :: st) with stack := st } : JFrame) = F0 m pc ls st from rfl, eS, mgS_top]
  simp only [wp_bind', W.mark, W.pushRef, State.topJava?_setTop' _ X7.here.top, Option.some.injEq, exists_eq_left', State.setTop_setTop, State.heap_setTop]
  intro acts
  simp [jvm, X7.here.top]
  exact a1
end
