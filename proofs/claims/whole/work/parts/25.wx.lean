/-! WORLDS AS LISTS, whose order doesn't matter; a constructor's rows -/
theorem P_mem {D : va_G} {cl : List vw_C} {ws : va_W} {H : Heap} : va_P D cl ws H ↔ ∀ q, q ∈ ws → va_at D cl q H :=
  ⟨fun h q hq => by obtain ⟨i, hi⟩ := List.getElem?_of_mem hq; exact h i q hi, fun h k q hk => h q (List.mem_of_getElem? hk)⟩
theorem D_mem {F : Nat → Prop} {ws : va_W} : va_D F ws ↔ List.Pairwise (fun a b : Nat => a ≠ b) (ws.map Prod.fst) ∧ ∀ q, q ∈ ws → F q.1 := by
  constructor
  · intro h
    refine ⟨?_, fun q hq => by obtain ⟨i, hi⟩ := List.getElem?_of_mem hq; exact h.2 i q hi⟩
    rw [List.pairwise_iff_getElem]
    intro i j hi hj hij e
    rw [List.length_map] at hi hj
    rw [List.getElem_map, List.getElem_map] at e
    exact absurd (h.1 i j _ _ (List.getElem?_eq_getElem hi) (List.getElem?_eq_getElem hj) e) (by omega)
  · intro h
    refine ⟨fun i j p q hp hq e => ?_, fun k q hk => h.2 q (List.mem_of_getElem? hk)⟩
    have hd := List.pairwise_iff_getElem.mp h.1
    obtain ⟨hi, hp⟩ := List.getElem?_eq_some_iff.mp hp
    obtain ⟨hj, hq⟩ := List.getElem?_eq_some_iff.mp hq
    rcases Nat.lt_trichotomy i j with hl | hl | hl
    · exact absurd (by rw [List.getElem_map, List.getElem_map, hp, hq]; exact e) (hd i j (by rw [List.length_map]; exact hi) (by rw [List.length_map]; exact hj) hl)
    · exact hl
    · exact absurd (by rw [List.getElem_map, List.getElem_map, hp, hq]; exact e.symm) (hd j i (by rw [List.length_map]; exact hj) (by rw [List.length_map]; exact hi) hl)
theorem P_perm {D : va_G} {cl : List vw_C} {ws ws' : va_W} {H : Heap} (h : ws.Perm ws') (hP : va_P D cl ws H) : va_P D cl ws' H := P_mem.mpr (fun q hq => P_mem.mp hP q (h.mem_iff.mpr hq))
theorem D_perm {F : Nat → Prop} {ws ws' : va_W} (h : ws.Perm ws') (hD : va_D F ws) : va_D F ws' :=
  D_mem.mpr ⟨(h.map Prod.fst).pairwise (D_mem.mp hD).1 (fun hab => Ne.symm hab), fun q hq => (D_mem.mp hD).2 q (h.mem_iff.mpr hq)⟩
theorem va_A_mem {ws : va_W} {sz q : Nat} : va_A ws sz q ↔ (∃ e, (q, e) ∈ ws) ∨ sz ≤ q := by
  constructor
  · rintro (⟨k, e, h⟩ | h)
    · exact Or.inl ⟨e, List.mem_of_getElem? h⟩
    · exact Or.inr h
  · rintro (⟨e, h⟩ | h)
    · obtain ⟨k, hk⟩ := List.getElem?_of_mem h
      exact Or.inl ⟨k, e, hk⟩
    · exact Or.inr h
/-- behind a call: the callee's cells, and the others unchanged -/
theorem wx_frame {D : va_G} {cl : List vw_C} {Cw Rw w1 : va_W} {F : Nat → Prop} {H H1 : Heap} (hP : va_P D cl (Cw ++ Rw) H) (hD : va_D F (Cw ++ Rw)) (hk : ∀ q : Nat, q < H.size → ¬ va_A Cw H.size q → H1[q]? = H[q]?) (hP1 : va_P D cl w1 H1) (hD1 : va_D (va_A Cw H.size) w1) (hF : ∀ q, va_A Cw H.size q → F q) : va_P D cl (w1 ++ Rw) H1 ∧ va_D F (w1 ++ Rw) := by
  have hd := (D_mem.mp hD)
  rw [List.map_append, List.pairwise_append] at hd
  have apart : ∀ q, q ∈ Rw → q.1 < H.size ∧ ¬ va_A Cw H.size q.1 := by
    intro q hq
    have hl := (P_mem.mp hP q (List.mem_append_right _ hq)).lt
    refine ⟨hl, fun h => ?_⟩
    rcases va_A_mem.mp h with ⟨e, h⟩ | h
    · exact hd.1.2.2 q.1 (List.mem_map.mpr ⟨(q.1, e), h, rfl⟩) q.1 (List.mem_map.mpr ⟨q, hq, rfl⟩) rfl
    · omega
  have hd1 := D_mem.mp hD1
  refine ⟨P_mem.mpr (fun q hq => ?_), D_mem.mpr ⟨?_, fun q hq => ?_⟩⟩
  · rcases List.mem_append.mp hq with h | h
    · exact P_mem.mp hP1 q h
    · exact (P_mem.mp hP q (List.mem_append_right _ h)).kept (hk q.1 (apart q h).1 (apart q h).2)
  · rw [List.map_append, List.pairwise_append]
    refine ⟨hd1.1, hd.1.2.1, fun a ha b hb e => ?_⟩
    obtain ⟨x, hx, rfl⟩ := List.mem_map.mp ha
    obtain ⟨y, hy, rfl⟩ := List.mem_map.mp hb
    exact (apart y hy).2 (by rw [← e]; exact hd1.2 x hx)
  · rcases List.mem_append.mp hq with h | h
    · exact hF _ (hd1.2 q h)
    · exact hd.2 q (List.mem_append_right _ h)
theorem free_F {Cw Rw : va_W} {F : Nat → Prop} {H0 H : Heap} {locs : List Loc} (hD : va_D F (Cw ++ Rw)) (hS : va_S F H0 H locs) (hA : ∀ q, H0.size ≤ q → F q) : ∀ q, va_A Cw H.size q → F q := by
  intro q h
  rcases va_A_mem.mp h with ⟨e, h⟩ | h
  · exact (D_mem.mp hD).2 (q, e) (List.mem_append_left _ h)
  · exact hA q (Nat.le_trans hS.1 h)
/-- the rows of references: a row of rows of numbers, of texts, of sheets -/
def EX (cA : Nat → ClassId) (U : State) : Prop := (∃ kA : Class, U.vm.classes[cA 4]? = some kA ∧ kA.kind = .array (cA 0) (.array .int)) ∧ va_AO RX7 U ∧ va_AO RX6 U
theorem EX.moved {cA : Nat → ClassId} {u U : State} (hvm : u.vm.Alike U.vm) (h : EX cA u) : EX cA U := by
  obtain ⟨⟨kA, h1, h2⟩, h3, h4⟩ := h
  obtain ⟨k', hk', he⟩ := hvm.2.2 _ _ h1
  exact ⟨⟨k', hk', by rw [he]; exact h2⟩, h3.moved hvm, h4.moved hvm⟩
def CxX (p : Program) (s : State) (m : MethodId) (args : Array Value) (meth : Method) (c : Code) (cc : ByteArray) (own : String) (nL : Nat) (D : va_G) (cA : Nat → ClassId) (F : Nat → Prop) : Prop :=
  (p.tables.exec = Jvm.exec ∧ c.code = cc ∧ c.maxLocals = nL ∧ s.vm.findClass own = some m.cls) ∧ (∀ w ∈ WT, w.before args s = true) ∧ meth.locks = false ∧ va_K D vwCl (tyL cA) s ∧ (∀ q, s.heap.size ≤ q → F q) ∧ meth.name = "<init>" ∧ EX cA s
def WX (p : Program) (l : Launch) (e : Env) (R : Room) (s : State) (m : MethodId) (args : Array Value) (below : List Frame) (meth : Method) (c : Code) (cells slots : Nat) (Q : State → Prop) (D : va_G) (F : Nat → Prop) (nL : Nat) (ws : va_W) (pc : Nat) (lv : List (Nat × Value)) (st : List Value) : Prop :=
  ∀ (H : Heap) (locs : List Loc), va_P D vwCl ws H → va_D F ws → va_S F s.heap H locs → ∀ ls : Array Slot, lv_has ls nL lv → W p l e R s m args below meth c H locs cells slots Q (F0 m pc ls st)
def PreX (D : va_G) (cA : Nat → ClassId) (Cw : va_W) (sz : Nat) (U : State) : Prop := U.heap.size = sz ∧ va_P D vwCl Cw U.heap ∧ va_K D vwCl (tyL cA) U ∧ va_D (fun _ => True) Cw ∧ EX cA U
theorem preX_blind {D : va_G} {cA : Nat → ClassId} {Cw : va_W} {sz : Nat} {avs : List Value} : FrameBlind (va_Pc avs (PreX D cA Cw sz)) := fun a U g mk q =>
  ⟨q.1, q.2.1, q.2.2.1, va_K.moved (u := U) (U := U.calling g mk a) (Vm.Alike.refl U.vm) q.2.2.2.1, q.2.2.2.2.1, EX.moved (u := U) (U := U.calling g mk a) (Vm.Alike.refl U.vm) q.2.2.2.2.2⟩
def QX (D : va_G) (g : (Nat → Nat) → va_W) (Cw : va_W) (sz : Nat) : Array Value → State → Outcome → State → Prop := va_Qv (fun _ : Nat → Nat => True) (fun u t => va_P D vwCl (g u) t.heap ∧ va_D (va_A Cw sz) (g u)) (va_A Cw sz)
def RX (h mc ms : Nat) : Room := { frames := h, cells := mc, slots := ms, locals := 64 * h }
def CtX (l : Launch) (D : va_G) (cA : Nat → ClassId) (y : MethodName) (cb : ByteArray) (nM h mc ms : Nat) (avs : List Value) (Cw : va_W) (g : (Nat → Nat) → va_W) : Prop := ∀ sz : Nat, Met l y (WS y cb nM none) (RX h mc ms) (va_Pc avs (PreX D cA Cw sz)) (QX D g Cw sz) mc ms (va_A Cw sz)
theorem ct_X {l : Launch} {D : va_G} {cA : Nat → ClassId} {y : MethodName} {cb : ByteArray} {nM h mc ms : Nat} {avs : List Value} {Cw : va_W} {g : (Nat → Nat) → va_W} (hy : plainName y.cls = true) (hyn : y.name = "<init>") (hn : (lg_sl avs).length ≤ nM) (body : ∀ (p : Program) (e : Env) (s : State) (m : MethodId) (args : Array Value) (below : List Frame) (meth : Method) (c : Code), CxX p s m args meth c cb y.cls nM D cA (va_A Cw s.heap.size) → meth.sig.returnType = none → WX p l e (RX h mc ms) s m args below meth c 0 0 (MQ below (QX D g Cw s.heap.size) args s mc ms (va_A Cw s.heap.size)) D (va_A Cw s.heap.size) nM Cw 0 (lv_args 0 avs) []) : CtX l D cA y cb nM h mc ms avs Cw g := by
  intro sz
  refine Met.ofW (cc := cb) (maxL := nM) (ret := none) hy rfl ?_
  intro p e s m args below meth c s1 B hml hv
  obtain ⟨rfl, hsz, hP, hK, hD, hE⟩ := hv
  subst hsz
  have hts := atoms_spec (ws := WS y cb nM none) B.pre
  rw [lg_entry_eq]
  exact body p e s m _ below meth c ⟨⟨B.exec, B.bytes, hml, findClass_of_methodNamed B.named⟩, fun w hw => hts w (List.mem_cons_of_mem _ hw), B.notSynchronized, hK, fun q h => Or.inr h, ((name_of_methodNamed B.named B.method).1).trans hyn, hE⟩ B.returns s.heap [] hP hD.self va_S.rf _ (lv_entry avs hn)
theorem wt_obj_i : Cond.instanceMethod Lib.objectInit ∈ WT := wtm 91 (by decide +kernel)
theorem wt_obj_c : Cond.code Lib.objectInit ⟨#[0xb1]⟩ 1 none ∈ WT := wtm 92 (by decide +kernel)
theorem wt_acI : Cond.arrayClass .int ∈ WT := wtm 145 (by decide +kernel)
theorem wt_acZ : Cond.arrayClass .boolean ∈ WT := wtm 421 (by decide +kernel)
section WXR
variable {p : Program} {l : Launch} {e : Env} {R : Room} {s : State} {m : MethodId} {args : Array Value} {below : List Frame} {meth : Method} {c : Code} {cells slots : Nat} {Q : State → Prop}
variable {cc : ByteArray} {own : String} {nL : Nat} {D : va_G} {cA : Nat → ClassId} {F : Nat → Prop} {ws : va_W} {pc : Nat} {lv : List (Nat × Value)} {st : List Value}
theorem wx_perm {ws' : va_W} (h : ws.Perm ws') (kk : WX p l e R s m args below meth c cells slots Q D F nL ws' pc lv st) : WX p l e R s m args below meth c cells slots Q D F nL ws pc lv st :=
  fun H locs hP hD hS ls hl => kk H locs (P_perm h hP) (D_perm h hD) hS ls hl
theorem wx_ws {ws' : va_W} (h : ws = ws') (kk : WX p l e R s m args below meth c cells slots Q D F nL ws' pc lv st) : WX p l e R s m args below meth c cells slots Q D F nL ws pc lv st := h ▸ kk
theorem wx_pick {lv1 : List (Nat × Value)} (ks : List Nat) (h : lv_pick lv ks = lv1) (kk : WX p l e R s m args below meth c cells slots Q D F nL ws pc lv1 st) : WX p l e R s m args below meth c cells slots Q D F nL ws pc lv st :=
  fun H locs hP hD hS ls hl => kk H locs hP hD hS ls (lv_sub hl ks h)
theorem wx_aload_n (k : Nat) {kf : Fin 4} {x : Nat} (C : CxX p s m args meth c cc own nL D cA F) (hdg : decode cc pc = .ok (.aload_n kf, 1)) (hk : lv[k]? = some ((kf : Nat), .ref x)) (kk : WX p l e R s m args below meth c cells slots Q D F nL ws (pc + 1) lv (.ref x :: st)) : WX p l e R s m args below meth c cells slots Q D F nL ws pc lv st :=
  fun H locs hP hD hS ls hl => lv_aload_n C.1.1 C.1.2.1 hdg rfl (lv_at hl k hk) (kk H locs hP hD hS ls hl)
theorem wx_iload_n (k : Nat) {kf : Fin 4} {x : Int32} (C : CxX p s m args meth c cc own nL D cA F) (hdg : decode cc pc = .ok (.iload_n kf, 1)) (hk : lv[k]? = some ((kf : Nat), .int x)) (kk : WX p l e R s m args below meth c cells slots Q D F nL ws (pc + 1) lv (.int x :: st)) : WX p l e R s m args below meth c cells slots Q D F nL ws pc lv st :=
  fun H locs hP hD hS ls hl => lv_iload_n C.1.1 C.1.2.1 hdg rfl (lv_at hl k hk) (kk H locs hP hD hS ls hl)
theorem wx_iconst {n : Int} {v : Int32} (C : CxX p s m args meth c cc own nL D cA F) (hdg : decode cc pc = .ok (.iconst n, 1)) (hv : Int32.ofInt n = v) (kk : WX p l e R s m args below meth c cells slots Q D F nL ws (pc + 1) lv (.int v :: st)) : WX p l e R s m args below meth c cells slots Q D F nL ws pc lv st :=
  fun H locs hP hD hS ls hl => lv_iconst C.1.1 C.1.2.1 hdg hv (kk H locs hP hD hS ls hl)
theorem wx_bipush {n : Int} {v : Int32} (C : CxX p s m args meth c cc own nL D cA F) (hdg : decode cc pc = .ok (.bipush n, 2)) (hv : (Int8.ofInt n).toInt32 = v) (kk : WX p l e R s m args below meth c cells slots Q D F nL ws (pc + 2) lv (.int v :: st)) : WX p l e R s m args below meth c cells slots Q D F nL ws pc lv st :=
  fun H locs hP hD hS ls hl => lv_bipush C.1.1 C.1.2.1 hdg hv (kk H locs hP hD hS ls hl)
theorem wx_sipush {n : Int} {v : Int32} (C : CxX p s m args meth c cc own nL D cA F) (hdg : decode cc pc = .ok (.sipush n, 3)) (hv : (Int16.ofInt n).toInt32 = v) (kk : WX p l e R s m args below meth c cells slots Q D F nL ws (pc + 3) lv (.int v :: st)) : WX p l e R s m args below meth c cells slots Q D F nL ws pc lv st :=
  fun H locs hP hD hS ls hl => lv_sipush C.1.1 C.1.2.1 hdg hv (kk H locs hP hD hS ls hl)
theorem wx_dup {v : Value} (C : CxX p s m args meth c cc own nL D cA F) (hdg : decode cc pc = .ok (.dup, 1)) (hv : v.category = 1) (kk : WX p l e R s m args below meth c cells slots Q D F nL ws (pc + 1) lv (v :: v :: st)) : WX p l e R s m args below meth c cells slots Q D F nL ws pc lv (v :: st) :=
  fun H locs hP hD hS ls hl => lv_dup C.1.1 C.1.2.1 hdg hv (kk H locs hP hD hS ls hl)
theorem wx_pop {v : Value} (C : CxX p s m args meth c cc own nL D cA F) (hdg : decode cc pc = .ok (.pop, 1)) (hv : v.category = 1) (kk : WX p l e R s m args below meth c cells slots Q D F nL ws (pc + 1) lv st) : WX p l e R s m args below meth c cells slots Q D F nL ws pc lv (v :: st) :=
  fun H locs hP hD hS ls hl => lv_pop C.1.1 C.1.2.1 hdg hv (kk H locs hP hD hS ls hl)
theorem wx_istore_n {lv1 : List (Nat × Value)} {kf : Fin 4} {x : Int32} (C : CxX p s m args meth c cc own nL D cA F) (hdg : decode cc pc = .ok (.istore_n kf, 1)) (hn : (kf : Nat) < nL) (hv : ((kf : Nat), Value.int x) :: lv.filter (fun q => !(q.1 == (kf : Nat)) && !(q.1 + 1 == (kf : Nat) && q.2.category == 2)) = lv1) (kk : WX p l e R s m args below meth c cells slots Q D F nL ws (pc + 1) lv1 st) : WX p l e R s m args below meth c cells slots Q D F nL ws pc lv (.int x :: st) :=
  fun H locs hP hD hS ls hl => lv_istore_n C.1.1 C.1.2.1 hdg rfl hl hn hv (fun ls1 hl1 => kk H locs hP hD hS ls1 hl1)
theorem wx_iinc {lv1 : List (Nat × Value)} {i : Nat} {n : Int} {x v : Int32} (k : Nat) (C : CxX p s m args meth c cc own nL D cA F) (hdg : decode cc pc = .ok (.iinc i n, 3)) (hk : lv[k]? = some (i, .int x)) (hv : x + Int32.ofInt n = v) (hn : i < nL) (hl1 : (i, Value.int v) :: lv.filter (fun q => !(q.1 == i) && !(q.1 + 1 == i && q.2.category == 2)) = lv1) (kk : WX p l e R s m args below meth c cells slots Q D F nL ws (pc + 3) lv1 st) : WX p l e R s m args below meth c cells slots Q D F nL ws pc lv st :=
  fun H locs hP hD hS ls hl => lv_iinc C.1.1 C.1.2.1 hdg hl hk hv hn hl1 (fun ls1 hl2 => kk H locs hP hD hS ls1 hl2)
theorem wx_goto {off : Int} {tgt : Nat} (C : CxX p s m args meth c cc own nL D cA F) (hdg : decode cc pc = .ok (.goto off, 3)) (ht : (pc : Int) + off = (tgt : Int)) (kk : WX p l e R s m args below meth c cells slots Q D F nL ws tgt lv st) : WX p l e R s m args below meth c cells slots Q D F nL ws pc lv st :=
  fun H locs hP hD hS ls hl => lv_goto C.1.1 C.1.2.1 hdg ht (kk H locs hP hD hS ls hl)
theorem wx_icmp_ge {x y : Int32} {off : Int} {tgt : Nat} (C : CxX p s m args meth c cc own nL D cA F) (hdg : decode cc pc = .ok (.if_icmp .ge off, 3)) (ht : (pc : Int) + off = (tgt : Int)) (kt : y ≤ x → WX p l e R s m args below meth c cells slots Q D F nL ws tgt lv st) (kf : ¬ y ≤ x → WX p l e R s m args below meth c cells slots Q D F nL ws (pc + 3) lv st) : WX p l e R s m args below meth c cells slots Q D F nL ws pc lv (.int y :: .int x :: st) :=
  fun H locs hP hD hS ls hl => lv_icmp_ge C.1.1 C.1.2.1 hdg ht (fun h => kt h H locs hP hD hS ls hl) (fun h => kf h H locs hP hD hS ls hl)
theorem wx_obj {idx a : Nat} (C : CxX p s m args meth c cc own nL D cA F) (hw : Cond.methodLink own idx Lib.objectInit ∈ WT) (hcat : (st.map fun v => v.category).sum ≤ 8) (hR : 1 ≤ R.frames ∧ 20 ≤ R.locals) (hdg : decode cc pc = .ok (.invokespecial idx, 3)) (kk : WX p l e R s m args below meth c cells slots Q D F nL ws (pc + 3) lv st) : WX p l e R s m args below meth c cells slots Q D F nL ws pc lv (.ref a :: st) :=
  fun H locs hP hD hS ls hl => W.objInit C.1.1 C.1.2.1 C.1.2.2.2 (C.2.1 _ hw) (C.2.1 _ wt_obj_i) (C.2.1 _ wt_obj_c) rfl (by rw [C.1.2.2.1]; exact hl.1) rfl hdg hR.1 (by have := lv_room (m := m) (pc := pc) (ls := ls) (rest := .ref a :: st) hcat; omega) (kk H locs hP hD hS ls hl)
theorem wx_putF {i ci k N idx a : Nat} {CN : String} {T : u_T} {ty0 : Nat → FieldType} {ty : FieldType} {fs : List Value} {v : Value} {ws' : va_W} (C : CxX p s m args meth c cc own nL D cA F) (he : ws[i]? = some (a, .inr (ci, fs))) (hcl : vwCl[ci]? = some (CN, T, N)) (hk : k < N) (hw : Cond.fieldLink own idx (T k).1 (T k).2.1 (T k).2.2.1 ∈ WT) (hu : ∀ w ∈ u_ws CN T N, w ∈ WT) (hty : ∀ k, k < N → parseFieldDescriptor (T k).2.2.1 = some (ty0 k)) (hnm : ∀ a, a < N → ∀ b, b < N → a ≠ b → (T a).2.1 ≠ (T b).2.1) (hfin : (T k).2.2.2 = true) (hdecl : (T k).1 = own) (hd : ty0 k = ty) (hn : narrow ty v = v) (hfit : fits ty v = true) (hlen : k < fs.length) (hset : ws.set i (a, .inr (ci, fs.set k v)) = ws') (hdg : decode cc pc = .ok (.putfield idx, 3)) (kk : WX p l e R s m args below meth c cells slots Q D F nL ws' (pc + 3) lv st) : WX p l e R s m args below meth c cells slots Q D F nL ws pc lv (v :: .ref a :: st) := by
  subst hset
  intro H locs hP hD hS ls hl
  exact va_putF (D := D) (ref := (T k).1) C.1.1 C.1.2.1 C.2.1 hu ty0 hty hnm C.1.2.2.2 C.2.2.2.1 hP hD hS i he hcl k hk (C.2.1 _ hw) (fun _ h => h) hfin C.2.2.2.2.2.1 hdecl (by rw [hty k hk, hd]) hn hfit hlen hdg (fun H1 locs1 hP1 hD1 hS1 => kk H1 locs1 hP1 hD1 hS1 ls hl)
theorem wx_put {i ci k N idx a : Nat} {CN : String} {T : u_T} {ty0 : Nat → FieldType} {ty : FieldType} {fs : List Value} {v : Value} {ws' : va_W} (C : CxX p s m args meth c cc own nL D cA F) (he : ws[i]? = some (a, .inr (ci, fs))) (hcl : vwCl[ci]? = some (CN, T, N)) (hk : k < N) (hw : Cond.fieldLink own idx (T k).1 (T k).2.1 (T k).2.2.1 ∈ WT) (hu : ∀ w ∈ u_ws CN T N, w ∈ WT) (hty : ∀ k, k < N → parseFieldDescriptor (T k).2.2.1 = some (ty0 k)) (hnm : ∀ a, a < N → ∀ b, b < N → a ≠ b → (T a).2.1 ≠ (T b).2.1) (hfin : (T k).2.2.2 = false) (hd : ty0 k = ty) (hn : narrow ty v = v) (hfit : fits ty v = true) (hlen : k < fs.length) (hset : ws.set i (a, .inr (ci, fs.set k v)) = ws') (hdg : decode cc pc = .ok (.putfield idx, 3)) (kk : WX p l e R s m args below meth c cells slots Q D F nL ws' (pc + 3) lv st) : WX p l e R s m args below meth c cells slots Q D F nL ws pc lv (v :: .ref a :: st) := by
  subst hset
  intro H locs hP hD hS ls hl
  exact va_put (D := D) (ref := (T k).1) C.1.1 C.1.2.1 C.2.1 hu ty0 hty hnm C.1.2.2.2 C.2.2.2.1 hP hD hS i he hcl k hk (C.2.1 _ hw) (fun _ h => h) hfin (by rw [hty k hk, hd]) hn hfit hlen hdg (fun H1 locs1 hP1 hD1 hS1 => kk H1 locs1 hP1 hD1 hS1 ls hl)
theorem wx_get {i ci k N idx a : Nat} {CN : String} {T : u_T} {fs : List Value} {v : Value} (C : CxX p s m args meth c cc own nL D cA F) (he : ws[i]? = some (a, .inr (ci, fs))) (hcl : vwCl[ci]? = some (CN, T, N)) (hk : k < N) (hw : Cond.fieldLink own idx (T k).1 (T k).2.1 (T k).2.2.1 ∈ WT) (hu : ∀ w ∈ u_ws CN T N, w ∈ WT) (hv : fs[k]? = some v) (hdg : decode cc pc = .ok (.getfield idx, 3)) (kk : WX p l e R s m args below meth c cells slots Q D F nL ws (pc + 3) lv (v :: st)) : WX p l e R s m args below meth c cells slots Q D F nL ws pc lv (.ref a :: st) :=
  fun H locs hP hD hS ls hl => va_get (D := D) (ref := (T k).1) C.1.1 C.1.2.1 C.2.1 hu C.1.2.2.2 C.2.2.2.1 hP i he hcl k hk (C.2.1 _ hw) (fun _ h => h) hv hdg (kk H locs hP hD hS ls hl)
theorem wx_newI {n : Int32} {N : Nat} (C : CxX p s m args meth c cc own nL D cA F) (hn : ¬ n < 0) (hN : n.toNatClampNeg = N) (hb : N * 4 ≤ 536870912) (hcells : cells + 1 ≤ R.cells) (hslots : slots + N ≤ R.slots) (hdg : decode cc pc = .ok (.newarray .int, 2)) (kk : ∀ q : Nat, WX p l e R s m args below meth c (cells + 1) (slots + N) Q D F nL (ws ++ [(q, .inl (cA 0, N, .inl (fun _ => 0)))]) (pc + 2) lv (.ref q :: st)) : WX p l e R s m args below meth c cells slots Q D F nL ws pc lv (.int n :: st) := by
  intro H locs hP hD hS ls hl
  refine va_newa (D := D) (atype := .int) (ty := .int) (a0 := (N, .inl (fun _ => 0))) C.1.1 C.1.2.1 (C.2.1 _ wt_acI) rfl C.2.2.2.1 hP hD hS C.2.2.2.2.1 (fun _ => rfl) hn hN hb hcells hslots hdg (fun q c1 H1 hK1 hP1 hD1 hS1 => ?_)
  have e : c1 = cA 0 := Option.some.inj (((hK1.2 5 (c1, .int) rfl).2).symm.trans ((C.2.2.2.1.2 0 (cA 0, .int) rfl).2))
  subst e
  exact kk q H1 locs hP1 hD1 hS1 ls hl
theorem wx_newZ {n : Int32} {N : Nat} (C : CxX p s m args meth c cc own nL D cA F) (hn : ¬ n < 0) (hN : n.toNatClampNeg = N) (hb : N * 1 ≤ 536870912) (hcells : cells + 1 ≤ R.cells) (hslots : slots + N ≤ R.slots) (hdg : decode cc pc = .ok (.newarray .boolean, 2)) (kk : ∀ q : Nat, WX p l e R s m args below meth c (cells + 1) (slots + N) Q D F nL (ws ++ [(q, .inl (cA 1, N, .inl (fun _ => 0)))]) (pc + 2) lv (.ref q :: st)) : WX p l e R s m args below meth c cells slots Q D F nL ws pc lv (.int n :: st) := by
  intro H locs hP hD hS ls hl
  refine va_newa (D := D) (atype := .boolean) (ty := .boolean) (a0 := (N, .inl (fun _ => 0))) C.1.1 C.1.2.1 (C.2.1 _ wt_acZ) rfl C.2.2.2.1 hP hD hS C.2.2.2.2.1 (fun _ => rfl) hn hN hb hcells hslots hdg (fun q c1 H1 hK1 hP1 hD1 hS1 => ?_)
  have e : c1 = cA 1 := Option.some.inj (((hK1.2 5 (c1, .boolean) rfl).2).symm.trans ((C.2.2.2.1.2 1 (cA 1, .boolean) rfl).2))
  subst e
  exact kk q H1 locs hP1 hD1 hS1 ls hl
theorem wx_newq {n : Int32} {N k idx : Nat} {CN : String} (C : CxX p s m args meth c cc own nL D cA F) (hk : (tyL cA)[k]? = some (cA k, .object CN)) (hcl : Cond.classLink own idx CN ∈ WT) (hao : va_AO CN s) (hn : ¬ n < 0) (hN : n.toNatClampNeg = N) (hb : N * 4 ≤ 536870912) (hcells : cells + 1 ≤ R.cells) (hslots : slots + N ≤ R.slots) (hdg : decode cc pc = .ok (.anewarray idx, 3)) (kk : ∀ q : Nat, WX p l e R s m args below meth c (cells + 1) (slots + N) Q D F nL (ws ++ [(q, .inl (cA k, N, .inr (.inr (.inr (.inr (fun _ => none))))))]) (pc + 3) lv (.ref q :: st)) : WX p l e R s m args below meth c cells slots Q D F nL ws pc lv (.int n :: st) := by
  intro H locs hP hD hS ls hl
  refine va_newq (D := D) C.1.1 C.1.2.1 C.1.2.2.2 (C.2.1 _ hcl) hao C.2.2.2.1 hP hD hS C.2.2.2.2.1 hn hN hb hcells hslots hdg (fun q c1 H1 hK1 hP1 hD1 hS1 => ?_)
  obtain ⟨k1, m1, a1, a2, a3, a4⟩ := (hK1.2 5 (c1, .object CN) rfl).2
  obtain ⟨k2, m2, b1, b2, b3, b4⟩ := (C.2.2.2.1.2 k (cA k, .object CN) hk).2
  have e : c1 = cA k := Option.some.inj (a4.symm.trans b4)
  subst e
  exact kk q H1 locs hP1 hD1 hS1 ls hl
theorem wx_new {ci N idx : Nat} {CN : String} {T : u_T} {ty0 : Nat → FieldType} {fs : List Value} (C : CxX p s m args meth c cc own nL D cA F) (hcl : vwCl[ci]? = some (CN, T, N)) (hu : ∀ w ∈ u_ws CN T N, w ∈ WT) (hty : ∀ k, k < N → parseFieldDescriptor (T k).2.2.1 = some (ty0 k)) (hw : Cond.classLink own idx CN ∈ WT) (hi : Cond.instantiable CN N ∈ WT) (hin : Cond.initialized CN ∈ WT) (hfs : ∀ j, j < N → defaultValue (ty0 j) = vp_V fs j) (hcells : cells + 1 ≤ R.cells) (hslots : slots + N ≤ R.slots) (hdg : decode cc pc = .ok (.new idx, 3)) (kk : ∀ q : Nat, WX p l e R s m args below meth c (cells + 1) (slots + N) Q D F nL (ws ++ [(q, .inr (ci, fs))]) (pc + 3) lv (.ref q :: st)) : WX p l e R s m args below meth c cells slots Q D F nL ws pc lv st :=
  fun H locs hP hD hS ls hl => va_new (D := D) C.1.1 C.1.2.1 C.2.1 hu ty0 hty C.1.2.2.2 (C.2.1 _ hw) (C.2.1 _ hi) (C.2.1 _ hin) C.2.2.2.1 hP hD hS C.2.2.2.2.1 hcl hfs hcells hslots hdg (fun q H1 hP1 hD1 hS1 => kk q H1 locs hP1 hD1 hS1 ls hl)
theorem wx_iast {i n a : Nat} {j x : Int32} {f : Nat → Int32} {ws' : va_W} (C : CxX p s m args meth c cc own nL D cA F) (he : ws[i]? = some (a, .inl (cA 0, n, .inl f))) (hin : inb j n = true) (hset : ws.set i (a, .inl (cA 0, n, .inl (upd f j.toNatClampNeg x))) = ws') (hdg : decode cc pc = .ok (.iastore, 1)) (kk : WX p l e R s m args below meth c cells slots Q D F nL ws' (pc + 1) lv st) : WX p l e R s m args below meth c cells slots Q D F nL ws pc lv (.int x :: .int j :: .ref a :: st) := by
  subst hset
  exact fun H locs hP hD hS ls hl => va_iast (D := D) C.1.1 C.1.2.1 C.2.2.2.1 hP hD hS i 0 he rfl (inb_vp hin) hdg (fun H1 locs1 hP1 hD1 hS1 => kk H1 locs1 hP1 hD1 hS1 ls hl)
theorem wx_aast {i k n a b qk ci : Nat} {r : vw_C} {vs : List Value} {j : Int32} {f : Nat → Option Nat} {ws' : va_W} (C : CxX p s m args meth c cc own nL D cA F) (he : ws[i]? = some (a, .inl (cA k, n, .inr (.inr (.inr (.inr f)))))) (hk : (tyL cA)[k]? = some (cA k, .object r.1)) (hv : ws[qk]? = some (b, .inr (ci, vs))) (hcl : vwCl[ci]? = some r) (hin : inb j n = true) (hset : ws.set i (a, .inl (cA k, n, .inr (.inr (.inr (.inr (va_up f j.toNatClampNeg (some b))))))) = ws') (hdg : decode cc pc = .ok (.aastore, 1)) (kk : WX p l e R s m args below meth c cells slots Q D F nL ws' (pc + 1) lv st) : WX p l e R s m args below meth c cells slots Q D F nL ws pc lv (.ref b :: .int j :: .ref a :: st) := by
  subst hset
  exact fun H locs hP hD hS ls hl => va_astq (D := D) C.1.1 C.1.2.1 C.2.2.2.1 hP hD hS i k qk ci he hk hv hcl (inb_vp hin) hdg (fun H1 locs1 hP1 hD1 hS1 => kk H1 locs1 hP1 hD1 hS1 ls hl)
theorem wx_aald {i k n a : Nat} {CN : String} {j : Int32} {f : Nat → Option Nat} {v : Value} (C : CxX p s m args meth c cc own nL D cA F) (he : ws[i]? = some (a, .inl (cA k, n, .inr (.inr (.inr (.inr f)))))) (hk : (tyL cA)[k]? = some (cA k, .object CN)) (hin : inb j n = true) (hv : va_rf (f j.toNatClampNeg) = v) (hdg : decode cc pc = .ok (.aaload, 1)) (kk : WX p l e R s m args below meth c cells slots Q D F nL ws (pc + 1) lv (v :: st)) : WX p l e R s m args below meth c cells slots Q D F nL ws pc lv (.int j :: .ref a :: st) := by
  subst hv
  exact fun H locs hP hD hS ls hl => va_aldq (D := D) C.1.1 C.1.2.1 C.2.2.2.1 hP i k he hk (inb_vp hin) hdg (kk H locs hP hD hS ls hl)
theorem wx_vret {g : (Nat → Nat) → va_W} {u : Nat → Nat} {Cw : va_W} {sz mc ms : Nat} (C : CxX p s m args meth c cc own nL D cA (va_A Cw sz)) (hrt : meth.sig.returnType = none) (hg : g u = ws) (hdg : decode cc pc = .ok (.return_, 1)) : WX p l e R s m args below meth c mc ms (MQ below (QX D g Cw sz) args s mc ms (va_A Cw sz)) D (va_A Cw sz) nL ws pc lv [] := by
  subst hg
  exact fun H locs hP hD hS ls hl => W.vret C.1.1 C.1.2.1 hrt (fun t ht hW => ⟨⟨u, rfl, trivial, by rw [ht]; exact hP, hD⟩, hS.F ht⟩) hS.2.2 hdg C.2.2.1
/-- what the tables say of a constructor -/
def MII (y : MethodName) (cb : ByteArray) (nM n : Nat) : Prop := Cond.code y cb nM none ∈ WT ∧ Cond.instanceMethod y ∈ WT ∧ Cond.initialized y.cls ∈ WT ∧ (y.cls ≠ "java/lang/invoke/MethodHandle" ∧ y.cls ≠ "java/lang/invoke/VarHandle") ∧ (parseMethodDescriptor y.desc).map (fun d => d.parameters.length) = some n ∧ y.name = "<init>"
theorem wx_init {y : MethodName} {cb : ByteArray} {nM h mc ms idx n b : Nat} {As stk : List Value} {Cw Rw : va_W} {g : (Nat → Nat) → va_W} (C : CxX p s m args meth c cc own nL D cA F) (hM : CtX l D cA y cb nM h mc ms (.ref b :: As) Cw g) (hmi : MII y cb nM n) (hml : Cond.methodLink own idx y ∈ WT) (hn : As.length = n) (hst : stk = As.reverse ++ .ref b :: st) (hR : h + 1 ≤ R.frames ∧ 8 + (nM + 11) + 64 * h ≤ R.locals) (hcs : cells + mc ≤ R.cells ∧ slots + ms ≤ R.slots) (hcat : (st.map fun v => v.category).sum ≤ 8) (hdg : decode cc pc = .ok (.invokespecial idx, 3)) (kk : ∀ u : Nat → Nat, WX p l e R s m args below meth c (cells + mc) (slots + ms) Q D F nL (g u ++ Rw) (pc + 3) lv st) : WX p l e R s m args below meth c cells slots Q D F nL (Cw ++ Rw) pc lv stk := by
  subst hst
  intro H locs hP hD hS ls hl
  have hF := free_F hD hS C.2.2.2.2.1
  have hPc : va_P D vwCl Cw H := P_mem.mpr (fun q hq => P_mem.mp hP q (List.mem_append_left _ hq))
  have hDc : va_D (fun _ => True) Cw := D_mem.mpr ⟨by have := (D_mem.mp hD).1; rw [List.map_append, List.pairwise_append] at this; exact this.1, fun _ _ => trivial⟩
  refine va_callv (va_runI (As := As) (rest := st) (nL := nL) ⟨C.1.1, C.1.2.1, C.1.2.2.1, C.1.2.2.2, C.2.1⟩ (hM H.size) ⟨callB_of n C.2.1 (ws_in hmi.1) rfl rfl rfl (C.2.1 _ hmi.2.2.1) (C.2.1 _ hml) ⟨hmi.2.2.2.1.1, hmi.2.2.2.1.2, hmi.2.2.2.2.1⟩ hR, hmi.2.2.2.2.2, C.2.1 _ hmi.2.1⟩ ⟨preX_blind, fun U hU hW => ⟨rfl, by rw [hU], by rw [hU]; exact hPc, va_K.moved hW.alike C.2.2.2.1, hDc, EX.moved hW.alike C.2.2.2.2.2.2⟩⟩ rfl hn hl.1 rfl (lv_room hcat) hdg hcs) hS (fun q _ hq => hF q hq) hF (fun u t H1 locs1 ht hvm hw hB hz hk hS1 => ?_)
  rw [ht] at hB
  obtain ⟨a1, a2⟩ := wx_frame hP hD hk hB.1 hB.2 hF
  exact kk u H1 locs1 a1 a2 hS1 ls hl
theorem wx_initN {y : MethodName} {cb : ByteArray} {nM h mc ms idx n b : Nat} {host : String} {As stk : List Value} {Cw Rw : va_W} {g : (Nat → Nat) → va_W} (C : CxX p s m args meth c cc own nL D cA F) (hM : CtX l D cA y cb nM h mc ms (.ref b :: As) Cw g) (hmi : MII y cb nM n) (hml : va_Nw (.methodLinkNest own idx y host) s) (hn : As.length = n) (hst : stk = As.reverse ++ .ref b :: st) (hR : h + 1 ≤ R.frames ∧ 8 + (nM + 11) + 64 * h ≤ R.locals) (hcs : cells + mc ≤ R.cells ∧ slots + ms ≤ R.slots) (hcat : (st.map fun v => v.category).sum ≤ 8) (hdg : decode cc pc = .ok (.invokespecial idx, 3)) (kk : ∀ u : Nat → Nat, WX p l e R s m args below meth c (cells + mc) (slots + ms) Q D F nL (g u ++ Rw) (pc + 3) lv st) : WX p l e R s m args below meth c cells slots Q D F nL (Cw ++ Rw) pc lv stk := by
  subst hst
  intro H locs hP hD hS ls hl
  have hF := free_F hD hS C.2.2.2.2.1
  have hPc : va_P D vwCl Cw H := P_mem.mpr (fun q hq => P_mem.mp hP q (List.mem_append_left _ hq))
  have hDc : va_D (fun _ => True) Cw := D_mem.mpr ⟨by have := (D_mem.mp hD).1; rw [List.map_append, List.pairwise_append] at this; exact this.1, fun _ _ => trivial⟩
  refine va_callv (va_runIN (As := As) (rest := st) (nL := nL) ⟨C.1.1, C.1.2.1, C.1.2.2.1, C.1.2.2.2, C.2.1⟩ (hM H.size) ⟨va_cnB n C.2.1 (ws_in hmi.1) rfl rfl rfl hml (C.2.1 _ hmi.2.2.1) ⟨hmi.2.2.2.1.1, hmi.2.2.2.1.2, hmi.2.2.2.2.1⟩ hR, hmi.2.2.2.2.2, C.2.1 _ hmi.2.1⟩ ⟨preX_blind, fun U hU hW => ⟨rfl, by rw [hU], by rw [hU]; exact hPc, va_K.moved hW.alike C.2.2.2.1, hDc, EX.moved hW.alike C.2.2.2.2.2.2⟩⟩ rfl hn hl.1 rfl (lv_room hcat) hdg hcs) hS (fun q _ hq => hF q hq) hF (fun u t H1 locs1 ht hvm hw hB hz hk hS1 => ?_)
  rw [ht] at hB
  obtain ⟨a1, a2⟩ := wx_frame hP hD hk hB.1 hB.2 hF
  exact kk u H1 locs1 a1 a2 hS1 ls hl
end WXR
