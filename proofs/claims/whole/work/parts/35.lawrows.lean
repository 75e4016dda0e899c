/-! THE LAW: its rows, over worlds as lists -/
def CL (p : Program) (s : State) (m : MethodId) (args : Array Value) (meth : Method) (c : Code) (cc : ByteArray) (own : String) (nL : Nat) (D : va_G) (cA : Nat → ClassId) (F : Nat → Prop) : Prop :=
  (p.tables.exec = Jvm.exec ∧ c.code = cc ∧ c.maxLocals = nL ∧ s.vm.findClass own = some m.cls) ∧ (∀ w ∈ WT, w.before args s = true) ∧ meth.locks = false ∧ va_K D vwCl (tyL cA) s ∧ (∀ q, s.heap.size ≤ q → F q) ∧ True ∧ EX cA s
section WYR
variable {p : Program} {l : Launch} {e : Env} {R : Room} {s : State} {m : MethodId} {args : Array Value} {below : List Frame} {meth : Method} {c : Code} {cells slots : Nat} {Q : State → Prop}
variable {cc : ByteArray} {own : String} {nL : Nat} {D : va_G} {cA : Nat → ClassId} {F : Nat → Prop} {ws : va_W} {pc : Nat} {lv : List (Nat × Value)} {st : List Value} {A : Nat → Nat} {Pl : List Nat} {M : Mem} {Rw : va_W}
theorem wy_aload_n (k : Nat) {kf : Fin 4} {x : Nat} (C : CL p s m args meth c cc own nL D cA F) (hdg : decode cc pc = .ok (.aload_n kf, 1)) (hk : lv[k]? = some ((kf : Nat), .ref x)) (kk : WX p l e R s m args below meth c cells slots Q D F nL ws (pc + 1) lv (.ref x :: st)) : WX p l e R s m args below meth c cells slots Q D F nL ws pc lv st :=
  fun H locs hP hD hS ls hl => lv_aload_n C.1.1 C.1.2.1 hdg rfl (lv_at hl k hk) (kk H locs hP hD hS ls hl)
theorem wy_iload_n (k : Nat) {kf : Fin 4} {x : Int32} (C : CL p s m args meth c cc own nL D cA F) (hdg : decode cc pc = .ok (.iload_n kf, 1)) (hk : lv[k]? = some ((kf : Nat), .int x)) (kk : WX p l e R s m args below meth c cells slots Q D F nL ws (pc + 1) lv (.int x :: st)) : WX p l e R s m args below meth c cells slots Q D F nL ws pc lv st :=
  fun H locs hP hD hS ls hl => lv_iload_n C.1.1 C.1.2.1 hdg rfl (lv_at hl k hk) (kk H locs hP hD hS ls hl)
theorem wy_iconst {n : Int} {v : Int32} (C : CL p s m args meth c cc own nL D cA F) (hdg : decode cc pc = .ok (.iconst n, 1)) (hv : Int32.ofInt n = v) (kk : WX p l e R s m args below meth c cells slots Q D F nL ws (pc + 1) lv (.int v :: st)) : WX p l e R s m args below meth c cells slots Q D F nL ws pc lv st :=
  fun H locs hP hD hS ls hl => lv_iconst C.1.1 C.1.2.1 hdg hv (kk H locs hP hD hS ls hl)
theorem wy_bipush {n : Int} {v : Int32} (C : CL p s m args meth c cc own nL D cA F) (hdg : decode cc pc = .ok (.bipush n, 2)) (hv : (Int8.ofInt n).toInt32 = v) (kk : WX p l e R s m args below meth c cells slots Q D F nL ws (pc + 2) lv (.int v :: st)) : WX p l e R s m args below meth c cells slots Q D F nL ws pc lv st :=
  fun H locs hP hD hS ls hl => lv_bipush C.1.1 C.1.2.1 hdg hv (kk H locs hP hD hS ls hl)
theorem wy_dup {v : Value} (C : CL p s m args meth c cc own nL D cA F) (hdg : decode cc pc = .ok (.dup, 1)) (hv : v.category = 1) (kk : WX p l e R s m args below meth c cells slots Q D F nL ws (pc + 1) lv (v :: v :: st)) : WX p l e R s m args below meth c cells slots Q D F nL ws pc lv (v :: st) :=
  fun H locs hP hD hS ls hl => lv_dup C.1.1 C.1.2.1 hdg hv (kk H locs hP hD hS ls hl)
theorem wy_istore_n {lv1 : List (Nat × Value)} {kf : Fin 4} {x : Int32} (C : CL p s m args meth c cc own nL D cA F) (hdg : decode cc pc = .ok (.istore_n kf, 1)) (hn : (kf : Nat) < nL) (hv : ((kf : Nat), Value.int x) :: lv.filter (fun q => !(q.1 == (kf : Nat)) && !(q.1 + 1 == (kf : Nat) && q.2.category == 2)) = lv1) (kk : WX p l e R s m args below meth c cells slots Q D F nL ws (pc + 1) lv1 st) : WX p l e R s m args below meth c cells slots Q D F nL ws pc lv (.int x :: st) :=
  fun H locs hP hD hS ls hl => lv_istore_n C.1.1 C.1.2.1 hdg rfl hl hn hv (fun ls1 hl1 => kk H locs hP hD hS ls1 hl1)
theorem wy_iinc {lv1 : List (Nat × Value)} {i : Nat} {n : Int} {x v : Int32} (k : Nat) (C : CL p s m args meth c cc own nL D cA F) (hdg : decode cc pc = .ok (.iinc i n, 3)) (hk : lv[k]? = some (i, .int x)) (hv : x + Int32.ofInt n = v) (hn : i < nL) (hl1 : (i, Value.int v) :: lv.filter (fun q => !(q.1 == i) && !(q.1 + 1 == i && q.2.category == 2)) = lv1) (kk : WX p l e R s m args below meth c cells slots Q D F nL ws (pc + 3) lv1 st) : WX p l e R s m args below meth c cells slots Q D F nL ws pc lv st :=
  fun H locs hP hD hS ls hl => lv_iinc C.1.1 C.1.2.1 hdg hl hk hv hn hl1 (fun ls1 hl2 => kk H locs hP hD hS ls1 hl2)
theorem wy_goto {off : Int} {tgt : Nat} (C : CL p s m args meth c cc own nL D cA F) (hdg : decode cc pc = .ok (.goto off, 3)) (ht : (pc : Int) + off = (tgt : Int)) (kk : WX p l e R s m args below meth c cells slots Q D F nL ws tgt lv st) : WX p l e R s m args below meth c cells slots Q D F nL ws pc lv st :=
  fun H locs hP hD hS ls hl => lv_goto C.1.1 C.1.2.1 hdg ht (kk H locs hP hD hS ls hl)
theorem wy_new {ci N idx : Nat} {CN : String} {T : u_T} {ty0 : Nat → FieldType} {fs : List Value} (C : CL p s m args meth c cc own nL D cA F) (hcl : vwCl[ci]? = some (CN, T, N)) (hu : ∀ w ∈ u_ws CN T N, w ∈ WT) (hty : ∀ k, k < N → parseFieldDescriptor (T k).2.2.1 = some (ty0 k)) (hw : Cond.classLink own idx CN ∈ WT) (hi : Cond.instantiable CN N ∈ WT) (hin : Cond.initialized CN ∈ WT) (hfs : ∀ j, j < N → defaultValue (ty0 j) = vp_V fs j) (hcells : cells + 1 ≤ R.cells) (hslots : slots + N ≤ R.slots) (hdg : decode cc pc = .ok (.new idx, 3)) (kk : ∀ q : Nat, WX p l e R s m args below meth c (cells + 1) (slots + N) Q D F nL (ws ++ [(q, .inr (ci, fs))]) (pc + 3) lv (.ref q :: st)) : WX p l e R s m args below meth c cells slots Q D F nL ws pc lv st :=
  fun H locs hP hD hS ls hl => va_new (D := D) C.1.1 C.1.2.1 C.2.1 hu ty0 hty C.1.2.2.2 (C.2.1 _ hw) (C.2.1 _ hi) (C.2.1 _ hin) C.2.2.2.1 hP hD hS C.2.2.2.2.1 hcl hfs hcells hslots hdg (fun q H1 hP1 hD1 hS1 => kk q H1 locs hP1 hD1 hS1 ls hl)
theorem wy_callEi {y : MethodName} {cb : ByteArray} {nM h idx n ci q N : Nat} {T : u_T} {rt : FieldType} {As stk : List Value} {out : Int32 × Mem} (C : CL p s m args meth c cc own nL D cA F) (hSO : SO F A s s.heap) (hM : CtI l D cA A Pl y cb nM h rt (.ref (A q) :: As) M out) (hmi : MIV y cb nM (some rt) n) (hml : Cond.methodLink own idx y ∈ WT) (hp : q ∈ Pl) (hci : kd q = ci) (hcl : vwCl[ci]? = some (y.cls, T, N)) (hn : As.length = n) (hst : stk = As.reverse ++ .ref (A q) :: st) (hR : h + 1 ≤ R.frames ∧ 8 + (nM + 11) + 64 * h ≤ R.locals) (hcs : cells ≤ R.cells ∧ slots ≤ R.slots) (hcat : (st.map fun v => v.category).sum ≤ 8) (hdg : decode cc pc = .ok (.invokevirtual idx, 3)) (kk : WX p l e R s m args below meth c cells slots Q D F nL (enc cA A out.2 Pl ++ Rw) (pc + 3) lv (.int out.1 :: st)) : WX p l e R s m args below meth c cells slots Q D F nL (enc cA A M Pl ++ Rw) pc lv stk := by
  subst hst
  intro H locs hP hD hS ls hl
  have hF := free_F hD hS C.2.2.2.2.1
  have hPc : va_P D vwCl (enc cA A M Pl) H := P_mem.mpr (fun q hq => P_mem.mp hP q (List.mem_append_left _ hq))
  have hDc : va_D F (enc cA A M Pl) := D_mem.mpr ⟨by have := (D_mem.mp hD).1; rw [List.map_append, List.pairwise_append] at this; exact this.1, fun q hq => (D_mem.mp hD).2 q (List.mem_append_left _ hq)⟩
  have hDD := dd_of hDc
  obtain ⟨i0, -, hi0⟩ := enc_get (cA := cA) (A := A) (M := M) hp
  have hc9 : ci < 9 := (List.getElem?_eq_some_iff.mp hcl).1
  rw [mc_obj hci hc9] at hi0
  have hrec := va_recv C.2.2.2.1 hPc hcl hi0
  refine va_calli (va_runV (As := As) (rest := st) (nL := nL) ⟨C.1.1, C.1.2.1, C.1.2.2.1, C.1.2.2.2, C.2.1⟩ hM ⟨callB_of n C.2.1 (ws_in hmi.1) rfl rfl rfl (C.2.1 _ hmi.2.2.2.1) (C.2.1 _ hml) ⟨hmi.2.2.2.2.1.1, hmi.2.2.2.2.1.2, hmi.2.2.2.2.2⟩ hR, C.2.1 _ hmi.2.1, C.2.1 _ hmi.2.2.1⟩ ⟨pre_blind, hrec, fun U hU hW => ⟨rfl, by rw [hU]; exact hPc, va_K.moved hW.alike C.2.2.2.1, dd_fa hDD, by rw [hU]; exact SO.narrow (SO.warm hW (hSO.kept hS.2.1)) (fa_F hDD)⟩⟩ rfl hn hl.1 rfl (lv_room hcat) hdg hcs) hS (fun q _ hq => fa_F hDD q hq) (fa_F hDD) (fun r u t H1 locs1 ht hvm hw hB hz hk hS1 => ?_)
  have hw1 : r = out.1 := hw
  subst hw1
  rw [ht] at hB
  obtain ⟨a1, a2⟩ := wx_frame (w1 := enc cA A out.2 Pl) hP hD (fun q h1 h2 => hk q h1 (fun h3 => h2 (va_A_enc h3))) hB (enc_D (F := va_A (enc cA A M Pl) H.size) ⟨hDD.1, fun p hp => va_A_enc ⟨p, hp, rfl⟩⟩) hF
  exact kk H1 locs1 a1 a2 hS1 ls hl
theorem wy_callEl {y : MethodName} {cb : ByteArray} {nM h idx n ci q N : Nat} {T : u_T} {As stk : List Value} {out : Int64 × Mem} (C : CL p s m args meth c cc own nL D cA F) (hSO : SO F A s s.heap) (hM : CtL l D cA A Pl y cb nM h (.ref (A q) :: As) M out) (hmi : MIV y cb nM (some .long) n) (hml : Cond.methodLink own idx y ∈ WT) (hp : q ∈ Pl) (hci : kd q = ci) (hcl : vwCl[ci]? = some (y.cls, T, N)) (hn : As.length = n) (hst : stk = As.reverse ++ .ref (A q) :: st) (hR : h + 1 ≤ R.frames ∧ 8 + (nM + 11) + 64 * h ≤ R.locals) (hcs : cells ≤ R.cells ∧ slots ≤ R.slots) (hcat : (st.map fun v => v.category).sum ≤ 8) (hdg : decode cc pc = .ok (.invokevirtual idx, 3)) (kk : WX p l e R s m args below meth c cells slots Q D F nL (enc cA A out.2 Pl ++ Rw) (pc + 3) lv (.long out.1 :: st)) : WX p l e R s m args below meth c cells slots Q D F nL (enc cA A M Pl ++ Rw) pc lv stk := by
  subst hst
  intro H locs hP hD hS ls hl
  have hF := free_F hD hS C.2.2.2.2.1
  have hPc : va_P D vwCl (enc cA A M Pl) H := P_mem.mpr (fun q hq => P_mem.mp hP q (List.mem_append_left _ hq))
  have hDc : va_D F (enc cA A M Pl) := D_mem.mpr ⟨by have := (D_mem.mp hD).1; rw [List.map_append, List.pairwise_append] at this; exact this.1, fun q hq => (D_mem.mp hD).2 q (List.mem_append_left _ hq)⟩
  have hDD := dd_of hDc
  obtain ⟨i0, -, hi0⟩ := enc_get (cA := cA) (A := A) (M := M) hp
  have hc9 : ci < 9 := (List.getElem?_eq_some_iff.mp hcl).1
  rw [mc_obj hci hc9] at hi0
  have hrec := va_recv C.2.2.2.1 hPc hcl hi0
  refine va_calll (va_runV (As := As) (rest := st) (nL := nL) ⟨C.1.1, C.1.2.1, C.1.2.2.1, C.1.2.2.2, C.2.1⟩ hM ⟨callB_of n C.2.1 (ws_in hmi.1) rfl rfl rfl (C.2.1 _ hmi.2.2.2.1) (C.2.1 _ hml) ⟨hmi.2.2.2.2.1.1, hmi.2.2.2.2.1.2, hmi.2.2.2.2.2⟩ hR, C.2.1 _ hmi.2.1, C.2.1 _ hmi.2.2.1⟩ ⟨pre_blind, hrec, fun U hU hW => ⟨rfl, by rw [hU]; exact hPc, va_K.moved hW.alike C.2.2.2.1, dd_fa hDD, by rw [hU]; exact SO.narrow (SO.warm hW (hSO.kept hS.2.1)) (fa_F hDD)⟩⟩ rfl hn hl.1 rfl (lv_room hcat) hdg hcs) hS (fun q _ hq => fa_F hDD q hq) (fa_F hDD) (fun r u t H1 locs1 ht hvm hw hB hz hk hS1 => ?_)
  have hw1 : r = out.1 := hw
  subst hw1
  rw [ht] at hB
  obtain ⟨a1, a2⟩ := wx_frame (w1 := enc cA A out.2 Pl) hP hD (fun q h1 h2 => hk q h1 (fun h3 => h2 (va_A_enc h3))) hB (enc_D (F := va_A (enc cA A M Pl) H.size) ⟨hDD.1, fun p hp => va_A_enc ⟨p, hp, rfl⟩⟩) hF
  exact kk H1 locs1 a1 a2 hS1 ls hl
theorem wy_initE {y : MethodName} {cb : ByteArray} {nM h mc ms idx n b : Nat} {As stk : List Value} {Cw Rw : va_W} {g : (Nat → Nat) → va_W} (C : CL p s m args meth c cc own nL D cA F) (hM : CtE l D cA A y cb nM h mc ms (.ref b :: As) Cw g) (hSO : SO F A s s.heap) (hN : NX s) (hmi : MII y cb nM n) (hml : Cond.methodLink own idx y ∈ WT) (hn : As.length = n) (hst : stk = As.reverse ++ .ref b :: st) (hR : h + 1 ≤ R.frames ∧ 8 + (nM + 11) + 64 * h ≤ R.locals) (hcs : cells + mc ≤ R.cells ∧ slots + ms ≤ R.slots) (hcat : (st.map fun v => v.category).sum ≤ 8) (hdg : decode cc pc = .ok (.invokespecial idx, 3)) (kk : ∀ u : Nat → Nat, WX p l e R s m args below meth c (cells + mc) (slots + ms) Q D F nL (g u ++ Rw) (pc + 3) lv st) : WX p l e R s m args below meth c cells slots Q D F nL (Cw ++ Rw) pc lv stk := by
  subst hst
  intro H locs hP hD hS ls hl
  have hF := free_F hD hS C.2.2.2.2.1
  have hPc : va_P D vwCl Cw H := P_mem.mpr (fun q hq => P_mem.mp hP q (List.mem_append_left _ hq))
  have hDc : va_D (fun _ => True) Cw := D_mem.mpr ⟨by have := (D_mem.mp hD).1; rw [List.map_append, List.pairwise_append] at this; exact this.1, fun _ _ => trivial⟩
  refine va_callv (va_runI (As := As) (rest := st) (nL := nL) ⟨C.1.1, C.1.2.1, C.1.2.2.1, C.1.2.2.2, C.2.1⟩ (hM H.size) ⟨callB_of n C.2.1 (ws_in hmi.1) rfl rfl rfl (C.2.1 _ hmi.2.2.1) (C.2.1 _ hml) ⟨hmi.2.2.2.1.1, hmi.2.2.2.1.2, hmi.2.2.2.2.1⟩ hR, hmi.2.2.2.2.2, C.2.1 _ hmi.2.1⟩ ⟨preE_blind, fun U hU hW => ⟨rfl, ⟨by rw [hU], by rw [hU]; exact hPc, va_K.moved hW.alike C.2.2.2.1, hDc, EX.moved hW.alike C.2.2.2.2.2.2⟩, by rw [hU]; exact SO.narrow (SO.warm hW (hSO.kept hS.2.1)) hF, NX.warm hW hN⟩⟩ rfl hn hl.1 rfl (lv_room hcat) hdg hcs) hS (fun q _ hq => hF q hq) hF (fun u t H1 locs1 ht hvm hw hB hz hk hS1 => ?_)
  rw [ht] at hB
  obtain ⟨a1, a2⟩ := wx_frame hP hD hk hB.1 hB.2 hF
  exact kk u H1 locs1 a1 a2 hS1 ls hl
theorem wy_iadd {x y : Int32} (C : CL p s m args meth c cc own nL D cA F) (hdg : decode cc pc = .ok (.iadd, 1)) (kk : WX p l e R s m args below meth c cells slots Q D F nL ws (pc + 1) lv (.int (x + y) :: st)) : WX p l e R s m args below meth c cells slots Q D F nL ws pc lv (.int y :: .int x :: st) :=
  fun H locs hP hD hS ls hl => lv_iadd C.1.1 C.1.2.1 hdg (kk H locs hP hD hS ls hl)
theorem wy_isub {x y : Int32} (C : CL p s m args meth c cc own nL D cA F) (hdg : decode cc pc = .ok (.isub, 1)) (kk : WX p l e R s m args below meth c cells slots Q D F nL ws (pc + 1) lv (.int (x - y) :: st)) : WX p l e R s m args below meth c cells slots Q D F nL ws pc lv (.int y :: .int x :: st) :=
  fun H locs hP hD hS ls hl => lv_isub C.1.1 C.1.2.1 hdg (kk H locs hP hD hS ls hl)
theorem wy_iand {x y : Int32} (C : CL p s m args meth c cc own nL D cA F) (hdg : decode cc pc = .ok (.iand, 1)) (kk : WX p l e R s m args below meth c cells slots Q D F nL ws (pc + 1) lv (.int (x &&& y) :: st)) : WX p l e R s m args below meth c cells slots Q D F nL ws pc lv (.int y :: .int x :: st) :=
  fun H locs hP hD hS ls hl => lv_iand C.1.1 C.1.2.1 hdg (kk H locs hP hD hS ls hl)
theorem wy_lcmp {x y : Int64} (C : CL p s m args meth c cc own nL D cA F) (hdg : decode cc pc = .ok (.lcmp, 1)) (kk : WX p l e R s m args below meth c cells slots Q D F nL ws (pc + 1) lv (.int (lg_cmp x y) :: st)) : WX p l e R s m args below meth c cells slots Q D F nL ws pc lv (.long y :: .long x :: st) :=
  fun H locs hP hD hS ls hl => W.lcmp C.1.1 C.1.2.1 hdg (kk H locs hP hD hS ls hl)
theorem wy_astore_n {lv1 : List (Nat × Value)} {kf : Fin 4} {x : Nat} (C : CL p s m args meth c cc own nL D cA F) (hdg : decode cc pc = .ok (.astore_n kf, 1)) (hn : (kf : Nat) < nL) (hv : ((kf : Nat), Value.ref x) :: lv.filter (fun q => !(q.1 == (kf : Nat)) && !(q.1 + 1 == (kf : Nat) && q.2.category == 2)) = lv1) (kk : WX p l e R s m args below meth c cells slots Q D F nL ws (pc + 1) lv1 st) : WX p l e R s m args below meth c cells slots Q D F nL ws pc lv (.ref x :: st) :=
  fun H locs hP hD hS ls hl => lv_astore_n C.1.1 C.1.2.1 hdg rfl hl hn hv (fun ls1 hl1 => kk H locs hP hD hS ls1 hl1)
theorem wy_icmp_gt {x y : Int32} {off : Int} {tgt : Nat} (C : CL p s m args meth c cc own nL D cA F) (hdg : decode cc pc = .ok (.if_icmp .gt off, 3)) (ht : (pc : Int) + off = (tgt : Int)) (kt : y < x → WX p l e R s m args below meth c cells slots Q D F nL ws tgt lv st) (kf : ¬ y < x → WX p l e R s m args below meth c cells slots Q D F nL ws (pc + 3) lv st) : WX p l e R s m args below meth c cells slots Q D F nL ws pc lv (.int y :: .int x :: st) :=
  fun H locs hP hD hS ls hl => lv_icmp_gt C.1.1 C.1.2.1 hdg ht (fun h => kt h H locs hP hD hS ls hl) (fun h => kf h H locs hP hD hS ls hl)
/-- two answers that are alike -/
theorem wy_same {x : Int32} {off : Int} {tgt : Nat} (C : CL p s m args meth c cc own nL D cA F) (hdg : decode cc pc = .ok (.if_icmp .eq off, 3)) (ht : (pc : Int) + off = (tgt : Int)) (kt : WX p l e R s m args below meth c cells slots Q D F nL ws tgt lv st) : WX p l e R s m args below meth c cells slots Q D F nL ws pc lv (.int x :: .int x :: st) :=
  fun H locs hP hD hS ls hl => lv_icmp_eq C.1.1 C.1.2.1 hdg ht (fun _ => kt H locs hP hD hS ls hl) (fun h => absurd rfl h)
theorem lgc_self (x : Int64) : lg_cmp x x = 0 := by
  unfold lg_cmp
  simp
theorem wy_sameL {x : Int64} {off : Int} {tgt : Nat} (C : CL p s m args meth c cc own nL D cA F) (hd0 : decode cc pc = .ok (.lcmp, 1)) (hdg : decode cc (pc + 1) = .ok (.ifCond .eq off, 3)) (ht : ((pc + 1 : Nat) : Int) + off = (tgt : Int)) (kt : WX p l e R s m args below meth c cells slots Q D F nL ws tgt lv st) : WX p l e R s m args below meth c cells slots Q D F nL ws pc lv (.long x :: .long x :: st) :=
  wy_lcmp C hd0 (fun H locs hP hD hS ls hl => lv_if_eq C.1.1 C.1.2.1 hdg ht (fun _ => kt H locs hP hD hS ls hl) (fun h => absurd (lgc_self x) h))
theorem wy_tswI {dflt lo hi : Int} {offs : Array Int} {len : Nat} {x k : Int32} {off : Int} {tgt : Nat} (C : CL p s m args meth c cc own nL D cA F) (hdg : decode cc pc = .ok (.tableswitch dflt lo hi offs, len)) (hx : x = k) (h1 : ¬ k.toInt < lo) (h2 : ¬ hi < k.toInt) (ho : offs[(k.toInt - lo).toNat]? = some off) (ht : (pc : Int) + off = (tgt : Int)) (kk : WX p l e R s m args below meth c cells slots Q D F nL ws tgt lv st) : WX p l e R s m args below meth c cells slots Q D F nL ws pc lv (.int x :: st) := by
  subst hx
  exact fun H locs hP hD hS ls hl => lv_tableIn C.1.1 C.1.2.1 hdg h1 h2 ho ht (kk H locs hP hD hS ls hl)
theorem wy_tswO {dflt lo hi : Int} {offs : Array Int} {len : Nat} {x : Int32} {tgt : Nat} (C : CL p s m args meth c cc own nL D cA F) (hdg : decode cc pc = .ok (.tableswitch dflt lo hi offs, len)) (h : x.toInt < lo ∨ hi < x.toInt) (ht : (pc : Int) + dflt = (tgt : Int)) (kk : WX p l e R s m args below meth c cells slots Q D F nL ws tgt lv st) : WX p l e R s m args below meth c cells slots Q D F nL ws pc lv (.int x :: st) :=
  fun H locs hP hD hS ls hl => lv_tableOut C.1.1 C.1.2.1 hdg h ht (kk H locs hP hD hS ls hl)
/-- the script's length, and a number of it -/
def CS (s : State) (F : Nat → Prop) (b L : Nat) (xs : Nat → Int32) : Prop := va_X b L xs s s.heap ∧ b < s.heap.size ∧ ¬ F b ∧ L ≤ 3072
theorem wy_slen {b L : Nat} {xs : Nat → Int32} (C : CL p s m args meth c cc own nL D cA F) (hX : CS s F b L xs) (hdg : decode cc pc = .ok (.arraylength, 1)) (kk : WX p l e R s m args below meth c cells slots Q D F nL ws (pc + 1) lv (.int (nI L) :: st)) : WX p l e R s m args below meth c cells slots Q D F nL ws pc lv (.ref b :: st) :=
  fun H locs hP hD hS ls hl => va_slen C.1.1 C.1.2.1 hX.1 hX.2.1 hX.2.2.1 hS hdg (kk H locs hP hD hS ls hl)
theorem wy_sld {b L i : Nat} {xs : Nat → Int32} (C : CL p s m args meth c cc own nL D cA F) (hX : CS s F b L xs) (hi : i < L) (hdg : decode cc pc = .ok (.iaload, 1)) (kk : WX p l e R s m args below meth c cells slots Q D F nL ws (pc + 1) lv (.int (xs i) :: st)) : WX p l e R s m args below meth c cells slots Q D F nL ws pc lv (.int (nI i) :: .ref b :: st) := by
  intro H locs hP hD hS ls hl
  have h4 := hX.2.2.2
  refine va_sld C.1.1 C.1.2.1 hX.1 hX.2.1 hX.2.2.1 hS (inb_vp (inb_nI hi (by omega))) hdg ?_
  rw [nI_clamp (show i < 2 ^ 31 by omega)]
  exact kk H locs hP hD hS ls hl
/-- an argument out of the script -/
theorem wy_arg {b L i x1 x2 : Nat} {xs : Nat → Int32} (k : Nat) (C : CL p s m args meth c cc own nL D cA F) (hX : CS s F b L xs) (hi : i + 6 ≤ L) (hk : k < 6) (hd : decode cc pc = .ok (.aload_n 0, 1) ∧ decode cc (pc + 1) = .ok (.iload_n 3, 1) ∧ decode cc (pc + 2) = .ok (.iconst (k : Int), 1) ∧ decode cc (pc + 3) = .ok (.iadd, 1) ∧ decode cc (pc + 4) = .ok (.iaload, 1)) (kk : WX p l e R s m args below meth c cells slots Q D F nL ws (pc + 5) [(3, .int (nI i)), (2, .ref x2), (1, .ref x1), (0, .ref b)] (.int (xs (i + k)) :: st)) : WX p l e R s m args below meth c cells slots Q D F nL ws pc [(3, .int (nI i)), (2, .ref x2), (1, .ref x1), (0, .ref b)] st := by
  refine wy_aload_n 3 C hd.1 rfl ?_
  refine wy_iload_n 0 C hd.2.1 rfl ?_
  refine wy_iconst (v := nI k) C hd.2.2.1 rfl ?_
  refine wy_iadd C hd.2.2.2.1 ?_
  rw [show nI i + nI k = nI (i + k) from nI_add i k]
  exact wy_sld C hX (by omega) hd.2.2.2.2 kk
end WYR
