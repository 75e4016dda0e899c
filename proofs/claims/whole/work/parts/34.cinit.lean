/-! THE CLASS: its constructor -/
theorem wc_70 : Cond.initialized RX1 ∈ WT := wtm 70 (by decide +kernel)
theorem wc_71 : Cond.initialized RX5 ∈ WT := wtm 71 (by decide +kernel)
theorem wc_72 : Cond.initialized RX7 ∈ WT := wtm 72 (by decide +kernel)
theorem wc_73 : Cond.initialized RX6 ∈ WT := wtm 73 (by decide +kernel)
theorem wc_78 : Cond.initialized RX0 ∈ WT := wtm 78 (by decide +kernel)
theorem wc_79 : Cond.initialized RX4 ∈ WT := wtm 79 (by decide +kernel)
theorem wc_80 : Cond.initialized RX3 ∈ WT := wtm 80 (by decide +kernel)
theorem wc_90 : Cond.methodLink RX8 1 Lib.objectInit ∈ WT := wtm 90 (by decide +kernel)
theorem wc_93 : Cond.classLink RX8 7 RX1 ∈ WT := wtm 93 (by decide +kernel)
theorem wc_94 : Cond.instantiable RX1 9 ∈ WT := wtm 94 (by decide +kernel)
theorem wc_146 : Cond.classLink RX8 23 RX7 ∈ WT := wtm 146 (by decide +kernel)
theorem wc_148 : Cond.classLink RX8 33 RX5 ∈ WT := wtm 148 (by decide +kernel)
theorem wc_149 : Cond.instantiable RX5 7 ∈ WT := wtm 149 (by decide +kernel)
theorem wc_177 : Cond.classLink RX8 40 RX6 ∈ WT := wtm 177 (by decide +kernel)
theorem wc_179 : Cond.instantiable RX7 3 ∈ WT := wtm 179 (by decide +kernel)
theorem wc_194 : Cond.instantiable RX6 3 ∈ WT := wtm 194 (by decide +kernel)
theorem wc_214 : Cond.methodLink RX8 50 yJ0_length_8abf5 ∈ WT := wtm 214 (by decide +kernel)
theorem wc_224 : Cond.methodLink RX8 56 yJ0_charAt_5068e ∈ WT := wtm 224 (by decide +kernel)
theorem wc_356 : Cond.classLink RX8 68 RX0 ∈ WT := wtm 356 (by decide +kernel)
theorem wc_357 : Cond.instantiable RX0 16 ∈ WT := wtm 357 (by decide +kernel)
theorem wc_358 : Cond.methodLink RX8 70 yX0_init ∈ WT := wtm 358 (by decide +kernel)
theorem wc_422 : Cond.classLink RX8 77 RX4 ∈ WT := wtm 422 (by decide +kernel)
theorem wc_423 : Cond.instantiable RX4 7 ∈ WT := wtm 423 (by decide +kernel)
theorem wc_424 : Cond.methodLink RX8 79 yX4_init ∈ WT := wtm 424 (by decide +kernel)
theorem wc_455 : Cond.classLink RX8 86 RX3 ∈ WT := wtm 455 (by decide +kernel)
theorem wc_456 : Cond.instantiable RX3 11 ∈ WT := wtm 456 (by decide +kernel)
theorem wc_457 : Cond.methodLink RX8 88 yX3_init ∈ WT := wtm 457 (by decide +kernel)
theorem mii_X8 : MII yX8_init cX8_init 2 0 := ⟨wtm 89 (by decide +kernel), wtm 88 (by decide +kernel), wtm 69 (by decide +kernel), by decide, by decide +kernel, rfl⟩
theorem dX8_init_g0 : decode cX8_init 0 = .ok (.aload_n 0, 1) ∧ decode cX8_init 1 = .ok (.invokespecial 1, 3) ∧ decode cX8_init 4 = .ok (.aload_n 0, 1) ∧ decode cX8_init 5 = .ok (.new 7, 3) ∧ decode cX8_init 8 = .ok (.dup, 1) ∧ decode cX8_init 9 = .ok (.invokespecial 9, 3) ∧ decode cX8_init 12 = .ok (.putfield 10, 3) ∧ decode cX8_init 15 = .ok (.aload_n 0, 1) ∧ decode cX8_init 16 = .ok (.new 7, 3) ∧ decode cX8_init 19 = .ok (.dup, 1) ∧ decode cX8_init 20 = .ok (.invokespecial 9, 3) ∧ decode cX8_init 23 = .ok (.putfield 16, 3) := by decide +kernel
theorem dX8_init_g1 : decode cX8_init 26 = .ok (.aload_n 0, 1) ∧ decode cX8_init 27 = .ok (.iconst 0, 1) ∧ decode cX8_init 28 = .ok (.putfield 19, 3) ∧ decode cX8_init 31 = .ok (.aload_n 0, 1) ∧ decode cX8_init 32 = .ok (.bipush 6, 2) ∧ decode cX8_init 34 = .ok (.anewarray 23, 3) ∧ decode cX8_init 37 = .ok (.putfield 25, 3) ∧ decode cX8_init 40 = .ok (.aload_n 0, 1) ∧ decode cX8_init 41 = .ok (.iconst 0, 1) ∧ decode cX8_init 42 = .ok (.putfield 29, 3) ∧ decode cX8_init 45 = .ok (.aload_n 0, 1) ∧ decode cX8_init 46 = .ok (.new 33, 3) := by decide +kernel
theorem dX8_init_g2 : decode cX8_init 49 = .ok (.dup, 1) ∧ decode cX8_init 50 = .ok (.invokespecial 35, 3) ∧ decode cX8_init 53 = .ok (.putfield 36, 3) ∧ decode cX8_init 56 = .ok (.aload_n 0, 1) ∧ decode cX8_init 57 = .ok (.iconst 4, 1) ∧ decode cX8_init 58 = .ok (.anewarray 40, 3) ∧ decode cX8_init 61 = .ok (.putfield 42, 3) ∧ decode cX8_init 64 = .ok (.iconst 0, 1) ∧ decode cX8_init 65 = .ok (.istore_n 1, 1) ∧ decode cX8_init 66 = .ok (.iload_n 1, 1) ∧ decode cX8_init 67 = .ok (.bipush 6, 2) ∧ decode cX8_init 69 = .ok (.if_icmp .ge 22, 3) := by decide +kernel
theorem dX8_init_g3 : decode cX8_init 72 = .ok (.aload_n 0, 1) ∧ decode cX8_init 73 = .ok (.getfield 25, 3) ∧ decode cX8_init 76 = .ok (.iload_n 1, 1) ∧ decode cX8_init 77 = .ok (.new 23, 3) ∧ decode cX8_init 80 = .ok (.dup, 1) ∧ decode cX8_init 81 = .ok (.invokespecial 46, 3) ∧ decode cX8_init 84 = .ok (.aastore, 1) ∧ decode cX8_init 85 = .ok (.iinc 1 1, 3) ∧ decode cX8_init 88 = .ok (.goto (-22), 3) ∧ decode cX8_init 91 = .ok (.iconst 0, 1) ∧ decode cX8_init 92 = .ok (.istore_n 1, 1) ∧ decode cX8_init 93 = .ok (.iload_n 1, 1) := by decide +kernel
theorem dX8_init_g4 : decode cX8_init 94 = .ok (.iconst 4, 1) ∧ decode cX8_init 95 = .ok (.if_icmp .ge 22, 3) ∧ decode cX8_init 98 = .ok (.aload_n 0, 1) ∧ decode cX8_init 99 = .ok (.getfield 42, 3) ∧ decode cX8_init 102 = .ok (.iload_n 1, 1) ∧ decode cX8_init 103 = .ok (.new 40, 3) ∧ decode cX8_init 106 = .ok (.dup, 1) ∧ decode cX8_init 107 = .ok (.invokespecial 47, 3) ∧ decode cX8_init 110 = .ok (.aastore, 1) ∧ decode cX8_init 111 = .ok (.iinc 1 1, 3) ∧ decode cX8_init 114 = .ok (.goto (-21), 3) ∧ decode cX8_init 117 = .ok (.iconst 0, 1) := by decide +kernel
theorem dX8_init_g5 : decode cX8_init 118 = .ok (.istore_n 1, 1) ∧ decode cX8_init 119 = .ok (.iload_n 1, 1) ∧ decode cX8_init 120 = .ok (.ldc 48, 2) ∧ decode cX8_init 122 = .ok (.invokevirtual 50, 3) ∧ decode cX8_init 125 = .ok (.if_icmp .ge 23, 3) ∧ decode cX8_init 128 = .ok (.aload_n 0, 1) ∧ decode cX8_init 129 = .ok (.getfield 36, 3) ∧ decode cX8_init 132 = .ok (.ldc 48, 2) ∧ decode cX8_init 134 = .ok (.iload_n 1, 1) ∧ decode cX8_init 135 = .ok (.invokevirtual 56, 3) ∧ decode cX8_init 138 = .ok (.invokevirtual 60, 3) ∧ decode cX8_init 141 = .ok (.pop, 1) := by decide +kernel
theorem dX8_init_g6 : decode cX8_init 142 = .ok (.iinc 1 1, 3) ∧ decode cX8_init 145 = .ok (.goto (-26), 3) ∧ decode cX8_init 148 = .ok (.aload_n 0, 1) ∧ decode cX8_init 149 = .ok (.getfield 36, 3) ∧ decode cX8_init 152 = .ok (.aload_n 0, 1) ∧ decode cX8_init 153 = .ok (.getfield 25, 3) ∧ decode cX8_init 156 = .ok (.iconst 0, 1) ∧ decode cX8_init 157 = .ok (.aaload, 1) ∧ decode cX8_init 158 = .ok (.invokevirtual 64, 3) ∧ decode cX8_init 161 = .ok (.pop, 1) ∧ decode cX8_init 162 = .ok (.aload_n 0, 1) ∧ decode cX8_init 163 = .ok (.iconst 1, 1) := by decide +kernel
theorem dX8_init_g7 : decode cX8_init 164 = .ok (.putfield 29, 3) ∧ decode cX8_init 167 = .ok (.aload_n 0, 1) ∧ decode cX8_init 168 = .ok (.new 68, 3) ∧ decode cX8_init 171 = .ok (.dup, 1) ∧ decode cX8_init 172 = .ok (.aload_n 0, 1) ∧ decode cX8_init 173 = .ok (.getfield 25, 3) ∧ decode cX8_init 176 = .ok (.invokespecial 70, 3) ∧ decode cX8_init 179 = .ok (.putfield 73, 3) ∧ decode cX8_init 182 = .ok (.aload_n 0, 1) ∧ decode cX8_init 183 = .ok (.new 77, 3) ∧ decode cX8_init 186 = .ok (.dup, 1) ∧ decode cX8_init 187 = .ok (.aload_n 0, 1) := by decide +kernel
theorem dX8_init_g8 : decode cX8_init 188 = .ok (.getfield 10, 3) ∧ decode cX8_init 191 = .ok (.aload_n 0, 1) ∧ decode cX8_init 192 = .ok (.getfield 73, 3) ∧ decode cX8_init 195 = .ok (.invokespecial 79, 3) ∧ decode cX8_init 198 = .ok (.putfield 82, 3) ∧ decode cX8_init 201 = .ok (.aload_n 0, 1) ∧ decode cX8_init 202 = .ok (.new 86, 3) ∧ decode cX8_init 205 = .ok (.dup, 1) ∧ decode cX8_init 206 = .ok (.aload_n 0, 1) ∧ decode cX8_init 207 = .ok (.getfield 10, 3) ∧ decode cX8_init 210 = .ok (.aload_n 0, 1) ∧ decode cX8_init 211 = .ok (.getfield 73, 3) := by decide +kernel
theorem dX8_init_g9 : decode cX8_init 214 = .ok (.invokespecial 88, 3) ∧ decode cX8_init 217 = .ok (.putfield 89, 3) ∧ decode cX8_init 220 = .ok (.return_, 1) := by decide +kernel
theorem nv_X1 : ∀ j, j < 9 → defaultValue (tyX1 j) = vp_V [.null, .null, .null, .null, .null, .null, .int 0, .int 0, .int 0] j := by
  intro j hj
  rcases (show j = 0 ∨ j = 1 ∨ j = 2 ∨ j = 3 ∨ j = 4 ∨ j = 5 ∨ j = 6 ∨ j = 7 ∨ j = 8 by omega) with rfl | rfl | rfl | rfl | rfl | rfl | rfl | rfl | rfl <;> rfl
theorem nv_X7 : ∀ j, j < 3 → defaultValue (tyX7 j) = vp_V [.null, .null, .int 0] j := by
  intro j hj
  rcases (show j = 0 ∨ j = 1 ∨ j = 2 by omega) with rfl | rfl | rfl <;> rfl
theorem nv_X6 : ∀ j, j < 3 → defaultValue (tyX6 j) = vp_V [.int 0, .int 0, .null] j := by
  intro j hj
  rcases (show j = 0 ∨ j = 1 ∨ j = 2 by omega) with rfl | rfl | rfl <;> rfl
theorem nv_X5 : ∀ j, j < 7 → defaultValue (tyX5 j) = vp_V [.null, .int 0, .int 0, .int 0, .int 0, .int 0, .int 0] j := by
  intro j hj
  rcases (show j = 0 ∨ j = 1 ∨ j = 2 ∨ j = 3 ∨ j = 4 ∨ j = 5 ∨ j = 6 by omega) with rfl | rfl | rfl | rfl | rfl | rfl | rfl <;> rfl
theorem nv_X4 : ∀ j, j < 7 → defaultValue (tyX4 j) = vp_V [.null, .null, .null, .int 0, .int 0, .int 0, .int 0] j := by
  intro j hj
  rcases (show j = 0 ∨ j = 1 ∨ j = 2 ∨ j = 3 ∨ j = 4 ∨ j = 5 ∨ j = 6 by omega) with rfl | rfl | rfl | rfl | rfl | rfl | rfl <;> rfl
theorem nv_X3 : ∀ j, j < 11 → defaultValue (tyX3 j) = vp_V [.null, .null, .null, .int 0, .int 0, .int 0, .int 0, .int 0, .int 0, .int 0, .int 0] j := by
  intro j hj
  rcases (show j = 0 ∨ j = 1 ∨ j = 2 ∨ j = 3 ∨ j = 4 ∨ j = 5 ∨ j = 6 ∨ j = 7 ∨ j = 8 ∨ j = 9 ∨ j = 10 by omega) with rfl | rfl | rfl | rfl | rfl | rfl | rfl | rfl | rfl | rfl | rfl <;> rfl
theorem nv_X0 : ∀ j, j < 16 → defaultValue (tyX0 j) = vp_V [.null, .null, .int 0, .int 0, .int 0, .null, .null, .int 0, .null, .null, .null, .null, .int 0, .int 0, .int 0, .int 0] j := by
  intro j hj
  rcases (show j = 0 ∨ j = 1 ∨ j = 2 ∨ j = 3 ∨ j = 4 ∨ j = 5 ∨ j = 6 ∨ j = 7 ∨ j = 8 ∨ j = 9 ∨ j = 10 ∨ j = 11 ∨ j = 12 ∨ j = 13 ∨ j = 14 ∨ j = 15 by omega) with rfl | rfl | rfl | rfl | rfl | rfl | rfl | rfl | rfl | rfl | rfl | rfl | rfl | rfl | rfl | rfl <;> rfl
set_option maxHeartbeats 8000000 in
set_option maxRecDepth 100000 in
theorem i8_text {p : Program} {l : Launch} {e : Env} {R : Room} {s : State} {m : MethodId} {args : Array Value} {below : List Frame} {meth : Method} {c : Code} {cells slots : Nat} {Q : State → Prop} {D : va_G} {cA : Nat → ClassId} {F : Nat → Prop} {a : Nat} {t i : Nat} {fs : List Value} {f : Nat → Option Nat} {y : Nat × va_E} {W : va_W} (hi : i < 6) (C : CxX p s m args meth c cX8_init RX8 2 D cA F) (hN : NX s) (hR : 2 ≤ R.frames ∧ 100 ≤ R.locals) (hc : cells + 3 ≤ R.cells) (hs : slots + 166 ≤ R.slots) (hfs : fs[3]? = some (.ref t)) (kk : ∀ (b : Nat) (u : Nat → Nat), WX p l e R s m args below meth c (cells + 3) (slots + 166) Q D F 2 ((a, .inr (7, fs)) :: (t, .inl (cA 2, 6, .inr (.inr (.inr (.inr (va_up f i (some b))))))) :: y :: (gX7 cA b u ++ W)) 66 [(1, .int (nI (i + 1))), (0, .ref a)] []) : WX p l e R s m args below meth c cells slots Q D F 2 ((a, .inr (7, fs)) :: (t, .inl (cA 2, 6, .inr (.inr (.inr (.inr (f)))))) :: y :: W) 66 [(1, .int (nI i)), (0, .ref a)] [] := by
  refine wx_iload_n 0 C dX8_init_g2.2.2.2.2.2.2.2.2.2.1 rfl ?_
  refine wx_bipush (v := 6) C dX8_init_g2.2.2.2.2.2.2.2.2.2.2.1 (by decide) ?_
  refine wx_icmp_ge (tgt := 91) C dX8_init_g2.2.2.2.2.2.2.2.2.2.2.2 (by decide) (fun h => absurd h (nI_ge (b := 6) hi (by omega))) (fun _ => ?_)
  refine wx_aload_n 1 C dX8_init_g3.1 rfl ?_
  refine wx_get (i := 0) (ci := 7) (k := 3) (v := .ref t) C rfl rfl (by decide) wt_X8_25 iwX8 hfs dX8_init_g3.2.1 ?_
  refine wx_iload_n 0 C dX8_init_g3.2.2.1 rfl ?_
  refine wx_new (ci := 6) (fs := [.null, .null, .int 0]) C rfl iwX7 tyX7_ok wc_146 wc_179 wc_72 nv_X7 (by omega) (by omega) dX8_init_g3.2.2.2.1 (fun b => ?_)
  refine wx_perm List.perm_append_comm ?_
  refine wx_dup C dX8_init_g3.2.2.2.2.1 rfl ?_
  refine wx_initN (Cw := [(b, .inr (6, [.null, .null, .int 0]))]) (As := []) C (c_X7_init b) mii_X7 hN.2.2.1 rfl rfl ⟨by have := hR.1; omega, by have := hR.2; omega⟩ ⟨by omega, by omega⟩ (Nat.le_of_ble_eq_true rfl) dX8_init_g3.2.2.2.2.2.1 (fun u => ?_)
  refine wx_perm (List.perm_middle.trans (List.Perm.cons _ (List.perm_middle.trans (List.Perm.cons _ List.perm_middle)))) ?_
  refine wx_aast (i := 1) (k := 2) (n := 6) (qk := 3) (ci := 6) (r := (RX7, TX7, 3)) (ws' := (a, .inr (7, fs)) :: (t, .inl (cA 2, 6, .inr (.inr (.inr (.inr (va_up f i (some b))))))) :: y :: (gX7 cA b u ++ W)) C rfl rfl rfl rfl (inb_nI hi (by omega)) (by rw [nI_clamp (show i < 2 ^ 31 by omega)]; rfl) dX8_init_g3.2.2.2.2.2.2.1 ?_
  refine wx_iinc (v := nI (i + 1)) (lv1 := [(1, .int (nI (i + 1))), (0, .ref a)]) 0 C dX8_init_g3.2.2.2.2.2.2.2.1 rfl (nIp i) (by decide) rfl ?_
  refine wx_goto (tgt := 66) C dX8_init_g3.2.2.2.2.2.2.2.2.1 (by decide) ?_
  exact kk b u
set_option maxHeartbeats 8000000 in
set_option maxRecDepth 100000 in
theorem i8_sheet {p : Program} {l : Launch} {e : Env} {R : Room} {s : State} {m : MethodId} {args : Array Value} {below : List Frame} {meth : Method} {c : Code} {cells slots : Nat} {Q : State → Prop} {D : va_G} {cA : Nat → ClassId} {F : Nat → Prop} {a : Nat} {t i : Nat} {fs : List Value} {f : Nat → Option Nat} {y : Nat × va_E} {W : va_W} (hi : i < 4) (C : CxX p s m args meth c cX8_init RX8 2 D cA F) (hN : NX s) (hR : 2 ≤ R.frames ∧ 100 ≤ R.locals) (hc : cells + 2 ≤ R.cells) (hs : slots + 43 ≤ R.slots) (hfs : fs[9]? = some (.ref t)) (kk : ∀ (b : Nat) (u : Nat → Nat), WX p l e R s m args below meth c (cells + 2) (slots + 43) Q D F 2 ((a, .inr (7, fs)) :: y :: (t, .inl (cA 3, 4, .inr (.inr (.inr (.inr (va_up f i (some b))))))) :: (gX6 cA b u ++ W)) 93 [(1, .int (nI (i + 1))), (0, .ref a)] []) : WX p l e R s m args below meth c cells slots Q D F 2 ((a, .inr (7, fs)) :: y :: (t, .inl (cA 3, 4, .inr (.inr (.inr (.inr (f)))))) :: W) 93 [(1, .int (nI i)), (0, .ref a)] [] := by
  refine wx_iload_n 0 C dX8_init_g3.2.2.2.2.2.2.2.2.2.2.2 rfl ?_
  refine wx_iconst (v := 4) C dX8_init_g4.1 (by decide) ?_
  refine wx_icmp_ge (tgt := 117) C dX8_init_g4.2.1 (by decide) (fun h => absurd h (nI_ge (b := 4) hi (by omega))) (fun _ => ?_)
  refine wx_aload_n 1 C dX8_init_g4.2.2.1 rfl ?_
  refine wx_get (i := 0) (ci := 7) (k := 9) (v := .ref t) C rfl rfl (by decide) wt_X8_42 iwX8 hfs dX8_init_g4.2.2.2.1 ?_
  refine wx_iload_n 0 C dX8_init_g4.2.2.2.2.1 rfl ?_
  refine wx_new (ci := 5) (fs := [.int 0, .int 0, .null]) C rfl iwX6 tyX6_ok wc_177 wc_194 wc_73 nv_X6 (by omega) (by omega) dX8_init_g4.2.2.2.2.2.1 (fun b => ?_)
  refine wx_perm List.perm_append_comm ?_
  refine wx_dup C dX8_init_g4.2.2.2.2.2.2.1 rfl ?_
  refine wx_initN (Cw := [(b, .inr (5, [.int 0, .int 0, .null]))]) (As := []) C (c_X6_init b) mii_X6 hN.2.2.2 rfl rfl ⟨by have := hR.1; omega, by have := hR.2; omega⟩ ⟨by omega, by omega⟩ (Nat.le_of_ble_eq_true rfl) dX8_init_g4.2.2.2.2.2.2.2.1 (fun u => ?_)
  refine wx_perm (List.perm_middle.trans (List.Perm.cons _ (List.perm_middle.trans (List.Perm.cons _ List.perm_middle)))) ?_
  refine wx_aast (i := 2) (k := 3) (n := 4) (qk := 3) (ci := 5) (r := (RX6, TX6, 3)) (ws' := (a, .inr (7, fs)) :: y :: (t, .inl (cA 3, 4, .inr (.inr (.inr (.inr (va_up f i (some b))))))) :: (gX6 cA b u ++ W)) C rfl rfl rfl rfl (inb_nI hi (by omega)) (by rw [nI_clamp (show i < 2 ^ 31 by omega)]; rfl) dX8_init_g4.2.2.2.2.2.2.2.2.1 ?_
  refine wx_iinc (v := nI (i + 1)) (lv1 := [(1, .int (nI (i + 1))), (0, .ref a)]) 0 C dX8_init_g4.2.2.2.2.2.2.2.2.2.1 rfl (nIp i) (by decide) rfl ?_
  refine wx_goto (tgt := 93) C dX8_init_g4.2.2.2.2.2.2.2.2.2.2.1 (by decide) ?_
  exact kk b u
def PlT : List Nat := [31, 32, 33, 28, 29, 30, 25, 26, 27, 22, 23, 24, 19, 20, 21, 16, 17, 18, 34, 35]
theorem PlT_in : ∀ q, 16 ≤ q → q < 36 → q ∈ PlT := fun q h1 h2 => (show ∀ q, q < 36 → 16 ≤ q → q ∈ PlT by decide +kernel) q h2 h1
theorem sl39 : slen 1012 = nI 39 ∧ slenN 1012 = 39 := by decide +kernel
set_option maxHeartbeats 8000000 in
set_option maxRecDepth 100000 in
theorem i8_feed {p : Program} {l : Launch} {e : Env} {R : Room} {s : State} {m : MethodId} {args : Array Value} {below : List Frame} {meth : Method} {c : Code} {cells slots : Nat} {Q : State → Prop} {D : va_G} {cA : Nat → ClassId} {F : Nat → Prop} {a : Nat} {A1 : Nat → Nat} {fs : List Value} {X2 : va_W} (C : CxX p s m args meth c cX8_init RX8 2 D cA F) (hSO1 : SO F A1 s s.heap) (hR : 115 ≤ R.frames ∧ 7360 ≤ R.locals) (hcs : cells ≤ R.cells ∧ slots ≤ R.slots) (h5 : fs[5]? = some (.ref (A1 34))) (kk : WX p l e R s m args below meth c cells slots Q D F 2 (enc cA A1 (MT 39) PlT ++ ((a, .inr (7, fs)) :: X2)) 148 [(1, .int (nI 39)), (0, .ref a)] []) : ∀ k n, n + k = 39 → WX p l e R s m args below meth c cells slots Q D F 2 (enc cA A1 (MT n) PlT ++ ((a, .inr (7, fs)) :: X2)) 119 [(1, .int (nI n)), (0, .ref a)] [] := by
  intro k
  induction k with
  | zero =>
    intro n hn
    have hn : n = 39 := by omega
    subst hn
    refine wx_iload_n 0 C dX8_init_g5.2.1 rfl ?_
    refine wx_ldcs (q := 1012) C hSO1 ⟨rfl, by decide⟩ dX8_init_g5.2.2.1 ?_
    refine wx_callKi (i := 12) (As := []) (r := slen 1012) (M := MCi) C hSO1 (by decide) rfl (c_J0_length (by decide) MCi) mi_J0_length wc_214 rfl rfl ⟨by have := hR.1; omega, by have := hR.2; omega⟩ hcs (Nat.le_of_ble_eq_true rfl) dX8_init_g5.2.2.2.1 ?_
    rw [sl39.1]
    exact wx_icmp_ge (tgt := 148) C dX8_init_g5.2.2.2.2.1 (by decide) (fun _ => kk) (fun h => absurd (nI_le (Nat.le_refl 39) (by omega)) h)
  | succ k ih =>
    intro n hn
    refine wx_iload_n 0 C dX8_init_g5.2.1 rfl ?_
    refine wx_ldcs (q := 1012) C hSO1 ⟨rfl, by decide⟩ dX8_init_g5.2.2.1 ?_
    refine wx_callKi (i := 12) (As := []) (r := slen 1012) (M := MCi) C hSO1 (by decide) rfl (c_J0_length (by decide) MCi) mi_J0_length wc_214 rfl rfl ⟨by have := hR.1; omega, by have := hR.2; omega⟩ hcs (Nat.le_of_ble_eq_true rfl) dX8_init_g5.2.2.2.1 ?_
    rw [sl39.1]
    refine wx_icmp_ge (tgt := 148) C dX8_init_g5.2.2.2.2.1 (by decide) (fun h => absurd h (nI_ge (by omega) (by omega))) (fun _ => ?_)
    refine wx_aload_n 1 C dX8_init_g5.2.2.2.2.2.1 rfl ?_
    refine wx_get (i := 20) (ci := 7) (k := 5) (v := .ref (A1 34)) C rfl rfl (by decide) wt_X8_36 iwX8 h5 dX8_init_g5.2.2.2.2.2.2.1 ?_
    refine wx_ldcs (q := 1012) C hSO1 ⟨rfl, by decide⟩ dX8_init_g5.2.2.2.2.2.2.2.1 ?_
    refine wx_iload_n 0 C dX8_init_g5.2.2.2.2.2.2.2.2.1 rfl ?_
    refine wx_callKi (i := 12) (As := [.int (nI n)]) (r := schar (1000 + 12) (nI n).toNatClampNeg) (M := MCi) C hSO1 (by decide) rfl (c_J0_charAt (by decide) (by rw [sl39.2]; exact inb_nI (by omega) (by omega)) MCi) mi_J0_charAt wc_224 rfl rfl ⟨by have := hR.1; omega, by have := hR.2; omega⟩ hcs (Nat.le_of_ble_eq_true rfl) dX8_init_g5.2.2.2.2.2.2.2.2.2.1 ?_
    rw [nI_clamp (show n < 2 ^ 31 by omega)]
    refine wx_callEi (q := 34) (ci := 4) (As := [.int (schar 1012 n)]) (out := (1, MT (n + 1))) C hSO1 (c_X5_append PlT_in (schar 1012 n) (MT n) _ (MT_step (by omega))) mi_X5_append wt_X8_60 (PlT_in 34 (by decide) (by decide)) rfl rfl rfl rfl ⟨by have := hR.1; omega, by have := hR.2; omega⟩ hcs (Nat.le_of_ble_eq_true rfl) dX8_init_g5.2.2.2.2.2.2.2.2.2.2.1 ?_
    refine wx_pop C dX8_init_g5.2.2.2.2.2.2.2.2.2.2.2 rfl ?_
    refine wx_iinc (v := nI (n + 1)) (lv1 := [(1, .int (nI (n + 1))), (0, .ref a)]) 0 C dX8_init_g6.1 rfl (nIp n) (by decide) rfl ?_
    refine wx_goto (tgt := 119) C dX8_init_g6.2.1 (by decide) ?_
    exact ih (n + 1) (by omega)
set_option maxHeartbeats 8000000 in
set_option maxRecDepth 100000 in
theorem i8_read {p : Program} {l : Launch} {e : Env} {R : Room} {s : State} {m : MethodId} {args : Array Value} {below : List Frame} {meth : Method} {c : Code} {cells slots : Nat} {Q : State → Prop} {D : va_G} {cA : Nat → ClassId} {F : Nat → Prop} {a : Nat} {A1 : Nat → Nat} {fs : List Value} {X3 : va_W} {t : Nat} {f : Nat → Option Nat} {M1 Mt : Mem} {x v : Int32} (C : CxX p s m args meth c cX8_init RX8 2 D cA F) (hSO1 : SO F A1 s s.heap) (hR : 115 ≤ R.frames ∧ 7360 ≤ R.locals) (hcs : cells ≤ R.cells ∧ slots ≤ R.slots) (h5 : fs[5]? = some (.ref (A1 34))) (h3 : fs[3]? = some (.ref t)) (hl : 4 < fs.length) (hf : f 0 = some (A1 16)) (ho : f_X5_readInto 16 M1 = some (x, Mt)) (kk : WX p l e R s m args below meth c cells slots Q D F 2 (enc cA A1 Mt PlT ++ ((a, .inr (7, fs.set 4 (.int 1))) :: (t, .inl (cA 2, 6, .inr (.inr (.inr (.inr (f)))))) :: X3)) 167 [(1, .int v), (0, .ref a)] []) : WX p l e R s m args below meth c cells slots Q D F 2 (enc cA A1 M1 PlT ++ ((a, .inr (7, fs)) :: (t, .inl (cA 2, 6, .inr (.inr (.inr (.inr (f)))))) :: X3)) 148 [(1, .int v), (0, .ref a)] [] := by
  refine wx_aload_n 1 C dX8_init_g6.2.2.1 rfl ?_
  refine wx_get (i := 20) (ci := 7) (k := 5) (v := .ref (A1 34)) C rfl rfl (by decide) wt_X8_36 iwX8 h5 dX8_init_g6.2.2.2.1 ?_
  refine wx_aload_n 1 C dX8_init_g6.2.2.2.2.1 rfl ?_
  refine wx_get (i := 20) (ci := 7) (k := 3) (v := .ref t) C rfl rfl (by decide) wt_X8_25 iwX8 h3 dX8_init_g6.2.2.2.2.2.1 ?_
  refine wx_iconst (v := 0) C dX8_init_g6.2.2.2.2.2.2.1 (by decide) ?_
  refine wx_aald (i := 21) (k := 2) (n := 6) (v := .ref (A1 16)) C rfl rfl (by decide) (by rw [show (0 : Int32).toNatClampNeg = 0 by decide, hf]; rfl) dX8_init_g6.2.2.2.2.2.2.2.1 ?_
  refine wx_callEi (q := 34) (ci := 4) (As := [.ref (A1 16)]) (out := (x, Mt)) C hSO1 (c_X5_readInto PlT_in 16 M1 _ ho) mi_X5_readInto wt_X8_64 (PlT_in 34 (by decide) (by decide)) rfl rfl rfl rfl ⟨by have := hR.1; omega, by have := hR.2; omega⟩ hcs (Nat.le_of_ble_eq_true rfl) dX8_init_g6.2.2.2.2.2.2.2.2.1 ?_
  refine wx_pop C dX8_init_g6.2.2.2.2.2.2.2.2.2.1 rfl ?_
  refine wx_aload_n 1 C dX8_init_g6.2.2.2.2.2.2.2.2.2.2.1 rfl ?_
  refine wx_iconst (v := 1) C dX8_init_g6.2.2.2.2.2.2.2.2.2.2.2 (by decide) ?_
  refine wx_put (i := 20) (ci := 7) (k := 4) (ws' := enc cA A1 Mt PlT ++ ((a, .inr (7, fs.set 4 (.int 1))) :: (t, .inl (cA 2, 6, .inr (.inr (.inr (.inr (f)))))) :: X3)) C rfl rfl (by decide) wt_X8_29 iwX8 tyX8_ok nmX8 rfl rfl rfl rfl hl rfl dX8_init_g7.1 ?_
  exact kk
def g0X0 (cA : Nat → ClassId) (a t t0 : Nat) (u : Nat → Nat) : va_W := (gX0 cA a t (fun _ => none) t0 u).tail
def PlC : List Nat := [0, 15, 54, 45, 46, 47, 48, 49, 50, 51, 52, 53, 43, 44, 36, 37, 38, 39, 40, 41, 42, 61, 62, 59, 60, 57, 58, 55, 56, 31, 32, 33, 28, 29, 30, 25, 26, 27, 22, 23, 24, 19, 20, 21, 16, 17, 18, 34, 35, 8, 9, 10, 11, 12, 13, 14, 1, 2, 3, 4, 5, 6, 7]
theorem PlC_in : ∀ q, 0 ≤ q → q < 63 → q ∈ PlC := fun q _ h2 => (show ∀ q, q < 63 → q ∈ PlC by decide +kernel) q h2
def MCx (Mt : Mem) : Mem := fun p => if 16 ≤ p then (if p < 36 then Mt p else MCi p) else MCi p
set_option maxHeartbeats 8000000 in
set_option maxRecDepth 100000 in
theorem c_X8_init {l : Launch} {D : va_G} {cA : Nat → ClassId} {A0 : Nat → Nat} {x : Int32} {Mt : Mem} (ho : f_X5_readInto 16 (MT 39) = some (x, Mt)) (a : Nat) : CtE l D cA A0 yX8_init cX8_init 2 115 62 1758 [.ref a] [(a, .inr (7, [.null, .null, .int 0, .null, .int 0, .null, .null, .null, .null, .null]))] (fun u => enc cA (AU A0 (uAt 0 a u)) (MCx Mt) PlC) := by
  refine ct_E (by decide) rfl (Nat.le_of_ble_eq_true rfl) (fun p e s m args below meth c C hSO hN hrt => ?_)
  refine wx_aload_n 0 C dX8_init_g0.1 rfl ?_
  refine wx_obj C wc_90 (Nat.le_of_ble_eq_true rfl) ⟨Nat.le_of_ble_eq_true rfl, Nat.le_of_ble_eq_true rfl⟩ dX8_init_g0.2.1 ?_
  refine wx_aload_n 0 C dX8_init_g0.2.2.1 rfl ?_
  refine wx_new (ci := 1) (fs := [.null, .null, .null, .null, .null, .null, .int 0, .int 0, .int 0]) C rfl iwX1 tyX1_ok wc_93 wc_94 wc_70 nv_X1 (Nat.le_of_ble_eq_true rfl) (Nat.le_of_ble_eq_true rfl) dX8_init_g0.2.2.2.1 (fun h0 => ?_)
  refine wx_perm List.perm_append_comm ?_
  refine wx_dup C dX8_init_g0.2.2.2.2.1 rfl ?_
  refine wx_initN (Cw := [(h0, .inr (1, [.null, .null, .null, .null, .null, .null, .int 0, .int 0, .int 0]))]) (As := []) C (c_X1_init h0 ) mii_X1 hN.1 rfl rfl ⟨Nat.le_of_ble_eq_true rfl, Nat.le_of_ble_eq_true rfl⟩ ⟨Nat.le_of_ble_eq_true rfl, Nat.le_of_ble_eq_true rfl⟩ (Nat.le_of_ble_eq_true rfl) dX8_init_g0.2.2.2.2.2.1 (fun uh => ?_)
  refine wx_perm (ws' := (a, .inr (7, [.null, .null, .int 0, .null, .int 0, .null, .null, .null, .null, .null])) :: (gX1 cA h0 uh ++ [])) List.perm_middle ?_
  refine wx_putF (i := 0) (ci := 7) (k := 0) (ws' := (a, .inr (7, [.ref h0, .null, .int 0, .null, .int 0, .null, .null, .null, .null, .null])) :: (gX1 cA h0 uh ++ [])) C rfl rfl (by decide) wt_X8_10 iwX8 tyX8_ok nmX8 rfl rfl rfl rfl rfl (Nat.le_of_ble_eq_true rfl) rfl dX8_init_g0.2.2.2.2.2.2.1 ?_
  refine wx_aload_n 0 C dX8_init_g0.2.2.2.2.2.2.2.1 rfl ?_
  refine wx_new (ci := 1) (fs := [.null, .null, .null, .null, .null, .null, .int 0, .int 0, .int 0]) C rfl iwX1 tyX1_ok wc_93 wc_94 wc_70 nv_X1 (Nat.le_of_ble_eq_true rfl) (Nat.le_of_ble_eq_true rfl) dX8_init_g0.2.2.2.2.2.2.2.2.1 (fun i0 => ?_)
  refine wx_perm List.perm_append_comm ?_
  refine wx_dup C dX8_init_g0.2.2.2.2.2.2.2.2.2.1 rfl ?_
  refine wx_initN (Cw := [(i0, .inr (1, [.null, .null, .null, .null, .null, .null, .int 0, .int 0, .int 0]))]) (As := []) C (c_X1_init i0 ) mii_X1 hN.1 rfl rfl ⟨Nat.le_of_ble_eq_true rfl, Nat.le_of_ble_eq_true rfl⟩ ⟨Nat.le_of_ble_eq_true rfl, Nat.le_of_ble_eq_true rfl⟩ (Nat.le_of_ble_eq_true rfl) dX8_init_g0.2.2.2.2.2.2.2.2.2.2.1 (fun ui => ?_)
  refine wx_perm (ws' := (a, .inr (7, [.ref h0, .null, .int 0, .null, .int 0, .null, .null, .null, .null, .null])) :: (gX1 cA i0 ui ++ (gX1 cA h0 uh ++ []))) List.perm_middle ?_
  refine wx_putF (i := 0) (ci := 7) (k := 1) (ws' := (a, .inr (7, [.ref h0, .ref i0, .int 0, .null, .int 0, .null, .null, .null, .null, .null])) :: (gX1 cA i0 ui ++ (gX1 cA h0 uh ++ []))) C rfl rfl (by decide) wt_X8_16 iwX8 tyX8_ok nmX8 rfl rfl rfl rfl rfl (Nat.le_of_ble_eq_true rfl) rfl dX8_init_g0.2.2.2.2.2.2.2.2.2.2.2 ?_
  refine wx_aload_n 0 C dX8_init_g1.1 rfl ?_
  refine wx_iconst (v := 0) C dX8_init_g1.2.1 (by decide) ?_
  refine wx_put (i := 0) (ci := 7) (k := 2) (ws' := (a, .inr (7, [.ref h0, .ref i0, .int 0, .null, .int 0, .null, .null, .null, .null, .null])) :: (gX1 cA i0 ui ++ (gX1 cA h0 uh ++ []))) C rfl rfl (by decide) wt_X8_19 iwX8 tyX8_ok nmX8 rfl rfl rfl rfl (Nat.le_of_ble_eq_true rfl) rfl dX8_init_g1.2.2.1 ?_
  refine wx_aload_n 0 C dX8_init_g1.2.2.2.1 rfl ?_
  refine wx_bipush (v := 6) C dX8_init_g1.2.2.2.2.1 (by decide) ?_
  refine wx_newq (k := 2) (N := 6) C rfl wc_146 C.2.2.2.2.2.2.2.1 (by decide) (by decide) (Nat.le_of_ble_eq_true rfl) (Nat.le_of_ble_eq_true rfl) (Nat.le_of_ble_eq_true rfl) dX8_init_g1.2.2.2.2.2.1 (fun t => ?_)
  refine wx_perm (ws' := (a, .inr (7, [.ref h0, .ref i0, .int 0, .null, .int 0, .null, .null, .null, .null, .null])) :: (t, .inl (cA 2, 6, .inr (.inr (.inr (.inr (fun _ => none)))))) :: (gX1 cA i0 ui ++ (gX1 cA h0 uh ++ []))) (List.Perm.cons _ List.perm_append_comm) ?_
  refine wx_putF (i := 0) (ci := 7) (k := 3) (ws' := (a, .inr (7, [.ref h0, .ref i0, .int 0, .ref t, .int 0, .null, .null, .null, .null, .null])) :: (t, .inl (cA 2, 6, .inr (.inr (.inr (.inr (fun _ => none)))))) :: (gX1 cA i0 ui ++ (gX1 cA h0 uh ++ []))) C rfl rfl (by decide) wt_X8_25 iwX8 tyX8_ok nmX8 rfl rfl rfl rfl rfl (Nat.le_of_ble_eq_true rfl) rfl dX8_init_g1.2.2.2.2.2.2.1 ?_
  refine wx_aload_n 0 C dX8_init_g1.2.2.2.2.2.2.2.1 rfl ?_
  refine wx_iconst (v := 0) C dX8_init_g1.2.2.2.2.2.2.2.2.1 (by decide) ?_
  refine wx_put (i := 0) (ci := 7) (k := 4) (ws' := (a, .inr (7, [.ref h0, .ref i0, .int 0, .ref t, .int 0, .null, .null, .null, .null, .null])) :: (t, .inl (cA 2, 6, .inr (.inr (.inr (.inr (fun _ => none)))))) :: (gX1 cA i0 ui ++ (gX1 cA h0 uh ++ []))) C rfl rfl (by decide) wt_X8_29 iwX8 tyX8_ok nmX8 rfl rfl rfl rfl (Nat.le_of_ble_eq_true rfl) rfl dX8_init_g1.2.2.2.2.2.2.2.2.2.1 ?_
  refine wx_aload_n 0 C dX8_init_g1.2.2.2.2.2.2.2.2.2.2.1 rfl ?_
  refine wx_new (ci := 4) (fs := [.null, .int 0, .int 0, .int 0, .int 0, .int 0, .int 0]) C rfl iwX5 tyX5_ok wc_148 wc_149 wc_71 nv_X5 (Nat.le_of_ble_eq_true rfl) (Nat.le_of_ble_eq_true rfl) dX8_init_g1.2.2.2.2.2.2.2.2.2.2.2 (fun r0 => ?_)
  refine wx_perm List.perm_append_comm ?_
  refine wx_dup C dX8_init_g2.1 rfl ?_
  refine wx_initN (Cw := [(r0, .inr (4, [.null, .int 0, .int 0, .int 0, .int 0, .int 0, .int 0]))]) (As := []) C (c_X5_init r0 ) mii_X5 hN.2.1 rfl rfl ⟨Nat.le_of_ble_eq_true rfl, Nat.le_of_ble_eq_true rfl⟩ ⟨Nat.le_of_ble_eq_true rfl, Nat.le_of_ble_eq_true rfl⟩ (Nat.le_of_ble_eq_true rfl) dX8_init_g2.2.1 (fun ur => ?_)
  refine wx_perm (ws' := (a, .inr (7, [.ref h0, .ref i0, .int 0, .ref t, .int 0, .null, .null, .null, .null, .null])) :: (t, .inl (cA 2, 6, .inr (.inr (.inr (.inr (fun _ => none)))))) :: (gX5 cA r0 ur ++ (gX1 cA i0 ui ++ (gX1 cA h0 uh ++ [])))) (List.perm_middle.trans (List.Perm.cons _ List.perm_middle)) ?_
  refine wx_putF (i := 0) (ci := 7) (k := 5) (ws' := (a, .inr (7, [.ref h0, .ref i0, .int 0, .ref t, .int 0, .ref r0, .null, .null, .null, .null])) :: (t, .inl (cA 2, 6, .inr (.inr (.inr (.inr (fun _ => none)))))) :: (gX5 cA r0 ur ++ (gX1 cA i0 ui ++ (gX1 cA h0 uh ++ [])))) C rfl rfl (by decide) wt_X8_36 iwX8 tyX8_ok nmX8 rfl rfl rfl rfl rfl (Nat.le_of_ble_eq_true rfl) rfl dX8_init_g2.2.2.1 ?_
  refine wx_aload_n 0 C dX8_init_g2.2.2.2.1 rfl ?_
  refine wx_iconst (v := 4) C dX8_init_g2.2.2.2.2.1 (by decide) ?_
  refine wx_newq (k := 3) (N := 4) C rfl wc_177 C.2.2.2.2.2.2.2.2 (by decide) (by decide) (Nat.le_of_ble_eq_true rfl) (Nat.le_of_ble_eq_true rfl) (Nat.le_of_ble_eq_true rfl) dX8_init_g2.2.2.2.2.2.1 (fun sr => ?_)
  refine wx_perm (ws' := (a, .inr (7, [.ref h0, .ref i0, .int 0, .ref t, .int 0, .ref r0, .null, .null, .null, .null])) :: (t, .inl (cA 2, 6, .inr (.inr (.inr (.inr (fun _ => none)))))) :: (sr, .inl (cA 3, 4, .inr (.inr (.inr (.inr (fun _ => none)))))) :: (gX5 cA r0 ur ++ (gX1 cA i0 ui ++ (gX1 cA h0 uh ++ [])))) (List.Perm.cons _ (List.Perm.cons _ List.perm_append_comm)) ?_
  refine wx_putF (i := 0) (ci := 7) (k := 9) (ws' := (a, .inr (7, [.ref h0, .ref i0, .int 0, .ref t, .int 0, .ref r0, .null, .null, .null, .ref sr])) :: (t, .inl (cA 2, 6, .inr (.inr (.inr (.inr (fun _ => none)))))) :: (sr, .inl (cA 3, 4, .inr (.inr (.inr (.inr (fun _ => none)))))) :: (gX5 cA r0 ur ++ (gX1 cA i0 ui ++ (gX1 cA h0 uh ++ [])))) C rfl rfl (by decide) wt_X8_42 iwX8 tyX8_ok nmX8 rfl rfl rfl rfl rfl (Nat.le_of_ble_eq_true rfl) rfl dX8_init_g2.2.2.2.2.2.2.1 ?_
  refine wx_iconst (v := 0) C dX8_init_g2.2.2.2.2.2.2.2.1 (by decide) ?_
  refine wx_istore_n (lv1 := [(1, .int (nI 0)), (0, .ref a)]) C dX8_init_g2.2.2.2.2.2.2.2.2.1 (by decide) rfl ?_
  refine i8_text (i := 0) (by decide) C hN ⟨Nat.le_of_ble_eq_true rfl, Nat.le_of_ble_eq_true rfl⟩ (Nat.le_of_ble_eq_true rfl) (Nat.le_of_ble_eq_true rfl) rfl (fun b0 w0 => ?_)
  refine i8_text (i := 1) (by decide) C hN ⟨Nat.le_of_ble_eq_true rfl, Nat.le_of_ble_eq_true rfl⟩ (Nat.le_of_ble_eq_true rfl) (Nat.le_of_ble_eq_true rfl) rfl (fun b1 w1 => ?_)
  refine i8_text (i := 2) (by decide) C hN ⟨Nat.le_of_ble_eq_true rfl, Nat.le_of_ble_eq_true rfl⟩ (Nat.le_of_ble_eq_true rfl) (Nat.le_of_ble_eq_true rfl) rfl (fun b2 w2 => ?_)
  refine i8_text (i := 3) (by decide) C hN ⟨Nat.le_of_ble_eq_true rfl, Nat.le_of_ble_eq_true rfl⟩ (Nat.le_of_ble_eq_true rfl) (Nat.le_of_ble_eq_true rfl) rfl (fun b3 w3 => ?_)
  refine i8_text (i := 4) (by decide) C hN ⟨Nat.le_of_ble_eq_true rfl, Nat.le_of_ble_eq_true rfl⟩ (Nat.le_of_ble_eq_true rfl) (Nat.le_of_ble_eq_true rfl) rfl (fun b4 w4 => ?_)
  refine i8_text (i := 5) (by decide) C hN ⟨Nat.le_of_ble_eq_true rfl, Nat.le_of_ble_eq_true rfl⟩ (Nat.le_of_ble_eq_true rfl) (Nat.le_of_ble_eq_true rfl) rfl (fun b5 w5 => ?_)
  refine wx_iload_n 0 C dX8_init_g2.2.2.2.2.2.2.2.2.2.1 rfl ?_
  refine wx_bipush (v := 6) C dX8_init_g2.2.2.2.2.2.2.2.2.2.2.1 (by decide) ?_
  refine wx_icmp_ge (tgt := 91) C dX8_init_g2.2.2.2.2.2.2.2.2.2.2.2 (by decide) (fun _ => ?_) (fun h => absurd (by decide) h)
  refine wx_iconst (v := 0) C dX8_init_g3.2.2.2.2.2.2.2.2.2.1 (by decide) ?_
  refine wx_istore_n (lv1 := [(1, .int (nI 0)), (0, .ref a)]) C dX8_init_g3.2.2.2.2.2.2.2.2.2.2.1 (by decide) rfl ?_
  refine i8_sheet (i := 0) (by decide) C hN ⟨Nat.le_of_ble_eq_true rfl, Nat.le_of_ble_eq_true rfl⟩ (Nat.le_of_ble_eq_true rfl) (Nat.le_of_ble_eq_true rfl) rfl (fun c0 v0 => ?_)
  refine i8_sheet (i := 1) (by decide) C hN ⟨Nat.le_of_ble_eq_true rfl, Nat.le_of_ble_eq_true rfl⟩ (Nat.le_of_ble_eq_true rfl) (Nat.le_of_ble_eq_true rfl) rfl (fun c1 v1 => ?_)
  refine i8_sheet (i := 2) (by decide) C hN ⟨Nat.le_of_ble_eq_true rfl, Nat.le_of_ble_eq_true rfl⟩ (Nat.le_of_ble_eq_true rfl) (Nat.le_of_ble_eq_true rfl) rfl (fun c2 v2 => ?_)
  refine i8_sheet (i := 3) (by decide) C hN ⟨Nat.le_of_ble_eq_true rfl, Nat.le_of_ble_eq_true rfl⟩ (Nat.le_of_ble_eq_true rfl) (Nat.le_of_ble_eq_true rfl) rfl (fun c3 v3 => ?_)
  refine wx_iload_n 0 C dX8_init_g3.2.2.2.2.2.2.2.2.2.2.2 rfl ?_
  refine wx_iconst (v := 4) C dX8_init_g4.1 (by decide) ?_
  refine wx_icmp_ge (tgt := 117) C dX8_init_g4.2.1 (by decide) (fun _ => ?_) (fun h => absurd (by decide) h)
  refine wx_iconst (v := 0) C dX8_init_g4.2.2.2.2.2.2.2.2.2.2.2 (by decide) ?_
  refine wx_istore_n (lv1 := [(1, .int (nI 0)), (0, .ref a)]) C dX8_init_g5.1 (by decide) rfl ?_
  refine wx_ws (ws' := (a, .inr (7, [.ref h0, .ref i0, .int 0, .ref t, .int 0, .ref r0, .null, .null, .null, .ref sr])) :: (t, .inl (cA 2, 6, .inr (.inr (.inr (.inr (va_up (va_up (va_up (va_up (va_up (va_up (fun _ => none) 0 (some b0)) 1 (some b1)) 2 (some b2)) 3 (some b3)) 4 (some b4)) 5 (some b5))))))) :: (sr, .inl (cA 3, 4, .inr (.inr (.inr (.inr (va_up (va_up (va_up (va_up (fun _ => none) 0 (some c0)) 1 (some c1)) 2 (some c2)) 3 (some c3))))))) :: ((gX6 cA c3 v3 ++ (gX6 cA c2 v2 ++ (gX6 cA c1 v1 ++ (gX6 cA c0 v0 ++ [])))) ++ (enc cA (AU A0 (fun p => [b0, w0 0, w0 1, b1, w1 0, w1 1, b2, w2 0, w2 1, b3, w3 0, w3 1, b4, w4 0, w4 1, b5, w5 0, w5 1, r0, ur 0].getD (p - 16) 0)) MCi PlT ++ (gX1 cA i0 ui ++ (gX1 cA h0 uh ++ []))))) rfl ?_
  refine wx_perm (ws' := enc cA (AU A0 (fun p => [b0, w0 0, w0 1, b1, w1 0, w1 1, b2, w2 0, w2 1, b3, w3 0, w3 1, b4, w4 0, w4 1, b5, w5 0, w5 1, r0, ur 0].getD (p - 16) 0)) MCi PlT ++ ((a, .inr (7, [.ref h0, .ref i0, .int 0, .ref t, .int 0, .ref r0, .null, .null, .null, .ref sr])) :: (t, .inl (cA 2, 6, .inr (.inr (.inr (.inr (va_up (va_up (va_up (va_up (va_up (va_up (fun _ => none) 0 (some b0)) 1 (some b1)) 2 (some b2)) 3 (some b3)) 4 (some b4)) 5 (some b5))))))) :: (sr, .inl (cA 3, 4, .inr (.inr (.inr (.inr (va_up (va_up (va_up (va_up (fun _ => none) 0 (some c0)) 1 (some c1)) 2 (some c2)) 3 (some c3))))))) :: ((gX6 cA c3 v3 ++ (gX6 cA c2 v2 ++ (gX6 cA c1 v1 ++ (gX6 cA c0 v0 ++ [])))) ++ (gX1 cA i0 ui ++ (gX1 cA h0 uh ++ []))))) (List.Perm.symm (List.perm_middle.trans (List.Perm.cons _ (List.perm_middle.trans (List.Perm.cons _ (List.perm_middle.trans (List.Perm.cons _ (List.perm_append_comm_assoc _ _ _)))))))) ?_
  have hSO1 : SO (va_A [(a, .inr (7, [.null, .null, .int 0, .null, .int 0, .null, .null, .null, .null, .null]))] s.heap.size) (AU A0 (fun p => [b0, w0 0, w0 1, b1, w1 0, w1 1, b2, w2 0, w2 1, b3, w3 0, w3 1, b4, w4 0, w4 1, b5, w5 0, w5 1, r0, ur 0].getD (p - 16) 0)) s s.heap := hSO.cg (fun q hq => AU_hi hq)
  obtain ⟨A1, hA1⟩ : ∃ A1 : Nat → Nat, A1 = (AU A0 (fun p => [b0, w0 0, w0 1, b1, w1 0, w1 1, b2, w2 0, w2 1, b3, w3 0, w3 1, b4, w4 0, w4 1, b5, w5 0, w5 1, r0, ur 0].getD (p - 16) 0)) := ⟨_, rfl⟩
  have e34 : r0 = A1 34 := by rw [hA1]; rfl
  have e16 : b0 = A1 16 := by rw [hA1]; rfl
  rw [← hA1] at hSO1 ⊢
  refine i8_feed (A1 := A1) C hSO1 ⟨Nat.le_of_ble_eq_true rfl, Nat.le_of_ble_eq_true rfl⟩ ⟨Nat.le_of_ble_eq_true rfl, Nat.le_of_ble_eq_true rfl⟩ (by rw [← e34]; rfl) ?_ 39 0 rfl
  refine i8_read (A1 := A1) (x := x) (Mt := Mt) C hSO1 ⟨Nat.le_of_ble_eq_true rfl, Nat.le_of_ble_eq_true rfl⟩ ⟨Nat.le_of_ble_eq_true rfl, Nat.le_of_ble_eq_true rfl⟩ (by rw [← e34]; rfl) rfl (Nat.le_of_ble_eq_true rfl) (by rw [← e16]; rfl) ho ?_
  refine wx_perm (ws' := (a, .inr (7, [.ref h0, .ref i0, .int 0, .ref t, .int 1, .ref r0, .null, .null, .null, .ref sr])) :: (t, .inl (cA 2, 6, .inr (.inr (.inr (.inr (va_up (va_up (va_up (va_up (va_up (va_up (fun _ => none) 0 (some b0)) 1 (some b1)) 2 (some b2)) 3 (some b3)) 4 (some b4)) 5 (some b5))))))) :: (sr, .inl (cA 3, 4, .inr (.inr (.inr (.inr (va_up (va_up (va_up (va_up (fun _ => none) 0 (some c0)) 1 (some c1)) 2 (some c2)) 3 (some c3))))))) :: ((gX6 cA c3 v3 ++ (gX6 cA c2 v2 ++ (gX6 cA c1 v1 ++ (gX6 cA c0 v0 ++ [])))) ++ (enc cA A1 Mt PlT ++ (gX1 cA i0 ui ++ (gX1 cA h0 uh ++ []))))) (List.perm_middle.trans (List.Perm.cons _ (List.perm_middle.trans (List.Perm.cons _ (List.perm_middle.trans (List.Perm.cons _ (List.perm_append_comm_assoc _ _ _))))))) ?_
  refine wx_aload_n 1 C dX8_init_g7.2.1 rfl ?_
  refine wx_new (ci := 0) (fs := [.null, .null, .int 0, .int 0, .int 0, .null, .null, .int 0, .null, .null, .null, .null, .int 0, .int 0, .int 0, .int 0]) C rfl iwX0 tyX0_ok wc_356 wc_357 wc_78 nv_X0 (Nat.le_of_ble_eq_true rfl) (Nat.le_of_ble_eq_true rfl) dX8_init_g7.2.2.1 (fun k0 => ?_)
  refine wx_perm (ws' := (([(k0, .inr (0, [.null, .null, .int 0, .int 0, .int 0, .null, .null, .int 0, .null, .null, .null, .null, .int 0, .int 0, .int 0, .int 0])), (t, .inl (cA 2, 6, .inr (.inr (.inr (.inr (va_up (va_up (va_up (va_up (va_up (va_up (fun _ => none) 0 (some b0)) 1 (some b1)) 2 (some b2)) 3 (some b3)) 4 (some b4)) 5 (some b5)))))))] : va_W) ++ (((a, .inr (7, [.ref h0, .ref i0, .int 0, .ref t, .int 1, .ref r0, .null, .null, .null, .ref sr])) :: (sr, .inl (cA 3, 4, .inr (.inr (.inr (.inr (va_up (va_up (va_up (va_up (fun _ => none) 0 (some c0)) 1 (some c1)) 2 (some c2)) 3 (some c3))))))) :: ((gX6 cA c3 v3 ++ (gX6 cA c2 v2 ++ (gX6 cA c1 v1 ++ (gX6 cA c0 v0 ++ [])))) ++ (enc cA A1 Mt PlT ++ (gX1 cA i0 ui ++ (gX1 cA h0 uh ++ [])))) : va_W) : va_W))) (List.perm_append_comm.trans (List.Perm.cons _ (List.Perm.swap _ _ _))) ?_
  refine wx_dup C dX8_init_g7.2.2.2.1 rfl ?_
  refine wx_aload_n 1 C dX8_init_g7.2.2.2.2.1 rfl ?_
  refine wx_get (i := 2) (ci := 7) (k := 3) (v := .ref t) C rfl rfl (by decide) wt_X8_25 iwX8 rfl dX8_init_g7.2.2.2.2.2.1 ?_
  refine wx_init (Cw := [(k0, .inr (0, [.null, .null, .int 0, .int 0, .int 0, .null, .null, .int 0, .null, .null, .null, .null, .int 0, .int 0, .int 0, .int 0])), (t, .inl (cA 2, 6, .inr (.inr (.inr (.inr (va_up (va_up (va_up (va_up (va_up (va_up (fun _ => none) 0 (some b0)) 1 (some b1)) 2 (some b2)) 3 (some b3)) 4 (some b4)) 5 (some b5)))))))]) (As := [.ref t]) C (c_X0_init k0 t (va_up (va_up (va_up (va_up (va_up (va_up (fun _ => none) 0 (some b0)) 1 (some b1)) 2 (some b2)) 3 (some b3)) 4 (some b4)) 5 (some b5)) b0 rfl) mii_X0 wc_358 rfl rfl ⟨Nat.le_of_ble_eq_true rfl, Nat.le_of_ble_eq_true rfl⟩ ⟨Nat.le_of_ble_eq_true rfl, Nat.le_of_ble_eq_true rfl⟩ (Nat.le_of_ble_eq_true rfl) dX8_init_g7.2.2.2.2.2.2.1 (fun z => ?_)
  refine wx_ws (ws' := (t, .inl (cA 2, 6, .inr (.inr (.inr (.inr (va_up (va_up (va_up (va_up (va_up (va_up (fun _ => none) 0 (some b0)) 1 (some b1)) 2 (some b2)) 3 (some b3)) 4 (some b4)) 5 (some b5))))))) :: (g0X0 cA k0 t b0 z ++ ((a, .inr (7, [.ref h0, .ref i0, .int 0, .ref t, .int 1, .ref r0, .null, .null, .null, .ref sr])) :: (sr, .inl (cA 3, 4, .inr (.inr (.inr (.inr (va_up (va_up (va_up (va_up (fun _ => none) 0 (some c0)) 1 (some c1)) 2 (some c2)) 3 (some c3))))))) :: ((gX6 cA c3 v3 ++ (gX6 cA c2 v2 ++ (gX6 cA c1 v1 ++ (gX6 cA c0 v0 ++ [])))) ++ (enc cA A1 Mt PlT ++ (gX1 cA i0 ui ++ (gX1 cA h0 uh ++ []))))))) rfl ?_
  refine wx_perm (ws' := (a, .inr (7, [.ref h0, .ref i0, .int 0, .ref t, .int 1, .ref r0, .null, .null, .null, .ref sr])) :: (t, .inl (cA 2, 6, .inr (.inr (.inr (.inr (va_up (va_up (va_up (va_up (va_up (va_up (fun _ => none) 0 (some b0)) 1 (some b1)) 2 (some b2)) 3 (some b3)) 4 (some b4)) 5 (some b5))))))) :: (sr, .inl (cA 3, 4, .inr (.inr (.inr (.inr (va_up (va_up (va_up (va_up (fun _ => none) 0 (some c0)) 1 (some c1)) 2 (some c2)) 3 (some c3))))))) :: (g0X0 cA k0 t b0 z ++ ((gX6 cA c3 v3 ++ (gX6 cA c2 v2 ++ (gX6 cA c1 v1 ++ (gX6 cA c0 v0 ++ [])))) ++ (enc cA A1 Mt PlT ++ (gX1 cA i0 ui ++ (gX1 cA h0 uh ++ [])))))) ((List.Perm.cons _ List.perm_middle).trans ((List.Perm.swap _ _ _).trans (List.Perm.cons _ (List.Perm.cons _ List.perm_middle)))) ?_
  refine wx_putF (i := 0) (ci := 7) (k := 6) (ws' := (a, .inr (7, [.ref h0, .ref i0, .int 0, .ref t, .int 1, .ref r0, .ref k0, .null, .null, .ref sr])) :: (t, .inl (cA 2, 6, .inr (.inr (.inr (.inr (va_up (va_up (va_up (va_up (va_up (va_up (fun _ => none) 0 (some b0)) 1 (some b1)) 2 (some b2)) 3 (some b3)) 4 (some b4)) 5 (some b5))))))) :: (sr, .inl (cA 3, 4, .inr (.inr (.inr (.inr (va_up (va_up (va_up (va_up (fun _ => none) 0 (some c0)) 1 (some c1)) 2 (some c2)) 3 (some c3))))))) :: (g0X0 cA k0 t b0 z ++ ((gX6 cA c3 v3 ++ (gX6 cA c2 v2 ++ (gX6 cA c1 v1 ++ (gX6 cA c0 v0 ++ [])))) ++ (enc cA A1 Mt PlT ++ (gX1 cA i0 ui ++ (gX1 cA h0 uh ++ [])))))) C rfl rfl (by decide) wt_X8_73 iwX8 tyX8_ok nmX8 rfl rfl rfl rfl rfl (Nat.le_of_ble_eq_true rfl) rfl dX8_init_g7.2.2.2.2.2.2.2.1 ?_
  refine wx_aload_n 1 C dX8_init_g7.2.2.2.2.2.2.2.2.1 rfl ?_
  refine wx_new (ci := 3) (fs := [.null, .null, .null, .int 0, .int 0, .int 0, .int 0]) C rfl iwX4 tyX4_ok wc_422 wc_423 wc_79 nv_X4 (Nat.le_of_ble_eq_true rfl) (Nat.le_of_ble_eq_true rfl) dX8_init_g7.2.2.2.2.2.2.2.2.2.1 (fun p0 => ?_)
  refine wx_perm List.perm_append_comm ?_
  refine wx_dup C dX8_init_g7.2.2.2.2.2.2.2.2.2.2.1 rfl ?_
  refine wx_aload_n 1 C dX8_init_g7.2.2.2.2.2.2.2.2.2.2.2 rfl ?_
  refine wx_get (i := 1) (ci := 7) (k := 0) (v := .ref h0) C rfl rfl (by decide) wt_X8_10 iwX8 rfl dX8_init_g8.1 ?_
  refine wx_aload_n 1 C dX8_init_g8.2.1 rfl ?_
  refine wx_get (i := 1) (ci := 7) (k := 6) (v := .ref k0) C rfl rfl (by decide) wt_X8_73 iwX8 rfl dX8_init_g8.2.2.1 ?_
  refine wx_init (Cw := [(p0, .inr (3, [.null, .null, .null, .int 0, .int 0, .int 0, .int 0]))]) (As := [.ref h0, .ref k0]) C (c_X4_init p0 h0 k0) mii_X4 wc_424 rfl rfl ⟨Nat.le_of_ble_eq_true rfl, Nat.le_of_ble_eq_true rfl⟩ ⟨Nat.le_of_ble_eq_true rfl, Nat.le_of_ble_eq_true rfl⟩ (Nat.le_of_ble_eq_true rfl) dX8_init_g8.2.2.2.1 (fun uz => ?_)
  refine wx_perm (ws' := (a, .inr (7, [.ref h0, .ref i0, .int 0, .ref t, .int 1, .ref r0, .ref k0, .null, .null, .ref sr])) :: (t, .inl (cA 2, 6, .inr (.inr (.inr (.inr (va_up (va_up (va_up (va_up (va_up (va_up (fun _ => none) 0 (some b0)) 1 (some b1)) 2 (some b2)) 3 (some b3)) 4 (some b4)) 5 (some b5))))))) :: (sr, .inl (cA 3, 4, .inr (.inr (.inr (.inr (va_up (va_up (va_up (va_up (fun _ => none) 0 (some c0)) 1 (some c1)) 2 (some c2)) 3 (some c3))))))) :: (gX4 cA p0 h0 k0 uz ++ (g0X0 cA k0 t b0 z ++ ((gX6 cA c3 v3 ++ (gX6 cA c2 v2 ++ (gX6 cA c1 v1 ++ (gX6 cA c0 v0 ++ [])))) ++ (enc cA A1 Mt PlT ++ (gX1 cA i0 ui ++ (gX1 cA h0 uh ++ []))))))) (List.perm_middle.trans (List.Perm.cons _ (List.perm_middle.trans (List.Perm.cons _ List.perm_middle)))) ?_
  refine wx_putF (i := 0) (ci := 7) (k := 7) (ws' := (a, .inr (7, [.ref h0, .ref i0, .int 0, .ref t, .int 1, .ref r0, .ref k0, .ref p0, .null, .ref sr])) :: (t, .inl (cA 2, 6, .inr (.inr (.inr (.inr (va_up (va_up (va_up (va_up (va_up (va_up (fun _ => none) 0 (some b0)) 1 (some b1)) 2 (some b2)) 3 (some b3)) 4 (some b4)) 5 (some b5))))))) :: (sr, .inl (cA 3, 4, .inr (.inr (.inr (.inr (va_up (va_up (va_up (va_up (fun _ => none) 0 (some c0)) 1 (some c1)) 2 (some c2)) 3 (some c3))))))) :: (gX4 cA p0 h0 k0 uz ++ (g0X0 cA k0 t b0 z ++ ((gX6 cA c3 v3 ++ (gX6 cA c2 v2 ++ (gX6 cA c1 v1 ++ (gX6 cA c0 v0 ++ [])))) ++ (enc cA A1 Mt PlT ++ (gX1 cA i0 ui ++ (gX1 cA h0 uh ++ []))))))) C rfl rfl (by decide) wt_X8_82 iwX8 tyX8_ok nmX8 rfl rfl rfl rfl rfl (Nat.le_of_ble_eq_true rfl) rfl dX8_init_g8.2.2.2.2.1 ?_
  refine wx_aload_n 1 C dX8_init_g8.2.2.2.2.2.1 rfl ?_
  refine wx_new (ci := 2) (fs := [.null, .null, .null, .int 0, .int 0, .int 0, .int 0, .int 0, .int 0, .int 0, .int 0]) C rfl iwX3 tyX3_ok wc_455 wc_456 wc_80 nv_X3 (Nat.le_of_ble_eq_true rfl) (Nat.le_of_ble_eq_true rfl) dX8_init_g8.2.2.2.2.2.2.1 (fun m0 => ?_)
  refine wx_perm List.perm_append_comm ?_
  refine wx_dup C dX8_init_g8.2.2.2.2.2.2.2.1 rfl ?_
  refine wx_aload_n 1 C dX8_init_g8.2.2.2.2.2.2.2.2.1 rfl ?_
  refine wx_get (i := 1) (ci := 7) (k := 0) (v := .ref h0) C rfl rfl (by decide) wt_X8_10 iwX8 rfl dX8_init_g8.2.2.2.2.2.2.2.2.2.1 ?_
  refine wx_aload_n 1 C dX8_init_g8.2.2.2.2.2.2.2.2.2.2.1 rfl ?_
  refine wx_get (i := 1) (ci := 7) (k := 6) (v := .ref k0) C rfl rfl (by decide) wt_X8_73 iwX8 rfl dX8_init_g8.2.2.2.2.2.2.2.2.2.2.2 ?_
  refine wx_init (Cw := [(m0, .inr (2, [.null, .null, .null, .int 0, .int 0, .int 0, .int 0, .int 0, .int 0, .int 0, .int 0]))]) (As := [.ref h0, .ref k0]) C (c_X3_init m0 h0 k0) mii_X3 wc_457 rfl rfl ⟨Nat.le_of_ble_eq_true rfl, Nat.le_of_ble_eq_true rfl⟩ ⟨Nat.le_of_ble_eq_true rfl, Nat.le_of_ble_eq_true rfl⟩ (Nat.le_of_ble_eq_true rfl) dX8_init_g9.1 (fun um => ?_)
  refine wx_perm (ws' := (a, .inr (7, [.ref h0, .ref i0, .int 0, .ref t, .int 1, .ref r0, .ref k0, .ref p0, .null, .ref sr])) :: (t, .inl (cA 2, 6, .inr (.inr (.inr (.inr (va_up (va_up (va_up (va_up (va_up (va_up (fun _ => none) 0 (some b0)) 1 (some b1)) 2 (some b2)) 3 (some b3)) 4 (some b4)) 5 (some b5))))))) :: (sr, .inl (cA 3, 4, .inr (.inr (.inr (.inr (va_up (va_up (va_up (va_up (fun _ => none) 0 (some c0)) 1 (some c1)) 2 (some c2)) 3 (some c3))))))) :: (gX3 cA m0 h0 k0 um ++ (gX4 cA p0 h0 k0 uz ++ (g0X0 cA k0 t b0 z ++ ((gX6 cA c3 v3 ++ (gX6 cA c2 v2 ++ (gX6 cA c1 v1 ++ (gX6 cA c0 v0 ++ [])))) ++ (enc cA A1 Mt PlT ++ (gX1 cA i0 ui ++ (gX1 cA h0 uh ++ [])))))))) (List.perm_middle.trans (List.Perm.cons _ (List.perm_middle.trans (List.Perm.cons _ List.perm_middle)))) ?_
  refine wx_putF (i := 0) (ci := 7) (k := 8) (ws' := (a, .inr (7, [.ref h0, .ref i0, .int 0, .ref t, .int 1, .ref r0, .ref k0, .ref p0, .ref m0, .ref sr])) :: (t, .inl (cA 2, 6, .inr (.inr (.inr (.inr (va_up (va_up (va_up (va_up (va_up (va_up (fun _ => none) 0 (some b0)) 1 (some b1)) 2 (some b2)) 3 (some b3)) 4 (some b4)) 5 (some b5))))))) :: (sr, .inl (cA 3, 4, .inr (.inr (.inr (.inr (va_up (va_up (va_up (va_up (fun _ => none) 0 (some c0)) 1 (some c1)) 2 (some c2)) 3 (some c3))))))) :: (gX3 cA m0 h0 k0 um ++ (gX4 cA p0 h0 k0 uz ++ (g0X0 cA k0 t b0 z ++ ((gX6 cA c3 v3 ++ (gX6 cA c2 v2 ++ (gX6 cA c1 v1 ++ (gX6 cA c0 v0 ++ [])))) ++ (enc cA A1 Mt PlT ++ (gX1 cA i0 ui ++ (gX1 cA h0 uh ++ [])))))))) C rfl rfl (by decide) wt_X8_89 iwX8 tyX8_ok nmX8 rfl rfl rfl rfl rfl (Nat.le_of_ble_eq_true rfl) rfl dX8_init_g9.2.1 ?_
  subst hA1
  refine wx_cgq (i := 1) (n := 6) (g := fun i => some ((AU A0 (fun p => [a, h0, uh 0, uh 1, uh 2, uh 3, uh 4, uh 5, i0, ui 0, ui 1, ui 2, ui 3, ui 4, ui 5, t, b0, w0 0, w0 1, b1, w1 0, w1 1, b2, w2 0, w2 1, b3, w3 0, w3 1, b4, w4 0, w4 1, b5, w5 0, w5 1, r0, ur 0, k0, z 0, z 1, z 2, z 3, z 4, z 5, p0, uz 0, m0, um 0, um 0 + 1 + 0, um 0 + 1 + 1, um 0 + 1 + 2, um 0 + 1 + 3, um 0 + 1 + 4, um 0 + 1 + 5, um 0 + 1 + 6, sr, c0, v0 0, c1, v1 0, c2, v2 0, c3, v3 0].getD p 0)) (16 + 3 * i))) (ws' := (a, .inr (7, [.ref h0, .ref i0, .int 0, .ref t, .int 1, .ref r0, .ref k0, .ref p0, .ref m0, .ref sr])) :: (t, .inl (cA 2, 6, .inr (.inr (.inr (.inr (fun i => some ((AU A0 (fun p => [a, h0, uh 0, uh 1, uh 2, uh 3, uh 4, uh 5, i0, ui 0, ui 1, ui 2, ui 3, ui 4, ui 5, t, b0, w0 0, w0 1, b1, w1 0, w1 1, b2, w2 0, w2 1, b3, w3 0, w3 1, b4, w4 0, w4 1, b5, w5 0, w5 1, r0, ur 0, k0, z 0, z 1, z 2, z 3, z 4, z 5, p0, uz 0, m0, um 0, um 0 + 1 + 0, um 0 + 1 + 1, um 0 + 1 + 2, um 0 + 1 + 3, um 0 + 1 + 4, um 0 + 1 + 5, um 0 + 1 + 6, sr, c0, v0 0, c1, v1 0, c2, v2 0, c3, v3 0].getD p 0)) (16 + 3 * i)))))))) :: (sr, .inl (cA 3, 4, .inr (.inr (.inr (.inr (va_up (va_up (va_up (va_up (fun _ => none) 0 (some c0)) 1 (some c1)) 2 (some c2)) 3 (some c3))))))) :: (gX3 cA m0 h0 k0 um ++ (gX4 cA p0 h0 k0 uz ++ (g0X0 cA k0 t b0 z ++ ((gX6 cA c3 v3 ++ (gX6 cA c2 v2 ++ (gX6 cA c1 v1 ++ (gX6 cA c0 v0 ++ [])))) ++ (enc cA (AU A0 (fun p => [b0, w0 0, w0 1, b1, w1 0, w1 1, b2, w2 0, w2 1, b3, w3 0, w3 1, b4, w4 0, w4 1, b5, w5 0, w5 1, r0, ur 0].getD (p - 16) 0)) Mt PlT ++ (gX1 cA i0 ui ++ (gX1 cA h0 uh ++ [])))))))) rfl (fun j hj => by rcases (show j = 0 ∨ j = 1 ∨ j = 2 ∨ j = 3 ∨ j = 4 ∨ j = 5 by omega) with rfl | rfl | rfl | rfl | rfl | rfl <;> rfl) rfl ?_
  refine wx_cgq (i := 2) (n := 4) (g := fun i => some ((AU A0 (fun p => [a, h0, uh 0, uh 1, uh 2, uh 3, uh 4, uh 5, i0, ui 0, ui 1, ui 2, ui 3, ui 4, ui 5, t, b0, w0 0, w0 1, b1, w1 0, w1 1, b2, w2 0, w2 1, b3, w3 0, w3 1, b4, w4 0, w4 1, b5, w5 0, w5 1, r0, ur 0, k0, z 0, z 1, z 2, z 3, z 4, z 5, p0, uz 0, m0, um 0, um 0 + 1 + 0, um 0 + 1 + 1, um 0 + 1 + 2, um 0 + 1 + 3, um 0 + 1 + 4, um 0 + 1 + 5, um 0 + 1 + 6, sr, c0, v0 0, c1, v1 0, c2, v2 0, c3, v3 0].getD p 0)) (55 + 2 * i))) (ws' := (a, .inr (7, [.ref h0, .ref i0, .int 0, .ref t, .int 1, .ref r0, .ref k0, .ref p0, .ref m0, .ref sr])) :: (t, .inl (cA 2, 6, .inr (.inr (.inr (.inr (fun i => some ((AU A0 (fun p => [a, h0, uh 0, uh 1, uh 2, uh 3, uh 4, uh 5, i0, ui 0, ui 1, ui 2, ui 3, ui 4, ui 5, t, b0, w0 0, w0 1, b1, w1 0, w1 1, b2, w2 0, w2 1, b3, w3 0, w3 1, b4, w4 0, w4 1, b5, w5 0, w5 1, r0, ur 0, k0, z 0, z 1, z 2, z 3, z 4, z 5, p0, uz 0, m0, um 0, um 0 + 1 + 0, um 0 + 1 + 1, um 0 + 1 + 2, um 0 + 1 + 3, um 0 + 1 + 4, um 0 + 1 + 5, um 0 + 1 + 6, sr, c0, v0 0, c1, v1 0, c2, v2 0, c3, v3 0].getD p 0)) (16 + 3 * i)))))))) :: (sr, .inl (cA 3, 4, .inr (.inr (.inr (.inr (fun i => some ((AU A0 (fun p => [a, h0, uh 0, uh 1, uh 2, uh 3, uh 4, uh 5, i0, ui 0, ui 1, ui 2, ui 3, ui 4, ui 5, t, b0, w0 0, w0 1, b1, w1 0, w1 1, b2, w2 0, w2 1, b3, w3 0, w3 1, b4, w4 0, w4 1, b5, w5 0, w5 1, r0, ur 0, k0, z 0, z 1, z 2, z 3, z 4, z 5, p0, uz 0, m0, um 0, um 0 + 1 + 0, um 0 + 1 + 1, um 0 + 1 + 2, um 0 + 1 + 3, um 0 + 1 + 4, um 0 + 1 + 5, um 0 + 1 + 6, sr, c0, v0 0, c1, v1 0, c2, v2 0, c3, v3 0].getD p 0)) (55 + 2 * i)))))))) :: (gX3 cA m0 h0 k0 um ++ (gX4 cA p0 h0 k0 uz ++ (g0X0 cA k0 t b0 z ++ ((gX6 cA c3 v3 ++ (gX6 cA c2 v2 ++ (gX6 cA c1 v1 ++ (gX6 cA c0 v0 ++ [])))) ++ (enc cA (AU A0 (fun p => [b0, w0 0, w0 1, b1, w1 0, w1 1, b2, w2 0, w2 1, b3, w3 0, w3 1, b4, w4 0, w4 1, b5, w5 0, w5 1, r0, ur 0].getD (p - 16) 0)) Mt PlT ++ (gX1 cA i0 ui ++ (gX1 cA h0 uh ++ [])))))))) rfl (fun j hj => by rcases (show j = 0 ∨ j = 1 ∨ j = 2 ∨ j = 3 by omega) with rfl | rfl | rfl | rfl <;> rfl) rfl ?_
  refine wx_cgq (i := 4) (n := 7) (g := fun i => some ((AU A0 (fun p => [a, h0, uh 0, uh 1, uh 2, uh 3, uh 4, uh 5, i0, ui 0, ui 1, ui 2, ui 3, ui 4, ui 5, t, b0, w0 0, w0 1, b1, w1 0, w1 1, b2, w2 0, w2 1, b3, w3 0, w3 1, b4, w4 0, w4 1, b5, w5 0, w5 1, r0, ur 0, k0, z 0, z 1, z 2, z 3, z 4, z 5, p0, uz 0, m0, um 0, um 0 + 1 + 0, um 0 + 1 + 1, um 0 + 1 + 2, um 0 + 1 + 3, um 0 + 1 + 4, um 0 + 1 + 5, um 0 + 1 + 6, sr, c0, v0 0, c1, v1 0, c2, v2 0, c3, v3 0].getD p 0)) (47 + i))) rfl (fun j hj => by rcases (show j = 0 ∨ j = 1 ∨ j = 2 ∨ j = 3 ∨ j = 4 ∨ j = 5 ∨ j = 6 by omega) with rfl | rfl | rfl | rfl | rfl | rfl | rfl <;> rfl) rfl ?_
  exact wx_vret (u := (fun p => [a, h0, uh 0, uh 1, uh 2, uh 3, uh 4, uh 5, i0, ui 0, ui 1, ui 2, ui 3, ui 4, ui 5, t, b0, w0 0, w0 1, b1, w1 0, w1 1, b2, w2 0, w2 1, b3, w3 0, w3 1, b4, w4 0, w4 1, b5, w5 0, w5 1, r0, ur 0, k0, z 0, z 1, z 2, z 3, z 4, z 5, p0, uz 0, m0, um 0, um 0 + 1 + 0, um 0 + 1 + 1, um 0 + 1 + 2, um 0 + 1 + 3, um 0 + 1 + 4, um 0 + 1 + 5, um 0 + 1 + 6, sr, c0, v0 0, c1, v1 0, c2, v2 0, c3, v3 0].getD p 0)) C hrt ((congrArg (fun v : Nat → Nat => enc cA (AU A0 v) (MCx Mt) PlC) (uAt_self (k := 0) (a := a) (u := (fun p => [a, h0, uh 0, uh 1, uh 2, uh 3, uh 4, uh 5, i0, ui 0, ui 1, ui 2, ui 3, ui 4, ui 5, t, b0, w0 0, w0 1, b1, w1 0, w1 1, b2, w2 0, w2 1, b3, w3 0, w3 1, b4, w4 0, w4 1, b5, w5 0, w5 1, r0, ur 0, k0, z 0, z 1, z 2, z 3, z 4, z 5, p0, uz 0, m0, um 0, um 0 + 1 + 0, um 0 + 1 + 1, um 0 + 1 + 2, um 0 + 1 + 3, um 0 + 1 + 4, um 0 + 1 + 5, um 0 + 1 + 6, sr, c0, v0 0, c1, v1 0, c2, v2 0, c3, v3 0].getD p 0)) rfl)).trans rfl) dX8_init_g9.2.2
theorem someEta {α β : Type} {o : Option (α × β)} {q : α × β} (h : o = some q) : o = some (q.1, q.2) := by
  cases q
  exact h
theorem MC0_eq : MC0 = MCx rdO.2 := by
  unfold MC0 MCx
  rfl
theorem c_X8_init0 {l : Launch} {D : va_G} {cA : Nat → ClassId} {A0 : Nat → Nat} (a : Nat) : CtE l D cA A0 yX8_init cX8_init 2 115 62 1758 [.ref a] [(a, .inr (7, [.null, .null, .int 0, .null, .int 0, .null, .null, .null, .null, .null]))] (fun u => enc cA (AU A0 (uAt 0 a u)) MC0 PlC) := by
  have h := c_X8_init (l := l) (D := D) (cA := cA) (A0 := A0) (someEta rdO_eq) a
  rw [← MC0_eq] at h
  exact h
