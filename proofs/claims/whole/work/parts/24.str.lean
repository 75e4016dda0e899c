/-! TEXTS THAT ARE CONSTANTS: length, charAt, over the JDK's own bytecode -/
theorem mi_J0_length : MIV yJ0_length_8abf5 cJ0_length_8abf5 1 (some .int) 0 := ⟨wtm 217 (by decide +kernel), wtm 215 (by decide +kernel), wtm 216 (by decide +kernel), wtm 74 (by decide +kernel), by decide, by decide +kernel⟩
theorem mi_J0_coder : MIV yJ0_coder_7d493 cJ0_coder_7d493 1 (some .byte) 0 := ⟨wtm 221 (by decide +kernel), wtm 219 (by decide +kernel), wtm 220 (by decide +kernel), wtm 74 (by decide +kernel), by decide, by decide +kernel⟩
theorem mi_J0_charAt : MIV yJ0_charAt_5068e cJ0_charAt_5068e 2 (some .char) 1 := ⟨wtm 227 (by decide +kernel), wtm 225 (by decide +kernel), wtm 226 (by decide +kernel), wtm 74 (by decide +kernel), by decide, by decide +kernel⟩
theorem mi_J0_isLatin1 : MIV yJ0_isLatin1_aae02 cJ0_isLatin1_aae02 1 (some .boolean) 0 := ⟨wtm 231 (by decide +kernel), wtm 229 (by decide +kernel), wtm 230 (by decide +kernel), wtm 74 (by decide +kernel), by decide, by decide +kernel⟩
theorem mi_J1_charAt : MIS yJ1_charAt_3b067 cJ1_charAt_3b067 2 (some .char) 2 := ⟨wtm 234 (by decide +kernel), wtm 233 (by decide +kernel), wtm 75 (by decide +kernel), by decide, by decide +kernel⟩
theorem mi_J0_checkIndex : MIS yJ0_checkIndex_df160 cJ0_checkIndex_df160 2 none 2 := ⟨wtm 237 (by decide +kernel), wtm 236 (by decide +kernel), wtm 74 (by decide +kernel), by decide, by decide +kernel⟩
theorem mi_J3_checkIndex : MIS yJ3_checkIndex_8e157 cJ3_checkIndex_8e157 3 (some .int) 3 := ⟨wtm 242 (by decide +kernel), wtm 241 (by decide +kernel), wtm 76 (by decide +kernel), by decide, by decide +kernel⟩
theorem wt_J0_335 : Cond.methodLink RJ0 335 yJ0_coder_7d493 ∈ WT := wtm 218 (by decide +kernel)
theorem wt_J0_492 : Cond.methodLink RJ0 492 yJ0_isLatin1_aae02 ∈ WT := wtm 228 (by decide +kernel)
theorem wt_J0_495 : Cond.methodLink RJ0 495 yJ1_charAt_3b067 ∈ WT := wtm 232 (by decide +kernel)
theorem wt_J1_9 : Cond.methodLink RJ1 9 yJ0_checkIndex_df160 ∈ WT := wtm 235 (by decide +kernel)
theorem wt_J0_1059 : Cond.methodLink RJ0 1059 yJ3_checkIndex_8e157 ∈ WT := wtm 240 (by decide +kernel)
theorem wt_J0_38 : Cond.fieldLink RJ0 38 RJ0 "COMPACT_STRINGS" "Z" ∈ WT := wtm 222 (by decide +kernel)
theorem wt_J0_1053 : Cond.fieldLink RJ0 1053 "jdk/internal/util/Preconditions" "SIOOBE_FORMATTER" "Ljava/util/function/BiFunction;" ∈ WT := wtm 238 (by decide +kernel)
theorem wt_J0_9 : Cond.fieldLink RJ0 9 RJ0 "value" "[B" ∈ WT := wtm 1359 (by decide +kernel)
theorem wt_J0_15 : Cond.fieldLink RJ0 15 RJ0 "coder" "B" ∈ WT := wtm 1360 (by decide +kernel)
theorem dJ0_length : decode cJ0_length_8abf5 0 = .ok (.aload_n 0, 1) ∧ decode cJ0_length_8abf5 1 = .ok (.getfield 9, 3) ∧ decode cJ0_length_8abf5 4 = .ok (.arraylength, 1) ∧ decode cJ0_length_8abf5 5 = .ok (.aload_n 0, 1) ∧ decode cJ0_length_8abf5 6 = .ok (.invokevirtual 335, 3) ∧ decode cJ0_length_8abf5 9 = .ok (.ishr, 1) ∧ decode cJ0_length_8abf5 10 = .ok (.ireturn, 1) := by decide +kernel
theorem dJ0_charAt : decode cJ0_charAt_5068e 0 = .ok (.aload_n 0, 1) ∧ decode cJ0_charAt_5068e 1 = .ok (.invokevirtual 492, 3) ∧ decode cJ0_charAt_5068e 4 = .ok (.ifCond .eq 12, 3) ∧ decode cJ0_charAt_5068e 7 = .ok (.aload_n 0, 1) ∧ decode cJ0_charAt_5068e 8 = .ok (.getfield 9, 3) ∧ decode cJ0_charAt_5068e 11 = .ok (.iload_n 1, 1) ∧ decode cJ0_charAt_5068e 12 = .ok (.invokestatic 495, 3) ∧ decode cJ0_charAt_5068e 15 = .ok (.ireturn, 1) := by decide +kernel
theorem dJ0_coder : decode cJ0_coder_7d493 0 = .ok (.getstatic 38, 3) ∧ decode cJ0_coder_7d493 3 = .ok (.ifCond .eq 10, 3) ∧ decode cJ0_coder_7d493 6 = .ok (.aload_n 0, 1) ∧ decode cJ0_coder_7d493 7 = .ok (.getfield 15, 3) ∧ decode cJ0_coder_7d493 10 = .ok (.goto 4, 3) ∧ decode cJ0_coder_7d493 14 = .ok (.ireturn, 1) := by decide +kernel
theorem dJ0_isLatin1 : decode cJ0_isLatin1_aae02 0 = .ok (.getstatic 38, 3) ∧ decode cJ0_isLatin1_aae02 3 = .ok (.ifCond .eq 14, 3) ∧ decode cJ0_isLatin1_aae02 6 = .ok (.aload_n 0, 1) ∧ decode cJ0_isLatin1_aae02 7 = .ok (.getfield 15, 3) ∧ decode cJ0_isLatin1_aae02 10 = .ok (.ifCond .ne 7, 3) ∧ decode cJ0_isLatin1_aae02 13 = .ok (.iconst 1, 1) ∧ decode cJ0_isLatin1_aae02 14 = .ok (.goto 4, 3) ∧ decode cJ0_isLatin1_aae02 18 = .ok (.ireturn, 1) := by decide +kernel
theorem dJ0_checkIndex : decode cJ0_checkIndex_df160 0 = .ok (.iload_n 0, 1) ∧ decode cJ0_checkIndex_df160 1 = .ok (.iload_n 1, 1) ∧ decode cJ0_checkIndex_df160 2 = .ok (.getstatic 1053, 3) ∧ decode cJ0_checkIndex_df160 5 = .ok (.invokestatic 1059, 3) ∧ decode cJ0_checkIndex_df160 8 = .ok (.pop, 1) ∧ decode cJ0_checkIndex_df160 9 = .ok (.return_, 1) := by decide +kernel
theorem dJ1_charAt : decode cJ1_charAt_3b067 0 = .ok (.iload_n 1, 1) ∧ decode cJ1_charAt_3b067 1 = .ok (.aload_n 0, 1) ∧ decode cJ1_charAt_3b067 2 = .ok (.arraylength, 1) ∧ decode cJ1_charAt_3b067 3 = .ok (.invokestatic 9, 3) ∧ decode cJ1_charAt_3b067 6 = .ok (.aload_n 0, 1) ∧ decode cJ1_charAt_3b067 7 = .ok (.iload_n 1, 1) ∧ decode cJ1_charAt_3b067 8 = .ok (.baload, 1) ∧ decode cJ1_charAt_3b067 9 = .ok (.sipush 255, 3) ∧ decode cJ1_charAt_3b067 12 = .ok (.iand, 1) ∧ decode cJ1_charAt_3b067 13 = .ok (.i2c, 1) ∧ decode cJ1_charAt_3b067 14 = .ok (.ireturn, 1) := by decide +kernel
theorem dJ3_checkIndex : decode cJ3_checkIndex_8e157 0 = .ok (.iload_n 0, 1) ∧ decode cJ3_checkIndex_8e157 1 = .ok (.ifCond .lt 8, 3) ∧ decode cJ3_checkIndex_8e157 4 = .ok (.iload_n 0, 1) ∧ decode cJ3_checkIndex_8e157 5 = .ok (.iload_n 1, 1) ∧ decode cJ3_checkIndex_8e157 6 = .ok (.if_icmp .lt 10, 3) ∧ decode cJ3_checkIndex_8e157 16 = .ok (.iload_n 0, 1) ∧ decode cJ3_checkIndex_8e157 17 = .ok (.ireturn, 1) := by decide +kernel
theorem isStr_of {q : Nat} (h : isStr q = true) : ∃ i, i < 13 ∧ q = 1000 + i := by
  unfold isStr at h
  have h := Bool.and_eq_true_iff.mp h
  have h1 := of_decide_eq_true h.1
  have h2 := of_decide_eq_true h.2
  have h3 : strs.length = 13 := rfl
  exact ⟨q - 1000, by omega, by omega⟩
theorem str_len : ∀ i, i < 13 → sLens.getD i 0 = slenN (1000 + i) ∧ slenN (1000 + i) < 100 ∧ slenN (1000 + i) = (strs.getD i []).length ∧ (Int32.ofNat (sLens.getD i 0)) >>> ((0 : Int32) &&& 31) = slen (1000 + i) := by decide +kernel
theorem str_chr : ∀ i, i < 13 → ∀ j, j < 100 → j < (strs.getD i []).length → ((((sByts.getD i []).getD j 0) &&& 255).toUInt32 % 65536).toInt32 = schar (1000 + i) j ∧ (strs.getD i []).getD j 0 < 65536 := by decide +kernel
section STRR
variable {p : Program} {l : Launch} {e : Env} {R : Room} {s : State} {m : MethodId} {args : Array Value} {below : List Frame} {meth : Method} {c : Code} {cells slots : Nat} {Q : State → Prop}
variable {cc : ByteArray} {own : String} {nL : Nat} {D : va_G} {cA : Nat → ClassId} {A : Nat → Nat} {Pl : List Nat} {F : Nat → Prop} {M : Mem} {pc : Nat} {lv : List (Nat × Value)} {st : List Value}
theorem wm_ishr {x y : Int32} (C : Cx p s m args meth c cc own nL D cA A Pl F) (hdg : decode cc pc = .ok (.ishr, 1)) (kk : WM p l e R s m args below meth c cells slots Q D cA A Pl F nL M (pc + 1) lv (.int (x >>> (y &&& 31)) :: st)) : WM p l e R s m args below meth c cells slots Q D cA A Pl F nL M pc lv (.int y :: .int x :: st) :=
  fun H locs hP hS ls hl => lv_ishr C.1.1 C.1.2.1 hdg (kk H locs hP hS ls hl)
theorem wm_i2c {x v : Int32} (C : Cx p s m args meth c cc own nL D cA A Pl F) (hdg : decode cc pc = .ok (.i2c, 1)) (hv : (x.toUInt32 % 65536).toInt32 = v) (kk : WM p l e R s m args below meth c cells slots Q D cA A Pl F nL M (pc + 1) lv (.int v :: st)) : WM p l e R s m args below meth c cells slots Q D cA A Pl F nL M pc lv (.int x :: st) :=
  fun H locs hP hS ls hl => lv_i2c C.1.1 C.1.2.1 hdg hv (kk H locs hP hS ls hl)
theorem wm_sval {i : Nat} (C : Cx p s m args meth c cc own nL D cA A Pl F) (hi : i < 13) (ho : own = RJ0) (hdg : decode cc pc = .ok (.getfield 9, 3)) (kk : WM p l e R s m args below meth c cells slots Q D cA A Pl F nL M (pc + 3) lv (.ref (A (1100 + i)) :: st)) : WM p l e R s m args below meth c cells slots Q D cA A Pl F nL M pc lv (.ref (A (1000 + i)) :: st) := by
  subst ho
  exact fun H locs hP hS ls hl => vk_getf (o := RJ0) (n := "value") (d := "[B") C.1.1 C.1.2.1 (C.2.2.2.2.2.2.2.1.1 i hi).2.2.1 hS C.1.2.2.2 (C.2.1 _ wt_J0_9) (fun _ h => h) hdg (kk H locs hP hS ls hl)
theorem wm_scod {i : Nat} (C : Cx p s m args meth c cc own nL D cA A Pl F) (hi : i < 13) (ho : own = RJ0) (hdg : decode cc pc = .ok (.getfield 15, 3)) (kk : WM p l e R s m args below meth c cells slots Q D cA A Pl F nL M (pc + 3) lv (.int 0 :: st)) : WM p l e R s m args below meth c cells slots Q D cA A Pl F nL M pc lv (.ref (A (1000 + i)) :: st) := by
  subst ho
  exact fun H locs hP hS ls hl => vk_getf (o := RJ0) (n := "coder") (d := "B") C.1.1 C.1.2.1 (C.2.2.2.2.2.2.2.1.1 i hi).2.1 hS C.1.2.2.2 (C.2.1 _ wt_J0_15) (fun _ h => h) hdg (kk H locs hP hS ls hl)
theorem wm_sbln {i : Nat} (C : Cx p s m args meth c cc own nL D cA A Pl F) (hi : i < 13) (hdg : decode cc pc = .ok (.arraylength, 1)) (kk : WM p l e R s m args below meth c cells slots Q D cA A Pl F nL M (pc + 1) lv (.int (Int32.ofNat (sLens.getD i 0)) :: st)) : WM p l e R s m args below meth c cells slots Q D cA A Pl F nL M pc lv (.ref (A (1100 + i)) :: st) :=
  fun H locs hP hS ls hl => va_tlen C.1.1 C.1.2.1 (C.2.2.2.2.2.2.2.1.1 i hi).2.2.2 hS rfl hdg (kk H locs hP hS ls hl)
theorem wm_sbld {i : Nat} {j : Int32} (C : Cx p s m args meth c cc own nL D cA A Pl F) (hi : i < 13) (hin : inb j (sLens.getD i 0) = true) (hdg : decode cc pc = .ok (.baload, 1)) (kk : WM p l e R s m args below meth c cells slots Q D cA A Pl F nL M (pc + 1) lv (.int ((sByts.getD i []).getD j.toNatClampNeg 0) :: st)) : WM p l e R s m args below meth c cells slots Q D cA A Pl F nL M pc lv (.int j :: .ref (A (1100 + i)) :: st) :=
  fun H locs hP hS ls hl => va_tb C.1.1 C.1.2.1 (C.2.2.2.2.2.2.2.1.1 i hi).2.2.2 hS (inb_vp hin) rfl hdg (kk H locs hP hS ls hl)
theorem wm_scmp (C : Cx p s m args meth c cc own nL D cA A Pl F) (ho : own = RJ0) (hdg : decode cc pc = .ok (.getstatic 38, 3)) (kk : WM p l e R s m args below meth c cells slots Q D cA A Pl F nL M (pc + 3) lv (.int 1 :: st)) : WM p l e R s m args below meth c cells slots Q D cA A Pl F nL M pc lv st := by
  subst ho
  exact fun H locs hP hS ls hl => va_gets (C := RJ0) C.1.1 C.1.2.1 C.2.2.2.2.2.2.2.2.2.2.2.1 hS C.1.2.2.2 (C.2.1 _ wt_J0_38) (fun _ h => h) hdg (kk H locs hP hS ls hl)
theorem wm_sfmt (C : Cx p s m args meth c cc own nL D cA A Pl F) (ho : own = RJ0) (hdg : decode cc pc = .ok (.getstatic 1053, 3)) (kk : ∀ v : Value, (v = .null ∨ ∃ t, v = .ref t) → WM p l e R s m args below meth c cells slots Q D cA A Pl F nL M (pc + 3) lv (v :: st)) : WM p l e R s m args below meth c cells slots Q D cA A Pl F nL M pc lv st := by
  subst ho
  intro H locs hP hS ls hl
  rcases C.2.2.2.2.2.2.2.2.2.2.2.2 with h | ⟨t, h⟩
  · exact va_gets (C := "jdk/internal/util/Preconditions") C.1.1 C.1.2.1 h hS C.1.2.2.2 (C.2.1 _ wt_J0_1053) (fun _ h => h) hdg (kk _ (Or.inl rfl) H locs hP hS ls hl)
  · exact va_gets (C := "jdk/internal/util/Preconditions") C.1.1 C.1.2.1 h hS C.1.2.2.2 (C.2.1 _ wt_J0_1053) (fun _ h => h) hdg (kk _ (Or.inr ⟨t, rfl⟩) H locs hP hS ls hl)
theorem wm_callKi {y : MethodName} {cb : ByteArray} {nM h h1 idx n i : Nat} {rt : FieldType} {As stk : List Value} {out : Int32 × Mem} (C : Cx p s m args meth c cc own nL D cA A Pl F) (hi : i < 13) (hy : y.cls = RJ0) (hM : CtI l D cA A Pl y cb nM h rt (.ref (A (1000 + i)) :: As) M out) (hmi : MIV y cb nM (some rt) n) (hml : Cond.methodLink own idx y ∈ WT) (hn : As.length = n) (hst : stk = As.reverse ++ .ref (A (1000 + i)) :: st) (hh : h < h1) (hnM : nM ≤ 40) (hcat : (st.map fun v => v.category).sum ≤ 8) (hdg : decode cc pc = .ok (.invokevirtual idx, 3)) (kk : WM p l e (RM h1) s m args below meth c 0 0 Q D cA A Pl F nL out.2 (pc + 3) lv (.int out.1 :: st)) : WM p l e (RM h1) s m args below meth c 0 0 Q D cA A Pl F nL M pc lv stk := by
  subst hst
  intro H locs hP hS ls hl
  have hrec := vk_recv C.2.2.2.2.2.2.2.1 hi hS
  rw [show "java/lang/String" = y.cls from hy.symm] at hrec
  refine va_calli (va_runV (As := As) (rest := st) (nL := nL) ⟨C.1.1, C.1.2.1, C.1.2.2.1, C.1.2.2.2, C.2.1⟩ hM ⟨callB_of n C.2.1 (ws_in hmi.1) rfl rfl rfl (C.2.1 _ hmi.2.2.2.1) (C.2.1 _ hml) ⟨hmi.2.2.2.2.1.1, hmi.2.2.2.2.1.2, hmi.2.2.2.2.2⟩ ⟨by show h + 1 ≤ h1; omega, by show 8 + (nM + 11) + 64 * h ≤ 64 * h1; omega⟩, C.2.1 _ hmi.2.1, C.2.1 _ hmi.2.2.1⟩ ⟨pre_blind, hrec, fun U hU hW => ⟨rfl, by rw [hU]; exact hP, va_K.moved hW.alike C.2.2.2.1, dd_fa C.2.2.2.2.1, by rw [hU]; exact SO.narrow (SO.warm hW (C.2.2.2.2.2.kept hS.2.1)) (fa_F C.2.2.2.2.1)⟩⟩ rfl hn hl.1 rfl (lv_room hcat) hdg ⟨Nat.le_refl _, Nat.le_refl _⟩) hS (fun q _ hq => fa_F C.2.2.2.2.1 q hq) (fa_F C.2.2.2.2.1) (fun r u t H1 locs1 ht hvm hw hB hz hk hS1 => ?_)
  have hw1 : r = out.1 := hw
  subst hw1
  rw [ht] at hB
  exact kk H1 locs1 hB hS1 ls hl
end STRR
section STRC
variable {l : Launch} {D : va_G} {cA : Nat → ClassId} {A : Nat → Nat} {Pl : List Nat}
set_option maxHeartbeats 4000000 in
set_option maxRecDepth 100000 in
theorem c_J3_checkIndex {i n : Int32} {v : Value} (hv : v = .null ∨ ∃ t, v = .ref t) (h0 : ¬ i < 0) (h1 : i < n) (M : Mem) : CtI l D cA A Pl yJ3_checkIndex_8e157 cJ3_checkIndex_8e157 3 1 .int [.int i, .int n, v] M (i, M) := by
  have go : ∀ lv : List (Nat × Value), lv[0]? = some (0, .int i) → lv[1]? = some (1, .int n) → ∀ (p : Program) (e : Env) (s : State) (m : MethodId) (args : Array Value) (below : List Frame) (meth : Method) (c : Code), Cx p s m args meth c cJ3_checkIndex_8e157 yJ3_checkIndex_8e157.cls 3 D cA A Pl (FA A Pl) → meth.sig.returnType = some .int → WM p l e (RM 1) s m args below meth c 0 0 (MQ below (QI D cA A Pl (i, M)) args s 0 0 (FA A Pl)) D cA A Pl (FA A Pl) 3 M 0 lv [] := by
    intro lv h2 h3 p e s m args below meth c C hrt
    refine wm_iload_n 0 C dJ3_checkIndex.1 h2 ?_
    refine wm_if_lt (tgt := 9) C dJ3_checkIndex.2.1 (by decide) (fun c1 => absurd c1 h0) (fun _ => ?_)
    refine wm_iload_n 0 C dJ3_checkIndex.2.2.1 h2 ?_
    refine wm_iload_n 1 C dJ3_checkIndex.2.2.2.1 h3 ?_
    refine wm_icmp_lt (tgt := 16) C dJ3_checkIndex.2.2.2.2.1 (by decide) (fun _ => ?_) (fun c1 => absurd h1 c1)
    refine wm_iload_n 0 C dJ3_checkIndex.2.2.2.2.2.1 h2 ?_
    exact wm_iret C hrt rfl dJ3_checkIndex.2.2.2.2.2.2
  rcases hv with rfl | ⟨t, rfl⟩
  · exact ct_I (by decide) (Nat.le_of_ble_eq_true rfl) (fun p e s m args below meth c C hrt => go _ rfl rfl p e s m args below meth c C hrt)
  · exact ct_I (by decide) (Nat.le_of_ble_eq_true rfl) (fun p e s m args below meth c C hrt => go _ rfl rfl p e s m args below meth c C hrt)
set_option maxHeartbeats 4000000 in
set_option maxRecDepth 100000 in
theorem c_J0_checkIndex {i n : Int32} (h0 : ¬ i < 0) (h1 : i < n) (M : Mem) : CtV l D cA A Pl yJ0_checkIndex_df160 cJ0_checkIndex_df160 2 2 [.int i, .int n] M M := by
  refine ct_V (by decide) (Nat.le_of_ble_eq_true rfl) (fun p e s m args below meth c C hrt => ?_)
  refine wm_iload_n 0 C dJ0_checkIndex.1 rfl ?_
  refine wm_iload_n 1 C dJ0_checkIndex.2.1 rfl ?_
  refine wm_sfmt C rfl dJ0_checkIndex.2.2.1 (fun v hv => ?_)
  refine wm_callSi (As := [.int i, .int n, v]) C (c_J3_checkIndex hv h0 h1 M) mi_J3_checkIndex wt_J0_1059 rfl rfl (by decide) (by decide) (Nat.le_of_ble_eq_true rfl) dJ0_checkIndex.2.2.2.1 ?_
  refine wm_pop C dJ0_checkIndex.2.2.2.2.1 rfl ?_
  exact wm_vret C hrt rfl dJ0_checkIndex.2.2.2.2.2
set_option maxHeartbeats 4000000 in
set_option maxRecDepth 100000 in
theorem c_J1_charAt {i : Nat} {j : Int32} (hi : i < 13) (hj : inb j (slenN (1000 + i)) = true) (M : Mem) : CtI l D cA A Pl yJ1_charAt_3b067 cJ1_charAt_3b067 2 3 .char [.ref (A (1100 + i)), .int j] M (schar (1000 + i) j.toNatClampNeg, M) := by
  obtain ⟨e1, e2, e3, e4⟩ := str_len i hi
  obtain ⟨k, hk, rfl⟩ := inb_of hj (by omega)
  rw [nI_clamp (show k < 2 ^ 31 by omega)]
  obtain ⟨g1, g2⟩ := str_chr i hi k (by omega) (by omega)
  refine ct_I (by decide) (Nat.le_of_ble_eq_true rfl) (fun p e s m args below meth c C hrt => ?_)
  refine wm_iload_n 1 C dJ1_charAt.1 rfl ?_
  refine wm_aload_n 0 C dJ1_charAt.2.1 rfl ?_
  refine wm_sbln C hi dJ1_charAt.2.2.1 ?_
  refine wm_callSv (As := [.int (nI k), .int (Int32.ofNat (sLens.getD i 0))]) C (c_J0_checkIndex (nI_pos (by omega)) (show nI k < nI (sLens.getD i 0) from nI_lt (by omega) (by omega)) M) mi_J0_checkIndex wt_J1_9 rfl rfl (by decide) (by decide) (Nat.le_of_ble_eq_true rfl) dJ1_charAt.2.2.2.1 ?_
  refine wm_aload_n 0 C dJ1_charAt.2.2.2.2.1 rfl ?_
  refine wm_iload_n 1 C dJ1_charAt.2.2.2.2.2.1 rfl ?_
  refine wm_sbld C hi (by rw [e1]; exact hj) dJ1_charAt.2.2.2.2.2.2.1 ?_
  refine wm_sipush (v := 255) C dJ1_charAt.2.2.2.2.2.2.2.1 (by decide) ?_
  refine wm_iand C dJ1_charAt.2.2.2.2.2.2.2.2.1 ?_
  refine wm_i2c (v := schar (1000 + i) k) C dJ1_charAt.2.2.2.2.2.2.2.2.2.1 (by rw [nI_clamp (show k < 2 ^ 31 by omega)]; exact g1) ?_
  have hc : schar (1000 + i) k = nI ((strs.getD i []).getD k 0) := by unfold schar; rw [show 1000 + i - 1000 = i by omega]; rfl
  exact wm_zret C hrt (by rw [hc]; exact (pk_charN g2).1) rfl dJ1_charAt.2.2.2.2.2.2.2.2.2.2
set_option maxHeartbeats 4000000 in
set_option maxRecDepth 100000 in
theorem c_J0_coder {i : Nat} (hi : i < 13) (M : Mem) : CtI l D cA A Pl yJ0_coder_7d493 cJ0_coder_7d493 1 1 .byte [.ref (A (1000 + i))] M (0, M) := by
  refine ct_I (by decide) (Nat.le_of_ble_eq_true rfl) (fun p e s m args below meth c C hrt => ?_)
  refine wm_scmp C rfl dJ0_coder.1 ?_
  refine wm_if_eq (tgt := 13) C dJ0_coder.2.1 (by decide) (fun c1 => absurd c1 (by decide)) (fun _ => ?_)
  refine wm_aload_n 0 C dJ0_coder.2.2.1 rfl ?_
  refine wm_scod C hi rfl dJ0_coder.2.2.2.1 ?_
  refine wm_goto (tgt := 14) C dJ0_coder.2.2.2.2.1 (by decide) ?_
  exact wm_zret C hrt rfl rfl dJ0_coder.2.2.2.2.2
set_option maxHeartbeats 4000000 in
set_option maxRecDepth 100000 in
theorem c_J0_isLatin1 {i : Nat} (hi : i < 13) (M : Mem) : CtI l D cA A Pl yJ0_isLatin1_aae02 cJ0_isLatin1_aae02 1 1 .boolean [.ref (A (1000 + i))] M (1, M) := by
  refine ct_I (by decide) (Nat.le_of_ble_eq_true rfl) (fun p e s m args below meth c C hrt => ?_)
  refine wm_scmp C rfl dJ0_isLatin1.1 ?_
  refine wm_if_eq (tgt := 17) C dJ0_isLatin1.2.1 (by decide) (fun c1 => absurd c1 (by decide)) (fun _ => ?_)
  refine wm_aload_n 0 C dJ0_isLatin1.2.2.1 rfl ?_
  refine wm_scod C hi rfl dJ0_isLatin1.2.2.2.1 ?_
  refine wm_if_ne (tgt := 17) C dJ0_isLatin1.2.2.2.2.1 (by decide) (fun c1 => absurd rfl c1) (fun _ => ?_)
  refine wm_iconst (v := 1) C dJ0_isLatin1.2.2.2.2.2.1 (by decide) ?_
  refine wm_goto (tgt := 18) C dJ0_isLatin1.2.2.2.2.2.2.1 (by decide) ?_
  exact wm_zret C hrt rfl rfl dJ0_isLatin1.2.2.2.2.2.2.2
set_option maxHeartbeats 4000000 in
set_option maxRecDepth 100000 in
theorem c_J0_length {i : Nat} (hi : i < 13) (M : Mem) : CtI l D cA A Pl yJ0_length_8abf5 cJ0_length_8abf5 1 2 .int [.ref (A (1000 + i))] M (slen (1000 + i), M) := by
  refine ct_I (by decide) (Nat.le_of_ble_eq_true rfl) (fun p e s m args below meth c C hrt => ?_)
  refine wm_aload_n 0 C dJ0_length.1 rfl ?_
  refine wm_sval C hi rfl dJ0_length.2.1 ?_
  refine wm_sbln C hi dJ0_length.2.2.1 ?_
  refine wm_aload_n 0 C dJ0_length.2.2.2.1 rfl ?_
  refine wm_callKi (As := []) C hi rfl (c_J0_coder hi M) mi_J0_coder wt_J0_335 rfl rfl (by decide) (by decide) (Nat.le_of_ble_eq_true rfl) dJ0_length.2.2.2.2.1 ?_
  refine wm_ishr C dJ0_length.2.2.2.2.2.1 ?_
  exact wm_iret C hrt (by rw [← (str_len i hi).2.2.2]) dJ0_length.2.2.2.2.2.2
set_option maxHeartbeats 4000000 in
set_option maxRecDepth 100000 in
theorem c_J0_charAt {i : Nat} {j : Int32} (hi : i < 13) (hj : inb j (slenN (1000 + i)) = true) (M : Mem) : CtI l D cA A Pl yJ0_charAt_5068e cJ0_charAt_5068e 2 4 .char [.ref (A (1000 + i)), .int j] M (schar (1000 + i) j.toNatClampNeg, M) := by
  refine ct_I (by decide) (Nat.le_of_ble_eq_true rfl) (fun p e s m args below meth c C hrt => ?_)
  refine wm_aload_n 0 C dJ0_charAt.1 rfl ?_
  refine wm_callKi (As := []) C hi rfl (c_J0_isLatin1 hi M) mi_J0_isLatin1 wt_J0_492 rfl rfl (by decide) (by decide) (Nat.le_of_ble_eq_true rfl) dJ0_charAt.2.1 ?_
  refine wm_if_eq (tgt := 16) C dJ0_charAt.2.2.1 (by decide) (fun c1 => absurd (show (1 : Int32) = 0 from c1) (by decide)) (fun _ => ?_)
  refine wm_aload_n 0 C dJ0_charAt.2.2.2.1 rfl ?_
  refine wm_sval C hi rfl dJ0_charAt.2.2.2.2.1 ?_
  refine wm_iload_n 1 C dJ0_charAt.2.2.2.2.2.1 rfl ?_
  refine wm_callSi (As := [.ref (A (1100 + i)), .int j]) C (c_J1_charAt hi hj M) mi_J1_charAt wt_J0_495 rfl rfl (by decide) (by decide) (Nat.le_of_ble_eq_true rfl) dJ0_charAt.2.2.2.2.2.2.1 ?_
  obtain ⟨e1, e2, e3, e4⟩ := str_len i hi
  obtain ⟨k, hk, rfl⟩ := inb_of hj (by omega)
  obtain ⟨g1, g2⟩ := str_chr i hi k (by omega) (by omega)
  have hc : schar (1000 + i) (nI k).toNatClampNeg = nI ((strs.getD i []).getD k 0) := by rw [nI_clamp (show k < 2 ^ 31 by omega)]; unfold schar; rw [show 1000 + i - 1000 = i by omega]; rfl
  exact wm_zret C hrt (by rw [hc]; exact (pk_charN g2).1) rfl dJ0_charAt.2.2.2.2.2.2.2
end STRC
section STRW
variable {p : Program} {l : Launch} {e : Env} {s : State} {m : MethodId} {args : Array Value} {below : List Frame} {meth : Method} {c : Code} {Q : State → Prop}
variable {cc : ByteArray} {own : String} {nL : Nat} {D : va_G} {cA : Nat → ClassId} {A : Nat → Nat} {Pl : List Nat} {F : Nat → Prop} {M : Mem} {pc : Nat} {lv : List (Nat × Value)} {st : List Value}
theorem wm_slen {h1 idx q : Nat} (C : Cx p s m args meth c cc own nL D cA A Pl F) (hq : isStr q = true) (hw : Cond.methodLink own idx yJ0_length_8abf5 ∈ WT) (hcat : (st.map fun v => v.category).sum ≤ 8) (hh : 8 ≤ h1) (hdg : decode cc pc = .ok (.invokevirtual idx, 3)) (kk : WM p l e (RM h1) s m args below meth c 0 0 Q D cA A Pl F nL M (pc + 3) lv (.int (slen q) :: st)) : WM p l e (RM h1) s m args below meth c 0 0 Q D cA A Pl F nL M pc lv (.ref (A q) :: st) := by
  obtain ⟨i, hi, rfl⟩ := isStr_of hq
  exact wm_callKi (As := []) C hi rfl (c_J0_length hi M) mi_J0_length hw rfl rfl (by omega) (by decide) hcat hdg kk
theorem wm_schar {h1 idx q : Nat} {i : Int32} (C : Cx p s m args meth c cc own nL D cA A Pl F) (hq : isStr q = true) (hi : inb i (slenN q) = true) (hw : Cond.methodLink own idx yJ0_charAt_5068e ∈ WT) (hcat : (st.map fun v => v.category).sum ≤ 8) (hh : 8 ≤ h1) (hdg : decode cc pc = .ok (.invokevirtual idx, 3)) (kk : WM p l e (RM h1) s m args below meth c 0 0 Q D cA A Pl F nL M (pc + 3) lv (.int (schar q i.toNatClampNeg) :: st)) : WM p l e (RM h1) s m args below meth c 0 0 Q D cA A Pl F nL M pc lv (.int i :: .ref (A q) :: st) := by
  obtain ⟨k, hk, rfl⟩ := isStr_of hq
  exact wm_callKi (As := [.int i]) C hk rfl (c_J0_charAt hk hi M) mi_J0_charAt hw rfl rfl (by omega) (by decide) hcat hdg kk
end STRW
