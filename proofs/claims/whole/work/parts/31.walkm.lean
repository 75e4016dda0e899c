/-! WALKS: the reference -/
set_option maxHeartbeats 4000000 in
set_option maxRecDepth 100000 in
theorem c_X9_in {l : Launch} {D : va_G} {cA : Nat → ClassId} {A : Nat → Nat} {Pl : List Nat} (hPl : ∀ q, 100 ≤ q → q < 118 → q ∈ Pl) (w0 : Int64) (w2 : Int64) (w4 : Int64) (M : Mem) (out : (Int32 × Mem)) (ho : f_X9_in w0 w2 w4 M = some out) : CtI l D cA A Pl yX9_in cX9_in 6 1 .boolean [.long w0, .long w2, .long w4] M out := by
  refine ct_I (by decide) (Nat.le_of_ble_eq_true rfl) (fun p e s m args below meth c C hrt => ?_)
  have hf := ho
  unfold f_X9_in at hf
  refine wm_lload_n 0 C dX9_in_g0.1 rfl ?_
  refine wm_lload_n 1 C dX9_in_g0.2.1 rfl ?_
  refine wm_lcmp C dX9_in_g0.2.2.1 ?_
  refine wm_if_lt (tgt := 17) C dX9_in_g0.2.2.2.1 (by decide) (fun c1 => ?_) (fun c1 => ?_)
  · have hf := (if_pos c1).symm.trans hf
    refine wm_iconst (v := 0) C dX9_in_g0.2.2.2.2.2.2.2.2.2.2.1 (by decide) ?_
    exact wm_zret C hrt rfl hf dX9_in_g0.2.2.2.2.2.2.2.2.2.2.2
  · have hf := (if_neg c1).symm.trans hf
    refine wm_lload_n 0 C dX9_in_g0.2.2.2.2.1 rfl ?_
    refine wm_lload 2 C dX9_in_g0.2.2.2.2.2.1 rfl ?_
    refine wm_lcmp C dX9_in_g0.2.2.2.2.2.2.1 ?_
    refine wm_if_gt (tgt := 17) C dX9_in_g0.2.2.2.2.2.2.2.1 (by decide) (fun c2 => ?_) (fun c2 => ?_)
    · have hf := (if_pos c2).symm.trans hf
      refine wm_iconst (v := 0) C dX9_in_g0.2.2.2.2.2.2.2.2.2.2.1 (by decide) ?_
      exact wm_zret C hrt rfl hf dX9_in_g0.2.2.2.2.2.2.2.2.2.2.2
    · have hf := (if_neg c2).symm.trans hf
      refine wm_iconst (v := 1) C dX9_in_g0.2.2.2.2.2.2.2.2.1 (by decide) ?_
      refine wm_goto (tgt := 18) C dX9_in_g0.2.2.2.2.2.2.2.2.2.1 (by decide) ?_
      exact wm_zret C hrt rfl hf dX9_in_g0.2.2.2.2.2.2.2.2.2.2.2
set_option maxHeartbeats 4000000 in
set_option maxRecDepth 100000 in
theorem c_X9_within {l : Launch} {D : va_G} {cA : Nat → ClassId} {A : Nat → Nat} {Pl : List Nat} (hPl : ∀ q, 100 ≤ q → q < 118 → q ∈ Pl) (v0 : Int32) (v1 : Int32) (v2 : Int32) (M : Mem) (out : (Int32 × Mem)) (ho : f_X9_within v0 v1 v2 M = some out) : CtI l D cA A Pl yX9_within cX9_within 3 1 .int [.int v0, .int v1, .int v2] M out := by
  refine ct_I (by decide) (Nat.le_of_ble_eq_true rfl) (fun p e s m args below meth c C hrt => ?_)
  have hf := ho
  unfold f_X9_within at hf
  refine wm_iload_n 0 C dX9_within_g0.1 rfl ?_
  refine wm_iload_n 1 C dX9_within_g0.2.1 rfl ?_
  refine wm_icmp_ge (tgt := 9) C dX9_within_g0.2.2.1 (by decide) (fun c1 => ?_) (fun c1 => ?_)
  · have hf := (if_pos c1).symm.trans hf
    refine wm_iload_n 0 C dX9_within_g0.2.2.2.2.2.1 rfl ?_
    refine wm_iload_n 2 C dX9_within_g0.2.2.2.2.2.2.1 rfl ?_
    refine wm_icmp_le (tgt := 18) C dX9_within_g0.2.2.2.2.2.2.2.1 (by decide) (fun c2 => ?_) (fun c2 => ?_)
    · have hf := (if_pos c2).symm.trans hf
      refine wm_iload_n 0 C dX9_within_g0.2.2.2.2.2.2.2.2.2.2.1 rfl ?_
      exact wm_iret C hrt hf dX9_within_g0.2.2.2.2.2.2.2.2.2.2.2
    · have hf := (if_neg c2).symm.trans hf
      refine wm_iload_n 2 C dX9_within_g0.2.2.2.2.2.2.2.2.1 rfl ?_
      refine wm_goto (tgt := 19) C dX9_within_g0.2.2.2.2.2.2.2.2.2.1 (by decide) ?_
      exact wm_iret C hrt hf dX9_within_g0.2.2.2.2.2.2.2.2.2.2.2
  · have hf := (if_neg c1).symm.trans hf
    refine wm_iload_n 1 C dX9_within_g0.2.2.2.1 rfl ?_
    refine wm_goto (tgt := 19) C dX9_within_g0.2.2.2.2.1 (by decide) ?_
    exact wm_iret C hrt hf dX9_within_g0.2.2.2.2.2.2.2.2.2.2.2
set_option maxHeartbeats 4000000 in
set_option maxRecDepth 100000 in
theorem c_X9_spell {l : Launch} {D : va_G} {cA : Nat → ClassId} {A : Nat → Nat} {Pl : List Nat} (hPl : ∀ q, 100 ≤ q → q < 118 → q ∈ Pl) (v1 : Int32) (v2 : Int32) (v3 : Int32) (v4 : Int32) (v5 : Int32) (v6 : Int32) (v7 : Int32) (v8 : Int32) (v9 : Int32) (M : Mem) (out : Mem) (ho : f_X9_spell v1 v2 v3 v4 v5 v6 v7 v8 v9 M = some out) : CtV l D cA A Pl yX9_spell cX9_spell 10 1 [.ref (A 100), .int v1, .int v2, .int v3, .int v4, .int v5, .int v6, .int v7, .int v8, .int v9] M out := by
  refine ct_V (by decide) (Nat.le_of_ble_eq_true rfl) (fun p e s m args below meth c C hrt => ?_)
  have hf := ho
  unfold f_X9_spell at hf
  refine wm_aload_n 0 C dX9_spell_g0.1 rfl ?_
  refine wm_get (ci := 8) (k := 1) (v := .ref (A 101)) C (hPl 100 (by decide) (by decide)) rfl rfl (by decide) wt_X9_13 iwX9 rfl dX9_spell_g0.2.1 ?_
  refine wm_iload_n 1 C dX9_spell_g0.2.2.1 rfl ?_
  refine wm_iload_n 2 C dX9_spell_g0.2.2.2.1 rfl ?_
  obtain ⟨h1, hf⟩ := ckd hf
  refine wm_iast (n := 960) (j := (v1).toNatClampNeg) (x := v2) C (hPl 101 (by decide) (by decide)) rfl rfl rfl h1 rfl dX9_spell_g0.2.2.2.2.1 ?_
  refine wm_aload_n 0 C dX9_spell_g0.2.2.2.2.2.1 rfl ?_
  refine wm_get (ci := 8) (k := 1) (v := .ref (A 101)) C (hPl 100 (by decide) (by decide)) rfl rfl (by decide) wt_X9_13 iwX9 (by first | rfl | simp [fld, mu, upd, mcp]) dX9_spell_g0.2.2.2.2.2.2.1 ?_
  refine wm_iload_n 1 C dX9_spell_g0.2.2.2.2.2.2.2.1 rfl ?_
  refine wm_iconst (v := 1) C dX9_spell_g0.2.2.2.2.2.2.2.2.1 (by decide) ?_
  refine wm_iadd C dX9_spell_g0.2.2.2.2.2.2.2.2.2.1 ?_
  refine wm_iload_n 3 C dX9_spell_g0.2.2.2.2.2.2.2.2.2.2.1 rfl ?_
  obtain ⟨h2, hf⟩ := ckd hf
  refine wm_iast (n := 960) (j := ((v1 + 1)).toNatClampNeg) (x := v3) C (hPl 101 (by decide) (by decide)) rfl rfl rfl h2 rfl dX9_spell_g0.2.2.2.2.2.2.2.2.2.2.2 ?_
  refine wm_aload_n 0 C dX9_spell_g1.1 rfl ?_
  refine wm_get (ci := 8) (k := 1) (v := .ref (A 101)) C (hPl 100 (by decide) (by decide)) rfl rfl (by decide) wt_X9_13 iwX9 (by first | rfl | simp [fld, mu, upd, mcp]) dX9_spell_g1.2.1 ?_
  refine wm_iload_n 1 C dX9_spell_g1.2.2.1 rfl ?_
  refine wm_iconst (v := 2) C dX9_spell_g1.2.2.2.1 (by decide) ?_
  refine wm_iadd C dX9_spell_g1.2.2.2.2.1 ?_
  refine wm_iload 4 C dX9_spell_g1.2.2.2.2.2.1 rfl ?_
  obtain ⟨h3, hf⟩ := ckd hf
  refine wm_iast (n := 960) (j := ((v1 + 2)).toNatClampNeg) (x := v4) C (hPl 101 (by decide) (by decide)) rfl rfl rfl h3 rfl dX9_spell_g1.2.2.2.2.2.2.1 ?_
  refine wm_aload_n 0 C dX9_spell_g1.2.2.2.2.2.2.2.1 rfl ?_
  refine wm_get (ci := 8) (k := 1) (v := .ref (A 101)) C (hPl 100 (by decide) (by decide)) rfl rfl (by decide) wt_X9_13 iwX9 (by first | rfl | simp [fld, mu, upd, mcp]) dX9_spell_g1.2.2.2.2.2.2.2.2.1 ?_
  refine wm_iload_n 1 C dX9_spell_g1.2.2.2.2.2.2.2.2.2.1 rfl ?_
  refine wm_iconst (v := 3) C dX9_spell_g1.2.2.2.2.2.2.2.2.2.2.1 (by decide) ?_
  refine wm_iadd C dX9_spell_g1.2.2.2.2.2.2.2.2.2.2.2 ?_
  refine wm_iload 5 C dX9_spell_g2.1 rfl ?_
  obtain ⟨h4, hf⟩ := ckd hf
  refine wm_iast (n := 960) (j := ((v1 + 3)).toNatClampNeg) (x := v5) C (hPl 101 (by decide) (by decide)) rfl rfl rfl h4 rfl dX9_spell_g2.2.1 ?_
  refine wm_aload_n 0 C dX9_spell_g2.2.2.1 rfl ?_
  refine wm_get (ci := 8) (k := 1) (v := .ref (A 101)) C (hPl 100 (by decide) (by decide)) rfl rfl (by decide) wt_X9_13 iwX9 (by first | rfl | simp [fld, mu, upd, mcp]) dX9_spell_g2.2.2.2.1 ?_
  refine wm_iload_n 1 C dX9_spell_g2.2.2.2.2.1 rfl ?_
  refine wm_iconst (v := 4) C dX9_spell_g2.2.2.2.2.2.1 (by decide) ?_
  refine wm_iadd C dX9_spell_g2.2.2.2.2.2.2.1 ?_
  refine wm_iload 6 C dX9_spell_g2.2.2.2.2.2.2.2.1 rfl ?_
  obtain ⟨h5, hf⟩ := ckd hf
  refine wm_iast (n := 960) (j := ((v1 + 4)).toNatClampNeg) (x := v6) C (hPl 101 (by decide) (by decide)) rfl rfl rfl h5 rfl dX9_spell_g2.2.2.2.2.2.2.2.2.1 ?_
  refine wm_aload_n 0 C dX9_spell_g2.2.2.2.2.2.2.2.2.2.1 rfl ?_
  refine wm_get (ci := 8) (k := 1) (v := .ref (A 101)) C (hPl 100 (by decide) (by decide)) rfl rfl (by decide) wt_X9_13 iwX9 (by first | rfl | simp [fld, mu, upd, mcp]) dX9_spell_g2.2.2.2.2.2.2.2.2.2.2.1 ?_
  refine wm_iload_n 1 C dX9_spell_g2.2.2.2.2.2.2.2.2.2.2.2 rfl ?_
  refine wm_iconst (v := 5) C dX9_spell_g3.1 (by decide) ?_
  refine wm_iadd C dX9_spell_g3.2.1 ?_
  refine wm_iload 7 C dX9_spell_g3.2.2.1 rfl ?_
  obtain ⟨h6, hf⟩ := ckd hf
  refine wm_iast (n := 960) (j := ((v1 + 5)).toNatClampNeg) (x := v7) C (hPl 101 (by decide) (by decide)) rfl rfl rfl h6 rfl dX9_spell_g3.2.2.2.1 ?_
  refine wm_aload_n 0 C dX9_spell_g3.2.2.2.2.1 rfl ?_
  refine wm_get (ci := 8) (k := 1) (v := .ref (A 101)) C (hPl 100 (by decide) (by decide)) rfl rfl (by decide) wt_X9_13 iwX9 (by first | rfl | simp [fld, mu, upd, mcp]) dX9_spell_g3.2.2.2.2.2.1 ?_
  refine wm_iload_n 1 C dX9_spell_g3.2.2.2.2.2.2.1 rfl ?_
  refine wm_bipush (v := 6) C dX9_spell_g3.2.2.2.2.2.2.2.1 (by decide) ?_
  refine wm_iadd C dX9_spell_g3.2.2.2.2.2.2.2.2.1 ?_
  refine wm_iload 8 C dX9_spell_g3.2.2.2.2.2.2.2.2.2.1 rfl ?_
  obtain ⟨h7, hf⟩ := ckd hf
  refine wm_iast (n := 960) (j := ((v1 + 6)).toNatClampNeg) (x := v8) C (hPl 101 (by decide) (by decide)) rfl rfl rfl h7 rfl dX9_spell_g3.2.2.2.2.2.2.2.2.2.2.1 ?_
  refine wm_aload_n 0 C dX9_spell_g3.2.2.2.2.2.2.2.2.2.2.2 rfl ?_
  refine wm_get (ci := 8) (k := 1) (v := .ref (A 101)) C (hPl 100 (by decide) (by decide)) rfl rfl (by decide) wt_X9_13 iwX9 (by first | rfl | simp [fld, mu, upd, mcp]) dX9_spell_g4.1 ?_
  refine wm_iload_n 1 C dX9_spell_g4.2.1 rfl ?_
  refine wm_bipush (v := 7) C dX9_spell_g4.2.2.1 (by decide) ?_
  refine wm_iadd C dX9_spell_g4.2.2.2.1 ?_
  refine wm_iload 9 C dX9_spell_g4.2.2.2.2.1 rfl ?_
  obtain ⟨h8, hf⟩ := ckd hf
  refine wm_iast (n := 960) (j := ((v1 + 7)).toNatClampNeg) (x := v9) C (hPl 101 (by decide) (by decide)) rfl rfl rfl h8 rfl dX9_spell_g4.2.2.2.2.2.1 ?_
  exact wm_vret C hrt hf dX9_spell_g4.2.2.2.2.2.2
set_option maxHeartbeats 4000000 in
set_option maxRecDepth 100000 in
theorem c_X9_isDish {l : Launch} {D : va_G} {cA : Nat → ClassId} {A : Nat → Nat} {Pl : List Nat} (hPl : ∀ q, 100 ≤ q → q < 118 → q ∈ Pl) (v1 : Int32) (M : Mem) (out : (Int32 × Mem)) (ho : f_X9_isDish v1 M = some out) : CtI l D cA A Pl yX9_isDish cX9_isDish 2 2 .boolean [.ref (A 100), .int v1] M out := by
  refine ct_I (by decide) (Nat.le_of_ble_eq_true rfl) (fun p e s m args below meth c C hrt => ?_)
  have hf := ho
  unfold f_X9_isDish at hf
  refine wm_iload_n 1 C dX9_isDish_g0.1 rfl ?_
  refine wm_i2l C dX9_isDish_g0.2.1 ?_
  refine wm_lconst (v := 0) C dX9_isDish_g0.2.2.1 (by decide) ?_
  refine wm_aload_n 0 C dX9_isDish_g0.2.2.2.1 rfl ?_
  refine wm_get (ci := 8) (k := 12) (v := .int (M 100 12)) C (hPl 100 (by decide) (by decide)) rfl rfl (by decide) wt_X9_76 iwX9 rfl dX9_isDish_g0.2.2.2.2.1 ?_
  refine wm_iconst (v := 1) C dX9_isDish_g0.2.2.2.2.2.1 (by decide) ?_
  refine wm_isub C dX9_isDish_g0.2.2.2.2.2.2.1 ?_
  refine wm_i2l C dX9_isDish_g0.2.2.2.2.2.2.2.1 ?_
  obtain ⟨o1, ho2, hf⟩ := bnd hf
  refine wm_callSi (As := [.long ((v1 : Int32).toInt64), .long 0, .long ((((M 100 12) - 1) : Int32).toInt64)]) C (c_X9_in hPl _ _ _ _ _ ho2) mi_X9_in wt_X9_79 rfl rfl (by decide) (by decide) (Nat.le_of_ble_eq_true rfl) dX9_isDish_g0.2.2.2.2.2.2.2.2.1 ?_
  obtain ⟨h3, hf⟩ := ckd hf
  exact wm_zret C hrt (zb_n h3) hf dX9_isDish_g0.2.2.2.2.2.2.2.2.2
set_option maxHeartbeats 4000000 in
set_option maxRecDepth 100000 in
theorem c_X9_isKitchen {l : Launch} {D : va_G} {cA : Nat → ClassId} {A : Nat → Nat} {Pl : List Nat} (hPl : ∀ q, 100 ≤ q → q < 118 → q ∈ Pl) (v0 : Int32) (M : Mem) (out : (Int32 × Mem)) (ho : f_X9_isKitchen v0 M = some out) : CtI l D cA A Pl yX9_isKitchen cX9_isKitchen 1 2 .boolean [.int v0] M out := by
  refine ct_I (by decide) (Nat.le_of_ble_eq_true rfl) (fun p e s m args below meth c C hrt => ?_)
  have hf := ho
  unfold f_X9_isKitchen at hf
  refine wm_iload_n 0 C dX9_isKitchen_g0.1 rfl ?_
  refine wm_i2l C dX9_isKitchen_g0.2.1 ?_
  refine wm_lconst (v := 0) C dX9_isKitchen_g0.2.2.1 (by decide) ?_
  refine wm_lconst (v := 1) C dX9_isKitchen_g0.2.2.2.1 (by decide) ?_
  obtain ⟨o1, ho2, hf⟩ := bnd hf
  refine wm_callSi (As := [.long ((v0 : Int32).toInt64), .long 0, .long 1]) C (c_X9_in hPl _ _ _ _ _ ho2) mi_X9_in wt_X9_79 rfl rfl (by decide) (by decide) (Nat.le_of_ble_eq_true rfl) dX9_isKitchen_g0.2.2.2.2.1 ?_
  obtain ⟨h3, hf⟩ := ckd hf
  exact wm_zret C hrt (zb_n h3) hf dX9_isKitchen_g0.2.2.2.2.2
set_option maxHeartbeats 4000000 in
set_option maxRecDepth 100000 in
theorem c_X9_isPart {l : Launch} {D : va_G} {cA : Nat → ClassId} {A : Nat → Nat} {Pl : List Nat} (hPl : ∀ q, 100 ≤ q → q < 118 → q ∈ Pl) (v0 : Int32) (M : Mem) (out : (Int32 × Mem)) (ho : f_X9_isPart v0 M = some out) : CtI l D cA A Pl yX9_isPart cX9_isPart 1 2 .boolean [.int v0] M out := by
  refine ct_I (by decide) (Nat.le_of_ble_eq_true rfl) (fun p e s m args below meth c C hrt => ?_)
  have hf := ho
  unfold f_X9_isPart at hf
  refine wm_iload_n 0 C dX9_isPart_g0.1 rfl ?_
  refine wm_i2l C dX9_isPart_g0.2.1 ?_
  refine wm_lconst (v := 0) C dX9_isPart_g0.2.2.1 (by decide) ?_
  refine wm_ldc2 (v := 5) C wt_X9_83 dX9_isPart_g0.2.2.2.1 ?_
  obtain ⟨o1, ho2, hf⟩ := bnd hf
  refine wm_callSi (As := [.long ((v0 : Int32).toInt64), .long 0, .long 5]) C (c_X9_in hPl _ _ _ _ _ ho2) mi_X9_in wt_X9_79 rfl rfl (by decide) (by decide) (Nat.le_of_ble_eq_true rfl) dX9_isPart_g0.2.2.2.2.1 ?_
  obtain ⟨h3, hf⟩ := ckd hf
  exact wm_zret C hrt (zb_n h3) hf dX9_isPart_g0.2.2.2.2.2
set_option maxHeartbeats 4000000 in
set_option maxRecDepth 100000 in
theorem c_X9_isOf {l : Launch} {D : va_G} {cA : Nat → ClassId} {A : Nat → Nat} {Pl : List Nat} (hPl : ∀ q, 100 ≤ q → q < 118 → q ∈ Pl) (v1 : Int32) (v2 : Int32) (M : Mem) (out : (Int32 × Mem)) (ho : f_X9_isOf v1 v2 M = some out) : CtI l D cA A Pl yX9_isOf cX9_isOf 3 3 .boolean [.ref (A 100), .int v1, .int v2] M out := by
  refine ct_I (by decide) (Nat.le_of_ble_eq_true rfl) (fun p e s m args below meth c C hrt => ?_)
  have hb50 : ∀ (v2 : Int32) (M : Mem), f_X9_isOf_b50 v2 M = some out → WM p l e (RM 3) s m args below meth c 0 0 (MQ below (QI D cA A Pl out) args s 0 0 (FA A Pl)) D cA A Pl (FA A Pl) 3 M 50 [(2, .int v2)] [] := by
    intro v2 M hf
    unfold f_X9_isOf_b50 at hf
    refine wm_iload_n 0 C dX9_isOf_g2.2.2.2.2.1 rfl ?_
    obtain ⟨o14, ho15, hf⟩ := bnd hf
    refine wm_callSi (As := [.int v2]) C (c_X9_isKitchen hPl _ _ _ ho15) mi_X9_isKitchen wt_X9_91 rfl rfl (by decide) (by decide) (Nat.le_of_ble_eq_true rfl) dX9_isOf_g2.2.2.2.2.2.1 ?_
    refine wm_goto (tgt := 62) C dX9_isOf_g2.2.2.2.2.2.2.1 (by decide) ?_
    obtain ⟨h16, hf⟩ := ckd hf
    exact wm_zret C hrt (zb_n h16) hf dX9_isOf_g2.2.2.2.2.2.2.2.2.2.2
  have hf := ho
  unfold f_X9_isOf at hf
  refine wm_iload_n 1 C dX9_isOf_g0.1 rfl ?_
  refine wm_if_ne (tgt := 6) C dX9_isOf_g0.2.1 (by decide) (fun c1 => ?_) (fun c1 => ?_)
  · have hf := (if_neg c1).symm.trans hf
    refine wm_iload_n 1 C dX9_isOf_g0.2.2.2.2.1 rfl ?_
    refine wm_iconst (v := 1) C dX9_isOf_g0.2.2.2.2.2.1 (by decide) ?_
    refine wm_icmp_ne (tgt := 39) C dX9_isOf_g0.2.2.2.2.2.2.1 (by decide) (fun c2 => ?_) (fun c2 => ?_)
    · have hf := (if_neg c2).symm.trans hf
      refine wm_iload_n 1 C dX9_isOf_g1.2.2.2.2.2.2.2.2.2.2.1 rfl ?_
      refine wm_iconst (v := 2) C dX9_isOf_g1.2.2.2.2.2.2.2.2.2.2.2 (by decide) ?_
      refine wm_icmp_eq (tgt := 50) C dX9_isOf_g2.1 (by decide) (fun c3 => ?_) (fun c3 => ?_)
      · have hf := (if_pos c3).symm.trans hf
        refine wm_pick [2] rfl ?_
        exact hb50 _ _ hf
      · have hf := (if_neg c3).symm.trans hf
        refine wm_iload_n 1 C dX9_isOf_g2.2.1 rfl ?_
        refine wm_bipush (v := 8) C dX9_isOf_g2.2.2.1 (by decide) ?_
        refine wm_icmp_ne (tgt := 57) C dX9_isOf_g2.2.2.2.1 (by decide) (fun c4 => ?_) (fun c4 => ?_)
        · have hf := (if_neg c4).symm.trans hf
          refine wm_aload_n 0 C dX9_isOf_g2.2.2.2.2.2.2.2.1 rfl ?_
          refine wm_iload_n 2 C dX9_isOf_g2.2.2.2.2.2.2.2.2.1 rfl ?_
          obtain ⟨o5, ho6, hf⟩ := bnd hf
          refine wm_callVi (As := [.int v2]) (ci := 8) C (c_X9_isDish hPl _ _ _ ho6) mi_X9_isDish wt_X9_94 (hPl 100 (by decide) (by decide)) rfl rfl rfl rfl (by decide) (by decide) (Nat.le_of_ble_eq_true rfl) dX9_isOf_g2.2.2.2.2.2.2.2.2.2.1 ?_
          obtain ⟨h7, hf⟩ := ckd hf
          exact wm_zret C hrt (zb_n h7) hf dX9_isOf_g2.2.2.2.2.2.2.2.2.2.2
        · have hf := (if_pos c4).symm.trans hf
          refine wm_pick [2] rfl ?_
          exact hb50 _ _ hf
    · have hf := (if_pos c2).symm.trans hf
      refine wm_iload_n 2 C dX9_isOf_g0.2.2.2.2.2.2.2.1 rfl ?_
      refine wm_i2l C dX9_isOf_g0.2.2.2.2.2.2.2.2.1 ?_
      refine wm_lconst (v := 0) C dX9_isOf_g0.2.2.2.2.2.2.2.2.2.1 (by decide) ?_
      refine wm_ldc2 (v := 15) C wt_X9_85 dX9_isOf_g0.2.2.2.2.2.2.2.2.2.2.1 ?_
      obtain ⟨o8, ho9, hf⟩ := bnd hf
      refine wm_callSi (As := [.long ((v2 : Int32).toInt64), .long 0, .long 15]) C (c_X9_in hPl _ _ _ _ _ ho9) mi_X9_in wt_X9_79 rfl rfl (by decide) (by decide) (Nat.le_of_ble_eq_true rfl) dX9_isOf_g0.2.2.2.2.2.2.2.2.2.2.2 ?_
      refine wm_if_eq (tgt := 37) C dX9_isOf_g1.1 (by decide) (fun c10 => ?_) (fun c10 => ?_)
      · have hf := (if_pos c10).symm.trans hf
        refine wm_iconst (v := 0) C dX9_isOf_g1.2.2.2.2.2.2.2.2.1 (by decide) ?_
        exact wm_zret C hrt rfl hf dX9_isOf_g1.2.2.2.2.2.2.2.2.2.1
      · have hf := (if_neg c10).symm.trans hf
        refine wm_iload_n 2 C dX9_isOf_g1.2.1 rfl ?_
        refine wm_bipush (v := 10) C dX9_isOf_g1.2.2.1 (by decide) ?_
        refine wm_irem C (by decide) dX9_isOf_g1.2.2.2.1 ?_
        obtain ⟨o11, ho12, hf⟩ := bnd hf
        refine wm_callSi (As := [.int (jrem v2 10)]) C (c_X9_isPart hPl _ _ _ ho12) mi_X9_isPart wt_X9_87 rfl rfl (by decide) (by decide) (Nat.le_of_ble_eq_true rfl) dX9_isOf_g1.2.2.2.2.1 ?_
        refine wm_if_eq (tgt := 37) C dX9_isOf_g1.2.2.2.2.2.1 (by decide) (fun c13 => ?_) (fun c13 => ?_)
        · have hf := (if_pos c13).symm.trans hf
          refine wm_iconst (v := 0) C dX9_isOf_g1.2.2.2.2.2.2.2.2.1 (by decide) ?_
          exact wm_zret C hrt rfl hf dX9_isOf_g1.2.2.2.2.2.2.2.2.2.1
        · have hf := (if_neg c13).symm.trans hf
          refine wm_iconst (v := 1) C dX9_isOf_g1.2.2.2.2.2.2.1 (by decide) ?_
          refine wm_goto (tgt := 38) C dX9_isOf_g1.2.2.2.2.2.2.2.1 (by decide) ?_
          exact wm_zret C hrt rfl hf dX9_isOf_g1.2.2.2.2.2.2.2.2.2.1
  · have hf := (if_pos c1).symm.trans hf
    refine wm_iconst (v := 1) C dX9_isOf_g0.2.2.1 (by decide) ?_
    exact wm_zret C hrt rfl hf dX9_isOf_g0.2.2.2.1
set_option maxHeartbeats 4000000 in
set_option maxRecDepth 100000 in
theorem c_X9_mostOf {l : Launch} {D : va_G} {cA : Nat → ClassId} {A : Nat → Nat} {Pl : List Nat} (hPl : ∀ q, 100 ≤ q → q < 118 → q ∈ Pl) (v0 : Int32) (M : Mem) (out : (Int32 × Mem)) (ho : f_X9_mostOf v0 M = some out) : CtI l D cA A Pl yX9_mostOf cX9_mostOf 1 1 .int [.int v0] M out := by
  refine ct_I (by decide) (Nat.le_of_ble_eq_true rfl) (fun p e s m args below meth c C hrt => ?_)
  have hf := ho
  unfold f_X9_mostOf at hf
  refine wm_iload_n 0 C dX9_mostOf_g0.1 rfl ?_
  refine wm_if_ne (tgt := 10) C dX9_mostOf_g0.2.1 (by decide) (fun c1 => ?_) (fun c1 => ?_)
  · have hf := (if_neg c1).symm.trans hf
    refine wm_iload_n 0 C dX9_mostOf_g0.2.2.2.2.1 rfl ?_
    refine wm_iconst (v := 3) C dX9_mostOf_g0.2.2.2.2.2.1 (by decide) ?_
    refine wm_icmp_ne (tgt := 20) C dX9_mostOf_g0.2.2.2.2.2.2.1 (by decide) (fun c2 => ?_) (fun c2 => ?_)
    · have hf := (if_neg c2).symm.trans hf
      refine wm_iload_n 0 C dX9_mostOf_g0.2.2.2.2.2.2.2.2.2.1 rfl ?_
      refine wm_iconst (v := 4) C dX9_mostOf_g0.2.2.2.2.2.2.2.2.2.2.1 (by decide) ?_
      refine wm_icmp_ne (tgt := 30) C dX9_mostOf_g0.2.2.2.2.2.2.2.2.2.2.2 (by decide) (fun c3 => ?_) (fun c3 => ?_)
      · have hf := (if_neg c3).symm.trans hf
        refine wm_bipush (v := 99) C dX9_mostOf_g1.2.2.1 (by decide) ?_
        exact wm_iret C hrt hf dX9_mostOf_g1.2.2.2
      · have hf := (if_pos c3).symm.trans hf
        refine wm_ldc (v := 999999) C wt_X9_97 dX9_mostOf_g1.1 ?_
        refine wm_goto (tgt := 32) C dX9_mostOf_g1.2.1 (by decide) ?_
        exact wm_iret C hrt hf dX9_mostOf_g1.2.2.2
    · have hf := (if_pos c2).symm.trans hf
      refine wm_bipush (v := 9) C dX9_mostOf_g0.2.2.2.2.2.2.2.1 (by decide) ?_
      refine wm_goto (tgt := 32) C dX9_mostOf_g0.2.2.2.2.2.2.2.2.1 (by decide) ?_
      exact wm_iret C hrt hf dX9_mostOf_g1.2.2.2
  · have hf := (if_pos c1).symm.trans hf
    refine wm_sipush (v := 999) C dX9_mostOf_g0.2.2.1 (by decide) ?_
    refine wm_goto (tgt := 32) C dX9_mostOf_g0.2.2.2.1 (by decide) ?_
    exact wm_iret C hrt hf dX9_mostOf_g1.2.2.2
set_option maxHeartbeats 4000000 in
set_option maxRecDepth 100000 in
theorem c_X9_needsOf {l : Launch} {D : va_G} {cA : Nat → ClassId} {A : Nat → Nat} {Pl : List Nat} (hPl : ∀ q, 100 ≤ q → q < 118 → q ∈ Pl) (v1 : Int32) (v2 : Int32) (M : Mem) (out : (Int32 × Mem)) (ho : f_X9_needsOf v1 v2 M = some out) : CtI l D cA A Pl yX9_needsOf cX9_needsOf 5 1 .int [.ref (A 100), .int v1, .int v2] M out := by
  refine ct_I (by decide) (Nat.le_of_ble_eq_true rfl) (fun p e s m args below meth c C hrt => ?_)
  have hl14 : ∀ (n : Nat), ∀ (v2 : Int32) (v3 : Int32) (v4 : Int32) (M : Mem), f_X9_needsOf_l14 n v2 v3 v4 M = some out → WM p l e (RM 1) s m args below meth c 0 0 (MQ below (QI D cA A Pl out) args s 0 0 (FA A Pl)) D cA A Pl (FA A Pl) 5 M 14 [(2, .int v2), (3, .int v3), (4, .int v4)] [] := by
    intro n
    induction n with
    | zero => intro v2 v3 v4 M hf; rw [f_X9_needsOf_l14] at hf; cases hf
    | succ n hr =>
      intro v2 v3 v4 M hf
      rw [f_X9_needsOf_l14] at hf
      refine wm_iload 2 C dX9_needsOf_g0.2.2.2.2.2.2.2.2.2.2.2 rfl ?_
      refine wm_iload_n 0 C dX9_needsOf_g1.1 rfl ?_
      refine wm_icmp_le (tgt := 31) C dX9_needsOf_g1.2.1 (by decide) (fun c2 => ?_) (fun c2 => ?_)
      · have hf := (if_pos c2).symm.trans hf
        refine wm_iload_n 1 C dX9_needsOf_g1.2.2.2.2.2.2.2.2.1 rfl ?_
        refine wm_bipush (v := 10) C dX9_needsOf_g1.2.2.2.2.2.2.2.2.2.1 (by decide) ?_
        refine wm_irem C (by decide) dX9_needsOf_g1.2.2.2.2.2.2.2.2.2.2.1 ?_
        exact wm_iret C hrt hf dX9_needsOf_g1.2.2.2.2.2.2.2.2.2.2.2
      · have hf := (if_neg c2).symm.trans hf
        refine wm_iload_n 1 C dX9_needsOf_g1.2.2.1 rfl ?_
        refine wm_bipush (v := 10) C dX9_needsOf_g1.2.2.2.1 (by decide) ?_
        refine wm_idiv C (by decide) dX9_needsOf_g1.2.2.2.2.1 ?_
        refine wm_istore_n (lv1 := [(3, .int (v3 / 10)), (2, .int v2), (4, .int v4)]) C dX9_needsOf_g1.2.2.2.2.2.1 (by decide) rfl ?_
        refine wm_iinc (lv1 := [(4, .int (v4 + (-1))), (3, .int (v3 / 10)), (2, .int v2)]) (v := (v4 + (-1))) 2 C dX9_needsOf_g1.2.2.2.2.2.2.1 rfl (by first | rfl | decide) (by decide) rfl ?_
        refine wm_goto (tgt := 14) C dX9_needsOf_g1.2.2.2.2.2.2.2.1 (by decide) ?_
        refine wm_pick [2, 1, 0] rfl ?_
        exact hr _ _ _ _ hf
  have hf := ho
  unfold f_X9_needsOf at hf
  refine wm_aload_n 0 C dX9_needsOf_g0.1 rfl ?_
  refine wm_get (ci := 8) (k := 11) (v := .ref (A 107)) C (hPl 100 (by decide) (by decide)) rfl rfl (by decide) wt_X9_32 iwX9 rfl dX9_needsOf_g0.2.1 ?_
  refine wm_iconst (v := 3) C dX9_needsOf_g0.2.2.1 (by decide) ?_
  refine wm_iload_n 1 C dX9_needsOf_g0.2.2.2.1 rfl ?_
  refine wm_imul C dX9_needsOf_g0.2.2.2.2.1 ?_
  refine wm_iconst (v := 1) C dX9_needsOf_g0.2.2.2.2.2.1 (by decide) ?_
  refine wm_iadd C dX9_needsOf_g0.2.2.2.2.2.2.1 ?_
  obtain ⟨h1, hf⟩ := ckd hf
  refine wm_iald (n := 18) (j := (((3 * v1) + 1)).toNatClampNeg) (v := (M 107 (((3 * v1) + 1)).toNatClampNeg)) C (hPl 107 (by decide) (by decide)) rfl rfl rfl h1 rfl rfl dX9_needsOf_g0.2.2.2.2.2.2.2.1 ?_
  refine wm_istore_n (lv1 := [(3, .int (M 107 (((3 * v1) + 1)).toNatClampNeg)), (0, .ref (A 100)), (1, .int v1), (2, .int v2)]) C dX9_needsOf_g0.2.2.2.2.2.2.2.2.1 (by decide) rfl ?_
  refine wm_iconst (v := 5) C dX9_needsOf_g0.2.2.2.2.2.2.2.2.2.1 (by decide) ?_
  refine wm_istore (lv1 := [(4, .int 5), (3, .int (M 107 (((3 * v1) + 1)).toNatClampNeg)), (0, .ref (A 100)), (1, .int v1), (2, .int v2)]) C dX9_needsOf_g0.2.2.2.2.2.2.2.2.2.2.1 (by decide) rfl ?_
  refine wm_pick [4, 1, 0] rfl ?_
  exact (hl14 FU) _ _ _ _ hf
set_option maxHeartbeats 4000000 in
set_option maxRecDepth 100000 in
theorem c_X9_needsAll {l : Launch} {D : va_G} {cA : Nat → ClassId} {A : Nat → Nat} {Pl : List Nat} (hPl : ∀ q, 100 ≤ q → q < 118 → q ∈ Pl) (v1 : Int32) (M : Mem) (out : (Int32 × Mem)) (ho : f_X9_needsAll v1 M = some out) : CtI l D cA A Pl yX9_needsAll cX9_needsAll 4 2 .int [.ref (A 100), .int v1] M out := by
  refine ct_I (by decide) (Nat.le_of_ble_eq_true rfl) (fun p e s m args below meth c C hrt => ?_)
  have hl4 : ∀ (n : Nat), ∀ (v1 : Int32) (v2 : Int32) (v3 : Int32) (M : Mem), f_X9_needsAll_l4 n v1 v2 v3 M = some out → WM p l e (RM 2) s m args below meth c 0 0 (MQ below (QI D cA A Pl out) args s 0 0 (FA A Pl)) D cA A Pl (FA A Pl) 4 M 4 [(0, .ref (A 100)), (1, .int v1), (2, .int v2), (3, .int v3)] [] := by
    intro n
    induction n with
    | zero => intro v1 v2 v3 M hf; rw [f_X9_needsAll_l4] at hf; cases hf
    | succ n hr =>
      intro v1 v2 v3 M hf
      rw [f_X9_needsAll_l4] at hf
      refine wm_iload_n 3 C dX9_needsAll_g0.2.2.2.2.1 rfl ?_
      refine wm_bipush (v := 6) C dX9_needsAll_g0.2.2.2.2.2.1 (by decide) ?_
      refine wm_icmp_ge (tgt := 25) C dX9_needsAll_g0.2.2.2.2.2.2.1 (by decide) (fun c1 => ?_) (fun c1 => ?_)
      · have hf := (if_pos c1).symm.trans hf
        refine wm_iload_n 2 C dX9_needsAll_g1.2.2.2.2.1 rfl ?_
        exact wm_iret C hrt hf dX9_needsAll_g1.2.2.2.2.2
      · have hf := (if_neg c1).symm.trans hf
        refine wm_iload_n 2 C dX9_needsAll_g0.2.2.2.2.2.2.2.1 rfl ?_
        refine wm_aload_n 0 C dX9_needsAll_g0.2.2.2.2.2.2.2.2.1 rfl ?_
        refine wm_iload_n 1 C dX9_needsAll_g0.2.2.2.2.2.2.2.2.2.1 rfl ?_
        refine wm_iload_n 3 C dX9_needsAll_g0.2.2.2.2.2.2.2.2.2.2.1 rfl ?_
        obtain ⟨o2, ho3, hf⟩ := bnd hf
        refine wm_callVi (As := [.int v1, .int v3]) (ci := 8) C (c_X9_needsOf hPl _ _ _ _ ho3) mi_X9_needsOf wt_X9_134 (hPl 100 (by decide) (by decide)) rfl rfl rfl rfl (by decide) (by decide) (Nat.le_of_ble_eq_true rfl) dX9_needsAll_g0.2.2.2.2.2.2.2.2.2.2.2 ?_
        refine wm_iadd C dX9_needsAll_g1.1 ?_
        refine wm_istore_n (lv1 := [(2, .int (v2 + o2.1)), (0, .ref (A 100)), (1, .int v1), (3, .int v3)]) C dX9_needsAll_g1.2.1 (by decide) rfl ?_
        refine wm_iinc (lv1 := [(3, .int (v3 + 1)), (2, .int (v2 + o2.1)), (0, .ref (A 100)), (1, .int v1)]) (v := (v3 + 1)) 3 C dX9_needsAll_g1.2.2.1 rfl (by first | rfl | decide) (by decide) rfl ?_
        refine wm_goto (tgt := 4) C dX9_needsAll_g1.2.2.2.1 (by decide) ?_
        refine wm_pick [2, 3, 1, 0] rfl ?_
        exact hr _ _ _ _ hf
  have hf := ho
  unfold f_X9_needsAll at hf
  refine wm_iconst (v := 0) C dX9_needsAll_g0.1 (by decide) ?_
  refine wm_istore_n (lv1 := [(2, .int 0), (0, .ref (A 100)), (1, .int v1)]) C dX9_needsAll_g0.2.1 (by decide) rfl ?_
  refine wm_iconst (v := 0) C dX9_needsAll_g0.2.2.1 (by decide) ?_
  refine wm_istore_n (lv1 := [(3, .int 0), (2, .int 0), (0, .ref (A 100)), (1, .int v1)]) C dX9_needsAll_g0.2.2.2.1 (by decide) rfl ?_
  refine wm_pick [2, 3, 1, 0] rfl ?_
  exact (hl4 FU) _ _ _ _ hf
set_option maxHeartbeats 4000000 in
set_option maxRecDepth 100000 in
theorem c_X9_storeOf {l : Launch} {D : va_G} {cA : Nat → ClassId} {A : Nat → Nat} {Pl : List Nat} (hPl : ∀ q, 100 ≤ q → q < 118 → q ∈ Pl) (v1 : Int32) (M : Mem) (out : (Int32 × Mem)) (ho : f_X9_storeOf v1 M = some out) : CtI l D cA A Pl yX9_storeOf cX9_storeOf 4 1 .int [.ref (A 100), .int v1] M out := by
  refine ct_I (by decide) (Nat.le_of_ble_eq_true rfl) (fun p e s m args below meth c C hrt => ?_)
  have hl4 : ∀ (n : Nat), ∀ (v1 : Int32) (v2 : Int32) (v3 : Int32) (M : Mem), f_X9_storeOf_l4 n v1 v2 v3 M = some out → WM p l e (RM 1) s m args below meth c 0 0 (MQ below (QI D cA A Pl out) args s 0 0 (FA A Pl)) D cA A Pl (FA A Pl) 4 M 4 [(0, .ref (A 100)), (1, .int v1), (2, .int v2), (3, .int v3)] [] := by
    intro n
    induction n with
    | zero => intro v1 v2 v3 M hf; rw [f_X9_storeOf_l4] at hf; cases hf
    | succ n hr =>
      intro v1 v2 v3 M hf
      rw [f_X9_storeOf_l4] at hf
      refine wm_iload_n 3 C dX9_storeOf_g0.2.2.2.2.1 rfl ?_
      refine wm_bipush (v := 6) C dX9_storeOf_g0.2.2.2.2.2.1 (by decide) ?_
      refine wm_icmp_ge (tgt := 30) C dX9_storeOf_g0.2.2.2.2.2.2.1 (by decide) (fun c1 => ?_) (fun c1 => ?_)
      · have hf := (if_pos c1).symm.trans hf
        refine wm_iload_n 2 C dX9_storeOf_g1.2.2.2.2.2.2.2.2.1 rfl ?_
        exact wm_iret C hrt hf dX9_storeOf_g1.2.2.2.2.2.2.2.2.2
      · have hf := (if_neg c1).symm.trans hf
        refine wm_iload_n 2 C dX9_storeOf_g0.2.2.2.2.2.2.2.1 rfl ?_
        refine wm_aload_n 0 C dX9_storeOf_g0.2.2.2.2.2.2.2.2.1 rfl ?_
        refine wm_get (ci := 8) (k := 8) (v := .ref (A 104)) C (hPl 100 (by decide) (by decide)) rfl rfl (by decide) wt_X9_23 iwX9 rfl dX9_storeOf_g0.2.2.2.2.2.2.2.2.2.1 ?_
        refine wm_bipush (v := 6) C dX9_storeOf_g0.2.2.2.2.2.2.2.2.2.2.1 (by decide) ?_
        refine wm_iload_n 1 C dX9_storeOf_g0.2.2.2.2.2.2.2.2.2.2.2 rfl ?_
        refine wm_imul C dX9_storeOf_g1.1 ?_
        refine wm_iload_n 3 C dX9_storeOf_g1.2.1 rfl ?_
        refine wm_iadd C dX9_storeOf_g1.2.2.1 ?_
        obtain ⟨h2, hf⟩ := ckd hf
        refine wm_iald (n := 12) (j := (((6 * v1) + v3)).toNatClampNeg) (v := (M 104 (((6 * v1) + v3)).toNatClampNeg)) C (hPl 104 (by decide) (by decide)) rfl rfl rfl h2 rfl rfl dX9_storeOf_g1.2.2.2.1 ?_
        refine wm_iadd C dX9_storeOf_g1.2.2.2.2.1 ?_
        refine wm_istore_n (lv1 := [(2, .int (v2 + (M 104 (((6 * v1) + v3)).toNatClampNeg))), (0, .ref (A 100)), (1, .int v1), (3, .int v3)]) C dX9_storeOf_g1.2.2.2.2.2.1 (by decide) rfl ?_
        refine wm_iinc (lv1 := [(3, .int (v3 + 1)), (2, .int (v2 + (M 104 (((6 * v1) + v3)).toNatClampNeg))), (0, .ref (A 100)), (1, .int v1)]) (v := (v3 + 1)) 3 C dX9_storeOf_g1.2.2.2.2.2.2.1 rfl (by first | rfl | decide) (by decide) rfl ?_
        refine wm_goto (tgt := 4) C dX9_storeOf_g1.2.2.2.2.2.2.2.1 (by decide) ?_
        refine wm_pick [2, 3, 1, 0] rfl ?_
        exact hr _ _ _ _ hf
  have hf := ho
  unfold f_X9_storeOf at hf
  refine wm_iconst (v := 0) C dX9_storeOf_g0.1 (by decide) ?_
  refine wm_istore_n (lv1 := [(2, .int 0), (0, .ref (A 100)), (1, .int v1)]) C dX9_storeOf_g0.2.1 (by decide) rfl ?_
  refine wm_iconst (v := 0) C dX9_storeOf_g0.2.2.1 (by decide) ?_
  refine wm_istore_n (lv1 := [(3, .int 0), (2, .int 0), (0, .ref (A 100)), (1, .int v1)]) C dX9_storeOf_g0.2.2.2.1 (by decide) rfl ?_
  refine wm_pick [2, 3, 1, 0] rfl ?_
  exact (hl4 FU) _ _ _ _ hf
set_option maxHeartbeats 4000000 in
set_option maxRecDepth 100000 in
theorem c_X9_told {l : Launch} {D : va_G} {cA : Nat → ClassId} {A : Nat → Nat} {Pl : List Nat} (hPl : ∀ q, 100 ≤ q → q < 118 → q ∈ Pl) (v1 : Int32) (v2 : Int32) (M : Mem) (out : (Int32 × Mem)) (ho : f_X9_told v1 v2 M = some out) : CtI l D cA A Pl yX9_told cX9_told 3 4 .int [.ref (A 100), .int v1, .int v2] M out := by
  refine ct_I (by decide) (Nat.le_of_ble_eq_true rfl) (fun p e s m args below meth c C hrt => ?_)
  have hf := ho
  unfold f_X9_told at hf
  refine wm_iload_n 2 C dX9_told_g0.1 rfl ?_
  refine wm_i2l C dX9_told_g0.2.1 ?_
  refine wm_lconst (v := 0) C dX9_told_g0.2.2.1 (by decide) ?_
  refine wm_ldc2 (v := 8) C wt_X9_126 dX9_told_g0.2.2.2.1 ?_
  obtain ⟨o1, ho2, hf⟩ := bnd hf
  refine wm_callSi (As := [.long ((v2 : Int32).toInt64), .long 0, .long 8]) C (c_X9_in hPl _ _ _ _ _ ho2) mi_X9_in wt_X9_79 rfl rfl (by decide) (by decide) (Nat.le_of_ble_eq_true rfl) dX9_told_g0.2.2.2.2.1 ?_
  refine wm_if_eq (tgt := 21) C dX9_told_g0.2.2.2.2.2.1 (by decide) (fun c3 => ?_) (fun c3 => ?_)
  · have hf := (if_pos c3).symm.trans hf
    refine wm_sipush (v := (-1000)) C dX9_told_g0.2.2.2.2.2.2.2.2.2.2.2 (by decide) ?_
    exact wm_iret C hrt hf dX9_told_g1.1
  · have hf := (if_neg c3).symm.trans hf
    refine wm_aload_n 0 C dX9_told_g0.2.2.2.2.2.2.1 rfl ?_
    refine wm_iload_n 2 C dX9_told_g0.2.2.2.2.2.2.2.1 rfl ?_
    refine wm_iload_n 1 C dX9_told_g0.2.2.2.2.2.2.2.2.1 rfl ?_
    obtain ⟨o4, ho5, hf⟩ := bnd hf
    refine wm_callVi (As := [.int v2, .int v1]) (ci := 8) C (c_X9_isOf hPl _ _ _ _ ho5) mi_X9_isOf wt_X9_100 (hPl 100 (by decide) (by decide)) rfl rfl rfl rfl (by decide) (by decide) (Nat.le_of_ble_eq_true rfl) dX9_told_g0.2.2.2.2.2.2.2.2.2.1 ?_
    refine wm_if_ne (tgt := 25) C dX9_told_g0.2.2.2.2.2.2.2.2.2.2.1 (by decide) (fun c6 => ?_) (fun c6 => ?_)
    · have hf := (if_neg c6).symm.trans hf
      refine wm_iload_n 2 C dX9_told_g1.2.1 rfl ?_
      refine wm_iconst (v := 3) C dX9_told_g1.2.2.1 (by decide) ?_
      refine wm_icmp_ge (tgt := 73) C dX9_told_g1.2.2.2.1 (by decide) (fun c7 => ?_) (fun c7 => ?_)
      · have hf := (if_pos c7).symm.trans hf
        refine wm_iload_n 2 C dX9_told_g3.2.2.2.2.2.2.1 rfl ?_
        refine wm_bipush (v := 6) C dX9_told_g3.2.2.2.2.2.2.2.1 (by decide) ?_
        refine wm_icmp_ge (tgt := 106) C dX9_told_g3.2.2.2.2.2.2.2.2.1 (by decide) (fun c8 => ?_) (fun c8 => ?_)
        · have hf := (if_pos c8).symm.trans hf
          refine wm_iload_n 2 C dX9_told_g5.2.2.2.2.1 rfl ?_
          refine wm_bipush (v := 6) C dX9_told_g5.2.2.2.2.2.1 (by decide) ?_
          refine wm_icmp_ne (tgt := 125) C dX9_told_g5.2.2.2.2.2.2.1 (by decide) (fun c9 => ?_) (fun c9 => ?_)
          · have hf := (if_neg c9).symm.trans hf
            refine wm_iload_n 2 C dX9_told_g6.2.2.2.2.1 rfl ?_
            refine wm_bipush (v := 7) C dX9_told_g6.2.2.2.2.2.1 (by decide) ?_
            refine wm_icmp_ne (tgt := 139) C dX9_told_g6.2.2.2.2.2.2.1 (by decide) (fun c10 => ?_) (fun c10 => ?_)
            · have hf := (if_neg c10).symm.trans hf
              refine wm_aload_n 0 C dX9_told_g6.2.2.2.2.2.2.2.2.2.2.2 rfl ?_
              refine wm_iload_n 1 C dX9_told_g7.1 rfl ?_
              obtain ⟨o11, ho12, hf⟩ := bnd hf
              refine wm_callVi (As := [.int v1]) (ci := 8) C (c_X9_storeOf hPl _ _ _ ho12) mi_X9_storeOf wt_X9_131 (hPl 100 (by decide) (by decide)) rfl rfl rfl rfl (by decide) (by decide) (Nat.le_of_ble_eq_true rfl) dX9_told_g7.2.1 ?_
              exact wm_iret C hrt hf dX9_told_g7.2.2
            · have hf := (if_pos c10).symm.trans hf
              refine wm_aload_n 0 C dX9_told_g6.2.2.2.2.2.2.2.1 rfl ?_
              refine wm_iload_n 1 C dX9_told_g6.2.2.2.2.2.2.2.2.1 rfl ?_
              obtain ⟨o13, ho14, hf⟩ := bnd hf
              refine wm_callVi (As := [.int v1]) (ci := 8) C (c_X9_needsAll hPl _ _ _ ho14) mi_X9_needsAll wt_X9_128 (hPl 100 (by decide) (by decide)) rfl rfl rfl rfl (by decide) (by decide) (Nat.le_of_ble_eq_true rfl) dX9_told_g6.2.2.2.2.2.2.2.2.2.1 ?_
              refine wm_goto (tgt := 144) C dX9_told_g6.2.2.2.2.2.2.2.2.2.2.1 (by decide) ?_
              exact wm_iret C hrt hf dX9_told_g7.2.2
          · have hf := (if_pos c9).symm.trans hf
            refine wm_aload_n 0 C dX9_told_g5.2.2.2.2.2.2.2.1 rfl ?_
            refine wm_get (ci := 8) (k := 11) (v := .ref (A 107)) C (hPl 100 (by decide) (by decide)) rfl rfl (by decide) wt_X9_32 iwX9 rfl dX9_told_g5.2.2.2.2.2.2.2.2.1 ?_
            refine wm_iconst (v := 3) C dX9_told_g5.2.2.2.2.2.2.2.2.2.1 (by decide) ?_
            refine wm_iload_n 1 C dX9_told_g5.2.2.2.2.2.2.2.2.2.2.1 rfl ?_
            refine wm_imul C dX9_told_g5.2.2.2.2.2.2.2.2.2.2.2 ?_
            refine wm_iconst (v := 2) C dX9_told_g6.1 (by decide) ?_
            refine wm_iadd C dX9_told_g6.2.1 ?_
            obtain ⟨h15, hf⟩ := ckd hf
            refine wm_iald (n := 18) (j := (((3 * v1) + 2)).toNatClampNeg) (v := (o4.2 107 (((3 * v1) + 2)).toNatClampNeg)) C (hPl 107 (by decide) (by decide)) rfl rfl rfl h15 rfl rfl dX9_told_g6.2.2.1 ?_
            refine wm_goto (tgt := 144) C dX9_told_g6.2.2.2.1 (by decide) ?_
            exact wm_iret C hrt hf dX9_told_g7.2.2
        · have hf := (if_neg c8).symm.trans hf
          refine wm_iload_n 2 C dX9_told_g3.2.2.2.2.2.2.2.2.2.1 rfl ?_
          refine wm_iconst (v := 5) C dX9_told_g3.2.2.2.2.2.2.2.2.2.2.1 (by decide) ?_
          refine wm_icmp_ge (tgt := 99) C dX9_told_g3.2.2.2.2.2.2.2.2.2.2.2 (by decide) (fun c16 => ?_) (fun c16 => ?_)
          · have hf := (if_pos c16).symm.trans hf
            refine wm_aload_n 0 C dX9_told_g4.2.2.2.2.2.2.2.2.2.2.2 rfl ?_
            refine wm_get (ci := 8) (k := 10) (v := .ref (A 106)) C (hPl 100 (by decide) (by decide)) rfl rfl (by decide) wt_X9_29 iwX9 rfl dX9_told_g5.1 ?_
            refine wm_iload_n 1 C dX9_told_g5.2.1 rfl ?_
            obtain ⟨h17, hf⟩ := ckd hf
            refine wm_iald (n := 6) (j := (v1).toNatClampNeg) (v := (o4.2 106 (v1).toNatClampNeg)) C (hPl 106 (by decide) (by decide)) rfl rfl rfl h17 rfl rfl dX9_told_g5.2.2.1 ?_
            exact wm_iret C hrt hf dX9_told_g5.2.2.2.1
          · have hf := (if_neg c16).symm.trans hf
            refine wm_aload_n 0 C dX9_told_g4.1 rfl ?_
            refine wm_get (ci := 8) (k := 11) (v := .ref (A 107)) C (hPl 100 (by decide) (by decide)) rfl rfl (by decide) wt_X9_32 iwX9 rfl dX9_told_g4.2.1 ?_
            refine wm_iconst (v := 3) C dX9_told_g4.2.2.1 (by decide) ?_
            refine wm_iload_n 1 C dX9_told_g4.2.2.2.1 rfl ?_
            refine wm_imul C dX9_told_g4.2.2.2.2.1 ?_
            refine wm_iload_n 2 C dX9_told_g4.2.2.2.2.2.1 rfl ?_
            refine wm_iadd C dX9_told_g4.2.2.2.2.2.2.1 ?_
            refine wm_iconst (v := 3) C dX9_told_g4.2.2.2.2.2.2.2.1 (by decide) ?_
            refine wm_isub C dX9_told_g4.2.2.2.2.2.2.2.2.1 ?_
            obtain ⟨h18, hf⟩ := ckd hf
            refine wm_iald (n := 18) (j := ((((3 * v1) + v2) - 3)).toNatClampNeg) (v := (o4.2 107 ((((3 * v1) + v2) - 3)).toNatClampNeg)) C (hPl 107 (by decide) (by decide)) rfl rfl rfl h18 rfl rfl dX9_told_g4.2.2.2.2.2.2.2.2.2.1 ?_
            refine wm_goto (tgt := 105) C dX9_told_g4.2.2.2.2.2.2.2.2.2.2.1 (by decide) ?_
            exact wm_iret C hrt hf dX9_told_g5.2.2.2.1
      · have hf := (if_neg c7).symm.trans hf
        refine wm_iload_n 2 C dX9_told_g1.2.2.2.2.1 rfl ?_
        refine wm_if_ne (tgt := 41) C dX9_told_g1.2.2.2.2.2.1 (by decide) (fun c19 => ?_) (fun c19 => ?_)
        · have hf := (if_neg c19).symm.trans hf
          refine wm_iload_n 2 C dX9_told_g1.2.2.2.2.2.2.2.2.2.1 rfl ?_
          refine wm_iconst (v := 1) C dX9_told_g1.2.2.2.2.2.2.2.2.2.2.1 (by decide) ?_
          refine wm_icmp_ne (tgt := 66) C dX9_told_g1.2.2.2.2.2.2.2.2.2.2.2 (by decide) (fun c20 => ?_) (fun c20 => ?_)
          · have hf := (if_neg c20).symm.trans hf
            refine wm_aload_n 0 C dX9_told_g3.2.1 rfl ?_
            refine wm_get (ci := 8) (k := 9) (v := .ref (A 105)) C (hPl 100 (by decide) (by decide)) rfl rfl (by decide) wt_X9_26 iwX9 rfl dX9_told_g3.2.2.1 ?_
            refine wm_iload_n 1 C dX9_told_g3.2.2.2.1 rfl ?_
            obtain ⟨h21, hf⟩ := ckd hf
            refine wm_iald (n := 2) (j := (v1).toNatClampNeg) (v := (o4.2 105 (v1).toNatClampNeg)) C (hPl 105 (by decide) (by decide)) rfl rfl rfl h21 rfl rfl dX9_told_g3.2.2.2.2.1 ?_
            exact wm_iret C hrt hf dX9_told_g3.2.2.2.2.2.1
          · have hf := (if_pos c20).symm.trans hf
            refine wm_aload_n 0 C dX9_told_g2.1 rfl ?_
            refine wm_get (ci := 8) (k := 8) (v := .ref (A 104)) C (hPl 100 (by decide) (by decide)) rfl rfl (by decide) wt_X9_23 iwX9 rfl dX9_told_g2.2.1 ?_
            refine wm_bipush (v := 6) C dX9_told_g2.2.2.1 (by decide) ?_
            refine wm_iload_n 1 C dX9_told_g2.2.2.2.1 rfl ?_
            refine wm_bipush (v := 10) C dX9_told_g2.2.2.2.2.1 (by decide) ?_
            refine wm_idiv C (by decide) dX9_told_g2.2.2.2.2.2.1 ?_
            refine wm_imul C dX9_told_g2.2.2.2.2.2.2.1 ?_
            refine wm_iload_n 1 C dX9_told_g2.2.2.2.2.2.2.2.1 rfl ?_
            refine wm_bipush (v := 10) C dX9_told_g2.2.2.2.2.2.2.2.2.1 (by decide) ?_
            refine wm_irem C (by decide) dX9_told_g2.2.2.2.2.2.2.2.2.2.1 ?_
            refine wm_iadd C dX9_told_g2.2.2.2.2.2.2.2.2.2.2.1 ?_
            obtain ⟨h22, hf⟩ := ckd hf
            refine wm_iald (n := 12) (j := (((6 * (v1 / 10)) + (jrem v1 10))).toNatClampNeg) (v := (o4.2 104 (((6 * (v1 / 10)) + (jrem v1 10))).toNatClampNeg)) C (hPl 104 (by decide) (by decide)) rfl rfl rfl h22 rfl rfl dX9_told_g2.2.2.2.2.2.2.2.2.2.2.2 ?_
            refine wm_goto (tgt := 72) C dX9_told_g3.1 (by decide) ?_
            exact wm_iret C hrt hf dX9_told_g3.2.2.2.2.2.1
        · have hf := (if_pos c19).symm.trans hf
          refine wm_aload_n 0 C dX9_told_g1.2.2.2.2.2.2.1 rfl ?_
          refine wm_get (ci := 8) (k := 7) (v := .int (o4.2 100 7)) C (hPl 100 (by decide) (by decide)) rfl rfl (by decide) wt_X9_116 iwX9 rfl dX9_told_g1.2.2.2.2.2.2.2.1 ?_
          refine wm_goto (tgt := 72) C dX9_told_g1.2.2.2.2.2.2.2.2.1 (by decide) ?_
          exact wm_iret C hrt hf dX9_told_g3.2.2.2.2.2.1
    · have hf := (if_pos c6).symm.trans hf
      refine wm_sipush (v := (-1000)) C dX9_told_g0.2.2.2.2.2.2.2.2.2.2.2 (by decide) ?_
      exact wm_iret C hrt hf dX9_told_g1.1
set_option maxHeartbeats 4000000 in
set_option maxRecDepth 100000 in
theorem c_X9_lays {l : Launch} {D : va_G} {cA : Nat → ClassId} {A : Nat → Nat} {Pl : List Nat} (hPl : ∀ q, 100 ≤ q → q < 118 → q ∈ Pl) (v1 : Int32) (v2 : Int32) (v3 : Int32) (M : Mem) (out : Mem) (ho : f_X9_lays v1 v2 v3 M = some out) : CtV l D cA A Pl yX9_lays cX9_lays 4 1 [.ref (A 100), .int v1, .int v2, .int v3] M out := by
  refine ct_V (by decide) (Nat.le_of_ble_eq_true rfl) (fun p e s m args below meth c C hrt => ?_)
  have hf := ho
  unfold f_X9_lays at hf
  refine wm_iload_n 1 C dX9_lays_g0.1 rfl ?_
  refine wm_if_ne (tgt := 12) C dX9_lays_g0.2.1 (by decide) (fun c1 => ?_) (fun c1 => ?_)
  · have hf := (if_neg c1).symm.trans hf
    refine wm_iload_n 1 C dX9_lays_g0.2.2.2.2.2.2.1 rfl ?_
    refine wm_iconst (v := 1) C dX9_lays_g0.2.2.2.2.2.2.2.1 (by decide) ?_
    refine wm_icmp_ne (tgt := 38) C dX9_lays_g0.2.2.2.2.2.2.2.2.1 (by decide) (fun c2 => ?_) (fun c2 => ?_)
    · have hf := (if_neg c2).symm.trans hf
      refine wm_iload_n 1 C dX9_lays_g1.2.2.2.2.2.2.2.2.2.2.2 rfl ?_
      refine wm_iconst (v := 2) C dX9_lays_g2.1 (by decide) ?_
      refine wm_icmp_ne (tgt := 53) C dX9_lays_g2.2.1 (by decide) (fun c3 => ?_) (fun c3 => ?_)
      · have hf := (if_neg c3).symm.trans hf
        refine wm_iload_n 1 C dX9_lays_g2.2.2.2.2.2.2.2.2.1 rfl ?_
        refine wm_iconst (v := 5) C dX9_lays_g2.2.2.2.2.2.2.2.2.2.1 (by decide) ?_
        refine wm_icmp_ge (tgt := 74) C dX9_lays_g2.2.2.2.2.2.2.2.2.2.2.1 (by decide) (fun c4 => ?_) (fun c4 => ?_)
        · have hf := (if_pos c4).symm.trans hf
          refine wm_iload_n 1 C dX9_lays_g3.2.2.2.2.2.2.2.2.2.2.2 rfl ?_
          refine wm_iconst (v := 5) C dX9_lays_g4.1 (by decide) ?_
          refine wm_icmp_ne (tgt := 89) C dX9_lays_g4.2.1 (by decide) (fun c5 => ?_) (fun c5 => ?_)
          · have hf := (if_neg c5).symm.trans hf
            refine wm_aload_n 0 C dX9_lays_g4.2.2.2.2.2.2.2.2.1 rfl ?_
            refine wm_iload_n 3 C dX9_lays_g4.2.2.2.2.2.2.2.2.2.1 rfl ?_
            refine wm_put (ci := 8) (k := 4) (x := v3) C (hPl 100 (by decide) (by decide)) rfl rfl (by decide) wt_X9_119 iwX9 tyX9_ok nmX9 rfl rfl rfl rfl (fun _ => rfl) (Nat.le_of_ble_eq_true rfl) dX9_lays_g4.2.2.2.2.2.2.2.2.2.2.1 ?_
            exact wm_vret C hrt hf dX9_lays_g4.2.2.2.2.2.2.2.2.2.2.2
          · have hf := (if_pos c5).symm.trans hf
            refine wm_aload_n 0 C dX9_lays_g4.2.2.1 rfl ?_
            refine wm_get (ci := 8) (k := 10) (v := .ref (A 106)) C (hPl 100 (by decide) (by decide)) rfl rfl (by decide) wt_X9_29 iwX9 rfl dX9_lays_g4.2.2.2.1 ?_
            refine wm_iload_n 2 C dX9_lays_g4.2.2.2.2.1 rfl ?_
            refine wm_iload_n 3 C dX9_lays_g4.2.2.2.2.2.1 rfl ?_
            obtain ⟨h6, hf⟩ := ckd hf
            refine wm_iast (n := 6) (j := (v2).toNatClampNeg) (x := v3) C (hPl 106 (by decide) (by decide)) rfl rfl rfl h6 rfl dX9_lays_g4.2.2.2.2.2.2.1 ?_
            refine wm_goto (tgt := 94) C dX9_lays_g4.2.2.2.2.2.2.2.1 (by decide) ?_
            exact wm_vret C hrt hf dX9_lays_g4.2.2.2.2.2.2.2.2.2.2.2
        · have hf := (if_neg c4).symm.trans hf
          refine wm_aload_n 0 C dX9_lays_g2.2.2.2.2.2.2.2.2.2.2.2 rfl ?_
          refine wm_get (ci := 8) (k := 11) (v := .ref (A 107)) C (hPl 100 (by decide) (by decide)) rfl rfl (by decide) wt_X9_32 iwX9 rfl dX9_lays_g3.1 ?_
          refine wm_iconst (v := 3) C dX9_lays_g3.2.1 (by decide) ?_
          refine wm_iload_n 2 C dX9_lays_g3.2.2.1 rfl ?_
          refine wm_imul C dX9_lays_g3.2.2.2.1 ?_
          refine wm_iload_n 1 C dX9_lays_g3.2.2.2.2.1 rfl ?_
          refine wm_iadd C dX9_lays_g3.2.2.2.2.2.1 ?_
          refine wm_iconst (v := 3) C dX9_lays_g3.2.2.2.2.2.2.1 (by decide) ?_
          refine wm_isub C dX9_lays_g3.2.2.2.2.2.2.2.1 ?_
          refine wm_iload_n 3 C dX9_lays_g3.2.2.2.2.2.2.2.2.1 rfl ?_
          obtain ⟨h7, hf⟩ := ckd hf
          refine wm_iast (n := 18) (j := ((((3 * v2) + v1) - 3)).toNatClampNeg) (x := v3) C (hPl 107 (by decide) (by decide)) rfl rfl rfl h7 rfl dX9_lays_g3.2.2.2.2.2.2.2.2.2.1 ?_
          refine wm_goto (tgt := 94) C dX9_lays_g3.2.2.2.2.2.2.2.2.2.2.1 (by decide) ?_
          exact wm_vret C hrt hf dX9_lays_g4.2.2.2.2.2.2.2.2.2.2.2
      · have hf := (if_pos c3).symm.trans hf
        refine wm_aload_n 0 C dX9_lays_g2.2.2.1 rfl ?_
        refine wm_get (ci := 8) (k := 9) (v := .ref (A 105)) C (hPl 100 (by decide) (by decide)) rfl rfl (by decide) wt_X9_26 iwX9 rfl dX9_lays_g2.2.2.2.1 ?_
        refine wm_iload_n 2 C dX9_lays_g2.2.2.2.2.1 rfl ?_
        refine wm_iload_n 3 C dX9_lays_g2.2.2.2.2.2.1 rfl ?_
        obtain ⟨h8, hf⟩ := ckd hf
        refine wm_iast (n := 2) (j := (v2).toNatClampNeg) (x := v3) C (hPl 105 (by decide) (by decide)) rfl rfl rfl h8 rfl dX9_lays_g2.2.2.2.2.2.2.1 ?_
        refine wm_goto (tgt := 94) C dX9_lays_g2.2.2.2.2.2.2.2.1 (by decide) ?_
        exact wm_vret C hrt hf dX9_lays_g4.2.2.2.2.2.2.2.2.2.2.2
    · have hf := (if_pos c2).symm.trans hf
      refine wm_aload_n 0 C dX9_lays_g0.2.2.2.2.2.2.2.2.2.1 rfl ?_
      refine wm_get (ci := 8) (k := 8) (v := .ref (A 104)) C (hPl 100 (by decide) (by decide)) rfl rfl (by decide) wt_X9_23 iwX9 rfl dX9_lays_g0.2.2.2.2.2.2.2.2.2.2.1 ?_
      refine wm_bipush (v := 6) C dX9_lays_g0.2.2.2.2.2.2.2.2.2.2.2 (by decide) ?_
      refine wm_iload_n 2 C dX9_lays_g1.1 rfl ?_
      refine wm_bipush (v := 10) C dX9_lays_g1.2.1 (by decide) ?_
      refine wm_idiv C (by decide) dX9_lays_g1.2.2.1 ?_
      refine wm_imul C dX9_lays_g1.2.2.2.1 ?_
      refine wm_iload_n 2 C dX9_lays_g1.2.2.2.2.1 rfl ?_
      refine wm_bipush (v := 10) C dX9_lays_g1.2.2.2.2.2.1 (by decide) ?_
      refine wm_irem C (by decide) dX9_lays_g1.2.2.2.2.2.2.1 ?_
      refine wm_iadd C dX9_lays_g1.2.2.2.2.2.2.2.1 ?_
      refine wm_iload_n 3 C dX9_lays_g1.2.2.2.2.2.2.2.2.1 rfl ?_
      obtain ⟨h9, hf⟩ := ckd hf
      refine wm_iast (n := 12) (j := (((6 * (v2 / 10)) + (jrem v2 10))).toNatClampNeg) (x := v3) C (hPl 104 (by decide) (by decide)) rfl rfl rfl h9 rfl dX9_lays_g1.2.2.2.2.2.2.2.2.2.1 ?_
      refine wm_goto (tgt := 94) C dX9_lays_g1.2.2.2.2.2.2.2.2.2.2.1 (by decide) ?_
      exact wm_vret C hrt hf dX9_lays_g4.2.2.2.2.2.2.2.2.2.2.2
  · have hf := (if_pos c1).symm.trans hf
    refine wm_aload_n 0 C dX9_lays_g0.2.2.1 rfl ?_
    refine wm_iload_n 3 C dX9_lays_g0.2.2.2.1 rfl ?_
    refine wm_put (ci := 8) (k := 7) (x := v3) C (hPl 100 (by decide) (by decide)) rfl rfl (by decide) wt_X9_116 iwX9 tyX9_ok nmX9 rfl rfl rfl rfl (fun _ => rfl) (Nat.le_of_ble_eq_true rfl) dX9_lays_g0.2.2.2.2.1 ?_
    refine wm_goto (tgt := 94) C dX9_lays_g0.2.2.2.2.2.1 (by decide) ?_
    exact wm_vret C hrt hf dX9_lays_g4.2.2.2.2.2.2.2.2.2.2.2
set_option maxHeartbeats 4000000 in
set_option maxRecDepth 100000 in
theorem c_X9_set {l : Launch} {D : va_G} {cA : Nat → ClassId} {A : Nat → Nat} {Pl : List Nat} (hPl : ∀ q, 100 ≤ q → q < 118 → q ∈ Pl) (v1 : Int32) (v2 : Int32) (v3 : Int32) (M : Mem) (out : (Int32 × Mem)) (ho : f_X9_set v1 v2 v3 M = some out) : CtI l D cA A Pl yX9_set cX9_set 5 5 .int [.ref (A 100), .int v1, .int v2, .int v3] M out := by
  refine ct_I (by decide) (Nat.le_of_ble_eq_true rfl) (fun p e s m args below meth c C hrt => ?_)
  have hf := ho
  unfold f_X9_set at hf
  refine wm_iload_n 1 C dX9_set_g0.1 rfl ?_
  refine wm_i2l C dX9_set_g0.2.1 ?_
  refine wm_lconst (v := 0) C dX9_set_g0.2.2.1 (by decide) ?_
  refine wm_ldc2 (v := 4) C wt_X9_98 dX9_set_g0.2.2.2.1 ?_
  obtain ⟨o1, ho2, hf⟩ := bnd hf
  refine wm_callSi (As := [.long ((v1 : Int32).toInt64), .long 0, .long 4]) C (c_X9_in hPl _ _ _ _ _ ho2) mi_X9_in wt_X9_79 rfl rfl (by decide) (by decide) (Nat.le_of_ble_eq_true rfl) dX9_set_g0.2.2.2.2.1 ?_
  refine wm_if_eq (tgt := 35) C dX9_set_g0.2.2.2.2.2.1 (by decide) (fun c3 => ?_) (fun c3 => ?_)
  · have hf := (if_pos c3).symm.trans hf
    refine wm_sipush (v := (-1000)) C dX9_set_g1.2.2.2.2.2.2.2.1 (by decide) ?_
    exact wm_iret C hrt hf dX9_set_g1.2.2.2.2.2.2.2.2.1
  · have hf := (if_neg c3).symm.trans hf
    refine wm_aload_n 0 C dX9_set_g0.2.2.2.2.2.2.1 rfl ?_
    refine wm_iload_n 1 C dX9_set_g0.2.2.2.2.2.2.2.1 rfl ?_
    refine wm_iload_n 2 C dX9_set_g0.2.2.2.2.2.2.2.2.1 rfl ?_
    obtain ⟨o4, ho5, hf⟩ := bnd hf
    refine wm_callVi (As := [.int v1, .int v2]) (ci := 8) C (c_X9_isOf hPl _ _ _ _ ho5) mi_X9_isOf wt_X9_100 (hPl 100 (by decide) (by decide)) rfl rfl rfl rfl (by decide) (by decide) (Nat.le_of_ble_eq_true rfl) dX9_set_g0.2.2.2.2.2.2.2.2.2.1 ?_
    refine wm_if_eq (tgt := 35) C dX9_set_g0.2.2.2.2.2.2.2.2.2.2.1 (by decide) (fun c6 => ?_) (fun c6 => ?_)
    · have hf := (if_pos c6).symm.trans hf
      refine wm_sipush (v := (-1000)) C dX9_set_g1.2.2.2.2.2.2.2.1 (by decide) ?_
      exact wm_iret C hrt hf dX9_set_g1.2.2.2.2.2.2.2.2.1
    · have hf := (if_neg c6).symm.trans hf
      refine wm_iload_n 3 C dX9_set_g0.2.2.2.2.2.2.2.2.2.2.2 rfl ?_
      refine wm_i2l C dX9_set_g1.1 ?_
      refine wm_lconst (v := 0) C dX9_set_g1.2.1 (by decide) ?_
      refine wm_iload_n 1 C dX9_set_g1.2.2.1 rfl ?_
      obtain ⟨o7, ho8, hf⟩ := bnd hf
      refine wm_callSi (As := [.int v1]) C (c_X9_mostOf hPl _ _ _ ho8) mi_X9_mostOf wt_X9_104 rfl rfl (by decide) (by decide) (Nat.le_of_ble_eq_true rfl) dX9_set_g1.2.2.2.1 ?_
      refine wm_i2l C dX9_set_g1.2.2.2.2.1 ?_
      obtain ⟨o9, ho10, hf⟩ := bnd hf
      refine wm_callSi (As := [.long ((v3 : Int32).toInt64), .long 0, .long ((o7.1 : Int32).toInt64)]) C (c_X9_in hPl _ _ _ _ _ ho10) mi_X9_in wt_X9_79 rfl rfl (by decide) (by decide) (Nat.le_of_ble_eq_true rfl) dX9_set_g1.2.2.2.2.2.1 ?_
      refine wm_if_ne (tgt := 39) C dX9_set_g1.2.2.2.2.2.2.1 (by decide) (fun c11 => ?_) (fun c11 => ?_)
      · have hf := (if_neg c11).symm.trans hf
        refine wm_aload_n 0 C dX9_set_g1.2.2.2.2.2.2.2.2.2.1 rfl ?_
        refine wm_iload_n 2 C dX9_set_g1.2.2.2.2.2.2.2.2.2.2.1 rfl ?_
        refine wm_iload_n 1 C dX9_set_g1.2.2.2.2.2.2.2.2.2.2.2 rfl ?_
        obtain ⟨o12, ho13, hf⟩ := bnd hf
        refine wm_callVi (As := [.int v2, .int v1]) (ci := 8) C (c_X9_told hPl _ _ _ _ ho13) mi_X9_told wt_X9_108 (hPl 100 (by decide) (by decide)) rfl rfl rfl rfl (by decide) (by decide) (Nat.le_of_ble_eq_true rfl) dX9_set_g2.1 ?_
        refine wm_istore (lv1 := [(4, .int o12.1), (0, .ref (A 100)), (1, .int v1), (2, .int v2), (3, .int v3)]) C dX9_set_g2.2.1 (by decide) rfl ?_
        refine wm_aload_n 1 C dX9_set_g2.2.2.1 rfl ?_
        refine wm_iload_n 2 C dX9_set_g2.2.2.2.1 rfl ?_
        refine wm_iload_n 3 C dX9_set_g2.2.2.2.2.1 rfl ?_
        refine wm_iload_n 4 C dX9_set_g2.2.2.2.2.2.1 rfl ?_
        obtain ⟨o14, ho15, hf⟩ := bnd hf
        refine wm_callVv (As := [.int v1, .int v2, .int v3]) (ci := 8) C (c_X9_lays hPl _ _ _ _ _ ho15) mi_X9_lays wt_X9_112 (hPl 100 (by decide) (by decide)) rfl rfl rfl rfl (by decide) (by decide) (Nat.le_of_ble_eq_true rfl) dX9_set_g2.2.2.2.2.2.2.1 ?_
        refine wm_iload 0 C dX9_set_g2.2.2.2.2.2.2.2.1 rfl ?_
        exact wm_iret C hrt hf dX9_set_g2.2.2.2.2.2.2.2.2
      · have hf := (if_pos c11).symm.trans hf
        refine wm_sipush (v := (-1000)) C dX9_set_g1.2.2.2.2.2.2.2.1 (by decide) ?_
        exact wm_iret C hrt hf dX9_set_g1.2.2.2.2.2.2.2.2.1
set_option maxHeartbeats 4000000 in
set_option maxRecDepth 100000 in
theorem c_X9_dish {l : Launch} {D : va_G} {cA : Nat → ClassId} {A : Nat → Nat} {Pl : List Nat} (hPl : ∀ q, 100 ≤ q → q < 118 → q ∈ Pl) (v1 : Int32) (v2 : Int32) (v3 : Int32) (M : Mem) (out : (Int32 × Mem)) (ho : f_X9_dish v1 v2 v3 M = some out) : CtI l D cA A Pl yX9_dish cX9_dish 4 2 .int [.ref (A 100), .int v1, .int v2, .int v3] M out := by
  refine ct_I (by decide) (Nat.le_of_ble_eq_true rfl) (fun p e s m args below meth c C hrt => ?_)
  have hf := ho
  unfold f_X9_dish at hf
  refine wm_iload_n 1 C dX9_dish_g0.1 rfl ?_
  refine wm_i2l C dX9_dish_g0.2.1 ?_
  refine wm_lconst (v := 0) C dX9_dish_g0.2.2.1 (by decide) ?_
  refine wm_ldc2 (v := 5) C wt_X9_83 dX9_dish_g0.2.2.2.1 ?_
  obtain ⟨o1, ho2, hf⟩ := bnd hf
  refine wm_callSi (As := [.long ((v1 : Int32).toInt64), .long 0, .long 5]) C (c_X9_in hPl _ _ _ _ _ ho2) mi_X9_in wt_X9_79 rfl rfl (by decide) (by decide) (Nat.le_of_ble_eq_true rfl) dX9_dish_g0.2.2.2.2.1 ?_
  refine wm_if_eq (tgt := 36) C dX9_dish_g0.2.2.2.2.2.1 (by decide) (fun c3 => ?_) (fun c3 => ?_)
  · have hf := (if_pos c3).symm.trans hf
    refine wm_bipush (v := (-2)) C dX9_dish_g1.2.2.2.2.2.2.1 (by decide) ?_
    exact wm_iret C hrt hf dX9_dish_g1.2.2.2.2.2.2.2.1
  · have hf := (if_neg c3).symm.trans hf
    refine wm_iload_n 2 C dX9_dish_g0.2.2.2.2.2.2.1 rfl ?_
    refine wm_i2l C dX9_dish_g0.2.2.2.2.2.2.2.1 ?_
    refine wm_lconst (v := 0) C dX9_dish_g0.2.2.2.2.2.2.2.2.1 (by decide) ?_
    refine wm_ldc2 (v := 9) C wt_X9_122 dX9_dish_g0.2.2.2.2.2.2.2.2.2.1 ?_
    obtain ⟨o4, ho5, hf⟩ := bnd hf
    refine wm_callSi (As := [.long ((v2 : Int32).toInt64), .long 0, .long 9]) C (c_X9_in hPl _ _ _ _ _ ho5) mi_X9_in wt_X9_79 rfl rfl (by decide) (by decide) (Nat.le_of_ble_eq_true rfl) dX9_dish_g0.2.2.2.2.2.2.2.2.2.2.1 ?_
    refine wm_if_eq (tgt := 36) C dX9_dish_g0.2.2.2.2.2.2.2.2.2.2.2 (by decide) (fun c6 => ?_) (fun c6 => ?_)
    · have hf := (if_pos c6).symm.trans hf
      refine wm_bipush (v := (-2)) C dX9_dish_g1.2.2.2.2.2.2.1 (by decide) ?_
      exact wm_iret C hrt hf dX9_dish_g1.2.2.2.2.2.2.2.1
    · have hf := (if_neg c6).symm.trans hf
      refine wm_iload_n 3 C dX9_dish_g1.1 rfl ?_
      refine wm_i2l C dX9_dish_g1.2.1 ?_
      refine wm_lconst (v := 0) C dX9_dish_g1.2.2.1 (by decide) ?_
      refine wm_ldc2 (v := 999999) C wt_X9_124 dX9_dish_g1.2.2.2.1 ?_
      obtain ⟨o7, ho8, hf⟩ := bnd hf
      refine wm_callSi (As := [.long ((v3 : Int32).toInt64), .long 0, .long 999999]) C (c_X9_in hPl _ _ _ _ _ ho8) mi_X9_in wt_X9_79 rfl rfl (by decide) (by decide) (Nat.le_of_ble_eq_true rfl) dX9_dish_g1.2.2.2.2.1 ?_
      refine wm_if_ne (tgt := 39) C dX9_dish_g1.2.2.2.2.2.1 (by decide) (fun c9 => ?_) (fun c9 => ?_)
      · have hf := (if_neg c9).symm.trans hf
        refine wm_aload_n 0 C dX9_dish_g1.2.2.2.2.2.2.2.2.1 rfl ?_
        refine wm_get (ci := 8) (k := 12) (v := .int (o7.2 100 12)) C (hPl 100 (by decide) (by decide)) rfl rfl (by decide) wt_X9_76 iwX9 rfl dX9_dish_g1.2.2.2.2.2.2.2.2.2.1 ?_
        refine wm_bipush (v := 6) C dX9_dish_g1.2.2.2.2.2.2.2.2.2.2.1 (by decide) ?_
        refine wm_icmp_ne (tgt := 51) C dX9_dish_g1.2.2.2.2.2.2.2.2.2.2.2 (by decide) (fun c10 => ?_) (fun c10 => ?_)
        · have hf := (if_neg c10).symm.trans hf
          refine wm_aload_n 0 C dX9_dish_g2.2.2.1 rfl ?_
          refine wm_get (ci := 8) (k := 10) (v := .ref (A 106)) C (hPl 100 (by decide) (by decide)) rfl rfl (by decide) wt_X9_29 iwX9 rfl dX9_dish_g2.2.2.2.1 ?_
          refine wm_aload_n 0 C dX9_dish_g2.2.2.2.2.1 rfl ?_
          refine wm_get (ci := 8) (k := 12) (v := .int (o7.2 100 12)) C (hPl 100 (by decide) (by decide)) rfl rfl (by decide) wt_X9_76 iwX9 rfl dX9_dish_g2.2.2.2.2.2.1 ?_
          refine wm_iload_n 1 C dX9_dish_g2.2.2.2.2.2.2.1 rfl ?_
          obtain ⟨h11, hf⟩ := ckd hf
          refine wm_iast (n := 6) (j := ((o7.2 100 12)).toNatClampNeg) (x := v1) C (hPl 106 (by decide) (by decide)) rfl rfl rfl h11 rfl dX9_dish_g2.2.2.2.2.2.2.2.1 ?_
          refine wm_aload_n 0 C dX9_dish_g2.2.2.2.2.2.2.2.2.1 rfl ?_
          refine wm_get (ci := 8) (k := 11) (v := .ref (A 107)) C (hPl 100 (by decide) (by decide)) rfl rfl (by decide) wt_X9_32 iwX9 (by first | rfl | simp [fld, mu, upd, mcp]) dX9_dish_g2.2.2.2.2.2.2.2.2.2.1 ?_
          refine wm_iconst (v := 3) C dX9_dish_g2.2.2.2.2.2.2.2.2.2.2.1 (by decide) ?_
          refine wm_aload_n 0 C dX9_dish_g2.2.2.2.2.2.2.2.2.2.2.2 rfl ?_
          refine wm_get (ci := 8) (k := 12) (v := .int (o7.2 100 12)) C (hPl 100 (by decide) (by decide)) rfl rfl (by decide) wt_X9_76 iwX9 (by first | rfl | simp [fld, mu, upd, mcp]) dX9_dish_g3.1 ?_
          refine wm_imul C dX9_dish_g3.2.1 ?_
          refine wm_iload_n 2 C dX9_dish_g3.2.2.1 rfl ?_
          obtain ⟨h12, hf⟩ := ckd hf
          refine wm_iast (n := 18) (j := ((3 * (o7.2 100 12))).toNatClampNeg) (x := v2) C (hPl 107 (by decide) (by decide)) rfl rfl rfl h12 rfl dX9_dish_g3.2.2.2.1 ?_
          refine wm_aload_n 0 C dX9_dish_g3.2.2.2.2.1 rfl ?_
          refine wm_get (ci := 8) (k := 11) (v := .ref (A 107)) C (hPl 100 (by decide) (by decide)) rfl rfl (by decide) wt_X9_32 iwX9 (by first | rfl | simp [fld, mu, upd, mcp]) dX9_dish_g3.2.2.2.2.2.1 ?_
          refine wm_iconst (v := 3) C dX9_dish_g3.2.2.2.2.2.2.1 (by decide) ?_
          refine wm_aload_n 0 C dX9_dish_g3.2.2.2.2.2.2.2.1 rfl ?_
          refine wm_get (ci := 8) (k := 12) (v := .int (o7.2 100 12)) C (hPl 100 (by decide) (by decide)) rfl rfl (by decide) wt_X9_76 iwX9 (by first | rfl | simp [fld, mu, upd, mcp]) dX9_dish_g3.2.2.2.2.2.2.2.2.1 ?_
          refine wm_imul C dX9_dish_g3.2.2.2.2.2.2.2.2.2.1 ?_
          refine wm_iconst (v := 1) C dX9_dish_g3.2.2.2.2.2.2.2.2.2.2.1 (by decide) ?_
          refine wm_iadd C dX9_dish_g3.2.2.2.2.2.2.2.2.2.2.2 ?_
          refine wm_iload_n 3 C dX9_dish_g4.1 rfl ?_
          obtain ⟨h13, hf⟩ := ckd hf
          refine wm_iast (n := 18) (j := (((3 * (o7.2 100 12)) + 1)).toNatClampNeg) (x := v3) C (hPl 107 (by decide) (by decide)) rfl rfl rfl h13 rfl dX9_dish_g4.2.1 ?_
          refine wm_aload_n 0 C dX9_dish_g4.2.2.1 rfl ?_
          refine wm_get (ci := 8) (k := 11) (v := .ref (A 107)) C (hPl 100 (by decide) (by decide)) rfl rfl (by decide) wt_X9_32 iwX9 (by first | rfl | simp [fld, mu, upd, mcp]) dX9_dish_g4.2.2.2.1 ?_
          refine wm_iconst (v := 3) C dX9_dish_g4.2.2.2.2.1 (by decide) ?_
          refine wm_aload_n 0 C dX9_dish_g4.2.2.2.2.2.1 rfl ?_
          refine wm_get (ci := 8) (k := 12) (v := .int (o7.2 100 12)) C (hPl 100 (by decide) (by decide)) rfl rfl (by decide) wt_X9_76 iwX9 (by first | rfl | simp [fld, mu, upd, mcp]) dX9_dish_g4.2.2.2.2.2.2.1 ?_
          refine wm_imul C dX9_dish_g4.2.2.2.2.2.2.2.1 ?_
          refine wm_iconst (v := 2) C dX9_dish_g4.2.2.2.2.2.2.2.2.1 (by decide) ?_
          refine wm_iadd C dX9_dish_g4.2.2.2.2.2.2.2.2.2.1 ?_
          refine wm_iconst (v := 0) C dX9_dish_g4.2.2.2.2.2.2.2.2.2.2.1 (by decide) ?_
          obtain ⟨h14, hf⟩ := ckd hf
          refine wm_iast (n := 18) (j := (((3 * (o7.2 100 12)) + 2)).toNatClampNeg) (x := 0) C (hPl 107 (by decide) (by decide)) rfl rfl rfl h14 rfl dX9_dish_g4.2.2.2.2.2.2.2.2.2.2.2 ?_
          refine wm_aload_n 0 C dX9_dish_g5.1 rfl ?_
          refine wm_dup C dX9_dish_g5.2.1 rfl ?_
          refine wm_get (ci := 8) (k := 12) (v := .int (o7.2 100 12)) C (hPl 100 (by decide) (by decide)) rfl rfl (by decide) wt_X9_76 iwX9 (by first | rfl | simp [fld, mu, upd, mcp]) dX9_dish_g5.2.2.1 ?_
          refine wm_iconst (v := 1) C dX9_dish_g5.2.2.2.1 (by decide) ?_
          refine wm_iadd C dX9_dish_g5.2.2.2.2.1 ?_
          refine wm_put (ci := 8) (k := 12) (x := ((o7.2 100 12) + 1)) C (hPl 100 (by decide) (by decide)) rfl rfl (by decide) wt_X9_76 iwX9 tyX9_ok nmX9 rfl rfl rfl rfl (fun _ => rfl) (Nat.le_of_ble_eq_true rfl) dX9_dish_g5.2.2.2.2.2.1 ?_
          refine wm_aload_n 0 C dX9_dish_g5.2.2.2.2.2.2.1 rfl ?_
          refine wm_get (ci := 8) (k := 12) (v := .int ((o7.2 100 12) + 1)) C (hPl 100 (by decide) (by decide)) rfl rfl (by decide) wt_X9_76 iwX9 (by first | rfl | simp [fld, mu, upd, mcp]) dX9_dish_g5.2.2.2.2.2.2.2.1 ?_
          refine wm_iconst (v := 1) C dX9_dish_g5.2.2.2.2.2.2.2.2.1 (by decide) ?_
          refine wm_isub C dX9_dish_g5.2.2.2.2.2.2.2.2.2.1 ?_
          exact wm_iret C hrt hf dX9_dish_g5.2.2.2.2.2.2.2.2.2.2
        · have hf := (if_pos c10).symm.trans hf
          refine wm_bipush (v := (-4)) C dX9_dish_g2.1 (by decide) ?_
          exact wm_iret C hrt hf dX9_dish_g2.2.1
      · have hf := (if_pos c9).symm.trans hf
        refine wm_bipush (v := (-2)) C dX9_dish_g1.2.2.2.2.2.2.1 (by decide) ?_
        exact wm_iret C hrt hf dX9_dish_g1.2.2.2.2.2.2.2.1
set_option maxHeartbeats 4000000 in
set_option maxRecDepth 100000 in
theorem c_X9_feed {l : Launch} {D : va_G} {cA : Nat → ClassId} {A : Nat → Nat} {Pl : List Nat} (hPl : ∀ q, 100 ≤ q → q < 118 → q ∈ Pl) (v1 : Int32) (M : Mem) (out : (Int32 × Mem)) (ho : f_X9_feed v1 M = some out) : CtI l D cA A Pl yX9_feed cX9_feed 2 2 .int [.ref (A 100), .int v1] M out := by
  refine ct_I (by decide) (Nat.le_of_ble_eq_true rfl) (fun p e s m args below meth c C hrt => ?_)
  have hf := ho
  unfold f_X9_feed at hf
  refine wm_iload_n 1 C dX9_feed_g0.1 rfl ?_
  refine wm_i2l C dX9_feed_g0.2.1 ?_
  refine wm_lconst (v := 0) C dX9_feed_g0.2.2.1 (by decide) ?_
  refine wm_ldc2 (v := 255) C wt_X9_137 dX9_feed_g0.2.2.2.1 ?_
  obtain ⟨o1, ho2, hf⟩ := bnd hf
  refine wm_callSi (As := [.long ((v1 : Int32).toInt64), .long 0, .long 255]) C (c_X9_in hPl _ _ _ _ _ ho2) mi_X9_in wt_X9_79 rfl rfl (by decide) (by decide) (Nat.le_of_ble_eq_true rfl) dX9_feed_g0.2.2.2.2.1 ?_
  refine wm_if_ne (tgt := 15) C dX9_feed_g0.2.2.2.2.2.1 (by decide) (fun c3 => ?_) (fun c3 => ?_)
  · have hf := (if_neg c3).symm.trans hf
    refine wm_aload_n 0 C dX9_feed_g0.2.2.2.2.2.2.2.2.1 rfl ?_
    refine wm_get (ci := 8) (k := 6) (v := .int (o1.2 100 6)) C (hPl 100 (by decide) (by decide)) rfl rfl (by decide) wt_X9_139 iwX9 rfl dX9_feed_g0.2.2.2.2.2.2.2.2.2.1 ?_
    refine wm_sipush (v := 160) C dX9_feed_g0.2.2.2.2.2.2.2.2.2.2.1 (by decide) ?_
    refine wm_icmp_ne (tgt := 28) C dX9_feed_g0.2.2.2.2.2.2.2.2.2.2.2 (by decide) (fun c4 => ?_) (fun c4 => ?_)
    · have hf := (if_neg c4).symm.trans hf
      refine wm_aload_n 0 C dX9_feed_g1.2.2.1 rfl ?_
      refine wm_get (ci := 8) (k := 5) (v := .ref (A 103)) C (hPl 100 (by decide) (by decide)) rfl rfl (by decide) wt_X9_20 iwX9 rfl dX9_feed_g1.2.2.2.1 ?_
      refine wm_aload_n 0 C dX9_feed_g1.2.2.2.2.1 rfl ?_
      refine wm_get (ci := 8) (k := 6) (v := .int (o1.2 100 6)) C (hPl 100 (by decide) (by decide)) rfl rfl (by decide) wt_X9_139 iwX9 rfl dX9_feed_g1.2.2.2.2.2.1 ?_
      refine wm_iload_n 1 C dX9_feed_g1.2.2.2.2.2.2.1 rfl ?_
      obtain ⟨h5, hf⟩ := ckd hf
      refine wm_iast (n := 160) (j := ((o1.2 100 6)).toNatClampNeg) (x := v1) C (hPl 103 (by decide) (by decide)) rfl rfl rfl h5 rfl dX9_feed_g1.2.2.2.2.2.2.2.1 ?_
      refine wm_aload_n 0 C dX9_feed_g1.2.2.2.2.2.2.2.2.1 rfl ?_
      refine wm_dup C dX9_feed_g1.2.2.2.2.2.2.2.2.2.1 rfl ?_
      refine wm_get (ci := 8) (k := 6) (v := .int (o1.2 100 6)) C (hPl 100 (by decide) (by decide)) rfl rfl (by decide) wt_X9_139 iwX9 (by first | rfl | simp [fld, mu, upd, mcp]) dX9_feed_g1.2.2.2.2.2.2.2.2.2.2.1 ?_
      refine wm_iconst (v := 1) C dX9_feed_g1.2.2.2.2.2.2.2.2.2.2.2 (by decide) ?_
      refine wm_iadd C dX9_feed_g2.1 ?_
      refine wm_put (ci := 8) (k := 6) (x := ((o1.2 100 6) + 1)) C (hPl 100 (by decide) (by decide)) rfl rfl (by decide) wt_X9_139 iwX9 tyX9_ok nmX9 rfl rfl rfl rfl (fun _ => rfl) (Nat.le_of_ble_eq_true rfl) dX9_feed_g2.2.1 ?_
      refine wm_aload_n 0 C dX9_feed_g2.2.2.1 rfl ?_
      refine wm_get (ci := 8) (k := 6) (v := .int ((o1.2 100 6) + 1)) C (hPl 100 (by decide) (by decide)) rfl rfl (by decide) wt_X9_139 iwX9 (by first | rfl | simp [fld, mu, upd, mcp]) dX9_feed_g2.2.2.2.1 ?_
      exact wm_iret C hrt hf dX9_feed_g2.2.2.2.2
    · have hf := (if_pos c4).symm.trans hf
      refine wm_bipush (v := (-4)) C dX9_feed_g1.1 (by decide) ?_
      exact wm_iret C hrt hf dX9_feed_g1.2.1
  · have hf := (if_pos c3).symm.trans hf
    refine wm_bipush (v := (-2)) C dX9_feed_g0.2.2.2.2.2.2.1 (by decide) ?_
    exact wm_iret C hrt hf dX9_feed_g0.2.2.2.2.2.2.2.1
set_option maxHeartbeats 4000000 in
set_option maxRecDepth 100000 in
theorem c_X9_byteAt {l : Launch} {D : va_G} {cA : Nat → ClassId} {A : Nat → Nat} {Pl : List Nat} (hPl : ∀ q, 100 ≤ q → q < 118 → q ∈ Pl) (v1 : Int32) (M : Mem) (out : (Int32 × Mem)) (ho : f_X9_byteAt v1 M = some out) : CtI l D cA A Pl yX9_byteAt cX9_byteAt 2 1 .int [.ref (A 100), .int v1] M out := by
  refine ct_I (by decide) (Nat.le_of_ble_eq_true rfl) (fun p e s m args below meth c C hrt => ?_)
  have hf := ho
  unfold f_X9_byteAt at hf
  refine wm_iload_n 1 C dX9_byteAt_g0.1 rfl ?_
  refine wm_aload_n 0 C dX9_byteAt_g0.2.1 rfl ?_
  refine wm_get (ci := 8) (k := 20) (v := .int (M 100 20)) C (hPl 100 (by decide) (by decide)) rfl rfl (by decide) wt_X9_142 iwX9 rfl dX9_byteAt_g0.2.2.1 ?_
  refine wm_icmp_ge (tgt := 22) C dX9_byteAt_g0.2.2.2.1 (by decide) (fun c1 => ?_) (fun c1 => ?_)
  · have hf := (if_pos c1).symm.trans hf
    refine wm_iconst (v := (-1)) C dX9_byteAt_g1.1 (by decide) ?_
    exact wm_iret C hrt hf dX9_byteAt_g1.2
  · have hf := (if_neg c1).symm.trans hf
    refine wm_aload_n 0 C dX9_byteAt_g0.2.2.2.2.1 rfl ?_
    refine wm_get (ci := 8) (k := 1) (v := .ref (A 101)) C (hPl 100 (by decide) (by decide)) rfl rfl (by decide) wt_X9_13 iwX9 rfl dX9_byteAt_g0.2.2.2.2.2.1 ?_
    refine wm_aload_n 0 C dX9_byteAt_g0.2.2.2.2.2.2.1 rfl ?_
    refine wm_get (ci := 8) (k := 19) (v := .int (M 100 19)) C (hPl 100 (by decide) (by decide)) rfl rfl (by decide) wt_X9_145 iwX9 rfl dX9_byteAt_g0.2.2.2.2.2.2.2.1 ?_
    refine wm_iload_n 1 C dX9_byteAt_g0.2.2.2.2.2.2.2.2.1 rfl ?_
    refine wm_iadd C dX9_byteAt_g0.2.2.2.2.2.2.2.2.2.1 ?_
    obtain ⟨h2, hf⟩ := ckd hf
    refine wm_iald (n := 960) (j := (((M 100 19) + v1)).toNatClampNeg) (v := (M 101 (((M 100 19) + v1)).toNatClampNeg)) C (hPl 101 (by decide) (by decide)) rfl rfl rfl h2 rfl rfl dX9_byteAt_g0.2.2.2.2.2.2.2.2.2.2.1 ?_
    refine wm_goto (tgt := 23) C dX9_byteAt_g0.2.2.2.2.2.2.2.2.2.2.2 (by decide) ?_
    exact wm_iret C hrt hf dX9_byteAt_g1.2
set_option maxHeartbeats 4000000 in
set_option maxRecDepth 100000 in
theorem c_X9_next {l : Launch} {D : va_G} {cA : Nat → ClassId} {A : Nat → Nat} {Pl : List Nat} (hPl : ∀ q, 100 ≤ q → q < 118 → q ∈ Pl) (M : Mem) (out : Mem) (ho : f_X9_next M = some out) : CtV l D cA A Pl yX9_next cX9_next 3 2 [.ref (A 100)] M out := by
  refine ct_V (by decide) (Nat.le_of_ble_eq_true rfl) (fun p e s m args below meth c C hrt => ?_)
  have hb26 : ∀ (r : Mem → Option Mem) (hr : ∀  (M : Mem), r  M = some out → WM p l e (RM 2) s m args below meth c 0 0 (MQ below (QV D cA A Pl out) args s 0 0 (FA A Pl)) D cA A Pl (FA A Pl) 3 M 0 [(0, .ref (A 100))] []) (k39 : Mem → Option Mem) (hk39 : ∀  (M : Mem), k39  M = some out → WM p l e (RM 2) s m args below meth c 0 0 (MQ below (QV D cA A Pl out) args s 0 0 (FA A Pl)) D cA A Pl (FA A Pl) 3 M 39 [(0, .ref (A 100))] []), ∀  (M : Mem), f_X9_next_b26 r k39  M = some out → WM p l e (RM 2) s m args below meth c 0 0 (MQ below (QV D cA A Pl out) args s 0 0 (FA A Pl)) D cA A Pl (FA A Pl) 3 M 26 [(0, .ref (A 100))] [] := by
    intro r hr k39 hk39  M hf
    unfold f_X9_next_b26 at hf
    refine wm_aload_n 0 C dX9_next_g1.1 rfl ?_
    refine wm_dup C dX9_next_g1.2.1 rfl ?_
    refine wm_get (ci := 8) (k := 21) (v := .int (M 100 21)) C (hPl 100 (by decide) (by decide)) rfl rfl (by decide) wt_X9_148 iwX9 rfl dX9_next_g1.2.2.1 ?_
    refine wm_iconst (v := 1) C dX9_next_g1.2.2.2.1 (by decide) ?_
    refine wm_iadd C dX9_next_g1.2.2.2.2.1 ?_
    refine wm_put (ci := 8) (k := 21) (x := ((M 100 21) + 1)) C (hPl 100 (by decide) (by decide)) rfl rfl (by decide) wt_X9_148 iwX9 tyX9_ok nmX9 rfl rfl rfl rfl (fun _ => rfl) (Nat.le_of_ble_eq_true rfl) dX9_next_g1.2.2.2.2.2.1 ?_
    refine wm_goto (tgt := 0) C dX9_next_g1.2.2.2.2.2.2.1 (by decide) ?_
    exact hr _ hf
  have hl0 : ∀ (k39 : Mem → Option Mem) (hk39 : ∀  (M : Mem), k39  M = some out → WM p l e (RM 2) s m args below meth c 0 0 (MQ below (QV D cA A Pl out) args s 0 0 (FA A Pl)) D cA A Pl (FA A Pl) 3 M 39 [(0, .ref (A 100))] []) (n : Nat), ∀  (M : Mem), f_X9_next_l0 k39 n  M = some out → WM p l e (RM 2) s m args below meth c 0 0 (MQ below (QV D cA A Pl out) args s 0 0 (FA A Pl)) D cA A Pl (FA A Pl) 3 M 0 [(0, .ref (A 100))] [] := by
    intro k39 hk39 n
    induction n with
    | zero => intro  M hf; rw [f_X9_next_l0] at hf; cases hf
    | succ n hr =>
      intro  M hf
      rw [f_X9_next_l0] at hf
      refine wm_aload_n 0 C dX9_next_g0.1 rfl ?_
      refine wm_aload_n 0 C dX9_next_g0.2.1 rfl ?_
      refine wm_get (ci := 8) (k := 21) (v := .int (M 100 21)) C (hPl 100 (by decide) (by decide)) rfl rfl (by decide) wt_X9_148 iwX9 rfl dX9_next_g0.2.2.1 ?_
      obtain ⟨o1, ho2, hf⟩ := bnd hf
      refine wm_callVi (As := [.int (M 100 21)]) (ci := 8) C (c_X9_byteAt hPl _ _ _ ho2) mi_X9_byteAt wt_X9_151 (hPl 100 (by decide) (by decide)) rfl rfl rfl rfl (by decide) (by decide) (Nat.le_of_ble_eq_true rfl) dX9_next_g0.2.2.2.1 ?_
      refine wm_bipush (v := 32) C dX9_next_g0.2.2.2.2.1 (by decide) ?_
      refine wm_icmp_eq (tgt := 26) C dX9_next_g0.2.2.2.2.2.1 (by decide) (fun c3 => ?_) (fun c3 => ?_)
      · have hf := (if_pos c3).symm.trans hf
        exact (hb26 _ hr _ hk39) _ hf
      · have hf := (if_neg c3).symm.trans hf
        refine wm_aload_n 0 C dX9_next_g0.2.2.2.2.2.2.1 rfl ?_
        refine wm_aload_n 0 C dX9_next_g0.2.2.2.2.2.2.2.1 rfl ?_
        refine wm_get (ci := 8) (k := 21) (v := .int (o1.2 100 21)) C (hPl 100 (by decide) (by decide)) rfl rfl (by decide) wt_X9_148 iwX9 rfl dX9_next_g0.2.2.2.2.2.2.2.2.1 ?_
        obtain ⟨o4, ho5, hf⟩ := bnd hf
        refine wm_callVi (As := [.int (o1.2 100 21)]) (ci := 8) C (c_X9_byteAt hPl _ _ _ ho5) mi_X9_byteAt wt_X9_151 (hPl 100 (by decide) (by decide)) rfl rfl rfl rfl (by decide) (by decide) (Nat.le_of_ble_eq_true rfl) dX9_next_g0.2.2.2.2.2.2.2.2.2.1 ?_
        refine wm_bipush (v := 10) C dX9_next_g0.2.2.2.2.2.2.2.2.2.2.1 (by decide) ?_
        refine wm_icmp_ne (tgt := 39) C dX9_next_g0.2.2.2.2.2.2.2.2.2.2.2 (by decide) (fun c6 => ?_) (fun c6 => ?_)
        · have hf := (if_neg c6).symm.trans hf
          exact hk39 _ hf
        · have hf := (if_pos c6).symm.trans hf
          exact (hb26 _ hr _ hk39) _ hf
  have hl100 : ∀ (n : Nat), ∀  (M : Mem), f_X9_next_l100 n  M = some out → WM p l e (RM 2) s m args below meth c 0 0 (MQ below (QV D cA A Pl out) args s 0 0 (FA A Pl)) D cA A Pl (FA A Pl) 3 M 100 [(0, .ref (A 100))] [] := by
    intro n
    induction n with
    | zero => intro  M hf; rw [f_X9_next_l100] at hf; cases hf
    | succ n hr =>
      intro  M hf
      rw [f_X9_next_l100] at hf
      refine wm_aload_n 0 C dX9_next_g4.2.2.1 rfl ?_
      refine wm_aload_n 0 C dX9_next_g4.2.2.2.1 rfl ?_
      refine wm_get (ci := 8) (k := 21) (v := .int (M 100 21)) C (hPl 100 (by decide) (by decide)) rfl rfl (by decide) wt_X9_148 iwX9 rfl dX9_next_g4.2.2.2.2.1 ?_
      obtain ⟨o15, ho16, hf⟩ := bnd hf
      refine wm_callVi (As := [.int (M 100 21)]) (ci := 8) C (c_X9_byteAt hPl _ _ _ ho16) mi_X9_byteAt wt_X9_151 (hPl 100 (by decide) (by decide)) rfl rfl rfl rfl (by decide) (by decide) (Nat.le_of_ble_eq_true rfl) dX9_next_g4.2.2.2.2.2.1 ?_
      refine wm_i2l C dX9_next_g4.2.2.2.2.2.2.1 ?_
      refine wm_ldc2 (v := 97) C wt_X9_160 dX9_next_g4.2.2.2.2.2.2.2.1 ?_
      refine wm_ldc2 (v := 122) C wt_X9_162 dX9_next_g4.2.2.2.2.2.2.2.2.1 ?_
      obtain ⟨o17, ho18, hf⟩ := bnd hf
      refine wm_callSi (As := [.long ((o15.1 : Int32).toInt64), .long 97, .long 122]) C (c_X9_in hPl _ _ _ _ _ ho18) mi_X9_in wt_X9_79 rfl rfl (by decide) (by decide) (Nat.le_of_ble_eq_true rfl) dX9_next_g4.2.2.2.2.2.2.2.2.2.1 ?_
      refine wm_if_eq (tgt := 321) C dX9_next_g4.2.2.2.2.2.2.2.2.2.2.1 (by decide) (fun c19 => ?_) (fun c19 => ?_)
      · have hf := (if_pos c19).symm.trans hf
        exact wm_vret C hrt hf dX9_next_g13.2.2.2.2.2.2.2
      · have hf := (if_neg c19).symm.trans hf
        refine wm_aload_n 0 C dX9_next_g4.2.2.2.2.2.2.2.2.2.2.2 rfl ?_
        refine wm_dup C dX9_next_g5.1 rfl ?_
        refine wm_get (ci := 8) (k := 21) (v := .int (o17.2 100 21)) C (hPl 100 (by decide) (by decide)) rfl rfl (by decide) wt_X9_148 iwX9 rfl dX9_next_g5.2.1 ?_
        refine wm_iconst (v := 1) C dX9_next_g5.2.2.1 (by decide) ?_
        refine wm_iadd C dX9_next_g5.2.2.2.1 ?_
        refine wm_put (ci := 8) (k := 21) (x := ((o17.2 100 21) + 1)) C (hPl 100 (by decide) (by decide)) rfl rfl (by decide) wt_X9_148 iwX9 tyX9_ok nmX9 rfl rfl rfl rfl (fun _ => rfl) (Nat.le_of_ble_eq_true rfl) dX9_next_g5.2.2.2.2.1 ?_
        refine wm_goto (tgt := 100) C dX9_next_g5.2.2.2.2.2.1 (by decide) ?_
        exact hr _ hf
  have hb216 : ∀ (r : Int32 → Mem → Option Mem) (hr : ∀ (v2 : Int32) (M : Mem), r v2 M = some out → WM p l e (RM 2) s m args below meth c 0 0 (MQ below (QV D cA A Pl out) args s 0 0 (FA A Pl)) D cA A Pl (FA A Pl) 3 M 160 [(0, .ref (A 100)), (2, .int v2)] []) (k235 : Int32 → Mem → Option Mem) (hk235 : ∀ (v2 : Int32) (M : Mem), k235 v2 M = some out → WM p l e (RM 2) s m args below meth c 0 0 (MQ below (QV D cA A Pl out) args s 0 0 (FA A Pl)) D cA A Pl (FA A Pl) 3 M 235 [(0, .ref (A 100)), (2, .int v2)] []), ∀ (v2 : Int32) (s1 : Int64) (M : Mem), f_X9_next_b216 r k235 v2 s1 M = some out → WM p l e (RM 2) s m args below meth c 0 0 (MQ below (QV D cA A Pl out) args s 0 0 (FA A Pl)) D cA A Pl (FA A Pl) 3 M 216 [(0, .ref (A 100)), (2, .int v2)] [.long s1, .ref (A 100)] := by
    intro r hr k235 hk235 v2 s1 M hf
    unfold f_X9_next_b216 at hf
    obtain ⟨h40, hf⟩ := ckd hf
    refine wm_lswap (w := 0) (eq_of_beq h40) ?_
    refine wm_put (ci := 8) (k := 24) (x := (s1).toInt32) C (hPl 100 (by decide) (by decide)) rfl rfl (by decide) wt_X9_168 iwX9 tyX9_ok nmX9 rfl rfl rfl rfl (fun _ => rfl) (Nat.le_of_ble_eq_true rfl) dX9_next_g9.1 ?_
    refine wm_iinc (lv1 := [(2, .int (v2 + 1)), (0, .ref (A 100))]) (v := (v2 + 1)) 1 C dX9_next_g9.2.1 rfl (by first | rfl | decide) (by decide) rfl ?_
    refine wm_aload_n 1 C dX9_next_g9.2.2.1 rfl ?_
    refine wm_dup C dX9_next_g9.2.2.2.1 rfl ?_
    refine wm_get (ci := 8) (k := 21) (v := .int (M 100 21)) C (hPl 100 (by decide) (by decide)) rfl rfl (by decide) wt_X9_148 iwX9 (by first | rfl | simp [fld, mu, upd, mcp]) dX9_next_g9.2.2.2.2.1 ?_
    refine wm_iconst (v := 1) C dX9_next_g9.2.2.2.2.2.1 (by decide) ?_
    refine wm_iadd C dX9_next_g9.2.2.2.2.2.2.1 ?_
    refine wm_put (ci := 8) (k := 21) (x := ((M 100 21) + 1)) C (hPl 100 (by decide) (by decide)) rfl rfl (by decide) wt_X9_148 iwX9 tyX9_ok nmX9 rfl rfl rfl rfl (fun _ => rfl) (Nat.le_of_ble_eq_true rfl) dX9_next_g9.2.2.2.2.2.2.2.1 ?_
    refine wm_goto (tgt := 160) C dX9_next_g9.2.2.2.2.2.2.2.2.1 (by decide) ?_
    refine wm_pick [1, 0] rfl ?_
    exact hr _ _ hf
  have hl160 : ∀ (k235 : Int32 → Mem → Option Mem) (hk235 : ∀ (v2 : Int32) (M : Mem), k235 v2 M = some out → WM p l e (RM 2) s m args below meth c 0 0 (MQ below (QV D cA A Pl out) args s 0 0 (FA A Pl)) D cA A Pl (FA A Pl) 3 M 235 [(0, .ref (A 100)), (2, .int v2)] []) (n : Nat), ∀ (v2 : Int32) (M : Mem), f_X9_next_l160 k235 n v2 M = some out → WM p l e (RM 2) s m args below meth c 0 0 (MQ below (QV D cA A Pl out) args s 0 0 (FA A Pl)) D cA A Pl (FA A Pl) 3 M 160 [(0, .ref (A 100)), (2, .int v2)] [] := by
    intro k235 hk235 n
    induction n with
    | zero => intro v2 M hf; rw [f_X9_next_l160] at hf; cases hf
    | succ n hr =>
      intro v2 M hf
      rw [f_X9_next_l160] at hf
      refine wm_aload_n 0 C dX9_next_g6.2.2.2.2.2.2.2.2.1 rfl ?_
      refine wm_aload_n 0 C dX9_next_g6.2.2.2.2.2.2.2.2.2.1 rfl ?_
      refine wm_get (ci := 8) (k := 21) (v := .int (M 100 21)) C (hPl 100 (by decide) (by decide)) rfl rfl (by decide) wt_X9_148 iwX9 rfl dX9_next_g6.2.2.2.2.2.2.2.2.2.2.1 ?_
      obtain ⟨o7, ho8, hf⟩ := bnd hf
      refine wm_callVi (As := [.int (M 100 21)]) (ci := 8) C (c_X9_byteAt hPl _ _ _ ho8) mi_X9_byteAt wt_X9_151 (hPl 100 (by decide) (by decide)) rfl rfl rfl rfl (by decide) (by decide) (Nat.le_of_ble_eq_true rfl) dX9_next_g6.2.2.2.2.2.2.2.2.2.2.2 ?_
      refine wm_i2l C dX9_next_g7.1 ?_
      refine wm_ldc2 (v := 48) C wt_X9_164 dX9_next_g7.2.1 ?_
      refine wm_ldc2 (v := 57) C wt_X9_166 dX9_next_g7.2.2.1 ?_
      obtain ⟨o9, ho10, hf⟩ := bnd hf
      refine wm_callSi (As := [.long ((o7.1 : Int32).toInt64), .long 48, .long 57]) C (c_X9_in hPl _ _ _ _ _ ho10) mi_X9_in wt_X9_79 rfl rfl (by decide) (by decide) (Nat.le_of_ble_eq_true rfl) dX9_next_g7.2.2.2.1 ?_
      refine wm_if_eq (tgt := 235) C dX9_next_g7.2.2.2.2.1 (by decide) (fun c11 => ?_) (fun c11 => ?_)
      · have hf := (if_pos c11).symm.trans hf
        exact hk235 _ _ hf
      · have hf := (if_neg c11).symm.trans hf
        refine wm_aload_n 0 C dX9_next_g7.2.2.2.2.2.1 rfl ?_
        refine wm_iload_n 1 C dX9_next_g7.2.2.2.2.2.2.1 rfl ?_
        refine wm_iconst (v := 4) C dX9_next_g7.2.2.2.2.2.2.2.1 (by decide) ?_
        refine wm_icmp_ge (tgt := 212) C dX9_next_g7.2.2.2.2.2.2.2.2.1 (by decide) (fun c12 => ?_) (fun c12 => ?_)
        · have hf := (if_pos c12).symm.trans hf
          refine wm_aload_n 0 C dX9_next_g8.2.2.2.2.2.2.2.2.2.2.1 rfl ?_
          refine wm_get (ci := 8) (k := 24) (v := .long ((o9.2 100 24)).toInt64) C (hPl 100 (by decide) (by decide)) rfl rfl (by decide) wt_X9_168 iwX9 rfl dX9_next_g8.2.2.2.2.2.2.2.2.2.2.2 ?_
          exact (hb216 _ hr _ hk235) _ _ _ hf
        · have hf := (if_neg c12).symm.trans hf
          refine wm_ldc2 (v := 10) C wt_X9_172 dX9_next_g7.2.2.2.2.2.2.2.2.2.1 ?_
          refine wm_aload_n 0 C dX9_next_g7.2.2.2.2.2.2.2.2.2.2.1 rfl ?_
          refine wm_get (ci := 8) (k := 24) (v := .long ((o9.2 100 24)).toInt64) C (hPl 100 (by decide) (by decide)) rfl rfl (by decide) wt_X9_168 iwX9 rfl dX9_next_g7.2.2.2.2.2.2.2.2.2.2.2 ?_
          refine wm_lmul C dX9_next_g8.1 ?_
          refine wm_aload_n 0 C dX9_next_g8.2.1 rfl ?_
          refine wm_aload_n 0 C dX9_next_g8.2.2.1 rfl ?_
          refine wm_get (ci := 8) (k := 21) (v := .int (o9.2 100 21)) C (hPl 100 (by decide) (by decide)) rfl rfl (by decide) wt_X9_148 iwX9 rfl dX9_next_g8.2.2.2.1 ?_
          obtain ⟨o13, ho14, hf⟩ := bnd hf
          refine wm_callVi (As := [.int (o9.2 100 21)]) (ci := 8) C (c_X9_byteAt hPl _ _ _ ho14) mi_X9_byteAt wt_X9_151 (hPl 100 (by decide) (by decide)) rfl rfl rfl rfl (by decide) (by decide) (Nat.le_of_ble_eq_true rfl) dX9_next_g8.2.2.2.2.1 ?_
          refine wm_i2l C dX9_next_g8.2.2.2.2.2.1 ?_
          refine wm_ladd C dX9_next_g8.2.2.2.2.2.2.1 ?_
          refine wm_ldc2 (v := 48) C wt_X9_164 dX9_next_g8.2.2.2.2.2.2.2.1 ?_
          refine wm_lsub C dX9_next_g8.2.2.2.2.2.2.2.2.1 ?_
          refine wm_goto (tgt := 216) C dX9_next_g8.2.2.2.2.2.2.2.2.2.1 (by decide) ?_
          exact (hb216 _ hr _ hk235) _ _ _ hf
  have hb235 : ∀ (v2 : Int32) (M : Mem), f_X9_next_b235 v2 M = some out → WM p l e (RM 2) s m args below meth c 0 0 (MQ below (QV D cA A Pl out) args s 0 0 (FA A Pl)) D cA A Pl (FA A Pl) 3 M 235 [(0, .ref (A 100)), (2, .int v2)] [] := by
    intro v2 M hf
    unfold f_X9_next_b235 at hf
    refine wm_aload_n 0 C dX9_next_g9.2.2.2.2.2.2.2.2.2.1 rfl ?_
    refine wm_iload_n 1 C dX9_next_g9.2.2.2.2.2.2.2.2.2.2.1 rfl ?_
    refine wm_iconst (v := 4) C dX9_next_g9.2.2.2.2.2.2.2.2.2.2.2 (by decide) ?_
    refine wm_icmp_le (tgt := 245) C dX9_next_g10.1 (by decide) (fun c38 => ?_) (fun c38 => ?_)
    · have hf := (if_pos c38).symm.trans hf
      refine wm_iconst (v := 2) C dX9_next_g10.2.2.2.1 (by decide) ?_
      refine wm_put (ci := 8) (k := 22) (x := 2) C (hPl 100 (by decide) (by decide)) rfl rfl (by decide) wt_X9_157 iwX9 tyX9_ok nmX9 rfl rfl rfl rfl (fun _ => rfl) (Nat.le_of_ble_eq_true rfl) dX9_next_g10.2.2.2.2.1 ?_
      refine wm_goto (tgt := 321) C dX9_next_g10.2.2.2.2.2.1 (by decide) ?_
      exact wm_vret C hrt hf dX9_next_g13.2.2.2.2.2.2.2
    · have hf := (if_neg c38).symm.trans hf
      refine wm_iconst (v := 4) C dX9_next_g10.2.1 (by decide) ?_
      refine wm_goto (tgt := 246) C dX9_next_g10.2.2.1 (by decide) ?_
      refine wm_put (ci := 8) (k := 22) (x := 4) C (hPl 100 (by decide) (by decide)) rfl rfl (by decide) wt_X9_157 iwX9 tyX9_ok nmX9 rfl rfl rfl rfl (fun _ => rfl) (Nat.le_of_ble_eq_true rfl) dX9_next_g10.2.2.2.2.1 ?_
      refine wm_goto (tgt := 321) C dX9_next_g10.2.2.2.2.2.1 (by decide) ?_
      exact wm_vret C hrt hf dX9_next_g13.2.2.2.2.2.2.2
  have hb300 : ∀ (v1 : Int32) (M : Mem), f_X9_next_b300 v1 M = some out → WM p l e (RM 2) s m args below meth c 0 0 (MQ below (QV D cA A Pl out) args s 0 0 (FA A Pl)) D cA A Pl (FA A Pl) 3 M 300 [(0, .ref (A 100)), (1, .int v1)] [] := by
    intro v1 M hf
    unfold f_X9_next_b300 at hf
    refine wm_aload_n 0 C dX9_next_g12.2.2.2.2.2.2.1 rfl ?_
    refine wm_iconst (v := 3) C dX9_next_g12.2.2.2.2.2.2.2.1 (by decide) ?_
    refine wm_put (ci := 8) (k := 22) (x := 3) C (hPl 100 (by decide) (by decide)) rfl rfl (by decide) wt_X9_157 iwX9 tyX9_ok nmX9 rfl rfl rfl rfl (fun _ => rfl) (Nat.le_of_ble_eq_true rfl) dX9_next_g12.2.2.2.2.2.2.2.2.1 ?_
    refine wm_aload_n 0 C dX9_next_g12.2.2.2.2.2.2.2.2.2.1 rfl ?_
    refine wm_iload_n 1 C dX9_next_g12.2.2.2.2.2.2.2.2.2.2.1 rfl ?_
    refine wm_i2l C dX9_next_g12.2.2.2.2.2.2.2.2.2.2.2 ?_
    obtain ⟨h39, hf⟩ := ckd hf
    refine wm_lswap (w := 0) (eq_of_beq h39) ?_
    refine wm_put (ci := 8) (k := 24) (x := (((v1 : Int32).toInt64)).toInt32) C (hPl 100 (by decide) (by decide)) rfl rfl (by decide) wt_X9_168 iwX9 tyX9_ok nmX9 rfl rfl rfl rfl (fun _ => rfl) (Nat.le_of_ble_eq_true rfl) dX9_next_g13.1 ?_
    refine wm_aload_n 0 C dX9_next_g13.2.1 rfl ?_
    refine wm_dup C dX9_next_g13.2.2.1 rfl ?_
    refine wm_get (ci := 8) (k := 21) (v := .int (M 100 21)) C (hPl 100 (by decide) (by decide)) rfl rfl (by decide) wt_X9_148 iwX9 (by first | rfl | simp [fld, mu, upd, mcp]) dX9_next_g13.2.2.2.1 ?_
    refine wm_iconst (v := 1) C dX9_next_g13.2.2.2.2.1 (by decide) ?_
    refine wm_iadd C dX9_next_g13.2.2.2.2.2.1 ?_
    refine wm_put (ci := 8) (k := 21) (x := ((M 100 21) + 1)) C (hPl 100 (by decide) (by decide)) rfl rfl (by decide) wt_X9_148 iwX9 tyX9_ok nmX9 rfl rfl rfl rfl (fun _ => rfl) (Nat.le_of_ble_eq_true rfl) dX9_next_g13.2.2.2.2.2.2.1 ?_
    exact wm_vret C hrt hf dX9_next_g13.2.2.2.2.2.2.2
  have hb39 : ∀  (M : Mem), f_X9_next_b39  M = some out → WM p l e (RM 2) s m args below meth c 0 0 (MQ below (QV D cA A Pl out) args s 0 0 (FA A Pl)) D cA A Pl (FA A Pl) 3 M 39 [(0, .ref (A 100))] [] := by
    intro  M hf
    unfold f_X9_next_b39 at hf
    refine wm_aload_n 0 C dX9_next_g1.2.2.2.2.2.2.2.1 rfl ?_
    refine wm_aload_n 0 C dX9_next_g1.2.2.2.2.2.2.2.2.1 rfl ?_
    refine wm_get (ci := 8) (k := 21) (v := .int (M 100 21)) C (hPl 100 (by decide) (by decide)) rfl rfl (by decide) wt_X9_148 iwX9 rfl dX9_next_g1.2.2.2.2.2.2.2.2.2.1 ?_
    refine wm_put (ci := 8) (k := 23) (x := (M 100 21)) C (hPl 100 (by decide) (by decide)) rfl rfl (by decide) wt_X9_154 iwX9 tyX9_ok nmX9 rfl rfl rfl rfl (fun _ => rfl) (Nat.le_of_ble_eq_true rfl) dX9_next_g1.2.2.2.2.2.2.2.2.2.2.1 ?_
    refine wm_aload_n 0 C dX9_next_g1.2.2.2.2.2.2.2.2.2.2.2 rfl ?_
    refine wm_aload_n 0 C dX9_next_g2.1 rfl ?_
    refine wm_get (ci := 8) (k := 21) (v := .int (M 100 21)) C (hPl 100 (by decide) (by decide)) rfl rfl (by decide) wt_X9_148 iwX9 (by first | rfl | simp [fld, mu, upd, mcp]) dX9_next_g2.2.1 ?_
    obtain ⟨o20, ho21, hf⟩ := bnd hf
    refine wm_callVi (As := [.int (M 100 21)]) (ci := 8) C (c_X9_byteAt hPl _ _ _ ho21) mi_X9_byteAt wt_X9_151 (hPl 100 (by decide) (by decide)) rfl rfl rfl rfl (by decide) (by decide) (Nat.le_of_ble_eq_true rfl) dX9_next_g2.2.2.1 ?_
    refine wm_istore_n (lv1 := [(1, .int o20.1), (0, .ref (A 100))]) C dX9_next_g2.2.2.2.1 (by decide) rfl ?_
    refine wm_aload_n 1 C dX9_next_g2.2.2.2.2.1 rfl ?_
    refine wm_iconst (v := 4) C dX9_next_g2.2.2.2.2.2.1 (by decide) ?_
    refine wm_put (ci := 8) (k := 22) (x := 4) C (hPl 100 (by decide) (by decide)) rfl rfl (by decide) wt_X9_157 iwX9 tyX9_ok nmX9 rfl rfl rfl rfl (fun _ => rfl) (Nat.le_of_ble_eq_true rfl) dX9_next_g2.2.2.2.2.2.2.1 ?_
    refine wm_iload_n 0 C dX9_next_g2.2.2.2.2.2.2.2.1 rfl ?_
    refine wm_if_ge (tgt := 81) C dX9_next_g2.2.2.2.2.2.2.2.2.1 (by decide) (fun c22 => ?_) (fun c22 => ?_)
    · have hf := (if_pos c22).symm.trans hf
      refine wm_iload_n 0 C dX9_next_g3.2.2.2.2.2.1 rfl ?_
      refine wm_i2l C dX9_next_g3.2.2.2.2.2.2.1 ?_
      refine wm_ldc2 (v := 97) C wt_X9_160 dX9_next_g3.2.2.2.2.2.2.2.1 ?_
      refine wm_ldc2 (v := 122) C wt_X9_162 dX9_next_g3.2.2.2.2.2.2.2.2.1 ?_
      obtain ⟨o23, ho24, hf⟩ := bnd hf
      refine wm_callSi (As := [.long ((o20.1 : Int32).toInt64), .long 97, .long 122]) C (c_X9_in hPl _ _ _ _ _ ho24) mi_X9_in wt_X9_79 rfl rfl (by decide) (by decide) (Nat.le_of_ble_eq_true rfl) dX9_next_g3.2.2.2.2.2.2.2.2.2.1 ?_
      refine wm_if_eq (tgt := 134) C dX9_next_g3.2.2.2.2.2.2.2.2.2.2.1 (by decide) (fun c25 => ?_) (fun c25 => ?_)
      · have hf := (if_pos c25).symm.trans hf
        refine wm_iload_n 0 C dX9_next_g5.2.2.2.2.2.2.1 rfl ?_
        refine wm_i2l C dX9_next_g5.2.2.2.2.2.2.2.1 ?_
        refine wm_ldc2 (v := 48) C wt_X9_164 dX9_next_g5.2.2.2.2.2.2.2.2.1 ?_
        refine wm_ldc2 (v := 57) C wt_X9_166 dX9_next_g5.2.2.2.2.2.2.2.2.2.1 ?_
        obtain ⟨o26, ho27, hf⟩ := bnd hf
        refine wm_callSi (As := [.long ((o20.1 : Int32).toInt64), .long 48, .long 57]) C (c_X9_in hPl _ _ _ _ _ ho27) mi_X9_in wt_X9_79 rfl rfl (by decide) (by decide) (Nat.le_of_ble_eq_true rfl) dX9_next_g5.2.2.2.2.2.2.2.2.2.2.1 ?_
        refine wm_if_eq (tgt := 252) C dX9_next_g5.2.2.2.2.2.2.2.2.2.2.2 (by decide) (fun c28 => ?_) (fun c28 => ?_)
        · have hf := (if_pos c28).symm.trans hf
          refine wm_iload_n 0 C dX9_next_g10.2.2.2.2.2.2.1 rfl ?_
          refine wm_bipush (v := 40) C dX9_next_g10.2.2.2.2.2.2.2.1 (by decide) ?_
          refine wm_icmp_eq (tgt := 300) C dX9_next_g10.2.2.2.2.2.2.2.2.1 (by decide) (fun c29 => ?_) (fun c29 => ?_)
          · have hf := (if_pos c29).symm.trans hf
            refine wm_pick [1, 0] rfl ?_
            exact hb300 _ _ hf
          · have hf := (if_neg c29).symm.trans hf
            refine wm_iload_n 0 C dX9_next_g10.2.2.2.2.2.2.2.2.2.1 rfl ?_
            refine wm_bipush (v := 41) C dX9_next_g10.2.2.2.2.2.2.2.2.2.2.1 (by decide) ?_
            refine wm_icmp_eq (tgt := 300) C dX9_next_g10.2.2.2.2.2.2.2.2.2.2.2 (by decide) (fun c30 => ?_) (fun c30 => ?_)
            · have hf := (if_pos c30).symm.trans hf
              refine wm_pick [1, 0] rfl ?_
              exact hb300 _ _ hf
            · have hf := (if_neg c30).symm.trans hf
              refine wm_iload_n 0 C dX9_next_g11.1 rfl ?_
              refine wm_bipush (v := 59) C dX9_next_g11.2.1 (by decide) ?_
              refine wm_icmp_eq (tgt := 300) C dX9_next_g11.2.2.1 (by decide) (fun c31 => ?_) (fun c31 => ?_)
              · have hf := (if_pos c31).symm.trans hf
                refine wm_pick [1, 0] rfl ?_
                exact hb300 _ _ hf
              · have hf := (if_neg c31).symm.trans hf
                refine wm_iload_n 0 C dX9_next_g11.2.2.2.1 rfl ?_
                refine wm_bipush (v := 43) C dX9_next_g11.2.2.2.2.1 (by decide) ?_
                refine wm_icmp_eq (tgt := 300) C dX9_next_g11.2.2.2.2.2.1 (by decide) (fun c32 => ?_) (fun c32 => ?_)
                · have hf := (if_pos c32).symm.trans hf
                  refine wm_pick [1, 0] rfl ?_
                  exact hb300 _ _ hf
                · have hf := (if_neg c32).symm.trans hf
                  refine wm_iload_n 0 C dX9_next_g11.2.2.2.2.2.2.1 rfl ?_
                  refine wm_bipush (v := 45) C dX9_next_g11.2.2.2.2.2.2.2.1 (by decide) ?_
                  refine wm_icmp_eq (tgt := 300) C dX9_next_g11.2.2.2.2.2.2.2.2.1 (by decide) (fun c33 => ?_) (fun c33 => ?_)
                  · have hf := (if_pos c33).symm.trans hf
                    refine wm_pick [1, 0] rfl ?_
                    exact hb300 _ _ hf
                  · have hf := (if_neg c33).symm.trans hf
                    refine wm_iload_n 0 C dX9_next_g11.2.2.2.2.2.2.2.2.2.1 rfl ?_
                    refine wm_bipush (v := 42) C dX9_next_g11.2.2.2.2.2.2.2.2.2.2.1 (by decide) ?_
                    refine wm_icmp_eq (tgt := 300) C dX9_next_g11.2.2.2.2.2.2.2.2.2.2.2 (by decide) (fun c34 => ?_) (fun c34 => ?_)
                    · have hf := (if_pos c34).symm.trans hf
                      refine wm_pick [1, 0] rfl ?_
                      exact hb300 _ _ hf
                    · have hf := (if_neg c34).symm.trans hf
                      refine wm_iload_n 0 C dX9_next_g12.1 rfl ?_
                      refine wm_bipush (v := 60) C dX9_next_g12.2.1 (by decide) ?_
                      refine wm_icmp_eq (tgt := 300) C dX9_next_g12.2.2.1 (by decide) (fun c35 => ?_) (fun c35 => ?_)
                      · have hf := (if_pos c35).symm.trans hf
                        refine wm_pick [1, 0] rfl ?_
                        exact hb300 _ _ hf
                      · have hf := (if_neg c35).symm.trans hf
                        refine wm_iload_n 0 C dX9_next_g12.2.2.2.1 rfl ?_
                        refine wm_bipush (v := 61) C dX9_next_g12.2.2.2.2.1 (by decide) ?_
                        refine wm_icmp_ne (tgt := 321) C dX9_next_g12.2.2.2.2.2.1 (by decide) (fun c36 => ?_) (fun c36 => ?_)
                        · have hf := (if_neg c36).symm.trans hf
                          exact wm_vret C hrt hf dX9_next_g13.2.2.2.2.2.2.2
                        · have hf := (if_pos c36).symm.trans hf
                          refine wm_pick [1, 0] rfl ?_
                          exact hb300 _ _ hf
        · have hf := (if_neg c28).symm.trans hf
          refine wm_aload_n 1 C dX9_next_g6.1 rfl ?_
          refine wm_iconst (v := 2) C dX9_next_g6.2.1 (by decide) ?_
          refine wm_put (ci := 8) (k := 22) (x := 2) C (hPl 100 (by decide) (by decide)) rfl rfl (by decide) wt_X9_157 iwX9 tyX9_ok nmX9 rfl rfl rfl rfl (fun _ => rfl) (Nat.le_of_ble_eq_true rfl) dX9_next_g6.2.2.1 ?_
          refine wm_aload_n 1 C dX9_next_g6.2.2.2.1 rfl ?_
          refine wm_lconst (v := 0) C dX9_next_g6.2.2.2.2.1 (by decide) ?_
          obtain ⟨h37, hf⟩ := ckd hf
          refine wm_lswap (w := 0) (eq_of_beq h37) ?_
          refine wm_put (ci := 8) (k := 24) (x := (0).toInt32) C (hPl 100 (by decide) (by decide)) rfl rfl (by decide) wt_X9_168 iwX9 tyX9_ok nmX9 rfl rfl rfl rfl (fun _ => rfl) (Nat.le_of_ble_eq_true rfl) dX9_next_g6.2.2.2.2.2.1 ?_
          refine wm_iconst (v := 0) C dX9_next_g6.2.2.2.2.2.2.1 (by decide) ?_
          refine wm_istore_n (lv1 := [(2, .int 0), (1, .int o20.1), (0, .ref (A 100))]) C dX9_next_g6.2.2.2.2.2.2.2.1 (by decide) rfl ?_
          refine wm_pick [2, 0] rfl ?_
          exact (hl160 _ hb235 FU) _ _ hf
      · have hf := (if_neg c25).symm.trans hf
        refine wm_aload_n 1 C dX9_next_g3.2.2.2.2.2.2.2.2.2.2.2 rfl ?_
        refine wm_iconst (v := 1) C dX9_next_g4.1 (by decide) ?_
        refine wm_put (ci := 8) (k := 22) (x := 1) C (hPl 100 (by decide) (by decide)) rfl rfl (by decide) wt_X9_157 iwX9 tyX9_ok nmX9 rfl rfl rfl rfl (fun _ => rfl) (Nat.le_of_ble_eq_true rfl) dX9_next_g4.2.1 ?_
        refine wm_pick [1] rfl ?_
        exact (hl100 FU) _ hf
    · have hf := (if_neg c22).symm.trans hf
      refine wm_aload_n 1 C dX9_next_g2.2.2.2.2.2.2.2.2.2.1 rfl ?_
      refine wm_iconst (v := 0) C dX9_next_g2.2.2.2.2.2.2.2.2.2.2.1 (by decide) ?_
      refine wm_put (ci := 8) (k := 22) (x := 0) C (hPl 100 (by decide) (by decide)) rfl rfl (by decide) wt_X9_157 iwX9 tyX9_ok nmX9 rfl rfl rfl rfl (fun _ => rfl) (Nat.le_of_ble_eq_true rfl) dX9_next_g2.2.2.2.2.2.2.2.2.2.2.2 ?_
      refine wm_aload_n 1 C dX9_next_g3.1 rfl ?_
      refine wm_aload_n 1 C dX9_next_g3.2.1 rfl ?_
      refine wm_get (ci := 8) (k := 20) (v := .int (o20.2 100 20)) C (hPl 100 (by decide) (by decide)) rfl rfl (by decide) wt_X9_142 iwX9 (by first | rfl | simp [fld, mu, upd, mcp]) dX9_next_g3.2.2.1 ?_
      refine wm_put (ci := 8) (k := 23) (x := (o20.2 100 20)) C (hPl 100 (by decide) (by decide)) rfl rfl (by decide) wt_X9_154 iwX9 tyX9_ok nmX9 rfl rfl rfl rfl (fun _ => rfl) (Nat.le_of_ble_eq_true rfl) dX9_next_g3.2.2.2.1 ?_
      refine wm_goto (tgt := 321) C dX9_next_g3.2.2.2.2.1 (by decide) ?_
      exact wm_vret C hrt hf dX9_next_g13.2.2.2.2.2.2.2
  have hf := ho
  unfold f_X9_next at hf
  exact (hl0 _ hb39 FU) _ hf
set_option maxHeartbeats 4000000 in
set_option maxRecDepth 100000 in
theorem c_X9_fail {l : Launch} {D : va_G} {cA : Nat → ClassId} {A : Nat → Nat} {Pl : List Nat} (hPl : ∀ q, 100 ≤ q → q < 118 → q ∈ Pl) (M : Mem) (out : Mem) (ho : f_X9_fail M = some out) : CtV l D cA A Pl yX9_fail cX9_fail 1 1 [.ref (A 100)] M out := by
  refine ct_V (by decide) (Nat.le_of_ble_eq_true rfl) (fun p e s m args below meth c C hrt => ?_)
  have hf := ho
  unfold f_X9_fail at hf
  refine wm_aload_n 0 C dX9_fail_g0.1 rfl ?_
  refine wm_get (ci := 8) (k := 26) (v := .int (M 100 26)) C (hPl 100 (by decide) (by decide)) rfl rfl (by decide) wt_X9_174 iwX9 rfl dX9_fail_g0.2.1 ?_
  refine wm_if_ne (tgt := 20) C dX9_fail_g0.2.2.1 (by decide) (fun c1 => ?_) (fun c1 => ?_)
  · have hf := (if_neg c1).symm.trans hf
    exact wm_vret C hrt hf dX9_fail_g0.2.2.2.2.2.2.2.2.2.2
  · have hf := (if_pos c1).symm.trans hf
    refine wm_aload_n 0 C dX9_fail_g0.2.2.2.1 rfl ?_
    refine wm_iconst (v := 1) C dX9_fail_g0.2.2.2.2.1 (by decide) ?_
    refine wm_put (ci := 8) (k := 26) (x := 1) C (hPl 100 (by decide) (by decide)) rfl rfl (by decide) wt_X9_174 iwX9 tyX9_ok nmX9 rfl rfl rfl rfl (fun _ => rfl) (Nat.le_of_ble_eq_true rfl) dX9_fail_g0.2.2.2.2.2.1 ?_
    refine wm_aload_n 0 C dX9_fail_g0.2.2.2.2.2.2.1 rfl ?_
    refine wm_aload_n 0 C dX9_fail_g0.2.2.2.2.2.2.2.1 rfl ?_
    refine wm_get (ci := 8) (k := 23) (v := .int (M 100 23)) C (hPl 100 (by decide) (by decide)) rfl rfl (by decide) wt_X9_154 iwX9 (by first | rfl | simp [fld, mu, upd, mcp]) dX9_fail_g0.2.2.2.2.2.2.2.2.1 ?_
    refine wm_put (ci := 8) (k := 27) (x := (M 100 23)) C (hPl 100 (by decide) (by decide)) rfl rfl (by decide) wt_X9_178 iwX9 tyX9_ok nmX9 rfl rfl rfl rfl (fun _ => rfl) (Nat.le_of_ble_eq_true rfl) dX9_fail_g0.2.2.2.2.2.2.2.2.2.1 ?_
    exact wm_vret C hrt hf dX9_fail_g0.2.2.2.2.2.2.2.2.2.2
set_option maxHeartbeats 4000000 in
set_option maxRecDepth 100000 in
theorem c_X9_isLetter {l : Launch} {D : va_G} {cA : Nat → ClassId} {A : Nat → Nat} {Pl : List Nat} (hPl : ∀ q, 100 ≤ q → q < 118 → q ∈ Pl) (v1 : Int32) (v2 : Int32) (M : Mem) (out : (Int32 × Mem)) (ho : f_X9_isLetter v1 v2 M = some out) : CtI l D cA A Pl yX9_isLetter cX9_isLetter 3 2 .boolean [.ref (A 100), .int v1, .int v2] M out := by
  refine ct_I (by decide) (Nat.le_of_ble_eq_true rfl) (fun p e s m args below meth c C hrt => ?_)
  have hf := ho
  unfold f_X9_isLetter at hf
  refine wm_aload_n 0 C dX9_isLetter_g0.1 rfl ?_
  refine wm_get (ci := 8) (k := 23) (v := .int (M 100 23)) C (hPl 100 (by decide) (by decide)) rfl rfl (by decide) wt_X9_154 iwX9 rfl dX9_isLetter_g0.2.1 ?_
  refine wm_iload_n 1 C dX9_isLetter_g0.2.2.1 rfl ?_
  refine wm_iadd C dX9_isLetter_g0.2.2.2.1 ?_
  refine wm_aload_n 0 C dX9_isLetter_g0.2.2.2.2.1 rfl ?_
  refine wm_get (ci := 8) (k := 21) (v := .int (M 100 21)) C (hPl 100 (by decide) (by decide)) rfl rfl (by decide) wt_X9_148 iwX9 rfl dX9_isLetter_g0.2.2.2.2.2.1 ?_
  refine wm_icmp_ge (tgt := 35) C dX9_isLetter_g0.2.2.2.2.2.2.1 (by decide) (fun c1 => ?_) (fun c1 => ?_)
  · have hf := (if_pos c1).symm.trans hf
    refine wm_iload_n 2 C dX9_isLetter_g1.2.2.2.2.2.2.2.1 rfl ?_
    refine wm_if_ne (tgt := 43) C dX9_isLetter_g1.2.2.2.2.2.2.2.2.1 (by decide) (fun c2 => ?_) (fun c2 => ?_)
    · have hf := (if_neg c2).symm.trans hf
      refine wm_iconst (v := 0) C dX9_isLetter_g1.2.2.2.2.2.2.2.2.2.2.2 (by decide) ?_
      exact wm_zret C hrt rfl hf dX9_isLetter_g2
    · have hf := (if_pos c2).symm.trans hf
      refine wm_iconst (v := 1) C dX9_isLetter_g1.2.2.2.2.2.2.2.2.2.1 (by decide) ?_
      refine wm_goto (tgt := 44) C dX9_isLetter_g1.2.2.2.2.2.2.2.2.2.2.1 (by decide) ?_
      exact wm_zret C hrt rfl hf dX9_isLetter_g2
  · have hf := (if_neg c1).symm.trans hf
    refine wm_aload_n 0 C dX9_isLetter_g0.2.2.2.2.2.2.2.1 rfl ?_
    refine wm_aload_n 0 C dX9_isLetter_g0.2.2.2.2.2.2.2.2.1 rfl ?_
    refine wm_get (ci := 8) (k := 23) (v := .int (M 100 23)) C (hPl 100 (by decide) (by decide)) rfl rfl (by decide) wt_X9_154 iwX9 rfl dX9_isLetter_g0.2.2.2.2.2.2.2.2.2.1 ?_
    refine wm_iload_n 1 C dX9_isLetter_g0.2.2.2.2.2.2.2.2.2.2.1 rfl ?_
    refine wm_iadd C dX9_isLetter_g0.2.2.2.2.2.2.2.2.2.2.2 ?_
    obtain ⟨o3, ho4, hf⟩ := bnd hf
    refine wm_callVi (As := [.int ((M 100 23) + v1)]) (ci := 8) C (c_X9_byteAt hPl _ _ _ ho4) mi_X9_byteAt wt_X9_151 (hPl 100 (by decide) (by decide)) rfl rfl rfl rfl (by decide) (by decide) (Nat.le_of_ble_eq_true rfl) dX9_isLetter_g1.1 ?_
    refine wm_iload_n 2 C dX9_isLetter_g1.2.1 rfl ?_
    refine wm_icmp_ne (tgt := 31) C dX9_isLetter_g1.2.2.1 (by decide) (fun c5 => ?_) (fun c5 => ?_)
    · have hf := (if_neg c5).symm.trans hf
      refine wm_iconst (v := 0) C dX9_isLetter_g1.2.2.2.2.2.1 (by decide) ?_
      refine wm_goto (tgt := 44) C dX9_isLetter_g1.2.2.2.2.2.2.1 (by decide) ?_
      exact wm_zret C hrt rfl hf dX9_isLetter_g2
    · have hf := (if_pos c5).symm.trans hf
      refine wm_iconst (v := 1) C dX9_isLetter_g1.2.2.2.1 (by decide) ?_
      refine wm_goto (tgt := 44) C dX9_isLetter_g1.2.2.2.2.1 (by decide) ?_
      exact wm_zret C hrt rfl hf dX9_isLetter_g2
set_option maxHeartbeats 4000000 in
set_option maxRecDepth 100000 in
theorem c_X9_isWord {l : Launch} {D : va_G} {cA : Nat → ClassId} {A : Nat → Nat} {Pl : List Nat} (hPl : ∀ q, 100 ≤ q → q < 118 → q ∈ Pl) (v1 : Int32) (v2 : Int32) (v3 : Int32) (v4 : Int32) (v5 : Int32) (v6 : Int32) (v7 : Int32) (v8 : Int32) (M : Mem) (out : (Int32 × Mem)) (ho : f_X9_isWord v1 v2 v3 v4 v5 v6 v7 v8 M = some out) : CtI l D cA A Pl yX9_isWord cX9_isWord 9 3 .boolean [.ref (A 100), .int v1, .int v2, .int v3, .int v4, .int v5, .int v6, .int v7, .int v8] M out := by
  refine ct_I (by decide) (Nat.le_of_ble_eq_true rfl) (fun p e s m args below meth c C hrt => ?_)
  have hf := ho
  unfold f_X9_isWord at hf
  refine wm_aload_n 0 C dX9_isWord_g0.1 rfl ?_
  refine wm_get (ci := 8) (k := 26) (v := .int (M 100 26)) C (hPl 100 (by decide) (by decide)) rfl rfl (by decide) wt_X9_174 iwX9 rfl dX9_isWord_g0.2.1 ?_
  refine wm_if_ne (tgt := 112) C dX9_isWord_g0.2.2.1 (by decide) (fun c1 => ?_) (fun c1 => ?_)
  · have hf := (if_neg c1).symm.trans hf
    refine wm_iconst (v := 0) C dX9_isWord_g4.2.2.2.2.2.2.2.2.1 (by decide) ?_
    exact wm_zret C hrt rfl hf dX9_isWord_g4.2.2.2.2.2.2.2.2.2
  · have hf := (if_pos c1).symm.trans hf
    refine wm_aload_n 0 C dX9_isWord_g0.2.2.2.1 rfl ?_
    refine wm_get (ci := 8) (k := 22) (v := .int (M 100 22)) C (hPl 100 (by decide) (by decide)) rfl rfl (by decide) wt_X9_157 iwX9 rfl dX9_isWord_g0.2.2.2.2.1 ?_
    refine wm_iconst (v := 1) C dX9_isWord_g0.2.2.2.2.2.1 (by decide) ?_
    refine wm_icmp_ne (tgt := 112) C dX9_isWord_g0.2.2.2.2.2.2.1 (by decide) (fun c2 => ?_) (fun c2 => ?_)
    · have hf := (if_neg c2).symm.trans hf
      refine wm_iconst (v := 0) C dX9_isWord_g4.2.2.2.2.2.2.2.2.1 (by decide) ?_
      exact wm_zret C hrt rfl hf dX9_isWord_g4.2.2.2.2.2.2.2.2.2
    · have hf := (if_pos c2).symm.trans hf
      refine wm_aload_n 0 C dX9_isWord_g0.2.2.2.2.2.2.2.1 rfl ?_
      refine wm_get (ci := 8) (k := 21) (v := .int (M 100 21)) C (hPl 100 (by decide) (by decide)) rfl rfl (by decide) wt_X9_148 iwX9 rfl dX9_isWord_g0.2.2.2.2.2.2.2.2.1 ?_
      refine wm_aload_n 0 C dX9_isWord_g0.2.2.2.2.2.2.2.2.2.1 rfl ?_
      refine wm_get (ci := 8) (k := 23) (v := .int (M 100 23)) C (hPl 100 (by decide) (by decide)) rfl rfl (by decide) wt_X9_154 iwX9 rfl dX9_isWord_g0.2.2.2.2.2.2.2.2.2.2.1 ?_
      refine wm_bipush (v := 8) C dX9_isWord_g0.2.2.2.2.2.2.2.2.2.2.2 (by decide) ?_
      refine wm_iadd C dX9_isWord_g1.1 ?_
      refine wm_icmp_gt (tgt := 112) C dX9_isWord_g1.2.1 (by decide) (fun c3 => ?_) (fun c3 => ?_)
      · have hf := (if_pos c3).symm.trans hf
        refine wm_iconst (v := 0) C dX9_isWord_g4.2.2.2.2.2.2.2.2.1 (by decide) ?_
        exact wm_zret C hrt rfl hf dX9_isWord_g4.2.2.2.2.2.2.2.2.2
      · have hf := (if_neg c3).symm.trans hf
        refine wm_aload_n 0 C dX9_isWord_g1.2.2.1 rfl ?_
        refine wm_iconst (v := 0) C dX9_isWord_g1.2.2.2.1 (by decide) ?_
        refine wm_iload_n 1 C dX9_isWord_g1.2.2.2.2.1 rfl ?_
        obtain ⟨o4, ho5, hf⟩ := bnd hf
        refine wm_callVi (As := [.int 0, .int v1]) (ci := 8) C (c_X9_isLetter hPl _ _ _ _ ho5) mi_X9_isLetter wt_X9_181 (hPl 100 (by decide) (by decide)) rfl rfl rfl rfl (by decide) (by decide) (Nat.le_of_ble_eq_true rfl) dX9_isWord_g1.2.2.2.2.2.1 ?_
        refine wm_if_eq (tgt := 112) C dX9_isWord_g1.2.2.2.2.2.2.1 (by decide) (fun c6 => ?_) (fun c6 => ?_)
        · have hf := (if_pos c6).symm.trans hf
          refine wm_iconst (v := 0) C dX9_isWord_g4.2.2.2.2.2.2.2.2.1 (by decide) ?_
          exact wm_zret C hrt rfl hf dX9_isWord_g4.2.2.2.2.2.2.2.2.2
        · have hf := (if_neg c6).symm.trans hf
          refine wm_aload_n 0 C dX9_isWord_g1.2.2.2.2.2.2.2.1 rfl ?_
          refine wm_iconst (v := 1) C dX9_isWord_g1.2.2.2.2.2.2.2.2.1 (by decide) ?_
          refine wm_iload_n 2 C dX9_isWord_g1.2.2.2.2.2.2.2.2.2.1 rfl ?_
          obtain ⟨o7, ho8, hf⟩ := bnd hf
          refine wm_callVi (As := [.int 1, .int v2]) (ci := 8) C (c_X9_isLetter hPl _ _ _ _ ho8) mi_X9_isLetter wt_X9_181 (hPl 100 (by decide) (by decide)) rfl rfl rfl rfl (by decide) (by decide) (Nat.le_of_ble_eq_true rfl) dX9_isWord_g1.2.2.2.2.2.2.2.2.2.2.1 ?_
          refine wm_if_eq (tgt := 112) C dX9_isWord_g1.2.2.2.2.2.2.2.2.2.2.2 (by decide) (fun c9 => ?_) (fun c9 => ?_)
          · have hf := (if_pos c9).symm.trans hf
            refine wm_iconst (v := 0) C dX9_isWord_g4.2.2.2.2.2.2.2.2.1 (by decide) ?_
            exact wm_zret C hrt rfl hf dX9_isWord_g4.2.2.2.2.2.2.2.2.2
          · have hf := (if_neg c9).symm.trans hf
            refine wm_aload_n 0 C dX9_isWord_g2.1 rfl ?_
            refine wm_iconst (v := 2) C dX9_isWord_g2.2.1 (by decide) ?_
            refine wm_iload_n 3 C dX9_isWord_g2.2.2.1 rfl ?_
            obtain ⟨o10, ho11, hf⟩ := bnd hf
            refine wm_callVi (As := [.int 2, .int v3]) (ci := 8) C (c_X9_isLetter hPl _ _ _ _ ho11) mi_X9_isLetter wt_X9_181 (hPl 100 (by decide) (by decide)) rfl rfl rfl rfl (by decide) (by decide) (Nat.le_of_ble_eq_true rfl) dX9_isWord_g2.2.2.2.1 ?_
            refine wm_if_eq (tgt := 112) C dX9_isWord_g2.2.2.2.2.1 (by decide) (fun c12 => ?_) (fun c12 => ?_)
            · have hf := (if_pos c12).symm.trans hf
              refine wm_iconst (v := 0) C dX9_isWord_g4.2.2.2.2.2.2.2.2.1 (by decide) ?_
              exact wm_zret C hrt rfl hf dX9_isWord_g4.2.2.2.2.2.2.2.2.2
            · have hf := (if_neg c12).symm.trans hf
              refine wm_aload_n 0 C dX9_isWord_g2.2.2.2.2.2.1 rfl ?_
              refine wm_iconst (v := 3) C dX9_isWord_g2.2.2.2.2.2.2.1 (by decide) ?_
              refine wm_iload 4 C dX9_isWord_g2.2.2.2.2.2.2.2.1 rfl ?_
              obtain ⟨o13, ho14, hf⟩ := bnd hf
              refine wm_callVi (As := [.int 3, .int v4]) (ci := 8) C (c_X9_isLetter hPl _ _ _ _ ho14) mi_X9_isLetter wt_X9_181 (hPl 100 (by decide) (by decide)) rfl rfl rfl rfl (by decide) (by decide) (Nat.le_of_ble_eq_true rfl) dX9_isWord_g2.2.2.2.2.2.2.2.2.1 ?_
              refine wm_if_eq (tgt := 112) C dX9_isWord_g2.2.2.2.2.2.2.2.2.2.1 (by decide) (fun c15 => ?_) (fun c15 => ?_)
              · have hf := (if_pos c15).symm.trans hf
                refine wm_iconst (v := 0) C dX9_isWord_g4.2.2.2.2.2.2.2.2.1 (by decide) ?_
                exact wm_zret C hrt rfl hf dX9_isWord_g4.2.2.2.2.2.2.2.2.2
              · have hf := (if_neg c15).symm.trans hf
                refine wm_aload_n 0 C dX9_isWord_g2.2.2.2.2.2.2.2.2.2.2.1 rfl ?_
                refine wm_iconst (v := 4) C dX9_isWord_g2.2.2.2.2.2.2.2.2.2.2.2 (by decide) ?_
                refine wm_iload 5 C dX9_isWord_g3.1 rfl ?_
                obtain ⟨o16, ho17, hf⟩ := bnd hf
                refine wm_callVi (As := [.int 4, .int v5]) (ci := 8) C (c_X9_isLetter hPl _ _ _ _ ho17) mi_X9_isLetter wt_X9_181 (hPl 100 (by decide) (by decide)) rfl rfl rfl rfl (by decide) (by decide) (Nat.le_of_ble_eq_true rfl) dX9_isWord_g3.2.1 ?_
                refine wm_if_eq (tgt := 112) C dX9_isWord_g3.2.2.1 (by decide) (fun c18 => ?_) (fun c18 => ?_)
                · have hf := (if_pos c18).symm.trans hf
                  refine wm_iconst (v := 0) C dX9_isWord_g4.2.2.2.2.2.2.2.2.1 (by decide) ?_
                  exact wm_zret C hrt rfl hf dX9_isWord_g4.2.2.2.2.2.2.2.2.2
                · have hf := (if_neg c18).symm.trans hf
                  refine wm_aload_n 0 C dX9_isWord_g3.2.2.2.1 rfl ?_
                  refine wm_iconst (v := 5) C dX9_isWord_g3.2.2.2.2.1 (by decide) ?_
                  refine wm_iload 6 C dX9_isWord_g3.2.2.2.2.2.1 rfl ?_
                  obtain ⟨o19, ho20, hf⟩ := bnd hf
                  refine wm_callVi (As := [.int 5, .int v6]) (ci := 8) C (c_X9_isLetter hPl _ _ _ _ ho20) mi_X9_isLetter wt_X9_181 (hPl 100 (by decide) (by decide)) rfl rfl rfl rfl (by decide) (by decide) (Nat.le_of_ble_eq_true rfl) dX9_isWord_g3.2.2.2.2.2.2.1 ?_
                  refine wm_if_eq (tgt := 112) C dX9_isWord_g3.2.2.2.2.2.2.2.1 (by decide) (fun c21 => ?_) (fun c21 => ?_)
                  · have hf := (if_pos c21).symm.trans hf
                    refine wm_iconst (v := 0) C dX9_isWord_g4.2.2.2.2.2.2.2.2.1 (by decide) ?_
                    exact wm_zret C hrt rfl hf dX9_isWord_g4.2.2.2.2.2.2.2.2.2
                  · have hf := (if_neg c21).symm.trans hf
                    refine wm_aload_n 0 C dX9_isWord_g3.2.2.2.2.2.2.2.2.1 rfl ?_
                    refine wm_bipush (v := 6) C dX9_isWord_g3.2.2.2.2.2.2.2.2.2.1 (by decide) ?_
                    refine wm_iload 7 C dX9_isWord_g3.2.2.2.2.2.2.2.2.2.2.1 rfl ?_
                    obtain ⟨o22, ho23, hf⟩ := bnd hf
                    refine wm_callVi (As := [.int 6, .int v7]) (ci := 8) C (c_X9_isLetter hPl _ _ _ _ ho23) mi_X9_isLetter wt_X9_181 (hPl 100 (by decide) (by decide)) rfl rfl rfl rfl (by decide) (by decide) (Nat.le_of_ble_eq_true rfl) dX9_isWord_g3.2.2.2.2.2.2.2.2.2.2.2 ?_
                    refine wm_if_eq (tgt := 112) C dX9_isWord_g4.1 (by decide) (fun c24 => ?_) (fun c24 => ?_)
                    · have hf := (if_pos c24).symm.trans hf
                      refine wm_iconst (v := 0) C dX9_isWord_g4.2.2.2.2.2.2.2.2.1 (by decide) ?_
                      exact wm_zret C hrt rfl hf dX9_isWord_g4.2.2.2.2.2.2.2.2.2
                    · have hf := (if_neg c24).symm.trans hf
                      refine wm_aload_n 0 C dX9_isWord_g4.2.1 rfl ?_
                      refine wm_bipush (v := 7) C dX9_isWord_g4.2.2.1 (by decide) ?_
                      refine wm_iload 8 C dX9_isWord_g4.2.2.2.1 rfl ?_
                      obtain ⟨o25, ho26, hf⟩ := bnd hf
                      refine wm_callVi (As := [.int 7, .int v8]) (ci := 8) C (c_X9_isLetter hPl _ _ _ _ ho26) mi_X9_isLetter wt_X9_181 (hPl 100 (by decide) (by decide)) rfl rfl rfl rfl (by decide) (by decide) (Nat.le_of_ble_eq_true rfl) dX9_isWord_g4.2.2.2.2.1 ?_
                      refine wm_if_eq (tgt := 112) C dX9_isWord_g4.2.2.2.2.2.1 (by decide) (fun c27 => ?_) (fun c27 => ?_)
                      · have hf := (if_pos c27).symm.trans hf
                        refine wm_iconst (v := 0) C dX9_isWord_g4.2.2.2.2.2.2.2.2.1 (by decide) ?_
                        exact wm_zret C hrt rfl hf dX9_isWord_g4.2.2.2.2.2.2.2.2.2
                      · have hf := (if_neg c27).symm.trans hf
                        refine wm_iconst (v := 1) C dX9_isWord_g4.2.2.2.2.2.2.1 (by decide) ?_
                        refine wm_goto (tgt := 113) C dX9_isWord_g4.2.2.2.2.2.2.2.1 (by decide) ?_
                        exact wm_zret C hrt rfl hf dX9_isWord_g4.2.2.2.2.2.2.2.2.2
set_option maxHeartbeats 4000000 in
set_option maxRecDepth 100000 in
theorem c_X9_isSign {l : Launch} {D : va_G} {cA : Nat → ClassId} {A : Nat → Nat} {Pl : List Nat} (hPl : ∀ q, 100 ≤ q → q < 118 → q ∈ Pl) (v1 : Int32) (M : Mem) (out : (Int32 × Mem)) (ho : f_X9_isSign v1 M = some out) : CtI l D cA A Pl yX9_isSign cX9_isSign 2 1 .boolean [.ref (A 100), .int v1] M out := by
  refine ct_I (by decide) (Nat.le_of_ble_eq_true rfl) (fun p e s m args below meth c C hrt => ?_)
  have hf := ho
  unfold f_X9_isSign at hf
  refine wm_aload_n 0 C dX9_isSign_g0.1 rfl ?_
  refine wm_get (ci := 8) (k := 26) (v := .int (M 100 26)) C (hPl 100 (by decide) (by decide)) rfl rfl (by decide) wt_X9_174 iwX9 rfl dX9_isSign_g0.2.1 ?_
  refine wm_if_ne (tgt := 29) C dX9_isSign_g0.2.2.1 (by decide) (fun c1 => ?_) (fun c1 => ?_)
  · have hf := (if_neg c1).symm.trans hf
    refine wm_iconst (v := 0) C dX9_isSign_g1.2.2.2.1 (by decide) ?_
    exact wm_zret C hrt rfl hf dX9_isSign_g1.2.2.2.2
  · have hf := (if_pos c1).symm.trans hf
    refine wm_aload_n 0 C dX9_isSign_g0.2.2.2.1 rfl ?_
    refine wm_get (ci := 8) (k := 22) (v := .int (M 100 22)) C (hPl 100 (by decide) (by decide)) rfl rfl (by decide) wt_X9_157 iwX9 rfl dX9_isSign_g0.2.2.2.2.1 ?_
    refine wm_iconst (v := 3) C dX9_isSign_g0.2.2.2.2.2.1 (by decide) ?_
    refine wm_icmp_ne (tgt := 29) C dX9_isSign_g0.2.2.2.2.2.2.1 (by decide) (fun c2 => ?_) (fun c2 => ?_)
    · have hf := (if_neg c2).symm.trans hf
      refine wm_iconst (v := 0) C dX9_isSign_g1.2.2.2.1 (by decide) ?_
      exact wm_zret C hrt rfl hf dX9_isSign_g1.2.2.2.2
    · have hf := (if_pos c2).symm.trans hf
      refine wm_aload_n 0 C dX9_isSign_g0.2.2.2.2.2.2.2.1 rfl ?_
      refine wm_get (ci := 8) (k := 24) (v := .long ((M 100 24)).toInt64) C (hPl 100 (by decide) (by decide)) rfl rfl (by decide) wt_X9_168 iwX9 rfl dX9_isSign_g0.2.2.2.2.2.2.2.2.1 ?_
      refine wm_iload_n 1 C dX9_isSign_g0.2.2.2.2.2.2.2.2.2.1 rfl ?_
      refine wm_i2l C dX9_isSign_g0.2.2.2.2.2.2.2.2.2.2.1 ?_
      refine wm_lcmp C dX9_isSign_g0.2.2.2.2.2.2.2.2.2.2.2 ?_
      refine wm_if_ne (tgt := 29) C dX9_isSign_g1.1 (by decide) (fun c3 => ?_) (fun c3 => ?_)
      · have hf := (if_neg c3).symm.trans hf
        refine wm_iconst (v := 0) C dX9_isSign_g1.2.2.2.1 (by decide) ?_
        exact wm_zret C hrt rfl hf dX9_isSign_g1.2.2.2.2
      · have hf := (if_pos c3).symm.trans hf
        refine wm_iconst (v := 1) C dX9_isSign_g1.2.1 (by decide) ?_
        refine wm_goto (tgt := 30) C dX9_isSign_g1.2.2.1 (by decide) ?_
        exact wm_zret C hrt rfl hf dX9_isSign_g1.2.2.2.2
set_option maxHeartbeats 4000000 in
set_option maxRecDepth 100000 in
theorem c_X9_opens {l : Launch} {D : va_G} {cA : Nat → ClassId} {A : Nat → Nat} {Pl : List Nat} (hPl : ∀ q, 100 ≤ q → q < 118 → q ∈ Pl) (M : Mem) (out : (Int32 × Mem)) (ho : f_X9_opens M = some out) : CtI l D cA A Pl yX9_opens cX9_opens 1 3 .boolean [.ref (A 100)] M out := by
  refine ct_I (by decide) (Nat.le_of_ble_eq_true rfl) (fun p e s m args below meth c C hrt => ?_)
  have hf := ho
  unfold f_X9_opens at hf
  refine wm_aload_n 0 C dX9_opens_g0.1 rfl ?_
  refine wm_get (ci := 8) (k := 25) (v := .int (M 100 25)) C (hPl 100 (by decide) (by decide)) rfl rfl (by decide) wt_X9_184 iwX9 rfl dX9_opens_g0.2.1 ?_
  refine wm_iconst (v := 5) C dX9_opens_g0.2.2.1 (by decide) ?_
  refine wm_icmp_ne (tgt := 14) C dX9_opens_g0.2.2.2.1 (by decide) (fun c1 => ?_) (fun c1 => ?_)
  · have hf := (if_neg c1).symm.trans hf
    refine wm_aload_n 0 C dX9_opens_g0.2.2.2.2.2.2.2.2.1 rfl ?_
    refine wm_dup C dX9_opens_g0.2.2.2.2.2.2.2.2.2.1 rfl ?_
    refine wm_get (ci := 8) (k := 25) (v := .int (M 100 25)) C (hPl 100 (by decide) (by decide)) rfl rfl (by decide) wt_X9_184 iwX9 rfl dX9_opens_g0.2.2.2.2.2.2.2.2.2.2.1 ?_
    refine wm_iconst (v := 1) C dX9_opens_g0.2.2.2.2.2.2.2.2.2.2.2 (by decide) ?_
    refine wm_iadd C dX9_opens_g1.1 ?_
    refine wm_put (ci := 8) (k := 25) (x := ((M 100 25) + 1)) C (hPl 100 (by decide) (by decide)) rfl rfl (by decide) wt_X9_184 iwX9 tyX9_ok nmX9 rfl rfl rfl rfl (fun _ => rfl) (Nat.le_of_ble_eq_true rfl) dX9_opens_g1.2.1 ?_
    refine wm_aload_n 0 C dX9_opens_g1.2.2.1 rfl ?_
    obtain ⟨o2, ho3, hf⟩ := bnd hf
    refine wm_callVv (As := []) (ci := 8) C (c_X9_next hPl  _ _ ho3) mi_X9_next wt_X9_190 (hPl 100 (by decide) (by decide)) rfl rfl rfl rfl (by decide) (by decide) (Nat.le_of_ble_eq_true rfl) dX9_opens_g1.2.2.2.1 ?_
    refine wm_iconst (v := 1) C dX9_opens_g1.2.2.2.2.1 (by decide) ?_
    exact wm_zret C hrt rfl hf dX9_opens_g1.2.2.2.2.2
  · have hf := (if_pos c1).symm.trans hf
    refine wm_aload_n 0 C dX9_opens_g0.2.2.2.2.1 rfl ?_
    obtain ⟨o4, ho5, hf⟩ := bnd hf
    refine wm_callVv (As := []) (ci := 8) C (c_X9_fail hPl  _ _ ho5) mi_X9_fail wt_X9_187 (hPl 100 (by decide) (by decide)) rfl rfl rfl rfl (by decide) (by decide) (Nat.le_of_ble_eq_true rfl) dX9_opens_g0.2.2.2.2.2.1 ?_
    refine wm_iconst (v := 0) C dX9_opens_g0.2.2.2.2.2.2.1 (by decide) ?_
    exact wm_zret C hrt rfl hf dX9_opens_g0.2.2.2.2.2.2.2.1
set_option maxHeartbeats 4000000 in
set_option maxRecDepth 100000 in
theorem c_X9_name {l : Launch} {D : va_G} {cA : Nat → ClassId} {A : Nat → Nat} {Pl : List Nat} (hPl : ∀ q, 100 ≤ q → q < 118 → q ∈ Pl) (M : Mem) (out : (Int32 × Mem)) (ho : f_X9_name M = some out) : CtI l D cA A Pl yX9_name cX9_name 1 4 .int [.ref (A 100)] M out := by
  refine ct_I (by decide) (Nat.le_of_ble_eq_true rfl) (fun p e s m args below meth c C hrt => ?_)
  have hf := ho
  unfold f_X9_name at hf
  refine wm_aload_n 0 C dX9_name_g0.1 rfl ?_
  refine wm_bipush (v := 112) C dX9_name_g0.2.1 (by decide) ?_
  refine wm_bipush (v := 97) C dX9_name_g0.2.2.1 (by decide) ?_
  refine wm_bipush (v := 114) C dX9_name_g0.2.2.2.1 (by decide) ?_
  refine wm_bipush (v := 116) C dX9_name_g0.2.2.2.2.1 (by decide) ?_
  refine wm_iconst (v := 0) C dX9_name_g0.2.2.2.2.2.1 (by decide) ?_
  refine wm_iconst (v := 0) C dX9_name_g0.2.2.2.2.2.2.1 (by decide) ?_
  refine wm_iconst (v := 0) C dX9_name_g0.2.2.2.2.2.2.2.1 (by decide) ?_
  refine wm_iconst (v := 0) C dX9_name_g0.2.2.2.2.2.2.2.2.1 (by decide) ?_
  obtain ⟨o1, ho2, hf⟩ := bnd hf
  refine wm_callVi (As := [.int 112, .int 97, .int 114, .int 116, .int 0, .int 0, .int 0, .int 0]) (ci := 8) C (c_X9_isWord hPl _ _ _ _ _ _ _ _ _ _ ho2) mi_X9_isWord wt_X9_193 (hPl 100 (by decide) (by decide)) rfl rfl rfl rfl (by decide) (by decide) (Nat.le_of_ble_eq_true rfl) dX9_name_g0.2.2.2.2.2.2.2.2.2.1 ?_
  refine wm_if_eq (tgt := 24) C dX9_name_g0.2.2.2.2.2.2.2.2.2.2.1 (by decide) (fun c3 => ?_) (fun c3 => ?_)
  · have hf := (if_pos c3).symm.trans hf
    refine wm_aload_n 0 C dX9_name_g1.2.2.1 rfl ?_
    refine wm_bipush (v := 109) C dX9_name_g1.2.2.2.1 (by decide) ?_
    refine wm_bipush (v := 117) C dX9_name_g1.2.2.2.2.1 (by decide) ?_
    refine wm_bipush (v := 99) C dX9_name_g1.2.2.2.2.2.1 (by decide) ?_
    refine wm_bipush (v := 104) C dX9_name_g1.2.2.2.2.2.2.1 (by decide) ?_
    refine wm_iconst (v := 0) C dX9_name_g1.2.2.2.2.2.2.2.1 (by decide) ?_
    refine wm_iconst (v := 0) C dX9_name_g1.2.2.2.2.2.2.2.2.1 (by decide) ?_
    refine wm_iconst (v := 0) C dX9_name_g1.2.2.2.2.2.2.2.2.2.1 (by decide) ?_
    refine wm_iconst (v := 0) C dX9_name_g1.2.2.2.2.2.2.2.2.2.2.1 (by decide) ?_
    obtain ⟨o4, ho5, hf⟩ := bnd hf
    refine wm_callVi (As := [.int 109, .int 117, .int 99, .int 104, .int 0, .int 0, .int 0, .int 0]) (ci := 8) C (c_X9_isWord hPl _ _ _ _ _ _ _ _ _ _ ho5) mi_X9_isWord wt_X9_193 (hPl 100 (by decide) (by decide)) rfl rfl rfl rfl (by decide) (by decide) (Nat.le_of_ble_eq_true rfl) dX9_name_g1.2.2.2.2.2.2.2.2.2.2.2 ?_
    refine wm_if_eq (tgt := 48) C dX9_name_g2.1 (by decide) (fun c6 => ?_) (fun c6 => ?_)
    · have hf := (if_pos c6).symm.trans hf
      refine wm_aload_n 0 C dX9_name_g2.2.2.2.2.1 rfl ?_
      refine wm_bipush (v := 107) C dX9_name_g2.2.2.2.2.2.1 (by decide) ?_
      refine wm_bipush (v := 105) C dX9_name_g2.2.2.2.2.2.2.1 (by decide) ?_
      refine wm_bipush (v := 116) C dX9_name_g2.2.2.2.2.2.2.2.1 (by decide) ?_
      refine wm_bipush (v := 99) C dX9_name_g2.2.2.2.2.2.2.2.2.1 (by decide) ?_
      refine wm_bipush (v := 104) C dX9_name_g2.2.2.2.2.2.2.2.2.2.1 (by decide) ?_
      refine wm_bipush (v := 101) C dX9_name_g2.2.2.2.2.2.2.2.2.2.2.1 (by decide) ?_
      refine wm_bipush (v := 110) C dX9_name_g2.2.2.2.2.2.2.2.2.2.2.2 (by decide) ?_
      refine wm_iconst (v := 0) C dX9_name_g3.1 (by decide) ?_
      obtain ⟨o7, ho8, hf⟩ := bnd hf
      refine wm_callVi (As := [.int 107, .int 105, .int 116, .int 99, .int 104, .int 101, .int 110, .int 0]) (ci := 8) C (c_X9_isWord hPl _ _ _ _ _ _ _ _ _ _ ho8) mi_X9_isWord wt_X9_193 (hPl 100 (by decide) (by decide)) rfl rfl rfl rfl (by decide) (by decide) (Nat.le_of_ble_eq_true rfl) dX9_name_g3.2.1 ?_
      refine wm_if_eq (tgt := 75) C dX9_name_g3.2.2.1 (by decide) (fun c9 => ?_) (fun c9 => ?_)
      · have hf := (if_pos c9).symm.trans hf
        refine wm_aload_n 0 C dX9_name_g3.2.2.2.2.2.2.1 rfl ?_
        refine wm_bipush (v := 104) C dX9_name_g3.2.2.2.2.2.2.2.1 (by decide) ?_
        refine wm_bipush (v := 111) C dX9_name_g3.2.2.2.2.2.2.2.2.1 (by decide) ?_
        refine wm_bipush (v := 117) C dX9_name_g3.2.2.2.2.2.2.2.2.2.1 (by decide) ?_
        refine wm_bipush (v := 114) C dX9_name_g3.2.2.2.2.2.2.2.2.2.2.1 (by decide) ?_
        refine wm_iconst (v := 0) C dX9_name_g3.2.2.2.2.2.2.2.2.2.2.2 (by decide) ?_
        refine wm_iconst (v := 0) C dX9_name_g4.1 (by decide) ?_
        refine wm_iconst (v := 0) C dX9_name_g4.2.1 (by decide) ?_
        refine wm_iconst (v := 0) C dX9_name_g4.2.2.1 (by decide) ?_
        obtain ⟨o10, ho11, hf⟩ := bnd hf
        refine wm_callVi (As := [.int 104, .int 111, .int 117, .int 114, .int 0, .int 0, .int 0, .int 0]) (ci := 8) C (c_X9_isWord hPl _ _ _ _ _ _ _ _ _ _ ho11) mi_X9_isWord wt_X9_193 (hPl 100 (by decide) (by decide)) rfl rfl rfl rfl (by decide) (by decide) (Nat.le_of_ble_eq_true rfl) dX9_name_g4.2.2.2.1 ?_
        refine wm_if_eq (tgt := 99) C dX9_name_g4.2.2.2.2.1 (by decide) (fun c12 => ?_) (fun c12 => ?_)
        · have hf := (if_pos c12).symm.trans hf
          refine wm_aload_n 0 C dX9_name_g4.2.2.2.2.2.2.2.2.1 rfl ?_
          refine wm_bipush (v := 110) C dX9_name_g4.2.2.2.2.2.2.2.2.2.1 (by decide) ?_
          refine wm_bipush (v := 117) C dX9_name_g4.2.2.2.2.2.2.2.2.2.2.1 (by decide) ?_
          refine wm_bipush (v := 109) C dX9_name_g4.2.2.2.2.2.2.2.2.2.2.2 (by decide) ?_
          refine wm_bipush (v := 98) C dX9_name_g5.1 (by decide) ?_
          refine wm_bipush (v := 101) C dX9_name_g5.2.1 (by decide) ?_
          refine wm_bipush (v := 114) C dX9_name_g5.2.2.1 (by decide) ?_
          refine wm_iconst (v := 0) C dX9_name_g5.2.2.2.1 (by decide) ?_
          refine wm_iconst (v := 0) C dX9_name_g5.2.2.2.2.1 (by decide) ?_
          obtain ⟨o13, ho14, hf⟩ := bnd hf
          refine wm_callVi (As := [.int 110, .int 117, .int 109, .int 98, .int 101, .int 114, .int 0, .int 0]) (ci := 8) C (c_X9_isWord hPl _ _ _ _ _ _ _ _ _ _ ho14) mi_X9_isWord wt_X9_193 (hPl 100 (by decide) (by decide)) rfl rfl rfl rfl (by decide) (by decide) (Nat.le_of_ble_eq_true rfl) dX9_name_g5.2.2.2.2.2.1 ?_
          refine wm_if_eq (tgt := 125) C dX9_name_g5.2.2.2.2.2.2.1 (by decide) (fun c15 => ?_) (fun c15 => ?_)
          · have hf := (if_pos c15).symm.trans hf
            refine wm_aload_n 0 C dX9_name_g5.2.2.2.2.2.2.2.2.2.2.1 rfl ?_
            refine wm_bipush (v := 112) C dX9_name_g5.2.2.2.2.2.2.2.2.2.2.2 (by decide) ?_
            refine wm_bipush (v := 114) C dX9_name_g6.1 (by decide) ?_
            refine wm_bipush (v := 105) C dX9_name_g6.2.1 (by decide) ?_
            refine wm_bipush (v := 100) C dX9_name_g6.2.2.1 (by decide) ?_
            refine wm_bipush (v := 101) C dX9_name_g6.2.2.2.1 (by decide) ?_
            refine wm_iconst (v := 0) C dX9_name_g6.2.2.2.2.1 (by decide) ?_
            refine wm_iconst (v := 0) C dX9_name_g6.2.2.2.2.2.1 (by decide) ?_
            refine wm_iconst (v := 0) C dX9_name_g6.2.2.2.2.2.2.1 (by decide) ?_
            obtain ⟨o16, ho17, hf⟩ := bnd hf
            refine wm_callVi (As := [.int 112, .int 114, .int 105, .int 100, .int 101, .int 0, .int 0, .int 0]) (ci := 8) C (c_X9_isWord hPl _ _ _ _ _ _ _ _ _ _ ho17) mi_X9_isWord wt_X9_193 (hPl 100 (by decide) (by decide)) rfl rfl rfl rfl (by decide) (by decide) (Nat.le_of_ble_eq_true rfl) dX9_name_g6.2.2.2.2.2.2.2.1 ?_
            refine wm_if_eq (tgt := 150) C dX9_name_g6.2.2.2.2.2.2.2.2.1 (by decide) (fun c18 => ?_) (fun c18 => ?_)
            · have hf := (if_pos c18).symm.trans hf
              refine wm_aload_n 0 C dX9_name_g7.1 rfl ?_
              obtain ⟨o19, ho20, hf⟩ := bnd hf
              refine wm_callVv (As := []) (ci := 8) C (c_X9_fail hPl  _ _ ho20) mi_X9_fail wt_X9_187 (hPl 100 (by decide) (by decide)) rfl rfl rfl rfl (by decide) (by decide) (Nat.le_of_ble_eq_true rfl) dX9_name_g7.2.1 ?_
              refine wm_iconst (v := 0) C dX9_name_g7.2.2.1 (by decide) ?_
              exact wm_iret C hrt hf dX9_name_g7.2.2.2
            · have hf := (if_neg c18).symm.trans hf
              refine wm_aload_n 0 C dX9_name_g6.2.2.2.2.2.2.2.2.2.1 rfl ?_
              refine wm_get (ci := 8) (k := 18) (v := .int (o16.2 100 18)) C (hPl 100 (by decide) (by decide)) rfl rfl (by decide) wt_X9_212 iwX9 rfl dX9_name_g6.2.2.2.2.2.2.2.2.2.2.1 ?_
              exact wm_iret C hrt hf dX9_name_g6.2.2.2.2.2.2.2.2.2.2.2
          · have hf := (if_neg c15).symm.trans hf
            refine wm_aload_n 0 C dX9_name_g5.2.2.2.2.2.2.2.1 rfl ?_
            refine wm_get (ci := 8) (k := 17) (v := .int (o13.2 100 17)) C (hPl 100 (by decide) (by decide)) rfl rfl (by decide) wt_X9_209 iwX9 rfl dX9_name_g5.2.2.2.2.2.2.2.2.1 ?_
            exact wm_iret C hrt hf dX9_name_g5.2.2.2.2.2.2.2.2.2.1
        · have hf := (if_neg c12).symm.trans hf
          refine wm_aload_n 0 C dX9_name_g4.2.2.2.2.2.1 rfl ?_
          refine wm_get (ci := 8) (k := 16) (v := .int (o10.2 100 16)) C (hPl 100 (by decide) (by decide)) rfl rfl (by decide) wt_X9_206 iwX9 rfl dX9_name_g4.2.2.2.2.2.2.1 ?_
          exact wm_iret C hrt hf dX9_name_g4.2.2.2.2.2.2.2.1
      · have hf := (if_neg c9).symm.trans hf
        refine wm_aload_n 0 C dX9_name_g3.2.2.2.1 rfl ?_
        refine wm_get (ci := 8) (k := 15) (v := .int (o7.2 100 15)) C (hPl 100 (by decide) (by decide)) rfl rfl (by decide) wt_X9_203 iwX9 rfl dX9_name_g3.2.2.2.2.1 ?_
        exact wm_iret C hrt hf dX9_name_g3.2.2.2.2.2.1
    · have hf := (if_neg c6).symm.trans hf
      refine wm_aload_n 0 C dX9_name_g2.2.1 rfl ?_
      refine wm_get (ci := 8) (k := 14) (v := .int (o4.2 100 14)) C (hPl 100 (by decide) (by decide)) rfl rfl (by decide) wt_X9_200 iwX9 rfl dX9_name_g2.2.2.1 ?_
      exact wm_iret C hrt hf dX9_name_g2.2.2.2.1
  · have hf := (if_neg c3).symm.trans hf
    refine wm_aload_n 0 C dX9_name_g0.2.2.2.2.2.2.2.2.2.2.2 rfl ?_
    refine wm_get (ci := 8) (k := 13) (v := .int (o1.2 100 13)) C (hPl 100 (by decide) (by decide)) rfl rfl (by decide) wt_X9_197 iwX9 rfl dX9_name_g1.1 ?_
    exact wm_iret C hrt hf dX9_name_g1.2.1
set_option maxHeartbeats 4000000 in
set_option maxRecDepth 100000 in
theorem cb_X9_either {l : Launch} {D : va_G} {cA : Nat → ClassId} {A : Nat → Nat} {Pl : List Nat} (hPl : ∀ q, 100 ≤ q → q < 118 → q ∈ Pl) (hd : Nat) (hHB : 5 ≤ hd) (rc_X9_either : Mem → Option (Int32 × Mem)) (hrc_X9_either : ∀ (M : Mem) (out : (Int32 × Mem)), rc_X9_either M = some out → CtI l D cA A Pl yX9_either cX9_either 3 hd .int [.ref (A 100)] M out) (rc_X9_both : Mem → Option (Int32 × Mem)) (hrc_X9_both : ∀ (M : Mem) (out : (Int32 × Mem)), rc_X9_both M = some out → CtI l D cA A Pl yX9_both cX9_both 3 hd .int [.ref (A 100)] M out) (rc_X9_not : Mem → Option (Int32 × Mem)) (hrc_X9_not : ∀ (M : Mem) (out : (Int32 × Mem)), rc_X9_not M = some out → CtI l D cA A Pl yX9_not cX9_not 4 hd .int [.ref (A 100)] M out) (rc_X9_added : Mem → Option (Int32 × Mem)) (hrc_X9_added : ∀ (M : Mem) (out : (Int32 × Mem)), rc_X9_added M = some out → CtI l D cA A Pl yX9_added cX9_added 4 hd .int [.ref (A 100)] M out) (rc_X9_term : Mem → Option (Int32 × Mem)) (hrc_X9_term : ∀ (M : Mem) (out : (Int32 × Mem)), rc_X9_term M = some out → CtI l D cA A Pl yX9_term cX9_term 2 hd .int [.ref (A 100)] M out) (rc_X9_atom : Mem → Option (Int32 × Mem)) (hrc_X9_atom : ∀ (M : Mem) (out : (Int32 × Mem)), rc_X9_atom M = some out → CtI l D cA A Pl yX9_atom cX9_atom 2 hd .int [.ref (A 100)] M out) (M : Mem) (out : (Int32 × Mem)) (ho : f_X9_either_b rc_X9_either rc_X9_both rc_X9_not rc_X9_added rc_X9_term rc_X9_atom M = some out) : CtI l D cA A Pl yX9_either cX9_either 3 (hd + 1) .int [.ref (A 100)] M out := by
  refine ct_I (by decide) (Nat.le_of_ble_eq_true rfl) (fun p e s m args below meth c C hrt => ?_)
  have hb44 : ∀ (r : Int32 → Mem → Option (Int32 × Mem)) (hr : ∀ (v1 : Int32) (M : Mem), r v1 M = some out → WM p l e (RM (hd + 1)) s m args below meth c 0 0 (MQ below (QI D cA A Pl out) args s 0 0 (FA A Pl)) D cA A Pl (FA A Pl) 3 M 5 [(0, .ref (A 100)), (1, .int v1)] []), ∀ (s0 : Int32) (M : Mem), f_X9_either_b44 rc_X9_either rc_X9_both rc_X9_not rc_X9_added rc_X9_term rc_X9_atom r s0 M = some out → WM p l e (RM (hd + 1)) s m args below meth c 0 0 (MQ below (QI D cA A Pl out) args s 0 0 (FA A Pl)) D cA A Pl (FA A Pl) 3 M 44 [(0, .ref (A 100))] [.int s0] := by
    intro r hr s0 M hf
    unfold f_X9_either_b44 at hf
    refine wm_istore_n (lv1 := [(1, .int s0), (0, .ref (A 100))]) C dX9_either_g2.2.2.1 (by decide) rfl ?_
    refine wm_goto (tgt := 5) C dX9_either_g2.2.2.2.1 (by decide) ?_
    refine wm_pick [1, 0] rfl ?_
    exact hr _ _ hf
  have hb39 : ∀ (r : Int32 → Mem → Option (Int32 × Mem)) (hr : ∀ (v1 : Int32) (M : Mem), r v1 M = some out → WM p l e (RM (hd + 1)) s m args below meth c 0 0 (MQ below (QI D cA A Pl out) args s 0 0 (FA A Pl)) D cA A Pl (FA A Pl) 3 M 5 [(0, .ref (A 100)), (1, .int v1)] []), ∀  (M : Mem), f_X9_either_b39 rc_X9_either rc_X9_both rc_X9_not rc_X9_added rc_X9_term rc_X9_atom r  M = some out → WM p l e (RM (hd + 1)) s m args below meth c 0 0 (MQ below (QI D cA A Pl out) args s 0 0 (FA A Pl)) D cA A Pl (FA A Pl) 3 M 39 [(0, .ref (A 100))] [] := by
    intro r hr  M hf
    unfold f_X9_either_b39 at hf
    refine wm_iconst (v := 1) C dX9_either_g1.2.2.2.2.2.2.2.2.2.2.2 (by decide) ?_
    refine wm_goto (tgt := 44) C dX9_either_g2.1 (by decide) ?_
    exact (hb44 _ hr) _ _ hf
  have hl5 : ∀ (n : Nat), ∀ (v1 : Int32) (M : Mem), f_X9_either_l5 rc_X9_either rc_X9_both rc_X9_not rc_X9_added rc_X9_term rc_X9_atom n v1 M = some out → WM p l e (RM (hd + 1)) s m args below meth c 0 0 (MQ below (QI D cA A Pl out) args s 0 0 (FA A Pl)) D cA A Pl (FA A Pl) 3 M 5 [(0, .ref (A 100)), (1, .int v1)] [] := by
    intro n
    induction n with
    | zero => intro v1 M hf; rw [f_X9_either_l5] at hf; cases hf
    | succ n hr =>
      intro v1 M hf
      rw [f_X9_either_l5] at hf
      refine wm_aload_n 0 C dX9_either_g0.2.2.2.1 rfl ?_
      refine wm_bipush (v := 111) C dX9_either_g0.2.2.2.2.1 (by decide) ?_
      refine wm_bipush (v := 114) C dX9_either_g0.2.2.2.2.2.1 (by decide) ?_
      refine wm_iconst (v := 0) C dX9_either_g0.2.2.2.2.2.2.1 (by decide) ?_
      refine wm_iconst (v := 0) C dX9_either_g0.2.2.2.2.2.2.2.1 (by decide) ?_
      refine wm_iconst (v := 0) C dX9_either_g0.2.2.2.2.2.2.2.2.1 (by decide) ?_
      refine wm_iconst (v := 0) C dX9_either_g0.2.2.2.2.2.2.2.2.2.1 (by decide) ?_
      refine wm_iconst (v := 0) C dX9_either_g0.2.2.2.2.2.2.2.2.2.2.1 (by decide) ?_
      refine wm_iconst (v := 0) C dX9_either_g0.2.2.2.2.2.2.2.2.2.2.2 (by decide) ?_
      obtain ⟨o3, ho4, hf⟩ := bnd hf
      refine wm_callVi (As := [.int 111, .int 114, .int 0, .int 0, .int 0, .int 0, .int 0, .int 0]) (ci := 8) C (c_X9_isWord hPl _ _ _ _ _ _ _ _ _ _ ho4) mi_X9_isWord wt_X9_193 (hPl 100 (by decide) (by decide)) rfl rfl rfl rfl (by omega) (by decide) (Nat.le_of_ble_eq_true rfl) dX9_either_g1.1 ?_
      refine wm_if_eq (tgt := 48) C dX9_either_g1.2.1 (by decide) (fun c5 => ?_) (fun c5 => ?_)
      · have hf := (if_pos c5).symm.trans hf
        refine wm_iload_n 1 C dX9_either_g2.2.2.2.2.1 rfl ?_
        exact wm_iret C hrt hf dX9_either_g2.2.2.2.2.2
      · have hf := (if_neg c5).symm.trans hf
        refine wm_aload_n 0 C dX9_either_g1.2.2.1 rfl ?_
        obtain ⟨o6, ho7, hf⟩ := bnd hf
        refine wm_callVv (As := []) (ci := 8) C (c_X9_next hPl  _ _ ho7) mi_X9_next wt_X9_190 (hPl 100 (by decide) (by decide)) rfl rfl rfl rfl (by omega) (by decide) (Nat.le_of_ble_eq_true rfl) dX9_either_g1.2.2.2.1 ?_
        refine wm_aload_n 0 C dX9_either_g1.2.2.2.2.1 rfl ?_
        obtain ⟨o8, ho9, hf⟩ := bnd hf
        refine wm_callVi (As := []) (ci := 8) C (hrc_X9_both  _ _ ho9) mi_X9_both wt_X9_245 (hPl 100 (by decide) (by decide)) rfl rfl rfl rfl (by omega) (by decide) (Nat.le_of_ble_eq_true rfl) dX9_either_g1.2.2.2.2.2.1 ?_
        refine wm_istore_n (lv1 := [(2, .int o8.1), (0, .ref (A 100)), (1, .int v1)]) C dX9_either_g1.2.2.2.2.2.2.1 (by decide) rfl ?_
        refine wm_iload_n 2 C dX9_either_g1.2.2.2.2.2.2.2.1 rfl ?_
        refine wm_if_ne (tgt := 39) C dX9_either_g1.2.2.2.2.2.2.2.2.1 (by decide) (fun c10 => ?_) (fun c10 => ?_)
        · have hf := (if_neg c10).symm.trans hf
          refine wm_pick [1] rfl ?_
          exact (hb39 _ hr) _ hf
        · have hf := (if_pos c10).symm.trans hf
          refine wm_iload_n 0 C dX9_either_g1.2.2.2.2.2.2.2.2.2.1 rfl ?_
          refine wm_if_eq (tgt := 43) C dX9_either_g1.2.2.2.2.2.2.2.2.2.2.1 (by decide) (fun c11 => ?_) (fun c11 => ?_)
          · have hf := (if_pos c11).symm.trans hf
            refine wm_iconst (v := 0) C dX9_either_g2.2.1 (by decide) ?_
            refine wm_pick [1] rfl ?_
            exact (hb44 _ hr) _ _ hf
          · have hf := (if_neg c11).symm.trans hf
            refine wm_pick [1] rfl ?_
            exact (hb39 _ hr) _ hf
  have hf := ho
  unfold f_X9_either_b at hf
  refine wm_aload_n 0 C dX9_either_g0.1 rfl ?_
  obtain ⟨o1, ho2, hf⟩ := bnd hf
  refine wm_callVi (As := []) (ci := 8) C (hrc_X9_both  _ _ ho2) mi_X9_both wt_X9_245 (hPl 100 (by decide) (by decide)) rfl rfl rfl rfl (by omega) (by decide) (Nat.le_of_ble_eq_true rfl) dX9_either_g0.2.1 ?_
  refine wm_istore_n (lv1 := [(1, .int o1.1), (0, .ref (A 100))]) C dX9_either_g0.2.2.1 (by decide) rfl ?_
  refine wm_pick [1, 0] rfl ?_
  exact (hl5 FU) _ _ hf
set_option maxHeartbeats 4000000 in
set_option maxRecDepth 100000 in
theorem cb_X9_both {l : Launch} {D : va_G} {cA : Nat → ClassId} {A : Nat → Nat} {Pl : List Nat} (hPl : ∀ q, 100 ≤ q → q < 118 → q ∈ Pl) (hd : Nat) (hHB : 5 ≤ hd) (rc_X9_either : Mem → Option (Int32 × Mem)) (hrc_X9_either : ∀ (M : Mem) (out : (Int32 × Mem)), rc_X9_either M = some out → CtI l D cA A Pl yX9_either cX9_either 3 hd .int [.ref (A 100)] M out) (rc_X9_both : Mem → Option (Int32 × Mem)) (hrc_X9_both : ∀ (M : Mem) (out : (Int32 × Mem)), rc_X9_both M = some out → CtI l D cA A Pl yX9_both cX9_both 3 hd .int [.ref (A 100)] M out) (rc_X9_not : Mem → Option (Int32 × Mem)) (hrc_X9_not : ∀ (M : Mem) (out : (Int32 × Mem)), rc_X9_not M = some out → CtI l D cA A Pl yX9_not cX9_not 4 hd .int [.ref (A 100)] M out) (rc_X9_added : Mem → Option (Int32 × Mem)) (hrc_X9_added : ∀ (M : Mem) (out : (Int32 × Mem)), rc_X9_added M = some out → CtI l D cA A Pl yX9_added cX9_added 4 hd .int [.ref (A 100)] M out) (rc_X9_term : Mem → Option (Int32 × Mem)) (hrc_X9_term : ∀ (M : Mem) (out : (Int32 × Mem)), rc_X9_term M = some out → CtI l D cA A Pl yX9_term cX9_term 2 hd .int [.ref (A 100)] M out) (rc_X9_atom : Mem → Option (Int32 × Mem)) (hrc_X9_atom : ∀ (M : Mem) (out : (Int32 × Mem)), rc_X9_atom M = some out → CtI l D cA A Pl yX9_atom cX9_atom 2 hd .int [.ref (A 100)] M out) (M : Mem) (out : (Int32 × Mem)) (ho : f_X9_both_b rc_X9_either rc_X9_both rc_X9_not rc_X9_added rc_X9_term rc_X9_atom M = some out) : CtI l D cA A Pl yX9_both cX9_both 3 (hd + 1) .int [.ref (A 100)] M out := by
  refine ct_I (by decide) (Nat.le_of_ble_eq_true rfl) (fun p e s m args below meth c C hrt => ?_)
  have hb45 : ∀ (r : Int32 → Mem → Option (Int32 × Mem)) (hr : ∀ (v1 : Int32) (M : Mem), r v1 M = some out → WM p l e (RM (hd + 1)) s m args below meth c 0 0 (MQ below (QI D cA A Pl out) args s 0 0 (FA A Pl)) D cA A Pl (FA A Pl) 3 M 5 [(0, .ref (A 100)), (1, .int v1)] []), ∀ (s0 : Int32) (M : Mem), f_X9_both_b45 rc_X9_either rc_X9_both rc_X9_not rc_X9_added rc_X9_term rc_X9_atom r s0 M = some out → WM p l e (RM (hd + 1)) s m args below meth c 0 0 (MQ below (QI D cA A Pl out) args s 0 0 (FA A Pl)) D cA A Pl (FA A Pl) 3 M 45 [(0, .ref (A 100))] [.int s0] := by
    intro r hr s0 M hf
    unfold f_X9_both_b45 at hf
    refine wm_istore_n (lv1 := [(1, .int s0), (0, .ref (A 100))]) C dX9_both_g2.2.2.1 (by decide) rfl ?_
    refine wm_goto (tgt := 5) C dX9_both_g2.2.2.2.1 (by decide) ?_
    refine wm_pick [1, 0] rfl ?_
    exact hr _ _ hf
  have hb44 : ∀ (r : Int32 → Mem → Option (Int32 × Mem)) (hr : ∀ (v1 : Int32) (M : Mem), r v1 M = some out → WM p l e (RM (hd + 1)) s m args below meth c 0 0 (MQ below (QI D cA A Pl out) args s 0 0 (FA A Pl)) D cA A Pl (FA A Pl) 3 M 5 [(0, .ref (A 100)), (1, .int v1)] []), ∀  (M : Mem), f_X9_both_b44 rc_X9_either rc_X9_both rc_X9_not rc_X9_added rc_X9_term rc_X9_atom r  M = some out → WM p l e (RM (hd + 1)) s m args below meth c 0 0 (MQ below (QI D cA A Pl out) args s 0 0 (FA A Pl)) D cA A Pl (FA A Pl) 3 M 44 [(0, .ref (A 100))] [] := by
    intro r hr  M hf
    unfold f_X9_both_b44 at hf
    refine wm_iconst (v := 0) C dX9_both_g2.2.1 (by decide) ?_
    exact (hb45 _ hr) _ _ hf
  have hl5 : ∀ (n : Nat), ∀ (v1 : Int32) (M : Mem), f_X9_both_l5 rc_X9_either rc_X9_both rc_X9_not rc_X9_added rc_X9_term rc_X9_atom n v1 M = some out → WM p l e (RM (hd + 1)) s m args below meth c 0 0 (MQ below (QI D cA A Pl out) args s 0 0 (FA A Pl)) D cA A Pl (FA A Pl) 3 M 5 [(0, .ref (A 100)), (1, .int v1)] [] := by
    intro n
    induction n with
    | zero => intro v1 M hf; rw [f_X9_both_l5] at hf; cases hf
    | succ n hr =>
      intro v1 M hf
      rw [f_X9_both_l5] at hf
      refine wm_aload_n 0 C dX9_both_g0.2.2.2.1 rfl ?_
      refine wm_bipush (v := 97) C dX9_both_g0.2.2.2.2.1 (by decide) ?_
      refine wm_bipush (v := 110) C dX9_both_g0.2.2.2.2.2.1 (by decide) ?_
      refine wm_bipush (v := 100) C dX9_both_g0.2.2.2.2.2.2.1 (by decide) ?_
      refine wm_iconst (v := 0) C dX9_both_g0.2.2.2.2.2.2.2.1 (by decide) ?_
      refine wm_iconst (v := 0) C dX9_both_g0.2.2.2.2.2.2.2.2.1 (by decide) ?_
      refine wm_iconst (v := 0) C dX9_both_g0.2.2.2.2.2.2.2.2.2.1 (by decide) ?_
      refine wm_iconst (v := 0) C dX9_both_g0.2.2.2.2.2.2.2.2.2.2.1 (by decide) ?_
      refine wm_iconst (v := 0) C dX9_both_g0.2.2.2.2.2.2.2.2.2.2.2 (by decide) ?_
      obtain ⟨o3, ho4, hf⟩ := bnd hf
      refine wm_callVi (As := [.int 97, .int 110, .int 100, .int 0, .int 0, .int 0, .int 0, .int 0]) (ci := 8) C (c_X9_isWord hPl _ _ _ _ _ _ _ _ _ _ ho4) mi_X9_isWord wt_X9_193 (hPl 100 (by decide) (by decide)) rfl rfl rfl rfl (by omega) (by decide) (Nat.le_of_ble_eq_true rfl) dX9_both_g1.1 ?_
      refine wm_if_eq (tgt := 49) C dX9_both_g1.2.1 (by decide) (fun c5 => ?_) (fun c5 => ?_)
      · have hf := (if_pos c5).symm.trans hf
        refine wm_iload_n 1 C dX9_both_g2.2.2.2.2.1 rfl ?_
        exact wm_iret C hrt hf dX9_both_g2.2.2.2.2.2
      · have hf := (if_neg c5).symm.trans hf
        refine wm_aload_n 0 C dX9_both_g1.2.2.1 rfl ?_
        obtain ⟨o6, ho7, hf⟩ := bnd hf
        refine wm_callVv (As := []) (ci := 8) C (c_X9_next hPl  _ _ ho7) mi_X9_next wt_X9_190 (hPl 100 (by decide) (by decide)) rfl rfl rfl rfl (by omega) (by decide) (Nat.le_of_ble_eq_true rfl) dX9_both_g1.2.2.2.1 ?_
        refine wm_aload_n 0 C dX9_both_g1.2.2.2.2.1 rfl ?_
        obtain ⟨o8, ho9, hf⟩ := bnd hf
        refine wm_callVi (As := []) (ci := 8) C (hrc_X9_not  _ _ ho9) mi_X9_not wt_X9_237 (hPl 100 (by decide) (by decide)) rfl rfl rfl rfl (by omega) (by decide) (Nat.le_of_ble_eq_true rfl) dX9_both_g1.2.2.2.2.2.1 ?_
        refine wm_istore_n (lv1 := [(2, .int o8.1), (0, .ref (A 100)), (1, .int v1)]) C dX9_both_g1.2.2.2.2.2.2.1 (by decide) rfl ?_
        refine wm_iload_n 2 C dX9_both_g1.2.2.2.2.2.2.2.1 rfl ?_
        refine wm_if_eq (tgt := 44) C dX9_both_g1.2.2.2.2.2.2.2.2.1 (by decide) (fun c10 => ?_) (fun c10 => ?_)
        · have hf := (if_pos c10).symm.trans hf
          refine wm_pick [1] rfl ?_
          exact (hb44 _ hr) _ hf
        · have hf := (if_neg c10).symm.trans hf
          refine wm_iload_n 0 C dX9_both_g1.2.2.2.2.2.2.2.2.2.1 rfl ?_
          refine wm_if_eq (tgt := 44) C dX9_both_g1.2.2.2.2.2.2.2.2.2.2.1 (by decide) (fun c11 => ?_) (fun c11 => ?_)
          · have hf := (if_pos c11).symm.trans hf
            refine wm_pick [1] rfl ?_
            exact (hb44 _ hr) _ hf
          · have hf := (if_neg c11).symm.trans hf
            refine wm_iconst (v := 1) C dX9_both_g1.2.2.2.2.2.2.2.2.2.2.2 (by decide) ?_
            refine wm_goto (tgt := 45) C dX9_both_g2.1 (by decide) ?_
            refine wm_pick [1] rfl ?_
            exact (hb45 _ hr) _ _ hf
  have hf := ho
  unfold f_X9_both_b at hf
  refine wm_aload_n 0 C dX9_both_g0.1 rfl ?_
  obtain ⟨o1, ho2, hf⟩ := bnd hf
  refine wm_callVi (As := []) (ci := 8) C (hrc_X9_not  _ _ ho2) mi_X9_not wt_X9_237 (hPl 100 (by decide) (by decide)) rfl rfl rfl rfl (by omega) (by decide) (Nat.le_of_ble_eq_true rfl) dX9_both_g0.2.1 ?_
  refine wm_istore_n (lv1 := [(1, .int o1.1), (0, .ref (A 100))]) C dX9_both_g0.2.2.1 (by decide) rfl ?_
  refine wm_pick [1, 0] rfl ?_
  exact (hl5 FU) _ _ hf
set_option maxHeartbeats 4000000 in
set_option maxRecDepth 100000 in
theorem cb_X9_not {l : Launch} {D : va_G} {cA : Nat → ClassId} {A : Nat → Nat} {Pl : List Nat} (hPl : ∀ q, 100 ≤ q → q < 118 → q ∈ Pl) (hd : Nat) (hHB : 5 ≤ hd) (rc_X9_either : Mem → Option (Int32 × Mem)) (hrc_X9_either : ∀ (M : Mem) (out : (Int32 × Mem)), rc_X9_either M = some out → CtI l D cA A Pl yX9_either cX9_either 3 hd .int [.ref (A 100)] M out) (rc_X9_both : Mem → Option (Int32 × Mem)) (hrc_X9_both : ∀ (M : Mem) (out : (Int32 × Mem)), rc_X9_both M = some out → CtI l D cA A Pl yX9_both cX9_both 3 hd .int [.ref (A 100)] M out) (rc_X9_not : Mem → Option (Int32 × Mem)) (hrc_X9_not : ∀ (M : Mem) (out : (Int32 × Mem)), rc_X9_not M = some out → CtI l D cA A Pl yX9_not cX9_not 4 hd .int [.ref (A 100)] M out) (rc_X9_added : Mem → Option (Int32 × Mem)) (hrc_X9_added : ∀ (M : Mem) (out : (Int32 × Mem)), rc_X9_added M = some out → CtI l D cA A Pl yX9_added cX9_added 4 hd .int [.ref (A 100)] M out) (rc_X9_term : Mem → Option (Int32 × Mem)) (hrc_X9_term : ∀ (M : Mem) (out : (Int32 × Mem)), rc_X9_term M = some out → CtI l D cA A Pl yX9_term cX9_term 2 hd .int [.ref (A 100)] M out) (rc_X9_atom : Mem → Option (Int32 × Mem)) (hrc_X9_atom : ∀ (M : Mem) (out : (Int32 × Mem)), rc_X9_atom M = some out → CtI l D cA A Pl yX9_atom cX9_atom 2 hd .int [.ref (A 100)] M out) (M : Mem) (out : (Int32 × Mem)) (ho : f_X9_not_b rc_X9_either rc_X9_both rc_X9_not rc_X9_added rc_X9_term rc_X9_atom M = some out) : CtI l D cA A Pl yX9_not cX9_not 4 (hd + 1) .int [.ref (A 100)] M out := by
  refine ct_I (by decide) (Nat.le_of_ble_eq_true rfl) (fun p e s m args below meth c C hrt => ?_)
  have hb93 : ∀ (v1 : Int32) (s0 : Int32) (M : Mem), f_X9_not_b93 rc_X9_either rc_X9_both rc_X9_not rc_X9_added rc_X9_term rc_X9_atom v1 s0 M = some out → WM p l e (RM (hd + 1)) s m args below meth c 0 0 (MQ below (QI D cA A Pl out) args s 0 0 (FA A Pl)) D cA A Pl (FA A Pl) 4 M 93 [(0, .ref (A 100)), (1, .int v1)] [.int s0] := by
    intro v1 s0 M hf
    unfold f_X9_not_b93 at hf
    refine wm_istore_n (lv1 := [(2, .int s0), (0, .ref (A 100)), (1, .int v1)]) C dX9_not_g4.2.2.2.2.1 (by decide) rfl ?_
    refine wm_aload_n 1 C dX9_not_g4.2.2.2.2.2.1 rfl ?_
    obtain ⟨o19, ho20, hf⟩ := bnd hf
    refine wm_callVv (As := []) (ci := 8) C (c_X9_next hPl  _ _ ho20) mi_X9_next wt_X9_190 (hPl 100 (by decide) (by decide)) rfl rfl rfl rfl (by omega) (by decide) (Nat.le_of_ble_eq_true rfl) dX9_not_g4.2.2.2.2.2.2.1 ?_
    refine wm_aload_n 1 C dX9_not_g4.2.2.2.2.2.2.2.1 rfl ?_
    obtain ⟨o21, ho22, hf⟩ := bnd hf
    refine wm_callVi (As := []) (ci := 8) C (hrc_X9_added  _ _ ho22) mi_X9_added wt_X9_240 (hPl 100 (by decide) (by decide)) rfl rfl rfl rfl (by omega) (by decide) (Nat.le_of_ble_eq_true rfl) dX9_not_g4.2.2.2.2.2.2.2.2.1 ?_
    refine wm_istore_n (lv1 := [(3, .int o21.1), (2, .int s0), (0, .ref (A 100)), (1, .int v1)]) C dX9_not_g4.2.2.2.2.2.2.2.2.2.1 (by decide) rfl ?_
    refine wm_iload_n 1 C dX9_not_g4.2.2.2.2.2.2.2.2.2.2.1 rfl ?_
    refine wm_if_eq (tgt := 115) C dX9_not_g4.2.2.2.2.2.2.2.2.2.2.2 (by decide) (fun c23 => ?_) (fun c23 => ?_)
    · have hf := (if_pos c23).symm.trans hf
      refine wm_iload_n 3 C dX9_not_g5.2.2.2.2.1 rfl ?_
      refine wm_iload_n 0 C dX9_not_g5.2.2.2.2.2.1 rfl ?_
      refine wm_icmp_ne (tgt := 124) C dX9_not_g5.2.2.2.2.2.2.1 (by decide) (fun c24 => ?_) (fun c24 => ?_)
      · have hf := (if_neg c24).symm.trans hf
        refine wm_iconst (v := 0) C dX9_not_g5.2.2.2.2.2.2.2.2.2.1 (by decide) ?_
        exact wm_iret C hrt hf dX9_not_g5.2.2.2.2.2.2.2.2.2.2
      · have hf := (if_pos c24).symm.trans hf
        refine wm_iconst (v := 1) C dX9_not_g5.2.2.2.2.2.2.2.1 (by decide) ?_
        refine wm_goto (tgt := 125) C dX9_not_g5.2.2.2.2.2.2.2.2.1 (by decide) ?_
        exact wm_iret C hrt hf dX9_not_g5.2.2.2.2.2.2.2.2.2.2
    · have hf := (if_neg c23).symm.trans hf
      refine wm_iload_n 3 C dX9_not_g5.1 rfl ?_
      refine wm_iload_n 0 C dX9_not_g5.2.1 rfl ?_
      refine wm_icmp_ge (tgt := 124) C dX9_not_g5.2.2.1 (by decide) (fun c25 => ?_) (fun c25 => ?_)
      · have hf := (if_pos c25).symm.trans hf
        refine wm_iconst (v := 0) C dX9_not_g5.2.2.2.2.2.2.2.2.2.1 (by decide) ?_
        exact wm_iret C hrt hf dX9_not_g5.2.2.2.2.2.2.2.2.2.2
      · have hf := (if_neg c25).symm.trans hf
        refine wm_goto (tgt := 120) C dX9_not_g5.2.2.2.1 (by decide) ?_
        refine wm_iconst (v := 1) C dX9_not_g5.2.2.2.2.2.2.2.1 (by decide) ?_
        refine wm_goto (tgt := 125) C dX9_not_g5.2.2.2.2.2.2.2.2.1 (by decide) ?_
        exact wm_iret C hrt hf dX9_not_g5.2.2.2.2.2.2.2.2.2.2
  have hb77 : ∀ (v1 : Int32) (M : Mem), f_X9_not_b77 rc_X9_either rc_X9_both rc_X9_not rc_X9_added rc_X9_term rc_X9_atom v1 M = some out → WM p l e (RM (hd + 1)) s m args below meth c 0 0 (MQ below (QI D cA A Pl out) args s 0 0 (FA A Pl)) D cA A Pl (FA A Pl) 4 M 77 [(0, .ref (A 100)), (1, .int v1)] [] := by
    intro v1 M hf
    unfold f_X9_not_b77 at hf
    refine wm_aload_n 0 C dX9_not_g3.2.2.2.2.2.2.2.2.1 rfl ?_
    refine wm_get (ci := 8) (k := 24) (v := .long ((M 100 24)).toInt64) C (hPl 100 (by decide) (by decide)) rfl rfl (by decide) wt_X9_168 iwX9 rfl dX9_not_g3.2.2.2.2.2.2.2.2.2.1 ?_
    refine wm_ldc2 (v := 60) C wt_X9_243 dX9_not_g3.2.2.2.2.2.2.2.2.2.2.1 ?_
    refine wm_lcmp C dX9_not_g3.2.2.2.2.2.2.2.2.2.2.2 ?_
    refine wm_if_ne (tgt := 92) C dX9_not_g4.1 (by decide) (fun c18 => ?_) (fun c18 => ?_)
    · have hf := (if_neg c18).symm.trans hf
      refine wm_iconst (v := 0) C dX9_not_g4.2.2.2.1 (by decide) ?_
      exact hb93 _ _ _ hf
    · have hf := (if_pos c18).symm.trans hf
      refine wm_iconst (v := 1) C dX9_not_g4.2.1 (by decide) ?_
      refine wm_goto (tgt := 93) C dX9_not_g4.2.2.1 (by decide) ?_
      exact hb93 _ _ _ hf
  have hf := ho
  unfold f_X9_not_b at hf
  refine wm_aload_n 0 C dX9_not_g0.1 rfl ?_
  refine wm_bipush (v := 110) C dX9_not_g0.2.1 (by decide) ?_
  refine wm_bipush (v := 111) C dX9_not_g0.2.2.1 (by decide) ?_
  refine wm_bipush (v := 116) C dX9_not_g0.2.2.2.1 (by decide) ?_
  refine wm_iconst (v := 0) C dX9_not_g0.2.2.2.2.1 (by decide) ?_
  refine wm_iconst (v := 0) C dX9_not_g0.2.2.2.2.2.1 (by decide) ?_
  refine wm_iconst (v := 0) C dX9_not_g0.2.2.2.2.2.2.1 (by decide) ?_
  refine wm_iconst (v := 0) C dX9_not_g0.2.2.2.2.2.2.2.1 (by decide) ?_
  refine wm_iconst (v := 0) C dX9_not_g0.2.2.2.2.2.2.2.2.1 (by decide) ?_
  obtain ⟨o1, ho2, hf⟩ := bnd hf
  refine wm_callVi (As := [.int 110, .int 111, .int 116, .int 0, .int 0, .int 0, .int 0, .int 0]) (ci := 8) C (c_X9_isWord hPl _ _ _ _ _ _ _ _ _ _ ho2) mi_X9_isWord wt_X9_193 (hPl 100 (by decide) (by decide)) rfl rfl rfl rfl (by omega) (by decide) (Nat.le_of_ble_eq_true rfl) dX9_not_g0.2.2.2.2.2.2.2.2.2.1 ?_
  refine wm_if_eq (tgt := 52) C dX9_not_g0.2.2.2.2.2.2.2.2.2.2.1 (by decide) (fun c3 => ?_) (fun c3 => ?_)
  · have hf := (if_pos c3).symm.trans hf
    refine wm_aload_n 0 C dX9_not_g2.2.2.2.2.2.2.2.1 rfl ?_
    obtain ⟨o4, ho5, hf⟩ := bnd hf
    refine wm_callVi (As := []) (ci := 8) C (hrc_X9_added  _ _ ho5) mi_X9_added wt_X9_240 (hPl 100 (by decide) (by decide)) rfl rfl rfl rfl (by omega) (by decide) (Nat.le_of_ble_eq_true rfl) dX9_not_g2.2.2.2.2.2.2.2.2.1 ?_
    refine wm_istore_n (lv1 := [(1, .int o4.1), (0, .ref (A 100))]) C dX9_not_g2.2.2.2.2.2.2.2.2.2.1 (by decide) rfl ?_
    refine wm_aload_n 1 C dX9_not_g2.2.2.2.2.2.2.2.2.2.2.1 rfl ?_
    refine wm_bipush (v := 60) C dX9_not_g2.2.2.2.2.2.2.2.2.2.2.2 (by decide) ?_
    obtain ⟨o6, ho7, hf⟩ := bnd hf
    refine wm_callVi (As := [.int 60]) (ci := 8) C (c_X9_isSign hPl _ _ _ ho7) mi_X9_isSign wt_X9_215 (hPl 100 (by decide) (by decide)) rfl rfl rfl rfl (by omega) (by decide) (Nat.le_of_ble_eq_true rfl) dX9_not_g3.1 ?_
    refine wm_if_ne (tgt := 77) C dX9_not_g3.2.1 (by decide) (fun c8 => ?_) (fun c8 => ?_)
    · have hf := (if_neg c8).symm.trans hf
      refine wm_pick [1, 0] rfl ?_
      exact hb77 _ _ hf
    · have hf := (if_pos c8).symm.trans hf
      refine wm_aload_n 1 C dX9_not_g3.2.2.1 rfl ?_
      refine wm_bipush (v := 61) C dX9_not_g3.2.2.2.1 (by decide) ?_
      obtain ⟨o9, ho10, hf⟩ := bnd hf
      refine wm_callVi (As := [.int 61]) (ci := 8) C (c_X9_isSign hPl _ _ _ ho10) mi_X9_isSign wt_X9_215 (hPl 100 (by decide) (by decide)) rfl rfl rfl rfl (by omega) (by decide) (Nat.le_of_ble_eq_true rfl) dX9_not_g3.2.2.2.2.1 ?_
      refine wm_if_ne (tgt := 77) C dX9_not_g3.2.2.2.2.2.1 (by decide) (fun c11 => ?_) (fun c11 => ?_)
      · have hf := (if_neg c11).symm.trans hf
        refine wm_pick [1, 0] rfl ?_
        exact hb77 _ _ hf
      · have hf := (if_pos c11).symm.trans hf
        refine wm_iload_n 0 C dX9_not_g3.2.2.2.2.2.2.1 rfl ?_
        exact wm_iret C hrt hf dX9_not_g3.2.2.2.2.2.2.2.1
  · have hf := (if_neg c3).symm.trans hf
    refine wm_aload_n 0 C dX9_not_g0.2.2.2.2.2.2.2.2.2.2.2 rfl ?_
    obtain ⟨o12, ho13, hf⟩ := bnd hf
    refine wm_callVi (As := []) (ci := 8) C (c_X9_opens hPl  _ _ ho13) mi_X9_opens wt_X9_218 (hPl 100 (by decide) (by decide)) rfl rfl rfl rfl (by omega) (by decide) (Nat.le_of_ble_eq_true rfl) dX9_not_g1.1 ?_
    refine wm_if_ne (tgt := 27) C dX9_not_g1.2.1 (by decide) (fun c14 => ?_) (fun c14 => ?_)
    · have hf := (if_neg c14).symm.trans hf
      refine wm_aload_n 0 C dX9_not_g1.2.2.2.2.1 rfl ?_
      obtain ⟨o15, ho16, hf⟩ := bnd hf
      refine wm_callVi (As := []) (ci := 8) C (hrc_X9_not  _ _ ho16) mi_X9_not wt_X9_237 (hPl 100 (by decide) (by decide)) rfl rfl rfl rfl (by omega) (by decide) (Nat.le_of_ble_eq_true rfl) dX9_not_g1.2.2.2.2.2.1 ?_
      refine wm_istore_n (lv1 := [(1, .int o15.1), (0, .ref (A 100))]) C dX9_not_g1.2.2.2.2.2.2.1 (by decide) rfl ?_
      refine wm_aload_n 1 C dX9_not_g1.2.2.2.2.2.2.2.1 rfl ?_
      refine wm_dup C dX9_not_g1.2.2.2.2.2.2.2.2.1 rfl ?_
      refine wm_get (ci := 8) (k := 25) (v := .int (o15.2 100 25)) C (hPl 100 (by decide) (by decide)) rfl rfl (by decide) wt_X9_184 iwX9 rfl dX9_not_g1.2.2.2.2.2.2.2.2.2.1 ?_
      refine wm_iconst (v := 1) C dX9_not_g1.2.2.2.2.2.2.2.2.2.2.1 (by decide) ?_
      refine wm_isub C dX9_not_g1.2.2.2.2.2.2.2.2.2.2.2 ?_
      refine wm_put (ci := 8) (k := 25) (x := ((o15.2 100 25) - 1)) C (hPl 100 (by decide) (by decide)) rfl rfl (by decide) wt_X9_184 iwX9 tyX9_ok nmX9 rfl rfl rfl rfl (fun _ => rfl) (Nat.le_of_ble_eq_true rfl) dX9_not_g2.1 ?_
      refine wm_iload_n 0 C dX9_not_g2.2.1 rfl ?_
      refine wm_if_ne (tgt := 50) C dX9_not_g2.2.2.1 (by decide) (fun c17 => ?_) (fun c17 => ?_)
      · have hf := (if_neg c17).symm.trans hf
        refine wm_iconst (v := 0) C dX9_not_g2.2.2.2.2.2.1 (by decide) ?_
        exact wm_iret C hrt hf dX9_not_g2.2.2.2.2.2.2.1
      · have hf := (if_pos c17).symm.trans hf
        refine wm_iconst (v := 1) C dX9_not_g2.2.2.2.1 (by decide) ?_
        refine wm_goto (tgt := 51) C dX9_not_g2.2.2.2.2.1 (by decide) ?_
        exact wm_iret C hrt hf dX9_not_g2.2.2.2.2.2.2.1
    · have hf := (if_pos c14).symm.trans hf
      refine wm_iconst (v := 0) C dX9_not_g1.2.2.1 (by decide) ?_
      exact wm_iret C hrt hf dX9_not_g1.2.2.2.1
set_option maxHeartbeats 4000000 in
set_option maxRecDepth 100000 in
theorem cb_X9_added {l : Launch} {D : va_G} {cA : Nat → ClassId} {A : Nat → Nat} {Pl : List Nat} (hPl : ∀ q, 100 ≤ q → q < 118 → q ∈ Pl) (hd : Nat) (hHB : 5 ≤ hd) (rc_X9_either : Mem → Option (Int32 × Mem)) (hrc_X9_either : ∀ (M : Mem) (out : (Int32 × Mem)), rc_X9_either M = some out → CtI l D cA A Pl yX9_either cX9_either 3 hd .int [.ref (A 100)] M out) (rc_X9_both : Mem → Option (Int32 × Mem)) (hrc_X9_both : ∀ (M : Mem) (out : (Int32 × Mem)), rc_X9_both M = some out → CtI l D cA A Pl yX9_both cX9_both 3 hd .int [.ref (A 100)] M out) (rc_X9_not : Mem → Option (Int32 × Mem)) (hrc_X9_not : ∀ (M : Mem) (out : (Int32 × Mem)), rc_X9_not M = some out → CtI l D cA A Pl yX9_not cX9_not 4 hd .int [.ref (A 100)] M out) (rc_X9_added : Mem → Option (Int32 × Mem)) (hrc_X9_added : ∀ (M : Mem) (out : (Int32 × Mem)), rc_X9_added M = some out → CtI l D cA A Pl yX9_added cX9_added 4 hd .int [.ref (A 100)] M out) (rc_X9_term : Mem → Option (Int32 × Mem)) (hrc_X9_term : ∀ (M : Mem) (out : (Int32 × Mem)), rc_X9_term M = some out → CtI l D cA A Pl yX9_term cX9_term 2 hd .int [.ref (A 100)] M out) (rc_X9_atom : Mem → Option (Int32 × Mem)) (hrc_X9_atom : ∀ (M : Mem) (out : (Int32 × Mem)), rc_X9_atom M = some out → CtI l D cA A Pl yX9_atom cX9_atom 2 hd .int [.ref (A 100)] M out) (M : Mem) (out : (Int32 × Mem)) (ho : f_X9_added_b rc_X9_either rc_X9_both rc_X9_not rc_X9_added rc_X9_term rc_X9_atom M = some out) : CtI l D cA A Pl yX9_added cX9_added 4 (hd + 1) .int [.ref (A 100)] M out := by
  refine ct_I (by decide) (Nat.le_of_ble_eq_true rfl) (fun p e s m args below meth c C hrt => ?_)
  have hb62 : ∀ (r : Int32 → Mem → Option (Int32 × Mem)) (hr : ∀ (v1 : Int32) (M : Mem), r v1 M = some out → WM p l e (RM (hd + 1)) s m args below meth c 0 0 (MQ below (QI D cA A Pl out) args s 0 0 (FA A Pl)) D cA A Pl (FA A Pl) 4 M 5 [(0, .ref (A 100)), (1, .int v1)] []), ∀ (s0 : Int32) (M : Mem), f_X9_added_b62 rc_X9_either rc_X9_both rc_X9_not rc_X9_added rc_X9_term rc_X9_atom r s0 M = some out → WM p l e (RM (hd + 1)) s m args below meth c 0 0 (MQ below (QI D cA A Pl out) args s 0 0 (FA A Pl)) D cA A Pl (FA A Pl) 4 M 62 [(0, .ref (A 100))] [.int s0] := by
    intro r hr s0 M hf
    unfold f_X9_added_b62 at hf
    refine wm_istore_n (lv1 := [(1, .int s0), (0, .ref (A 100))]) C dX9_added_g2.2.2.2.2.2.2.2.2.2.2.1 (by decide) rfl ?_
    refine wm_goto (tgt := 5) C dX9_added_g2.2.2.2.2.2.2.2.2.2.2.2 (by decide) ?_
    refine wm_pick [1, 0] rfl ?_
    exact hr _ _ hf
  have hb39 : ∀ (r : Int32 → Mem → Option (Int32 × Mem)) (hr : ∀ (v1 : Int32) (M : Mem), r v1 M = some out → WM p l e (RM (hd + 1)) s m args below meth c 0 0 (MQ below (QI D cA A Pl out) args s 0 0 (FA A Pl)) D cA A Pl (FA A Pl) 4 M 5 [(0, .ref (A 100)), (1, .int v1)] []), ∀ (v1 : Int32) (s0 : Int32) (M : Mem), f_X9_added_b39 rc_X9_either rc_X9_both rc_X9_not rc_X9_added rc_X9_term rc_X9_atom r v1 s0 M = some out → WM p l e (RM (hd + 1)) s m args below meth c 0 0 (MQ below (QI D cA A Pl out) args s 0 0 (FA A Pl)) D cA A Pl (FA A Pl) 4 M 39 [(0, .ref (A 100)), (1, .int v1)] [.int s0] := by
    intro r hr v1 s0 M hf
    unfold f_X9_added_b39 at hf
    refine wm_istore_n (lv1 := [(2, .int s0), (0, .ref (A 100)), (1, .int v1)]) C dX9_added_g1.2.2.2.2.2.2.2.1 (by decide) rfl ?_
    refine wm_aload_n 1 C dX9_added_g1.2.2.2.2.2.2.2.2.1 rfl ?_
    obtain ⟨o10, ho11, hf⟩ := bnd hf
    refine wm_callVv (As := []) (ci := 8) C (c_X9_next hPl  _ _ ho11) mi_X9_next wt_X9_190 (hPl 100 (by decide) (by decide)) rfl rfl rfl rfl (by omega) (by decide) (Nat.le_of_ble_eq_true rfl) dX9_added_g1.2.2.2.2.2.2.2.2.2.1 ?_
    refine wm_aload_n 1 C dX9_added_g1.2.2.2.2.2.2.2.2.2.2.1 rfl ?_
    obtain ⟨o12, ho13, hf⟩ := bnd hf
    refine wm_callVi (As := []) (ci := 8) C (hrc_X9_term  _ _ ho13) mi_X9_term wt_X9_232 (hPl 100 (by decide) (by decide)) rfl rfl rfl rfl (by omega) (by decide) (Nat.le_of_ble_eq_true rfl) dX9_added_g1.2.2.2.2.2.2.2.2.2.2.2 ?_
    refine wm_istore_n (lv1 := [(3, .int o12.1), (2, .int s0), (0, .ref (A 100)), (1, .int v1)]) C dX9_added_g2.1 (by decide) rfl ?_
    refine wm_iload_n 1 C dX9_added_g2.2.1 rfl ?_
    refine wm_if_eq (tgt := 59) C dX9_added_g2.2.2.1 (by decide) (fun c14 => ?_) (fun c14 => ?_)
    · have hf := (if_pos c14).symm.trans hf
      refine wm_iload_n 3 C dX9_added_g2.2.2.2.2.2.2.2.1 rfl ?_
      refine wm_iload_n 0 C dX9_added_g2.2.2.2.2.2.2.2.2.1 rfl ?_
      refine wm_isub C dX9_added_g2.2.2.2.2.2.2.2.2.2.1 ?_
      refine wm_pick [2] rfl ?_
      exact (hb62 _ hr) _ _ hf
    · have hf := (if_neg c14).symm.trans hf
      refine wm_iload_n 3 C dX9_added_g2.2.2.2.1 rfl ?_
      refine wm_iload_n 0 C dX9_added_g2.2.2.2.2.1 rfl ?_
      refine wm_iadd C dX9_added_g2.2.2.2.2.2.1 ?_
      refine wm_goto (tgt := 62) C dX9_added_g2.2.2.2.2.2.2.1 (by decide) ?_
      refine wm_pick [2] rfl ?_
      exact (hb62 _ hr) _ _ hf
  have hb23 : ∀ (r : Int32 → Mem → Option (Int32 × Mem)) (hr : ∀ (v1 : Int32) (M : Mem), r v1 M = some out → WM p l e (RM (hd + 1)) s m args below meth c 0 0 (MQ below (QI D cA A Pl out) args s 0 0 (FA A Pl)) D cA A Pl (FA A Pl) 4 M 5 [(0, .ref (A 100)), (1, .int v1)] []), ∀ (v1 : Int32) (M : Mem), f_X9_added_b23 rc_X9_either rc_X9_both rc_X9_not rc_X9_added rc_X9_term rc_X9_atom r v1 M = some out → WM p l e (RM (hd + 1)) s m args below meth c 0 0 (MQ below (QI D cA A Pl out) args s 0 0 (FA A Pl)) D cA A Pl (FA A Pl) 4 M 23 [(0, .ref (A 100)), (1, .int v1)] [] := by
    intro r hr v1 M hf
    unfold f_X9_added_b23 at hf
    refine wm_aload_n 0 C dX9_added_g0.2.2.2.2.2.2.2.2.2.2.2 rfl ?_
    refine wm_get (ci := 8) (k := 24) (v := .long ((M 100 24)).toInt64) C (hPl 100 (by decide) (by decide)) rfl rfl (by decide) wt_X9_168 iwX9 rfl dX9_added_g1.1 ?_
    refine wm_ldc2 (v := 43) C wt_X9_235 dX9_added_g1.2.1 ?_
    refine wm_lcmp C dX9_added_g1.2.2.1 ?_
    refine wm_if_ne (tgt := 38) C dX9_added_g1.2.2.2.1 (by decide) (fun c3 => ?_) (fun c3 => ?_)
    · have hf := (if_neg c3).symm.trans hf
      refine wm_iconst (v := 0) C dX9_added_g1.2.2.2.2.2.2.1 (by decide) ?_
      exact (hb39 _ hr) _ _ _ hf
    · have hf := (if_pos c3).symm.trans hf
      refine wm_iconst (v := 1) C dX9_added_g1.2.2.2.2.1 (by decide) ?_
      refine wm_goto (tgt := 39) C dX9_added_g1.2.2.2.2.2.1 (by decide) ?_
      exact (hb39 _ hr) _ _ _ hf
  have hl5 : ∀ (n : Nat), ∀ (v1 : Int32) (M : Mem), f_X9_added_l5 rc_X9_either rc_X9_both rc_X9_not rc_X9_added rc_X9_term rc_X9_atom n v1 M = some out → WM p l e (RM (hd + 1)) s m args below meth c 0 0 (MQ below (QI D cA A Pl out) args s 0 0 (FA A Pl)) D cA A Pl (FA A Pl) 4 M 5 [(0, .ref (A 100)), (1, .int v1)] [] := by
    intro n
    induction n with
    | zero => intro v1 M hf; rw [f_X9_added_l5] at hf; cases hf
    | succ n hr =>
      intro v1 M hf
      rw [f_X9_added_l5] at hf
      refine wm_aload_n 0 C dX9_added_g0.2.2.2.1 rfl ?_
      refine wm_bipush (v := 43) C dX9_added_g0.2.2.2.2.1 (by decide) ?_
      obtain ⟨o4, ho5, hf⟩ := bnd hf
      refine wm_callVi (As := [.int 43]) (ci := 8) C (c_X9_isSign hPl _ _ _ ho5) mi_X9_isSign wt_X9_215 (hPl 100 (by decide) (by decide)) rfl rfl rfl rfl (by omega) (by decide) (Nat.le_of_ble_eq_true rfl) dX9_added_g0.2.2.2.2.2.1 ?_
      refine wm_if_ne (tgt := 23) C dX9_added_g0.2.2.2.2.2.2.1 (by decide) (fun c6 => ?_) (fun c6 => ?_)
      · have hf := (if_neg c6).symm.trans hf
        exact (hb23 _ hr) _ _ hf
      · have hf := (if_pos c6).symm.trans hf
        refine wm_aload_n 0 C dX9_added_g0.2.2.2.2.2.2.2.1 rfl ?_
        refine wm_bipush (v := 45) C dX9_added_g0.2.2.2.2.2.2.2.2.1 (by decide) ?_
        obtain ⟨o7, ho8, hf⟩ := bnd hf
        refine wm_callVi (As := [.int 45]) (ci := 8) C (c_X9_isSign hPl _ _ _ ho8) mi_X9_isSign wt_X9_215 (hPl 100 (by decide) (by decide)) rfl rfl rfl rfl (by omega) (by decide) (Nat.le_of_ble_eq_true rfl) dX9_added_g0.2.2.2.2.2.2.2.2.2.1 ?_
        refine wm_if_eq (tgt := 66) C dX9_added_g0.2.2.2.2.2.2.2.2.2.2.1 (by decide) (fun c9 => ?_) (fun c9 => ?_)
        · have hf := (if_pos c9).symm.trans hf
          refine wm_iload_n 1 C dX9_added_g3.1 rfl ?_
          exact wm_iret C hrt hf dX9_added_g3.2
        · have hf := (if_neg c9).symm.trans hf
          exact (hb23 _ hr) _ _ hf
  have hf := ho
  unfold f_X9_added_b at hf
  refine wm_aload_n 0 C dX9_added_g0.1 rfl ?_
  obtain ⟨o1, ho2, hf⟩ := bnd hf
  refine wm_callVi (As := []) (ci := 8) C (hrc_X9_term  _ _ ho2) mi_X9_term wt_X9_232 (hPl 100 (by decide) (by decide)) rfl rfl rfl rfl (by omega) (by decide) (Nat.le_of_ble_eq_true rfl) dX9_added_g0.2.1 ?_
  refine wm_istore_n (lv1 := [(1, .int o1.1), (0, .ref (A 100))]) C dX9_added_g0.2.2.1 (by decide) rfl ?_
  refine wm_pick [1, 0] rfl ?_
  exact (hl5 FU) _ _ hf
set_option maxHeartbeats 4000000 in
set_option maxRecDepth 100000 in
theorem cb_X9_term {l : Launch} {D : va_G} {cA : Nat → ClassId} {A : Nat → Nat} {Pl : List Nat} (hPl : ∀ q, 100 ≤ q → q < 118 → q ∈ Pl) (hd : Nat) (hHB : 5 ≤ hd) (rc_X9_either : Mem → Option (Int32 × Mem)) (hrc_X9_either : ∀ (M : Mem) (out : (Int32 × Mem)), rc_X9_either M = some out → CtI l D cA A Pl yX9_either cX9_either 3 hd .int [.ref (A 100)] M out) (rc_X9_both : Mem → Option (Int32 × Mem)) (hrc_X9_both : ∀ (M : Mem) (out : (Int32 × Mem)), rc_X9_both M = some out → CtI l D cA A Pl yX9_both cX9_both 3 hd .int [.ref (A 100)] M out) (rc_X9_not : Mem → Option (Int32 × Mem)) (hrc_X9_not : ∀ (M : Mem) (out : (Int32 × Mem)), rc_X9_not M = some out → CtI l D cA A Pl yX9_not cX9_not 4 hd .int [.ref (A 100)] M out) (rc_X9_added : Mem → Option (Int32 × Mem)) (hrc_X9_added : ∀ (M : Mem) (out : (Int32 × Mem)), rc_X9_added M = some out → CtI l D cA A Pl yX9_added cX9_added 4 hd .int [.ref (A 100)] M out) (rc_X9_term : Mem → Option (Int32 × Mem)) (hrc_X9_term : ∀ (M : Mem) (out : (Int32 × Mem)), rc_X9_term M = some out → CtI l D cA A Pl yX9_term cX9_term 2 hd .int [.ref (A 100)] M out) (rc_X9_atom : Mem → Option (Int32 × Mem)) (hrc_X9_atom : ∀ (M : Mem) (out : (Int32 × Mem)), rc_X9_atom M = some out → CtI l D cA A Pl yX9_atom cX9_atom 2 hd .int [.ref (A 100)] M out) (M : Mem) (out : (Int32 × Mem)) (ho : f_X9_term_b rc_X9_either rc_X9_both rc_X9_not rc_X9_added rc_X9_term rc_X9_atom M = some out) : CtI l D cA A Pl yX9_term cX9_term 2 (hd + 1) .int [.ref (A 100)] M out := by
  refine ct_I (by decide) (Nat.le_of_ble_eq_true rfl) (fun p e s m args below meth c C hrt => ?_)
  have hl5 : ∀ (n : Nat), ∀ (v1 : Int32) (M : Mem), f_X9_term_l5 rc_X9_either rc_X9_both rc_X9_not rc_X9_added rc_X9_term rc_X9_atom n v1 M = some out → WM p l e (RM (hd + 1)) s m args below meth c 0 0 (MQ below (QI D cA A Pl out) args s 0 0 (FA A Pl)) D cA A Pl (FA A Pl) 2 M 5 [(0, .ref (A 100)), (1, .int v1)] [] := by
    intro n
    induction n with
    | zero => intro v1 M hf; rw [f_X9_term_l5] at hf; cases hf
    | succ n hr =>
      intro v1 M hf
      rw [f_X9_term_l5] at hf
      refine wm_aload_n 0 C dX9_term_g0.2.2.2.1 rfl ?_
      refine wm_bipush (v := 42) C dX9_term_g0.2.2.2.2.1 (by decide) ?_
      obtain ⟨o3, ho4, hf⟩ := bnd hf
      refine wm_callVi (As := [.int 42]) (ci := 8) C (c_X9_isSign hPl _ _ _ ho4) mi_X9_isSign wt_X9_215 (hPl 100 (by decide) (by decide)) rfl rfl rfl rfl (by omega) (by decide) (Nat.le_of_ble_eq_true rfl) dX9_term_g0.2.2.2.2.2.1 ?_
      refine wm_if_eq (tgt := 28) C dX9_term_g0.2.2.2.2.2.2.1 (by decide) (fun c5 => ?_) (fun c5 => ?_)
      · have hf := (if_pos c5).symm.trans hf
        refine wm_iload_n 1 C dX9_term_g1.2.2.2.1 rfl ?_
        exact wm_iret C hrt hf dX9_term_g1.2.2.2.2
      · have hf := (if_neg c5).symm.trans hf
        refine wm_aload_n 0 C dX9_term_g0.2.2.2.2.2.2.2.1 rfl ?_
        obtain ⟨o6, ho7, hf⟩ := bnd hf
        refine wm_callVv (As := []) (ci := 8) C (c_X9_next hPl  _ _ ho7) mi_X9_next wt_X9_190 (hPl 100 (by decide) (by decide)) rfl rfl rfl rfl (by omega) (by decide) (Nat.le_of_ble_eq_true rfl) dX9_term_g0.2.2.2.2.2.2.2.2.1 ?_
        refine wm_iload_n 1 C dX9_term_g0.2.2.2.2.2.2.2.2.2.1 rfl ?_
        refine wm_aload_n 0 C dX9_term_g0.2.2.2.2.2.2.2.2.2.2.1 rfl ?_
        obtain ⟨o8, ho9, hf⟩ := bnd hf
        refine wm_callVi (As := []) (ci := 8) C (hrc_X9_atom  _ _ ho9) mi_X9_atom wt_X9_222 (hPl 100 (by decide) (by decide)) rfl rfl rfl rfl (by omega) (by decide) (Nat.le_of_ble_eq_true rfl) dX9_term_g0.2.2.2.2.2.2.2.2.2.2.2 ?_
        refine wm_imul C dX9_term_g1.1 ?_
        refine wm_istore_n (lv1 := [(1, .int (v1 * o8.1)), (0, .ref (A 100))]) C dX9_term_g1.2.1 (by decide) rfl ?_
        refine wm_goto (tgt := 5) C dX9_term_g1.2.2.1 (by decide) ?_
        refine wm_pick [1, 0] rfl ?_
        exact hr _ _ hf
  have hf := ho
  unfold f_X9_term_b at hf
  refine wm_aload_n 0 C dX9_term_g0.1 rfl ?_
  obtain ⟨o1, ho2, hf⟩ := bnd hf
  refine wm_callVi (As := []) (ci := 8) C (hrc_X9_atom  _ _ ho2) mi_X9_atom wt_X9_222 (hPl 100 (by decide) (by decide)) rfl rfl rfl rfl (by omega) (by decide) (Nat.le_of_ble_eq_true rfl) dX9_term_g0.2.1 ?_
  refine wm_istore_n (lv1 := [(1, .int o1.1), (0, .ref (A 100))]) C dX9_term_g0.2.2.1 (by decide) rfl ?_
  refine wm_pick [1, 0] rfl ?_
  exact (hl5 FU) _ _ hf
set_option maxHeartbeats 4000000 in
set_option maxRecDepth 100000 in
theorem cb_X9_atom {l : Launch} {D : va_G} {cA : Nat → ClassId} {A : Nat → Nat} {Pl : List Nat} (hPl : ∀ q, 100 ≤ q → q < 118 → q ∈ Pl) (hd : Nat) (hHB : 5 ≤ hd) (rc_X9_either : Mem → Option (Int32 × Mem)) (hrc_X9_either : ∀ (M : Mem) (out : (Int32 × Mem)), rc_X9_either M = some out → CtI l D cA A Pl yX9_either cX9_either 3 hd .int [.ref (A 100)] M out) (rc_X9_both : Mem → Option (Int32 × Mem)) (hrc_X9_both : ∀ (M : Mem) (out : (Int32 × Mem)), rc_X9_both M = some out → CtI l D cA A Pl yX9_both cX9_both 3 hd .int [.ref (A 100)] M out) (rc_X9_not : Mem → Option (Int32 × Mem)) (hrc_X9_not : ∀ (M : Mem) (out : (Int32 × Mem)), rc_X9_not M = some out → CtI l D cA A Pl yX9_not cX9_not 4 hd .int [.ref (A 100)] M out) (rc_X9_added : Mem → Option (Int32 × Mem)) (hrc_X9_added : ∀ (M : Mem) (out : (Int32 × Mem)), rc_X9_added M = some out → CtI l D cA A Pl yX9_added cX9_added 4 hd .int [.ref (A 100)] M out) (rc_X9_term : Mem → Option (Int32 × Mem)) (hrc_X9_term : ∀ (M : Mem) (out : (Int32 × Mem)), rc_X9_term M = some out → CtI l D cA A Pl yX9_term cX9_term 2 hd .int [.ref (A 100)] M out) (rc_X9_atom : Mem → Option (Int32 × Mem)) (hrc_X9_atom : ∀ (M : Mem) (out : (Int32 × Mem)), rc_X9_atom M = some out → CtI l D cA A Pl yX9_atom cX9_atom 2 hd .int [.ref (A 100)] M out) (M : Mem) (out : (Int32 × Mem)) (ho : f_X9_atom_b rc_X9_either rc_X9_both rc_X9_not rc_X9_added rc_X9_term rc_X9_atom M = some out) : CtI l D cA A Pl yX9_atom cX9_atom 2 (hd + 1) .int [.ref (A 100)] M out := by
  refine ct_I (by decide) (Nat.le_of_ble_eq_true rfl) (fun p e s m args below meth c C hrt => ?_)
  have hb71 : ∀ (v1 : Int32) (M : Mem), f_X9_atom_b71 rc_X9_either rc_X9_both rc_X9_not rc_X9_added rc_X9_term rc_X9_atom v1 M = some out → WM p l e (RM (hd + 1)) s m args below meth c 0 0 (MQ below (QI D cA A Pl out) args s 0 0 (FA A Pl)) D cA A Pl (FA A Pl) 2 M 71 [(0, .ref (A 100)), (1, .int v1)] [] := by
    intro v1 M hf
    unfold f_X9_atom_b71 at hf
    refine wm_aload_n 0 C dX9_atom_g3.1 rfl ?_
    refine wm_dup C dX9_atom_g3.2.1 rfl ?_
    refine wm_get (ci := 8) (k := 25) (v := .int (M 100 25)) C (hPl 100 (by decide) (by decide)) rfl rfl (by decide) wt_X9_184 iwX9 rfl dX9_atom_g3.2.2.1 ?_
    refine wm_iconst (v := 1) C dX9_atom_g3.2.2.2.1 (by decide) ?_
    refine wm_isub C dX9_atom_g3.2.2.2.2.1 ?_
    refine wm_put (ci := 8) (k := 25) (x := ((M 100 25) - 1)) C (hPl 100 (by decide) (by decide)) rfl rfl (by decide) wt_X9_184 iwX9 tyX9_ok nmX9 rfl rfl rfl rfl (fun _ => rfl) (Nat.le_of_ble_eq_true rfl) dX9_atom_g3.2.2.2.2.2.1 ?_
    refine wm_aload_n 0 C dX9_atom_g3.2.2.2.2.2.2.1 rfl ?_
    refine wm_get (ci := 8) (k := 26) (v := .int (M 100 26)) C (hPl 100 (by decide) (by decide)) rfl rfl (by decide) wt_X9_174 iwX9 (by first | rfl | simp [fld, mu, upd, mcp]) dX9_atom_g3.2.2.2.2.2.2.2.1 ?_
    refine wm_if_ne (tgt := 161) C dX9_atom_g3.2.2.2.2.2.2.2.2.1 (by decide) (fun c35 => ?_) (fun c35 => ?_)
    · have hf := (if_neg c35).symm.trans hf
      refine wm_iload_n 1 C dX9_atom_g6.2.2.2.2.2.2.2.2.1 rfl ?_
      exact wm_iret C hrt hf dX9_atom_g6.2.2.2.2.2.2.2.2.2
    · have hf := (if_pos c35).symm.trans hf
      refine wm_aload_n 0 C dX9_atom_g3.2.2.2.2.2.2.2.2.2.1 rfl ?_
      obtain ⟨o36, ho37, hf⟩ := bnd hf
      refine wm_callVv (As := []) (ci := 8) C (c_X9_next hPl  _ _ ho37) mi_X9_next wt_X9_190 (hPl 100 (by decide) (by decide)) rfl rfl rfl rfl (by omega) (by decide) (Nat.le_of_ble_eq_true rfl) dX9_atom_g3.2.2.2.2.2.2.2.2.2.2.1 ?_
      refine wm_goto (tgt := 161) C dX9_atom_g3.2.2.2.2.2.2.2.2.2.2.2 (by decide) ?_
      refine wm_iload_n 1 C dX9_atom_g6.2.2.2.2.2.2.2.2.1 rfl ?_
      exact wm_iret C hrt hf dX9_atom_g6.2.2.2.2.2.2.2.2.2
  have hb157 : ∀ (v1 : Int32) (M : Mem), f_X9_atom_b157 rc_X9_either rc_X9_both rc_X9_not rc_X9_added rc_X9_term rc_X9_atom v1 M = some out → WM p l e (RM (hd + 1)) s m args below meth c 0 0 (MQ below (QI D cA A Pl out) args s 0 0 (FA A Pl)) D cA A Pl (FA A Pl) 2 M 157 [(0, .ref (A 100)), (1, .int v1)] [] := by
    intro v1 M hf
    unfold f_X9_atom_b157 at hf
    refine wm_aload_n 0 C dX9_atom_g6.2.2.2.2.2.2.1 rfl ?_
    obtain ⟨o33, ho34, hf⟩ := bnd hf
    refine wm_callVv (As := []) (ci := 8) C (c_X9_fail hPl  _ _ ho34) mi_X9_fail wt_X9_187 (hPl 100 (by decide) (by decide)) rfl rfl rfl rfl (by omega) (by decide) (Nat.le_of_ble_eq_true rfl) dX9_atom_g6.2.2.2.2.2.2.2.1 ?_
    refine wm_iload_n 1 C dX9_atom_g6.2.2.2.2.2.2.2.2.1 rfl ?_
    exact wm_iret C hrt hf dX9_atom_g6.2.2.2.2.2.2.2.2.2
  have hb123 : ∀ (v1 : Int32) (M : Mem), f_X9_atom_b123 rc_X9_either rc_X9_both rc_X9_not rc_X9_added rc_X9_term rc_X9_atom v1 M = some out → WM p l e (RM (hd + 1)) s m args below meth c 0 0 (MQ below (QI D cA A Pl out) args s 0 0 (FA A Pl)) D cA A Pl (FA A Pl) 2 M 123 [(0, .ref (A 100)), (1, .int v1)] [] := by
    intro v1 M hf
    unfold f_X9_atom_b123 at hf
    refine wm_aload_n 0 C dX9_atom_g5.2.2.1 rfl ?_
    refine wm_get (ci := 8) (k := 26) (v := .int (M 100 26)) C (hPl 100 (by decide) (by decide)) rfl rfl (by decide) wt_X9_174 iwX9 rfl dX9_atom_g5.2.2.2.1 ?_
    refine wm_if_ne (tgt := 157) C dX9_atom_g5.2.2.2.2.1 (by decide) (fun c26 => ?_) (fun c26 => ?_)
    · have hf := (if_neg c26).symm.trans hf
      exact hb157 _ _ hf
    · have hf := (if_pos c26).symm.trans hf
      refine wm_aload_n 0 C dX9_atom_g5.2.2.2.2.2.1 rfl ?_
      refine wm_get (ci := 8) (k := 22) (v := .int (M 100 22)) C (hPl 100 (by decide) (by decide)) rfl rfl (by decide) wt_X9_157 iwX9 rfl dX9_atom_g5.2.2.2.2.2.2.1 ?_
      refine wm_iconst (v := 1) C dX9_atom_g5.2.2.2.2.2.2.2.1 (by decide) ?_
      refine wm_icmp_ne (tgt := 157) C dX9_atom_g5.2.2.2.2.2.2.2.2.1 (by decide) (fun c27 => ?_) (fun c27 => ?_)
      · have hf := (if_neg c27).symm.trans hf
        exact hb157 _ _ hf
      · have hf := (if_pos c27).symm.trans hf
        refine wm_aload_n 0 C dX9_atom_g5.2.2.2.2.2.2.2.2.2.1 rfl ?_
        obtain ⟨o28, ho29, hf⟩ := bnd hf
        refine wm_callVi (As := []) (ci := 8) C (c_X9_name hPl  _ _ ho29) mi_X9_name wt_X9_229 (hPl 100 (by decide) (by decide)) rfl rfl rfl rfl (by omega) (by decide) (Nat.le_of_ble_eq_true rfl) dX9_atom_g5.2.2.2.2.2.2.2.2.2.2.1 ?_
        refine wm_istore_n (lv1 := [(1, .int o28.1), (0, .ref (A 100))]) C dX9_atom_g5.2.2.2.2.2.2.2.2.2.2.2 (by decide) rfl ?_
        refine wm_aload_n 1 C dX9_atom_g6.1 rfl ?_
        refine wm_get (ci := 8) (k := 26) (v := .int (o28.2 100 26)) C (hPl 100 (by decide) (by decide)) rfl rfl (by decide) wt_X9_174 iwX9 rfl dX9_atom_g6.2.1 ?_
        refine wm_if_ne (tgt := 161) C dX9_atom_g6.2.2.1 (by decide) (fun c30 => ?_) (fun c30 => ?_)
        · have hf := (if_neg c30).symm.trans hf
          refine wm_iload_n 0 C dX9_atom_g6.2.2.2.2.2.2.2.2.1 rfl ?_
          exact wm_iret C hrt hf dX9_atom_g6.2.2.2.2.2.2.2.2.2
        · have hf := (if_pos c30).symm.trans hf
          refine wm_aload_n 1 C dX9_atom_g6.2.2.2.1 rfl ?_
          obtain ⟨o31, ho32, hf⟩ := bnd hf
          refine wm_callVv (As := []) (ci := 8) C (c_X9_next hPl  _ _ ho32) mi_X9_next wt_X9_190 (hPl 100 (by decide) (by decide)) rfl rfl rfl rfl (by omega) (by decide) (Nat.le_of_ble_eq_true rfl) dX9_atom_g6.2.2.2.2.1 ?_
          refine wm_goto (tgt := 161) C dX9_atom_g6.2.2.2.2.2.1 (by decide) ?_
          refine wm_iload_n 0 C dX9_atom_g6.2.2.2.2.2.2.2.2.1 rfl ?_
          exact wm_iret C hrt hf dX9_atom_g6.2.2.2.2.2.2.2.2.2
  have hf := ho
  unfold f_X9_atom_b at hf
  refine wm_iconst (v := 0) C dX9_atom_g0.1 (by decide) ?_
  refine wm_istore_n (lv1 := [(1, .int 0), (0, .ref (A 100))]) C dX9_atom_g0.2.1 (by decide) rfl ?_
  refine wm_aload_n 1 C dX9_atom_g0.2.2.1 rfl ?_
  refine wm_bipush (v := 45) C dX9_atom_g0.2.2.2.1 (by decide) ?_
  obtain ⟨o1, ho2, hf⟩ := bnd hf
  refine wm_callVi (As := [.int 45]) (ci := 8) C (c_X9_isSign hPl _ _ _ ho2) mi_X9_isSign wt_X9_215 (hPl 100 (by decide) (by decide)) rfl rfl rfl rfl (by omega) (by decide) (Nat.le_of_ble_eq_true rfl) dX9_atom_g0.2.2.2.2.1 ?_
  refine wm_if_eq (tgt := 37) C dX9_atom_g0.2.2.2.2.2.1 (by decide) (fun c3 => ?_) (fun c3 => ?_)
  · have hf := (if_pos c3).symm.trans hf
    refine wm_aload_n 1 C dX9_atom_g1.2.2.2.2.2.2.2.2.1 rfl ?_
    refine wm_bipush (v := 40) C dX9_atom_g1.2.2.2.2.2.2.2.2.2.1 (by decide) ?_
    obtain ⟨o4, ho5, hf⟩ := bnd hf
    refine wm_callVi (As := [.int 40]) (ci := 8) C (c_X9_isSign hPl _ _ _ ho5) mi_X9_isSign wt_X9_215 (hPl 100 (by decide) (by decide)) rfl rfl rfl rfl (by omega) (by decide) (Nat.le_of_ble_eq_true rfl) dX9_atom_g1.2.2.2.2.2.2.2.2.2.2.1 ?_
    refine wm_if_eq (tgt := 95) C dX9_atom_g1.2.2.2.2.2.2.2.2.2.2.2 (by decide) (fun c6 => ?_) (fun c6 => ?_)
    · have hf := (if_pos c6).symm.trans hf
      refine wm_aload_n 1 C dX9_atom_g4.1 rfl ?_
      refine wm_get (ci := 8) (k := 26) (v := .int (o4.2 100 26)) C (hPl 100 (by decide) (by decide)) rfl rfl (by decide) wt_X9_174 iwX9 rfl dX9_atom_g4.2.1 ?_
      refine wm_if_ne (tgt := 123) C dX9_atom_g4.2.2.1 (by decide) (fun c7 => ?_) (fun c7 => ?_)
      · have hf := (if_neg c7).symm.trans hf
        refine wm_pick [1, 0] rfl ?_
        exact hb123 _ _ hf
      · have hf := (if_pos c7).symm.trans hf
        refine wm_aload_n 1 C dX9_atom_g4.2.2.2.1 rfl ?_
        refine wm_get (ci := 8) (k := 22) (v := .int (o4.2 100 22)) C (hPl 100 (by decide) (by decide)) rfl rfl (by decide) wt_X9_157 iwX9 rfl dX9_atom_g4.2.2.2.2.1 ?_
        refine wm_iconst (v := 2) C dX9_atom_g4.2.2.2.2.2.1 (by decide) ?_
        refine wm_icmp_ne (tgt := 123) C dX9_atom_g4.2.2.2.2.2.2.1 (by decide) (fun c8 => ?_) (fun c8 => ?_)
        · have hf := (if_neg c8).symm.trans hf
          refine wm_pick [1, 0] rfl ?_
          exact hb123 _ _ hf
        · have hf := (if_pos c8).symm.trans hf
          refine wm_aload_n 1 C dX9_atom_g4.2.2.2.2.2.2.2.1 rfl ?_
          refine wm_get (ci := 8) (k := 24) (v := .long ((o4.2 100 24)).toInt64) C (hPl 100 (by decide) (by decide)) rfl rfl (by decide) wt_X9_168 iwX9 rfl dX9_atom_g4.2.2.2.2.2.2.2.2.1 ?_
          refine wm_l2i C dX9_atom_g4.2.2.2.2.2.2.2.2.2.1 ?_
          refine wm_istore_n (lv1 := [(1, .int ((((o4.2 100 24)).toInt64 : Int64).toInt32)), (0, .ref (A 100))]) C dX9_atom_g4.2.2.2.2.2.2.2.2.2.2.1 (by decide) rfl ?_
          refine wm_aload_n 1 C dX9_atom_g4.2.2.2.2.2.2.2.2.2.2.2 rfl ?_
          obtain ⟨o9, ho10, hf⟩ := bnd hf
          refine wm_callVv (As := []) (ci := 8) C (c_X9_next hPl  _ _ ho10) mi_X9_next wt_X9_190 (hPl 100 (by decide) (by decide)) rfl rfl rfl rfl (by omega) (by decide) (Nat.le_of_ble_eq_true rfl) dX9_atom_g5.1 ?_
          refine wm_goto (tgt := 161) C dX9_atom_g5.2.1 (by decide) ?_
          refine wm_iload_n 0 C dX9_atom_g6.2.2.2.2.2.2.2.2.1 rfl ?_
          exact wm_iret C hrt hf dX9_atom_g6.2.2.2.2.2.2.2.2.2
    · have hf := (if_neg c6).symm.trans hf
      refine wm_aload_n 1 C dX9_atom_g2.1 rfl ?_
      obtain ⟨o11, ho12, hf⟩ := bnd hf
      refine wm_callVi (As := []) (ci := 8) C (c_X9_opens hPl  _ _ ho12) mi_X9_opens wt_X9_218 (hPl 100 (by decide) (by decide)) rfl rfl rfl rfl (by omega) (by decide) (Nat.le_of_ble_eq_true rfl) dX9_atom_g2.2.1 ?_
      refine wm_if_eq (tgt := 161) C dX9_atom_g2.2.2.1 (by decide) (fun c13 => ?_) (fun c13 => ?_)
      · have hf := (if_pos c13).symm.trans hf
        refine wm_iload_n 0 C dX9_atom_g6.2.2.2.2.2.2.2.2.1 rfl ?_
        exact wm_iret C hrt hf dX9_atom_g6.2.2.2.2.2.2.2.2.2
      · have hf := (if_neg c13).symm.trans hf
        refine wm_aload_n 1 C dX9_atom_g2.2.2.2.1 rfl ?_
        obtain ⟨o14, ho15, hf⟩ := bnd hf
        refine wm_callVi (As := []) (ci := 8) C (hrc_X9_either  _ _ ho15) mi_X9_either wt_X9_226 (hPl 100 (by decide) (by decide)) rfl rfl rfl rfl (by omega) (by decide) (Nat.le_of_ble_eq_true rfl) dX9_atom_g2.2.2.2.2.1 ?_
        refine wm_istore_n (lv1 := [(1, .int o14.1), (0, .ref (A 100))]) C dX9_atom_g2.2.2.2.2.2.1 (by decide) rfl ?_
        refine wm_aload_n 1 C dX9_atom_g2.2.2.2.2.2.2.1 rfl ?_
        refine wm_bipush (v := 41) C dX9_atom_g2.2.2.2.2.2.2.2.1 (by decide) ?_
        obtain ⟨o16, ho17, hf⟩ := bnd hf
        refine wm_callVi (As := [.int 41]) (ci := 8) C (c_X9_isSign hPl _ _ _ ho17) mi_X9_isSign wt_X9_215 (hPl 100 (by decide) (by decide)) rfl rfl rfl rfl (by omega) (by decide) (Nat.le_of_ble_eq_true rfl) dX9_atom_g2.2.2.2.2.2.2.2.2.1 ?_
        refine wm_if_ne (tgt := 71) C dX9_atom_g2.2.2.2.2.2.2.2.2.2.1 (by decide) (fun c18 => ?_) (fun c18 => ?_)
        · have hf := (if_neg c18).symm.trans hf
          refine wm_pick [1, 0] rfl ?_
          exact hb71 _ _ hf
        · have hf := (if_pos c18).symm.trans hf
          refine wm_aload_n 1 C dX9_atom_g2.2.2.2.2.2.2.2.2.2.2.1 rfl ?_
          obtain ⟨o19, ho20, hf⟩ := bnd hf
          refine wm_callVv (As := []) (ci := 8) C (c_X9_fail hPl  _ _ ho20) mi_X9_fail wt_X9_187 (hPl 100 (by decide) (by decide)) rfl rfl rfl rfl (by omega) (by decide) (Nat.le_of_ble_eq_true rfl) dX9_atom_g2.2.2.2.2.2.2.2.2.2.2.2 ?_
          refine wm_pick [1, 0] rfl ?_
          exact hb71 _ _ hf
  · have hf := (if_neg c3).symm.trans hf
    refine wm_aload_n 1 C dX9_atom_g0.2.2.2.2.2.2.1 rfl ?_
    obtain ⟨o21, ho22, hf⟩ := bnd hf
    refine wm_callVi (As := []) (ci := 8) C (c_X9_opens hPl  _ _ ho22) mi_X9_opens wt_X9_218 (hPl 100 (by decide) (by decide)) rfl rfl rfl rfl (by omega) (by decide) (Nat.le_of_ble_eq_true rfl) dX9_atom_g0.2.2.2.2.2.2.2.1 ?_
    refine wm_if_eq (tgt := 161) C dX9_atom_g0.2.2.2.2.2.2.2.2.1 (by decide) (fun c23 => ?_) (fun c23 => ?_)
    · have hf := (if_pos c23).symm.trans hf
      refine wm_iload_n 0 C dX9_atom_g6.2.2.2.2.2.2.2.2.1 rfl ?_
      exact wm_iret C hrt hf dX9_atom_g6.2.2.2.2.2.2.2.2.2
    · have hf := (if_neg c23).symm.trans hf
      refine wm_aload_n 1 C dX9_atom_g0.2.2.2.2.2.2.2.2.2.1 rfl ?_
      obtain ⟨o24, ho25, hf⟩ := bnd hf
      refine wm_callVi (As := []) (ci := 8) C (hrc_X9_atom  _ _ ho25) mi_X9_atom wt_X9_222 (hPl 100 (by decide) (by decide)) rfl rfl rfl rfl (by omega) (by decide) (Nat.le_of_ble_eq_true rfl) dX9_atom_g0.2.2.2.2.2.2.2.2.2.2.1 ?_
      refine wm_ineg C dX9_atom_g0.2.2.2.2.2.2.2.2.2.2.2 ?_
      refine wm_istore_n (lv1 := [(1, .int (-o24.1)), (0, .ref (A 100))]) C dX9_atom_g1.1 (by decide) rfl ?_
      refine wm_aload_n 1 C dX9_atom_g1.2.1 rfl ?_
      refine wm_dup C dX9_atom_g1.2.2.1 rfl ?_
      refine wm_get (ci := 8) (k := 25) (v := .int (o24.2 100 25)) C (hPl 100 (by decide) (by decide)) rfl rfl (by decide) wt_X9_184 iwX9 rfl dX9_atom_g1.2.2.2.1 ?_
      refine wm_iconst (v := 1) C dX9_atom_g1.2.2.2.2.1 (by decide) ?_
      refine wm_isub C dX9_atom_g1.2.2.2.2.2.1 ?_
      refine wm_put (ci := 8) (k := 25) (x := ((o24.2 100 25) - 1)) C (hPl 100 (by decide) (by decide)) rfl rfl (by decide) wt_X9_184 iwX9 tyX9_ok nmX9 rfl rfl rfl rfl (fun _ => rfl) (Nat.le_of_ble_eq_true rfl) dX9_atom_g1.2.2.2.2.2.2.1 ?_
      refine wm_goto (tgt := 161) C dX9_atom_g1.2.2.2.2.2.2.2.1 (by decide) ?_
      refine wm_iload_n 0 C dX9_atom_g6.2.2.2.2.2.2.2.2.1 rfl ?_
      exact wm_iret C hrt hf dX9_atom_g6.2.2.2.2.2.2.2.2.2
theorem cg_X9_either {l : Launch} {D : va_G} {cA : Nat → ClassId} {A : Nat → Nat} {Pl : List Nat} (hPl : ∀ q, 100 ≤ q → q < 118 → q ∈ Pl) : ∀ d : Nat, (∀ (M : Mem) (out : (Int32 × Mem)), f_X9_either d M = some out → CtI l D cA A Pl yX9_either cX9_either 3 (5 + d) .int [.ref (A 100)] M out) ∧ (∀ (M : Mem) (out : (Int32 × Mem)), f_X9_both d M = some out → CtI l D cA A Pl yX9_both cX9_both 3 (5 + d) .int [.ref (A 100)] M out) ∧ (∀ (M : Mem) (out : (Int32 × Mem)), f_X9_not d M = some out → CtI l D cA A Pl yX9_not cX9_not 4 (5 + d) .int [.ref (A 100)] M out) ∧ (∀ (M : Mem) (out : (Int32 × Mem)), f_X9_added d M = some out → CtI l D cA A Pl yX9_added cX9_added 4 (5 + d) .int [.ref (A 100)] M out) ∧ (∀ (M : Mem) (out : (Int32 × Mem)), f_X9_term d M = some out → CtI l D cA A Pl yX9_term cX9_term 2 (5 + d) .int [.ref (A 100)] M out) ∧ (∀ (M : Mem) (out : (Int32 × Mem)), f_X9_atom d M = some out → CtI l D cA A Pl yX9_atom cX9_atom 2 (5 + d) .int [.ref (A 100)] M out) := by
  intro d
  induction d with
  | zero => exact ⟨(fun M out ho => by have ho : none = some out := ho; cases ho), (fun M out ho => by have ho : none = some out := ho; cases ho), (fun M out ho => by have ho : none = some out := ho; cases ho), (fun M out ho => by have ho : none = some out := ho; cases ho), (fun M out ho => by have ho : none = some out := ho; cases ho), (fun M out ho => by have ho : none = some out := ho; cases ho)⟩
  | succ d ih => exact ⟨(fun M out ho => cb_X9_either hPl (5 + d) (by omega) _ ih.1 _ ih.2.1 _ ih.2.2.1 _ ih.2.2.2.1 _ ih.2.2.2.2.1 _ ih.2.2.2.2.2 M out ho), (fun M out ho => cb_X9_both hPl (5 + d) (by omega) _ ih.1 _ ih.2.1 _ ih.2.2.1 _ ih.2.2.2.1 _ ih.2.2.2.2.1 _ ih.2.2.2.2.2 M out ho), (fun M out ho => cb_X9_not hPl (5 + d) (by omega) _ ih.1 _ ih.2.1 _ ih.2.2.1 _ ih.2.2.2.1 _ ih.2.2.2.2.1 _ ih.2.2.2.2.2 M out ho), (fun M out ho => cb_X9_added hPl (5 + d) (by omega) _ ih.1 _ ih.2.1 _ ih.2.2.1 _ ih.2.2.2.1 _ ih.2.2.2.2.1 _ ih.2.2.2.2.2 M out ho), (fun M out ho => cb_X9_term hPl (5 + d) (by omega) _ ih.1 _ ih.2.1 _ ih.2.2.1 _ ih.2.2.2.1 _ ih.2.2.2.2.1 _ ih.2.2.2.2.2 M out ho), (fun M out ho => cb_X9_atom hPl (5 + d) (by omega) _ ih.1 _ ih.2.1 _ ih.2.2.1 _ ih.2.2.2.1 _ ih.2.2.2.2.1 _ ih.2.2.2.2.2 M out ho)⟩
theorem c_X9_either {l : Launch} {D : va_G} {cA : Nat → ClassId} {A : Nat → Nat} {Pl : List Nat} (hPl : ∀ q, 100 ≤ q → q < 118 → q ∈ Pl) (M : Mem) (out : (Int32 × Mem)) (ho : f_X9_either DP M = some out) : CtI l D cA A Pl yX9_either cX9_either 3 105 .int [.ref (A 100)] M out := (cg_X9_either hPl DP).1 M out ho
theorem c_X9_both {l : Launch} {D : va_G} {cA : Nat → ClassId} {A : Nat → Nat} {Pl : List Nat} (hPl : ∀ q, 100 ≤ q → q < 118 → q ∈ Pl) (M : Mem) (out : (Int32 × Mem)) (ho : f_X9_both DP M = some out) : CtI l D cA A Pl yX9_both cX9_both 3 105 .int [.ref (A 100)] M out := (cg_X9_either hPl DP).2.1 M out ho
theorem c_X9_not {l : Launch} {D : va_G} {cA : Nat → ClassId} {A : Nat → Nat} {Pl : List Nat} (hPl : ∀ q, 100 ≤ q → q < 118 → q ∈ Pl) (M : Mem) (out : (Int32 × Mem)) (ho : f_X9_not DP M = some out) : CtI l D cA A Pl yX9_not cX9_not 4 105 .int [.ref (A 100)] M out := (cg_X9_either hPl DP).2.2.1 M out ho
theorem c_X9_added {l : Launch} {D : va_G} {cA : Nat → ClassId} {A : Nat → Nat} {Pl : List Nat} (hPl : ∀ q, 100 ≤ q → q < 118 → q ∈ Pl) (M : Mem) (out : (Int32 × Mem)) (ho : f_X9_added DP M = some out) : CtI l D cA A Pl yX9_added cX9_added 4 105 .int [.ref (A 100)] M out := (cg_X9_either hPl DP).2.2.2.1 M out ho
theorem c_X9_term {l : Launch} {D : va_G} {cA : Nat → ClassId} {A : Nat → Nat} {Pl : List Nat} (hPl : ∀ q, 100 ≤ q → q < 118 → q ∈ Pl) (M : Mem) (out : (Int32 × Mem)) (ho : f_X9_term DP M = some out) : CtI l D cA A Pl yX9_term cX9_term 2 105 .int [.ref (A 100)] M out := (cg_X9_either hPl DP).2.2.2.2.1 M out ho
theorem c_X9_atom {l : Launch} {D : va_G} {cA : Nat → ClassId} {A : Nat → Nat} {Pl : List Nat} (hPl : ∀ q, 100 ≤ q → q < 118 → q ∈ Pl) (M : Mem) (out : (Int32 × Mem)) (ho : f_X9_atom DP M = some out) : CtI l D cA A Pl yX9_atom cX9_atom 2 105 .int [.ref (A 100)] M out := (cg_X9_either hPl DP).2.2.2.2.2 M out ho
set_option maxHeartbeats 4000000 in
set_option maxRecDepth 100000 in
theorem c_X9_part {l : Launch} {D : va_G} {cA : Nat → ClassId} {A : Nat → Nat} {Pl : List Nat} (hPl : ∀ q, 100 ≤ q → q < 118 → q ∈ Pl) (v1 : Int32) (M : Mem) (out : (Int32 × Mem)) (ho : f_X9_part v1 M = some out) : CtI l D cA A Pl yX9_part cX9_part 3 106 .int [.ref (A 100), .int v1] M out := by
  refine ct_I (by decide) (Nat.le_of_ble_eq_true rfl) (fun p e s m args below meth c C hrt => ?_)
  have hb48 : ∀ (v2 : Int32) (M : Mem), f_X9_part_b48 v2 M = some out → WM p l e (RM 106) s m args below meth c 0 0 (MQ below (QI D cA A Pl out) args s 0 0 (FA A Pl)) D cA A Pl (FA A Pl) 3 M 48 [(0, .ref (A 100)), (2, .int v2)] [] := by
    intro v2 M hf
    unfold f_X9_part_b48 at hf
    refine wm_aload_n 0 C dX9_part_g1.2.2.2.2.2.2.2.2.2.2.2 rfl ?_
    refine wm_get (ci := 8) (k := 26) (v := .int (M 100 26)) C (hPl 100 (by decide) (by decide)) rfl rfl (by decide) wt_X9_174 iwX9 rfl dX9_part_g2.1 ?_
    refine wm_if_ne (tgt := 59) C dX9_part_g2.2.1 (by decide) (fun c7 => ?_) (fun c7 => ?_)
    · have hf := (if_neg c7).symm.trans hf
      refine wm_iload_n 1 C dX9_part_g2.2.2.2.2.1 rfl ?_
      exact wm_iret C hrt hf dX9_part_g2.2.2.2.2.2
    · have hf := (if_pos c7).symm.trans hf
      refine wm_aload_n 0 C dX9_part_g2.2.2.1 rfl ?_
      obtain ⟨o8, ho9, hf⟩ := bnd hf
      refine wm_callVv (As := []) (ci := 8) C (c_X9_next hPl  _ _ ho9) mi_X9_next wt_X9_190 (hPl 100 (by decide) (by decide)) rfl rfl rfl rfl (by decide) (by decide) (Nat.le_of_ble_eq_true rfl) dX9_part_g2.2.2.2.1 ?_
      refine wm_iload_n 1 C dX9_part_g2.2.2.2.2.1 rfl ?_
      exact wm_iret C hrt hf dX9_part_g2.2.2.2.2.2
  have hb34 : ∀ (s0 : Int32) (M : Mem), f_X9_part_b34 s0 M = some out → WM p l e (RM 106) s m args below meth c 0 0 (MQ below (QI D cA A Pl out) args s 0 0 (FA A Pl)) D cA A Pl (FA A Pl) 3 M 34 [(0, .ref (A 100))] [.int s0] := by
    intro s0 M hf
    unfold f_X9_part_b34 at hf
    refine wm_istore_n (lv1 := [(2, .int s0), (0, .ref (A 100))]) C dX9_part_g1.2.2.2.2.1 (by decide) rfl ?_
    refine wm_aload_n 1 C dX9_part_g1.2.2.2.2.2.1 rfl ?_
    refine wm_bipush (v := 59) C dX9_part_g1.2.2.2.2.2.2.1 (by decide) ?_
    obtain ⟨o13, ho14, hf⟩ := bnd hf
    refine wm_callVi (As := [.int 59]) (ci := 8) C (c_X9_isSign hPl _ _ _ ho14) mi_X9_isSign wt_X9_215 (hPl 100 (by decide) (by decide)) rfl rfl rfl rfl (by decide) (by decide) (Nat.le_of_ble_eq_true rfl) dX9_part_g1.2.2.2.2.2.2.2.1 ?_
    refine wm_if_ne (tgt := 48) C dX9_part_g1.2.2.2.2.2.2.2.2.1 (by decide) (fun c15 => ?_) (fun c15 => ?_)
    · have hf := (if_neg c15).symm.trans hf
      refine wm_pick [1, 0] rfl ?_
      exact hb48 _ _ hf
    · have hf := (if_pos c15).symm.trans hf
      refine wm_aload_n 1 C dX9_part_g1.2.2.2.2.2.2.2.2.2.1 rfl ?_
      obtain ⟨o16, ho17, hf⟩ := bnd hf
      refine wm_callVv (As := []) (ci := 8) C (c_X9_fail hPl  _ _ ho17) mi_X9_fail wt_X9_187 (hPl 100 (by decide) (by decide)) rfl rfl rfl rfl (by decide) (by decide) (Nat.le_of_ble_eq_true rfl) dX9_part_g1.2.2.2.2.2.2.2.2.2.2.1 ?_
      refine wm_pick [1, 0] rfl ?_
      exact hb48 _ _ hf
  have hb19 : ∀  (M : Mem), f_X9_part_b19  M = some out → WM p l e (RM 106) s m args below meth c 0 0 (MQ below (QI D cA A Pl out) args s 0 0 (FA A Pl)) D cA A Pl (FA A Pl) 3 M 19 [(0, .ref (A 100))] [] := by
    intro  M hf
    unfold f_X9_part_b19 at hf
    refine wm_aload_n 0 C dX9_part_g0.2.2.2.2.2.2.2.2.2.1 rfl ?_
    refine wm_get (ci := 8) (k := 26) (v := .int (M 100 26)) C (hPl 100 (by decide) (by decide)) rfl rfl (by decide) wt_X9_174 iwX9 rfl dX9_part_g0.2.2.2.2.2.2.2.2.2.2.1 ?_
    refine wm_if_eq (tgt := 30) C dX9_part_g0.2.2.2.2.2.2.2.2.2.2.2 (by decide) (fun c10 => ?_) (fun c10 => ?_)
    · have hf := (if_pos c10).symm.trans hf
      refine wm_aload_n 0 C dX9_part_g1.2.2.1 rfl ?_
      obtain ⟨o11, ho12, hf⟩ := bnd hf
      refine wm_callVi (As := []) (ci := 8) C (c_X9_either hPl  _ _ ho12) mi_X9_either wt_X9_226 (hPl 100 (by decide) (by decide)) rfl rfl rfl rfl (by decide) (by decide) (Nat.le_of_ble_eq_true rfl) dX9_part_g1.2.2.2.1 ?_
      exact hb34 _ _ hf
    · have hf := (if_neg c10).symm.trans hf
      refine wm_iconst (v := 0) C dX9_part_g1.1 (by decide) ?_
      refine wm_goto (tgt := 34) C dX9_part_g1.2.1 (by decide) ?_
      exact hb34 _ _ hf
  have hb8 : ∀  (M : Mem), f_X9_part_b8  M = some out → WM p l e (RM 106) s m args below meth c 0 0 (MQ below (QI D cA A Pl out) args s 0 0 (FA A Pl)) D cA A Pl (FA A Pl) 3 M 8 [(0, .ref (A 100))] [] := by
    intro  M hf
    unfold f_X9_part_b8 at hf
    refine wm_aload_n 0 C dX9_part_g0.2.2.2.2.1 rfl ?_
    refine wm_get (ci := 8) (k := 26) (v := .int (M 100 26)) C (hPl 100 (by decide) (by decide)) rfl rfl (by decide) wt_X9_174 iwX9 rfl dX9_part_g0.2.2.2.2.2.1 ?_
    refine wm_if_ne (tgt := 19) C dX9_part_g0.2.2.2.2.2.2.1 (by decide) (fun c4 => ?_) (fun c4 => ?_)
    · have hf := (if_neg c4).symm.trans hf
      exact hb19 _ hf
    · have hf := (if_pos c4).symm.trans hf
      refine wm_aload_n 0 C dX9_part_g0.2.2.2.2.2.2.2.1 rfl ?_
      obtain ⟨o5, ho6, hf⟩ := bnd hf
      refine wm_callVv (As := []) (ci := 8) C (c_X9_next hPl  _ _ ho6) mi_X9_next wt_X9_190 (hPl 100 (by decide) (by decide)) rfl rfl rfl rfl (by decide) (by decide) (Nat.le_of_ble_eq_true rfl) dX9_part_g0.2.2.2.2.2.2.2.2.1 ?_
      exact hb19 _ hf
  have hf := ho
  unfold f_X9_part at hf
  refine wm_iload_n 1 C dX9_part_g0.1 rfl ?_
  refine wm_if_ne (tgt := 8) C dX9_part_g0.2.1 (by decide) (fun c1 => ?_) (fun c1 => ?_)
  · have hf := (if_neg c1).symm.trans hf
    refine wm_pick [0] rfl ?_
    exact hb8 _ hf
  · have hf := (if_pos c1).symm.trans hf
    refine wm_aload_n 0 C dX9_part_g0.2.2.1 rfl ?_
    obtain ⟨o2, ho3, hf⟩ := bnd hf
    refine wm_callVv (As := []) (ci := 8) C (c_X9_fail hPl  _ _ ho3) mi_X9_fail wt_X9_187 (hPl 100 (by decide) (by decide)) rfl rfl rfl rfl (by decide) (by decide) (Nat.le_of_ble_eq_true rfl) dX9_part_g0.2.2.2.1 ?_
    refine wm_pick [0] rfl ?_
    exact hb8 _ hf
set_option maxHeartbeats 4000000 in
set_option maxRecDepth 100000 in
theorem c_X9_read {l : Launch} {D : va_G} {cA : Nat → ClassId} {A : Nat → Nat} {Pl : List Nat} (hPl : ∀ q, 100 ≤ q → q < 118 → q ∈ Pl) (v1 : Int32) (v2 : Int32) (M : Mem) (out : (Int32 × Mem)) (ho : f_X9_read v1 v2 M = some out) : CtI l D cA A Pl yX9_read cX9_read 6 107 .int [.ref (A 100), .int v1, .int v2] M out := by
  refine ct_I (by decide) (Nat.le_of_ble_eq_true rfl) (fun p e s m args below meth c C hrt => ?_)
  have hb146 : ∀ (v2 : Int32) (v3 : Int32) (v4 : Int32) (v5 : Int32) (M : Mem), f_X9_read_b146 v2 v3 v4 v5 M = some out → WM p l e (RM 107) s m args below meth c 0 0 (MQ below (QI D cA A Pl out) args s 0 0 (FA A Pl)) D cA A Pl (FA A Pl) 6 M 146 [(2, .int v2), (3, .int v3), (4, .int v4), (5, .int v5)] [] := by
    intro v2 v3 v4 v5 M hf
    unfold f_X9_read_b146 at hf
    refine wm_iload_n 0 C dX9_read_g6.2.2.2.2.2.2.2.1 rfl ?_
    refine wm_if_ne (tgt := 154) C dX9_read_g6.2.2.2.2.2.2.2.2.1 (by decide) (fun c13 => ?_) (fun c13 => ?_)
    · have hf := (if_neg c13).symm.trans hf
      refine wm_iload_n 0 C dX9_read_g6.2.2.2.2.2.2.2.2.2.2.2 rfl ?_
      refine wm_iconst (v := 1) C dX9_read_g7.1 (by decide) ?_
      refine wm_icmp_ne (tgt := 164) C dX9_read_g7.2.1 (by decide) (fun c14 => ?_) (fun c14 => ?_)
      · have hf := (if_neg c14).symm.trans hf
        refine wm_iload 3 C dX9_read_g7.2.2.2.2.1 rfl ?_
        exact wm_iret C hrt hf dX9_read_g7.2.2.2.2.2
      · have hf := (if_pos c14).symm.trans hf
        refine wm_iload 2 C dX9_read_g7.2.2.1 rfl ?_
        refine wm_goto (tgt := 166) C dX9_read_g7.2.2.2.1 (by decide) ?_
        exact wm_iret C hrt hf dX9_read_g7.2.2.2.2.2
    · have hf := (if_pos c13).symm.trans hf
      refine wm_iload_n 1 C dX9_read_g6.2.2.2.2.2.2.2.2.2.1 rfl ?_
      refine wm_goto (tgt := 166) C dX9_read_g6.2.2.2.2.2.2.2.2.2.2.1 (by decide) ?_
      exact wm_iret C hrt hf dX9_read_g7.2.2.2.2.2
  have hb126 : ∀ (v2 : Int32) (v3 : Int32) (v4 : Int32) (s0 : Int32) (M : Mem), f_X9_read_b126 v2 v3 v4 s0 M = some out → WM p l e (RM 107) s m args below meth c 0 0 (MQ below (QI D cA A Pl out) args s 0 0 (FA A Pl)) D cA A Pl (FA A Pl) 6 M 126 [(0, .ref (A 100)), (2, .int v2), (3, .int v3), (4, .int v4)] [.int s0] := by
    intro v2 v3 v4 s0 M hf
    unfold f_X9_read_b126 at hf
    refine wm_istore (lv1 := [(5, .int s0), (0, .ref (A 100)), (2, .int v2), (3, .int v3), (4, .int v4)]) C dX9_read_g5.2.2.2.2.2.2.2.2.2.2.1 (by decide) rfl ?_
    refine wm_aload_n 1 C dX9_read_g5.2.2.2.2.2.2.2.2.2.2.2 rfl ?_
    refine wm_get (ci := 8) (k := 26) (v := .int (M 100 26)) C (hPl 100 (by decide) (by decide)) rfl rfl (by decide) wt_X9_174 iwX9 rfl dX9_read_g6.1 ?_
    refine wm_if_ne (tgt := 146) C dX9_read_g6.2.1 (by decide) (fun c20 => ?_) (fun c20 => ?_)
    · have hf := (if_neg c20).symm.trans hf
      refine wm_pick [2, 3, 4, 0] rfl ?_
      exact hb146 _ _ _ _ _ hf
    · have hf := (if_pos c20).symm.trans hf
      refine wm_aload_n 1 C dX9_read_g6.2.2.1 rfl ?_
      refine wm_get (ci := 8) (k := 22) (v := .int (M 100 22)) C (hPl 100 (by decide) (by decide)) rfl rfl (by decide) wt_X9_157 iwX9 rfl dX9_read_g6.2.2.2.1 ?_
      refine wm_if_eq (tgt := 146) C dX9_read_g6.2.2.2.2.1 (by decide) (fun c21 => ?_) (fun c21 => ?_)
      · have hf := (if_pos c21).symm.trans hf
        refine wm_pick [2, 3, 4, 0] rfl ?_
        exact hb146 _ _ _ _ _ hf
      · have hf := (if_neg c21).symm.trans hf
        refine wm_aload_n 1 C dX9_read_g6.2.2.2.2.2.1 rfl ?_
        obtain ⟨o22, ho23, hf⟩ := bnd hf
        refine wm_callVv (As := []) (ci := 8) C (c_X9_fail hPl  _ _ ho23) mi_X9_fail wt_X9_187 (hPl 100 (by decide) (by decide)) rfl rfl rfl rfl (by decide) (by decide) (Nat.le_of_ble_eq_true rfl) dX9_read_g6.2.2.2.2.2.2.1 ?_
        refine wm_pick [2, 3, 4, 0] rfl ?_
        exact hb146 _ _ _ _ _ hf
  have hb92 : ∀ (v2 : Int32) (v3 : Int32) (s0 : Int32) (M : Mem), f_X9_read_b92 v2 v3 s0 M = some out → WM p l e (RM 107) s m args below meth c 0 0 (MQ below (QI D cA A Pl out) args s 0 0 (FA A Pl)) D cA A Pl (FA A Pl) 6 M 92 [(0, .ref (A 100)), (2, .int v2), (3, .int v3)] [.int s0] := by
    intro v2 v3 s0 M hf
    unfold f_X9_read_b92 at hf
    refine wm_istore (lv1 := [(4, .int s0), (0, .ref (A 100)), (2, .int v2), (3, .int v3)]) C dX9_read_g4.2.2.2.2.1 (by decide) rfl ?_
    refine wm_aload_n 1 C dX9_read_g4.2.2.2.2.2.1 rfl ?_
    refine wm_get (ci := 8) (k := 26) (v := .int (M 100 26)) C (hPl 100 (by decide) (by decide)) rfl rfl (by decide) wt_X9_174 iwX9 rfl dX9_read_g4.2.2.2.2.2.2.1 ?_
    refine wm_if_eq (tgt := 105) C dX9_read_g4.2.2.2.2.2.2.2.1 (by decide) (fun c15 => ?_) (fun c15 => ?_)
    · have hf := (if_pos c15).symm.trans hf
      refine wm_aload_n 1 C dX9_read_g4.2.2.2.2.2.2.2.2.2.2.1 rfl ?_
      refine wm_aload_n 1 C dX9_read_g4.2.2.2.2.2.2.2.2.2.2.2 rfl ?_
      refine wm_bipush (v := 115) C dX9_read_g5.1 (by decide) ?_
      refine wm_bipush (v := 105) C dX9_read_g5.2.1 (by decide) ?_
      refine wm_bipush (v := 103) C dX9_read_g5.2.2.1 (by decide) ?_
      refine wm_bipush (v := 110) C dX9_read_g5.2.2.2.1 (by decide) ?_
      refine wm_bipush (v := 115) C dX9_read_g5.2.2.2.2.1 (by decide) ?_
      refine wm_iconst (v := 0) C dX9_read_g5.2.2.2.2.2.1 (by decide) ?_
      refine wm_iconst (v := 0) C dX9_read_g5.2.2.2.2.2.2.1 (by decide) ?_
      refine wm_iconst (v := 0) C dX9_read_g5.2.2.2.2.2.2.2.1 (by decide) ?_
      obtain ⟨o16, ho17, hf⟩ := bnd hf
      refine wm_callVi (As := [.int 115, .int 105, .int 103, .int 110, .int 115, .int 0, .int 0, .int 0]) (ci := 8) C (c_X9_isWord hPl _ _ _ _ _ _ _ _ _ _ ho17) mi_X9_isWord wt_X9_193 (hPl 100 (by decide) (by decide)) rfl rfl rfl rfl (by decide) (by decide) (Nat.le_of_ble_eq_true rfl) dX9_read_g5.2.2.2.2.2.2.2.2.1 ?_
      obtain ⟨o18, ho19, hf⟩ := bnd hf
      refine wm_callVi (As := [.int o16.1]) (ci := 8) C (c_X9_part hPl _ _ _ ho19) mi_X9_part wt_X9_248 (hPl 100 (by decide) (by decide)) rfl rfl rfl rfl (by decide) (by decide) (Nat.le_of_ble_eq_true rfl) dX9_read_g5.2.2.2.2.2.2.2.2.2.1 ?_
      refine wm_pick [1, 2, 3, 0] rfl ?_
      exact hb126 _ _ _ _ _ hf
    · have hf := (if_neg c15).symm.trans hf
      refine wm_iconst (v := 0) C dX9_read_g4.2.2.2.2.2.2.2.2.1 (by decide) ?_
      refine wm_goto (tgt := 126) C dX9_read_g4.2.2.2.2.2.2.2.2.2.1 (by decide) ?_
      refine wm_pick [1, 2, 3, 0] rfl ?_
      exact hb126 _ _ _ _ _ hf
  have hf := ho
  unfold f_X9_read at hf
  refine wm_aload_n 0 C dX9_read_g0.1 rfl ?_
  refine wm_sipush (v := 160) C dX9_read_g0.2.1 (by decide) ?_
  refine wm_iload_n 1 C dX9_read_g0.2.2.1 rfl ?_
  refine wm_imul C dX9_read_g0.2.2.2.1 ?_
  refine wm_put (ci := 8) (k := 19) (x := (160 * v1)) C (hPl 100 (by decide) (by decide)) rfl rfl (by decide) wt_X9_145 iwX9 tyX9_ok nmX9 rfl rfl rfl rfl (fun _ => rfl) (Nat.le_of_ble_eq_true rfl) dX9_read_g0.2.2.2.2.1 ?_
  refine wm_aload_n 0 C dX9_read_g0.2.2.2.2.2.1 rfl ?_
  refine wm_aload_n 0 C dX9_read_g0.2.2.2.2.2.2.1 rfl ?_
  refine wm_get (ci := 8) (k := 2) (v := .ref (A 102)) C (hPl 100 (by decide) (by decide)) rfl rfl (by decide) wt_X9_17 iwX9 (by first | rfl | simp [fld, mu, upd, mcp]) dX9_read_g0.2.2.2.2.2.2.2.1 ?_
  refine wm_iload_n 1 C dX9_read_g0.2.2.2.2.2.2.2.2.1 rfl ?_
  obtain ⟨h1, hf⟩ := ckd hf
  refine wm_iald (n := 6) (j := (v1).toNatClampNeg) (v := (M 102 (v1).toNatClampNeg)) C (hPl 102 (by decide) (by decide)) rfl rfl rfl h1 rfl (by first | rfl | simp [mu, upd, mcp]) dX9_read_g0.2.2.2.2.2.2.2.2.2.1 ?_
  refine wm_put (ci := 8) (k := 20) (x := (M 102 (v1).toNatClampNeg)) C (hPl 100 (by decide) (by decide)) rfl rfl (by decide) wt_X9_142 iwX9 tyX9_ok nmX9 rfl rfl rfl rfl (fun _ => rfl) (Nat.le_of_ble_eq_true rfl) dX9_read_g0.2.2.2.2.2.2.2.2.2.2.1 ?_
  refine wm_aload_n 0 C dX9_read_g0.2.2.2.2.2.2.2.2.2.2.2 rfl ?_
  refine wm_iconst (v := 0) C dX9_read_g1.1 (by decide) ?_
  refine wm_put (ci := 8) (k := 21) (x := 0) C (hPl 100 (by decide) (by decide)) rfl rfl (by decide) wt_X9_148 iwX9 tyX9_ok nmX9 rfl rfl rfl rfl (fun _ => rfl) (Nat.le_of_ble_eq_true rfl) dX9_read_g1.2.1 ?_
  refine wm_aload_n 0 C dX9_read_g1.2.2.1 rfl ?_
  refine wm_iconst (v := 0) C dX9_read_g1.2.2.2.1 (by decide) ?_
  refine wm_put (ci := 8) (k := 25) (x := 0) C (hPl 100 (by decide) (by decide)) rfl rfl (by decide) wt_X9_184 iwX9 tyX9_ok nmX9 rfl rfl rfl rfl (fun _ => rfl) (Nat.le_of_ble_eq_true rfl) dX9_read_g1.2.2.2.2.1 ?_
  refine wm_aload_n 0 C dX9_read_g1.2.2.2.2.2.1 rfl ?_
  refine wm_iconst (v := 0) C dX9_read_g1.2.2.2.2.2.2.1 (by decide) ?_
  refine wm_put (ci := 8) (k := 26) (x := 0) C (hPl 100 (by decide) (by decide)) rfl rfl (by decide) wt_X9_174 iwX9 tyX9_ok nmX9 rfl rfl rfl rfl (fun _ => rfl) (Nat.le_of_ble_eq_true rfl) dX9_read_g1.2.2.2.2.2.2.2.1 ?_
  refine wm_aload_n 0 C dX9_read_g1.2.2.2.2.2.2.2.2.1 rfl ?_
  obtain ⟨o2, ho3, hf⟩ := bnd hf
  refine wm_callVv (As := []) (ci := 8) C (c_X9_next hPl  _ _ ho3) mi_X9_next wt_X9_190 (hPl 100 (by decide) (by decide)) rfl rfl rfl rfl (by decide) (by decide) (Nat.le_of_ble_eq_true rfl) dX9_read_g1.2.2.2.2.2.2.2.2.2.1 ?_
  refine wm_aload_n 0 C dX9_read_g1.2.2.2.2.2.2.2.2.2.2.1 rfl ?_
  refine wm_aload_n 0 C dX9_read_g1.2.2.2.2.2.2.2.2.2.2.2 rfl ?_
  refine wm_bipush (v := 102) C dX9_read_g2.1 (by decide) ?_
  refine wm_bipush (v := 101) C dX9_read_g2.2.1 (by decide) ?_
  refine wm_bipush (v := 101) C dX9_read_g2.2.2.1 (by decide) ?_
  refine wm_bipush (v := 100) C dX9_read_g2.2.2.2.1 (by decide) ?_
  refine wm_bipush (v := 115) C dX9_read_g2.2.2.2.2.1 (by decide) ?_
  refine wm_iconst (v := 0) C dX9_read_g2.2.2.2.2.2.1 (by decide) ?_
  refine wm_iconst (v := 0) C dX9_read_g2.2.2.2.2.2.2.1 (by decide) ?_
  refine wm_iconst (v := 0) C dX9_read_g2.2.2.2.2.2.2.2.1 (by decide) ?_
  obtain ⟨o4, ho5, hf⟩ := bnd hf
  refine wm_callVi (As := [.int 102, .int 101, .int 101, .int 100, .int 115, .int 0, .int 0, .int 0]) (ci := 8) C (c_X9_isWord hPl _ _ _ _ _ _ _ _ _ _ ho5) mi_X9_isWord wt_X9_193 (hPl 100 (by decide) (by decide)) rfl rfl rfl rfl (by decide) (by decide) (Nat.le_of_ble_eq_true rfl) dX9_read_g2.2.2.2.2.2.2.2.2.1 ?_
  obtain ⟨o6, ho7, hf⟩ := bnd hf
  refine wm_callVi (As := [.int o4.1]) (ci := 8) C (c_X9_part hPl _ _ _ ho7) mi_X9_part wt_X9_248 (hPl 100 (by decide) (by decide)) rfl rfl rfl rfl (by decide) (by decide) (Nat.le_of_ble_eq_true rfl) dX9_read_g2.2.2.2.2.2.2.2.2.2.1 ?_
  refine wm_istore_n (lv1 := [(3, .int o6.1), (0, .ref (A 100)), (1, .int v1), (2, .int v2)]) C dX9_read_g2.2.2.2.2.2.2.2.2.2.2.1 (by decide) rfl ?_
  refine wm_aload_n 1 C dX9_read_g2.2.2.2.2.2.2.2.2.2.2.2 rfl ?_
  refine wm_get (ci := 8) (k := 26) (v := .int (o6.2 100 26)) C (hPl 100 (by decide) (by decide)) rfl rfl (by decide) wt_X9_174 iwX9 rfl dX9_read_g3.1 ?_
  refine wm_if_eq (tgt := 71) C dX9_read_g3.2.1 (by decide) (fun c8 => ?_) (fun c8 => ?_)
  · have hf := (if_pos c8).symm.trans hf
    refine wm_aload_n 1 C dX9_read_g3.2.2.2.2.1 rfl ?_
    refine wm_aload_n 1 C dX9_read_g3.2.2.2.2.2.1 rfl ?_
    refine wm_bipush (v := 116) C dX9_read_g3.2.2.2.2.2.2.1 (by decide) ?_
    refine wm_bipush (v := 111) C dX9_read_g3.2.2.2.2.2.2.2.1 (by decide) ?_
    refine wm_bipush (v := 108) C dX9_read_g3.2.2.2.2.2.2.2.2.1 (by decide) ?_
    refine wm_bipush (v := 108) C dX9_read_g3.2.2.2.2.2.2.2.2.2.1 (by decide) ?_
    refine wm_bipush (v := 115) C dX9_read_g3.2.2.2.2.2.2.2.2.2.2.1 (by decide) ?_
    refine wm_iconst (v := 0) C dX9_read_g3.2.2.2.2.2.2.2.2.2.2.2 (by decide) ?_
    refine wm_iconst (v := 0) C dX9_read_g4.1 (by decide) ?_
    refine wm_iconst (v := 0) C dX9_read_g4.2.1 (by decide) ?_
    obtain ⟨o9, ho10, hf⟩ := bnd hf
    refine wm_callVi (As := [.int 116, .int 111, .int 108, .int 108, .int 115, .int 0, .int 0, .int 0]) (ci := 8) C (c_X9_isWord hPl _ _ _ _ _ _ _ _ _ _ ho10) mi_X9_isWord wt_X9_193 (hPl 100 (by decide) (by decide)) rfl rfl rfl rfl (by decide) (by decide) (Nat.le_of_ble_eq_true rfl) dX9_read_g4.2.2.1 ?_
    obtain ⟨o11, ho12, hf⟩ := bnd hf
    refine wm_callVi (As := [.int o9.1]) (ci := 8) C (c_X9_part hPl _ _ _ ho12) mi_X9_part wt_X9_248 (hPl 100 (by decide) (by decide)) rfl rfl rfl rfl (by decide) (by decide) (Nat.le_of_ble_eq_true rfl) dX9_read_g4.2.2.2.1 ?_
    refine wm_pick [1, 3, 0] rfl ?_
    exact hb92 _ _ _ _ hf
  · have hf := (if_neg c8).symm.trans hf
    refine wm_iconst (v := 0) C dX9_read_g3.2.2.1 (by decide) ?_
    refine wm_goto (tgt := 92) C dX9_read_g3.2.2.2.1 (by decide) ?_
    refine wm_pick [1, 3, 0] rfl ?_
    exact hb92 _ _ _ _ hf
set_option maxHeartbeats 4000000 in
set_option maxRecDepth 100000 in
theorem c_X9_text {l : Launch} {D : va_G} {cA : Nat → ClassId} {A : Nat → Nat} {Pl : List Nat} (hPl : ∀ q, 100 ≤ q → q < 118 → q ∈ Pl) (M : Mem) (out : (Int32 × Mem)) (ho : f_X9_text M = some out) : CtI l D cA A Pl yX9_text cX9_text 2 108 .int [.ref (A 100)] M out := by
  refine ct_I (by decide) (Nat.le_of_ble_eq_true rfl) (fun p e s m args below meth c C hrt => ?_)
  have hl14 : ∀ (k49 : Mem → Option (Int32 × Mem)) (hk49 : ∀  (M : Mem), k49  M = some out → WM p l e (RM 108) s m args below meth c 0 0 (MQ below (QI D cA A Pl out) args s 0 0 (FA A Pl)) D cA A Pl (FA A Pl) 2 M 49 [(0, .ref (A 100))] []) (n : Nat), ∀ (v1 : Int32) (M : Mem), f_X9_text_l14 k49 n v1 M = some out → WM p l e (RM 108) s m args below meth c 0 0 (MQ below (QI D cA A Pl out) args s 0 0 (FA A Pl)) D cA A Pl (FA A Pl) 2 M 14 [(0, .ref (A 100)), (1, .int v1)] [] := by
    intro k49 hk49 n
    induction n with
    | zero => intro v1 M hf; rw [f_X9_text_l14] at hf; cases hf
    | succ n hr =>
      intro v1 M hf
      rw [f_X9_text_l14] at hf
      refine wm_iload_n 1 C dX9_text_g0.2.2.2.2.2.2.2.2.1 rfl ?_
      refine wm_aload_n 0 C dX9_text_g0.2.2.2.2.2.2.2.2.2.1 rfl ?_
      refine wm_get (ci := 8) (k := 6) (v := .int (M 100 6)) C (hPl 100 (by decide) (by decide)) rfl rfl (by decide) wt_X9_139 iwX9 rfl dX9_text_g0.2.2.2.2.2.2.2.2.2.2.1 ?_
      refine wm_icmp_ge (tgt := 49) C dX9_text_g0.2.2.2.2.2.2.2.2.2.2.2 (by decide) (fun c6 => ?_) (fun c6 => ?_)
      · have hf := (if_pos c6).symm.trans hf
        refine wm_pick [0] rfl ?_
        exact hk49 _ hf
      · have hf := (if_neg c6).symm.trans hf
        refine wm_aload_n 0 C dX9_text_g1.1 rfl ?_
        refine wm_get (ci := 8) (k := 1) (v := .ref (A 101)) C (hPl 100 (by decide) (by decide)) rfl rfl (by decide) wt_X9_13 iwX9 rfl dX9_text_g1.2.1 ?_
        refine wm_sipush (v := 160) C dX9_text_g1.2.2.1 (by decide) ?_
        refine wm_aload_n 0 C dX9_text_g1.2.2.2.1 rfl ?_
        refine wm_get (ci := 8) (k := 3) (v := .int (M 100 3)) C (hPl 100 (by decide) (by decide)) rfl rfl (by decide) wt_X9_73 iwX9 rfl dX9_text_g1.2.2.2.2.1 ?_
        refine wm_imul C dX9_text_g1.2.2.2.2.2.1 ?_
        refine wm_iload_n 1 C dX9_text_g1.2.2.2.2.2.2.1 rfl ?_
        refine wm_iadd C dX9_text_g1.2.2.2.2.2.2.2.1 ?_
        refine wm_aload_n 0 C dX9_text_g1.2.2.2.2.2.2.2.2.1 rfl ?_
        refine wm_get (ci := 8) (k := 5) (v := .ref (A 103)) C (hPl 100 (by decide) (by decide)) rfl rfl (by decide) wt_X9_20 iwX9 rfl dX9_text_g1.2.2.2.2.2.2.2.2.2.1 ?_
        refine wm_iload_n 1 C dX9_text_g1.2.2.2.2.2.2.2.2.2.2.1 rfl ?_
        obtain ⟨h7, hf⟩ := ckd hf
        refine wm_iald (n := 160) (j := (v1).toNatClampNeg) (v := (M 103 (v1).toNatClampNeg)) C (hPl 103 (by decide) (by decide)) rfl rfl rfl h7 rfl rfl dX9_text_g1.2.2.2.2.2.2.2.2.2.2.2 ?_
        obtain ⟨h8, hf⟩ := ckd hf
        refine wm_iast (n := 960) (j := (((160 * (M 100 3)) + v1)).toNatClampNeg) (x := (M 103 (v1).toNatClampNeg)) C (hPl 101 (by decide) (by decide)) rfl rfl rfl h8 rfl dX9_text_g2.1 ?_
        refine wm_iinc (lv1 := [(1, .int (v1 + 1)), (0, .ref (A 100))]) (v := (v1 + 1)) 1 C dX9_text_g2.2.1 rfl (by first | rfl | decide) (by decide) rfl ?_
        refine wm_goto (tgt := 14) C dX9_text_g2.2.2.1 (by decide) ?_
        refine wm_pick [1, 0] rfl ?_
        exact hr _ _ hf
  have hb49 : ∀  (M : Mem), f_X9_text_b49  M = some out → WM p l e (RM 108) s m args below meth c 0 0 (MQ below (QI D cA A Pl out) args s 0 0 (FA A Pl)) D cA A Pl (FA A Pl) 2 M 49 [(0, .ref (A 100))] [] := by
    intro  M hf
    unfold f_X9_text_b49 at hf
    refine wm_aload_n 0 C dX9_text_g2.2.2.2.1 rfl ?_
    refine wm_get (ci := 8) (k := 2) (v := .ref (A 102)) C (hPl 100 (by decide) (by decide)) rfl rfl (by decide) wt_X9_17 iwX9 rfl dX9_text_g2.2.2.2.2.1 ?_
    refine wm_aload_n 0 C dX9_text_g2.2.2.2.2.2.1 rfl ?_
    refine wm_get (ci := 8) (k := 3) (v := .int (M 100 3)) C (hPl 100 (by decide) (by decide)) rfl rfl (by decide) wt_X9_73 iwX9 rfl dX9_text_g2.2.2.2.2.2.2.1 ?_
    refine wm_aload_n 0 C dX9_text_g2.2.2.2.2.2.2.2.1 rfl ?_
    refine wm_get (ci := 8) (k := 6) (v := .int (M 100 6)) C (hPl 100 (by decide) (by decide)) rfl rfl (by decide) wt_X9_139 iwX9 rfl dX9_text_g2.2.2.2.2.2.2.2.2.1 ?_
    obtain ⟨h2, hf⟩ := ckd hf
    refine wm_iast (n := 6) (j := ((M 100 3)).toNatClampNeg) (x := (M 100 6)) C (hPl 102 (by decide) (by decide)) rfl rfl rfl h2 rfl dX9_text_g2.2.2.2.2.2.2.2.2.2.1 ?_
    refine wm_aload_n 0 C dX9_text_g2.2.2.2.2.2.2.2.2.2.2.1 rfl ?_
    refine wm_iconst (v := 0) C dX9_text_g2.2.2.2.2.2.2.2.2.2.2.2 (by decide) ?_
    refine wm_put (ci := 8) (k := 6) (x := 0) C (hPl 100 (by decide) (by decide)) rfl rfl (by decide) wt_X9_139 iwX9 tyX9_ok nmX9 rfl rfl rfl rfl (fun _ => rfl) (Nat.le_of_ble_eq_true rfl) dX9_text_g3.1 ?_
    refine wm_aload_n 0 C dX9_text_g3.2.1 rfl ?_
    refine wm_aload_n 0 C dX9_text_g3.2.2.1 rfl ?_
    refine wm_get (ci := 8) (k := 3) (v := .int (M 100 3)) C (hPl 100 (by decide) (by decide)) rfl rfl (by decide) wt_X9_73 iwX9 (by first | rfl | simp [fld, mu, upd, mcp]) dX9_text_g3.2.2.2.1 ?_
    refine wm_iconst (v := 0) C dX9_text_g3.2.2.2.2.1 (by decide) ?_
    obtain ⟨o3, ho4, hf⟩ := bnd hf
    refine wm_callVi (As := [.int (M 100 3), .int 0]) (ci := 8) C (c_X9_read hPl _ _ _ _ ho4) mi_X9_read wt_X9_252 (hPl 100 (by decide) (by decide)) rfl rfl rfl rfl (by decide) (by decide) (Nat.le_of_ble_eq_true rfl) dX9_text_g3.2.2.2.2.2.1 ?_
    refine wm_istore_n (lv1 := [(1, .int o3.1), (0, .ref (A 100))]) C dX9_text_g3.2.2.2.2.2.2.1 (by decide) rfl ?_
    refine wm_aload_n 1 C dX9_text_g3.2.2.2.2.2.2.2.1 rfl ?_
    refine wm_get (ci := 8) (k := 26) (v := .int (o3.2 100 26)) C (hPl 100 (by decide) (by decide)) rfl rfl (by decide) wt_X9_174 iwX9 rfl dX9_text_g3.2.2.2.2.2.2.2.2.1 ?_
    refine wm_if_eq (tgt := 92) C dX9_text_g3.2.2.2.2.2.2.2.2.2.1 (by decide) (fun c5 => ?_) (fun c5 => ?_)
    · have hf := (if_pos c5).symm.trans hf
      refine wm_aload_n 1 C dX9_text_g4.2.2.2.1 rfl ?_
      refine wm_dup C dX9_text_g4.2.2.2.2.1 rfl ?_
      refine wm_get (ci := 8) (k := 3) (v := .int (o3.2 100 3)) C (hPl 100 (by decide) (by decide)) rfl rfl (by decide) wt_X9_73 iwX9 rfl dX9_text_g4.2.2.2.2.2.1 ?_
      refine wm_iconst (v := 1) C dX9_text_g4.2.2.2.2.2.2.1 (by decide) ?_
      refine wm_iadd C dX9_text_g4.2.2.2.2.2.2.2.1 ?_
      refine wm_put (ci := 8) (k := 3) (x := ((o3.2 100 3) + 1)) C (hPl 100 (by decide) (by decide)) rfl rfl (by decide) wt_X9_73 iwX9 tyX9_ok nmX9 rfl rfl rfl rfl (fun _ => rfl) (Nat.le_of_ble_eq_true rfl) dX9_text_g4.2.2.2.2.2.2.2.2.1 ?_
      refine wm_aload_n 1 C dX9_text_g4.2.2.2.2.2.2.2.2.2.1 rfl ?_
      refine wm_get (ci := 8) (k := 3) (v := .int ((o3.2 100 3) + 1)) C (hPl 100 (by decide) (by decide)) rfl rfl (by decide) wt_X9_73 iwX9 (by first | rfl | simp [fld, mu, upd, mcp]) dX9_text_g4.2.2.2.2.2.2.2.2.2.2.1 ?_
      refine wm_iconst (v := 1) C dX9_text_g4.2.2.2.2.2.2.2.2.2.2.2 (by decide) ?_
      refine wm_isub C dX9_text_g5.1 ?_
      exact wm_iret C hrt hf dX9_text_g5.2
    · have hf := (if_neg c5).symm.trans hf
      refine wm_bipush (v := (-100)) C dX9_text_g3.2.2.2.2.2.2.2.2.2.2.1 (by decide) ?_
      refine wm_aload_n 1 C dX9_text_g3.2.2.2.2.2.2.2.2.2.2.2 rfl ?_
      refine wm_get (ci := 8) (k := 27) (v := .int (o3.2 100 27)) C (hPl 100 (by decide) (by decide)) rfl rfl (by decide) wt_X9_178 iwX9 rfl dX9_text_g4.1 ?_
      refine wm_isub C dX9_text_g4.2.1 ?_
      exact wm_iret C hrt hf dX9_text_g4.2.2.1
  have hf := ho
  unfold f_X9_text at hf
  refine wm_aload_n 0 C dX9_text_g0.1 rfl ?_
  refine wm_get (ci := 8) (k := 3) (v := .int (M 100 3)) C (hPl 100 (by decide) (by decide)) rfl rfl (by decide) wt_X9_73 iwX9 rfl dX9_text_g0.2.1 ?_
  refine wm_bipush (v := 6) C dX9_text_g0.2.2.1 (by decide) ?_
  refine wm_icmp_ne (tgt := 12) C dX9_text_g0.2.2.2.1 (by decide) (fun c1 => ?_) (fun c1 => ?_)
  · have hf := (if_neg c1).symm.trans hf
    refine wm_iconst (v := 0) C dX9_text_g0.2.2.2.2.2.2.1 (by decide) ?_
    refine wm_istore_n (lv1 := [(1, .int 0), (0, .ref (A 100))]) C dX9_text_g0.2.2.2.2.2.2.2.1 (by decide) rfl ?_
    refine wm_pick [1, 0] rfl ?_
    exact (hl14 _ hb49 FU) _ _ hf
  · have hf := (if_pos c1).symm.trans hf
    refine wm_bipush (v := (-4)) C dX9_text_g0.2.2.2.2.1 (by decide) ?_
    exact wm_iret C hrt hf dX9_text_g0.2.2.2.2.2.1
set_option maxHeartbeats 4000000 in
set_option maxRecDepth 100000 in
theorem c_X9_force {l : Launch} {D : va_G} {cA : Nat → ClassId} {A : Nat → Nat} {Pl : List Nat} (hPl : ∀ q, 100 ≤ q → q < 118 → q ∈ Pl) (v1 : Int32) (M : Mem) (out : (Int32 × Mem)) (ho : f_X9_force v1 M = some out) : CtI l D cA A Pl yX9_force cX9_force 3 2 .int [.ref (A 100), .int v1] M out := by
  refine ct_I (by decide) (Nat.le_of_ble_eq_true rfl) (fun p e s m args below meth c C hrt => ?_)
  have hf := ho
  unfold f_X9_force at hf
  refine wm_iload_n 1 C dX9_force_g0.1 rfl ?_
  refine wm_i2l C dX9_force_g0.2.1 ?_
  refine wm_lconst (v := 0) C dX9_force_g0.2.2.1 (by decide) ?_
  refine wm_aload_n 0 C dX9_force_g0.2.2.2.1 rfl ?_
  refine wm_get (ci := 8) (k := 3) (v := .int (M 100 3)) C (hPl 100 (by decide) (by decide)) rfl rfl (by decide) wt_X9_73 iwX9 rfl dX9_force_g0.2.2.2.2.1 ?_
  refine wm_iconst (v := 1) C dX9_force_g0.2.2.2.2.2.1 (by decide) ?_
  refine wm_isub C dX9_force_g0.2.2.2.2.2.2.1 ?_
  refine wm_i2l C dX9_force_g0.2.2.2.2.2.2.2.1 ?_
  obtain ⟨o1, ho2, hf⟩ := bnd hf
  refine wm_callSi (As := [.long ((v1 : Int32).toInt64), .long 0, .long ((((M 100 3) - 1) : Int32).toInt64)]) C (c_X9_in hPl _ _ _ _ _ ho2) mi_X9_in wt_X9_79 rfl rfl (by decide) (by decide) (Nat.le_of_ble_eq_true rfl) dX9_force_g0.2.2.2.2.2.2.2.2.1 ?_
  refine wm_if_ne (tgt := 19) C dX9_force_g0.2.2.2.2.2.2.2.2.2.1 (by decide) (fun c3 => ?_) (fun c3 => ?_)
  · have hf := (if_neg c3).symm.trans hf
    refine wm_aload_n 0 C dX9_force_g1.1 rfl ?_
    refine wm_get (ci := 8) (k := 4) (v := .int (o1.2 100 4)) C (hPl 100 (by decide) (by decide)) rfl rfl (by decide) wt_X9_119 iwX9 rfl dX9_force_g1.2.1 ?_
    refine wm_istore_n (lv1 := [(2, .int (o1.2 100 4)), (0, .ref (A 100)), (1, .int v1)]) C dX9_force_g1.2.2.1 (by decide) rfl ?_
    refine wm_aload_n 1 C dX9_force_g1.2.2.2.1 rfl ?_
    refine wm_iload_n 2 C dX9_force_g1.2.2.2.2.1 rfl ?_
    refine wm_put (ci := 8) (k := 4) (x := v1) C (hPl 100 (by decide) (by decide)) rfl rfl (by decide) wt_X9_119 iwX9 tyX9_ok nmX9 rfl rfl rfl rfl (fun _ => rfl) (Nat.le_of_ble_eq_true rfl) dX9_force_g1.2.2.2.2.2.1 ?_
    refine wm_iload_n 0 C dX9_force_g1.2.2.2.2.2.2.1 rfl ?_
    exact wm_iret C hrt hf dX9_force_g1.2.2.2.2.2.2.2
  · have hf := (if_pos c3).symm.trans hf
    refine wm_bipush (v := (-2)) C dX9_force_g0.2.2.2.2.2.2.2.2.2.2.1 (by decide) ?_
    exact wm_iret C hrt hf dX9_force_g0.2.2.2.2.2.2.2.2.2.2.2
set_option maxHeartbeats 4000000 in
set_option maxRecDepth 100000 in
theorem c_X9_says {l : Launch} {D : va_G} {cA : Nat → ClassId} {A : Nat → Nat} {Pl : List Nat} (hPl : ∀ q, 100 ≤ q → q < 118 → q ∈ Pl) (v1 : Int32) (v2 : Int32) (v3 : Int32) (v4 : Int32) (v5 : Int32) (M : Mem) (out : (Int32 × Mem)) (ho : f_X9_says v1 v2 v3 v4 v5 M = some out) : CtI l D cA A Pl yX9_says cX9_says 7 108 .int [.ref (A 100), .int v1, .int v2, .int v3, .int v4, .int v5] M out := by
  refine ct_I (by decide) (Nat.le_of_ble_eq_true rfl) (fun p e s m args below meth c C hrt => ?_)
  have hf := ho
  unfold f_X9_says at hf
  refine wm_aload_n 0 C dX9_says_g0.1 rfl ?_
  refine wm_iload 4 C dX9_says_g0.2.1 rfl ?_
  refine wm_put (ci := 8) (k := 13) (x := v4) C (hPl 100 (by decide) (by decide)) rfl rfl (by decide) wt_X9_197 iwX9 tyX9_ok nmX9 rfl rfl rfl rfl (fun _ => rfl) (Nat.le_of_ble_eq_true rfl) dX9_says_g0.2.2.1 ?_
  refine wm_aload_n 0 C dX9_says_g0.2.2.2.1 rfl ?_
  refine wm_iload 5 C dX9_says_g0.2.2.2.2.1 rfl ?_
  refine wm_put (ci := 8) (k := 14) (x := v5) C (hPl 100 (by decide) (by decide)) rfl rfl (by decide) wt_X9_200 iwX9 tyX9_ok nmX9 rfl rfl rfl rfl (fun _ => rfl) (Nat.le_of_ble_eq_true rfl) dX9_says_g0.2.2.2.2.2.1 ?_
  refine wm_aload_n 0 C dX9_says_g0.2.2.2.2.2.2.1 rfl ?_
  refine wm_iload_n 3 C dX9_says_g0.2.2.2.2.2.2.2.1 rfl ?_
  refine wm_put (ci := 8) (k := 15) (x := v3) C (hPl 100 (by decide) (by decide)) rfl rfl (by decide) wt_X9_203 iwX9 tyX9_ok nmX9 rfl rfl rfl rfl (fun _ => rfl) (Nat.le_of_ble_eq_true rfl) dX9_says_g0.2.2.2.2.2.2.2.2.1 ?_
  refine wm_aload_n 0 C dX9_says_g0.2.2.2.2.2.2.2.2.2.1 rfl ?_
  refine wm_aload_n 0 C dX9_says_g0.2.2.2.2.2.2.2.2.2.2.1 rfl ?_
  refine wm_get (ci := 8) (k := 7) (v := .int (M 100 7)) C (hPl 100 (by decide) (by decide)) rfl rfl (by decide) wt_X9_116 iwX9 (by first | rfl | simp [fld, mu, upd, mcp]) dX9_says_g0.2.2.2.2.2.2.2.2.2.2.2 ?_
  refine wm_put (ci := 8) (k := 16) (x := (M 100 7)) C (hPl 100 (by decide) (by decide)) rfl rfl (by decide) wt_X9_206 iwX9 tyX9_ok nmX9 rfl rfl rfl rfl (fun _ => rfl) (Nat.le_of_ble_eq_true rfl) dX9_says_g1.1 ?_
  refine wm_aload_n 0 C dX9_says_g1.2.1 rfl ?_
  refine wm_aload_n 0 C dX9_says_g1.2.2.1 rfl ?_
  refine wm_get (ci := 8) (k := 11) (v := .ref (A 107)) C (hPl 100 (by decide) (by decide)) rfl rfl (by decide) wt_X9_32 iwX9 (by first | rfl | simp [fld, mu, upd, mcp]) dX9_says_g1.2.2.2.1 ?_
  refine wm_iconst (v := 3) C dX9_says_g1.2.2.2.2.1 (by decide) ?_
  refine wm_iload_n 2 C dX9_says_g1.2.2.2.2.2.1 rfl ?_
  refine wm_imul C dX9_says_g1.2.2.2.2.2.2.1 ?_
  obtain ⟨h1, hf⟩ := ckd hf
  refine wm_iald (n := 18) (j := ((3 * v2)).toNatClampNeg) (v := (M 107 ((3 * v2)).toNatClampNeg)) C (hPl 107 (by decide) (by decide)) rfl rfl rfl h1 rfl (by first | rfl | simp [mu, upd, mcp]) dX9_says_g1.2.2.2.2.2.2.2.1 ?_
  refine wm_put (ci := 8) (k := 17) (x := (M 107 ((3 * v2)).toNatClampNeg)) C (hPl 100 (by decide) (by decide)) rfl rfl (by decide) wt_X9_209 iwX9 tyX9_ok nmX9 rfl rfl rfl rfl (fun _ => rfl) (Nat.le_of_ble_eq_true rfl) dX9_says_g1.2.2.2.2.2.2.2.2.1 ?_
  refine wm_aload_n 0 C dX9_says_g1.2.2.2.2.2.2.2.2.2.1 rfl ?_
  refine wm_aload_n 0 C dX9_says_g1.2.2.2.2.2.2.2.2.2.2.1 rfl ?_
  refine wm_get (ci := 8) (k := 9) (v := .ref (A 105)) C (hPl 100 (by decide) (by decide)) rfl rfl (by decide) wt_X9_26 iwX9 (by first | rfl | simp [fld, mu, upd, mcp]) dX9_says_g1.2.2.2.2.2.2.2.2.2.2.2 ?_
  refine wm_iload_n 3 C dX9_says_g2.1 rfl ?_
  obtain ⟨h2, hf⟩ := ckd hf
  refine wm_iald (n := 2) (j := (v3).toNatClampNeg) (v := (M 105 (v3).toNatClampNeg)) C (hPl 105 (by decide) (by decide)) rfl rfl rfl h2 rfl (by first | rfl | simp [mu, upd, mcp]) dX9_says_g2.2.1 ?_
  refine wm_put (ci := 8) (k := 18) (x := (M 105 (v3).toNatClampNeg)) C (hPl 100 (by decide) (by decide)) rfl rfl (by decide) wt_X9_212 iwX9 tyX9_ok nmX9 rfl rfl rfl rfl (fun _ => rfl) (Nat.le_of_ble_eq_true rfl) dX9_says_g2.2.2.1 ?_
  refine wm_aload_n 0 C dX9_says_g2.2.2.2.1 rfl ?_
  refine wm_aload_n 0 C dX9_says_g2.2.2.2.2.1 rfl ?_
  refine wm_get (ci := 8) (k := 4) (v := .int (M 100 4)) C (hPl 100 (by decide) (by decide)) rfl rfl (by decide) wt_X9_119 iwX9 (by first | rfl | simp [fld, mu, upd, mcp]) dX9_says_g2.2.2.2.2.2.1 ?_
  refine wm_iload_n 1 C dX9_says_g2.2.2.2.2.2.2.1 rfl ?_
  obtain ⟨o3, ho4, hf⟩ := bnd hf
  refine wm_callVi (As := [.int (M 100 4), .int v1]) (ci := 8) C (c_X9_read hPl _ _ _ _ ho4) mi_X9_read wt_X9_252 (hPl 100 (by decide) (by decide)) rfl rfl rfl rfl (by decide) (by decide) (Nat.le_of_ble_eq_true rfl) dX9_says_g2.2.2.2.2.2.2.2.1 ?_
  refine wm_istore (lv1 := [(6, .int o3.1), (0, .ref (A 100)), (1, .int v1), (2, .int v2), (3, .int v3), (4, .int v4), (5, .int v5)]) C dX9_says_g2.2.2.2.2.2.2.2.2.1 (by decide) rfl ?_
  refine wm_iload_n 2 C dX9_says_g2.2.2.2.2.2.2.2.2.2.1 rfl ?_
  refine wm_iconst (v := 2) C dX9_says_g2.2.2.2.2.2.2.2.2.2.2.1 (by decide) ?_
  refine wm_icmp_ne (tgt := 68) C dX9_says_g2.2.2.2.2.2.2.2.2.2.2.2 (by decide) (fun c5 => ?_) (fun c5 => ?_)
  · have hf := (if_neg c5).symm.trans hf
    refine wm_iload 0 C dX9_says_g3.2.2.1 rfl ?_
    refine wm_iconst (v := 0) C dX9_says_g3.2.2.2.1 (by decide) ?_
    refine wm_bipush (v := 99) C dX9_says_g3.2.2.2.2.1 (by decide) ?_
    obtain ⟨o6, ho7, hf⟩ := bnd hf
    refine wm_callSi (As := [.int o3.1, .int 0, .int 99]) C (c_X9_within hPl _ _ _ _ _ ho7) mi_X9_within wt_X9_255 rfl rfl (by decide) (by decide) (Nat.le_of_ble_eq_true rfl) dX9_says_g3.2.2.2.2.2.1 ?_
    exact wm_iret C hrt hf dX9_says_g3.2.2.2.2.2.2
  · have hf := (if_pos c5).symm.trans hf
    refine wm_iload 0 C dX9_says_g3.1 rfl ?_
    refine wm_goto (tgt := 76) C dX9_says_g3.2.1 (by decide) ?_
    exact wm_iret C hrt hf dX9_says_g3.2.2.2.2.2.2
set_option maxHeartbeats 4000000 in
set_option maxRecDepth 100000 in
theorem c_X9_feedsOf {l : Launch} {D : va_G} {cA : Nat → ClassId} {A : Nat → Nat} {Pl : List Nat} (hPl : ∀ q, 100 ≤ q → q < 118 → q ∈ Pl) (v1 : Int32) (v2 : Int32) (M : Mem) (out : (Int32 × Mem)) (ho : f_X9_feedsOf v1 v2 M = some out) : CtI l D cA A Pl yX9_feedsOf cX9_feedsOf 7 109 .int [.ref (A 100), .int v1, .int v2] M out := by
  refine ct_I (by decide) (Nat.le_of_ble_eq_true rfl) (fun p e s m args below meth c C hrt => ?_)
  have hb117 : ∀ (s0 : Int32) (M : Mem), f_X9_feedsOf_b117 s0 M = some out → WM p l e (RM 109) s m args below meth c 0 0 (MQ below (QI D cA A Pl out) args s 0 0 (FA A Pl)) D cA A Pl (FA A Pl) 7 M 117 [] [.int s0] := by
    intro s0 M hf
    unfold f_X9_feedsOf_b117 at hf
    refine wm_istore (lv1 := [(6, .int s0)]) C dX9_feedsOf_g5.2.2.2.2.2.2.2.2.2.2.2 (by decide) rfl ?_
    refine wm_iload 0 C dX9_feedsOf_g6.1 rfl ?_
    refine wm_iconst (v := 0) C dX9_feedsOf_g6.2.1 (by decide) ?_
    refine wm_bipush (v := 99) C dX9_feedsOf_g6.2.2.1 (by decide) ?_
    obtain ⟨o5, ho6, hf⟩ := bnd hf
    refine wm_callSi (As := [.int s0, .int 0, .int 99]) C (c_X9_within hPl _ _ _ _ _ ho6) mi_X9_within wt_X9_255 rfl rfl (by decide) (by decide) (Nat.le_of_ble_eq_true rfl) dX9_feedsOf_g6.2.2.2.1 ?_
    exact wm_iret C hrt hf dX9_feedsOf_g6.2.2.2.2
  have hb55 : ∀ (v5 : Int32) (M : Mem), f_X9_feedsOf_b55 v5 M = some out → WM p l e (RM 109) s m args below meth c 0 0 (MQ below (QI D cA A Pl out) args s 0 0 (FA A Pl)) D cA A Pl (FA A Pl) 7 M 55 [(5, .int v5)] [] := by
    intro v5 M hf
    unfold f_X9_feedsOf_b55 at hf
    refine wm_iconst (v := 2) C dX9_feedsOf_g3.1 (by decide) ?_
    refine wm_iload 0 C dX9_feedsOf_g3.2.1 rfl ?_
    refine wm_imul C dX9_feedsOf_g3.2.2.1 ?_
    refine wm_goto (tgt := 117) C dX9_feedsOf_g3.2.2.2.1 (by decide) ?_
    refine wm_pick [] rfl ?_
    exact hb117 _ _ hf
  have hb98 : ∀ (s0 : Int32) (s1 : Int32) (M : Mem), f_X9_feedsOf_b98 s0 s1 M = some out → WM p l e (RM 109) s m args below meth c 0 0 (MQ below (QI D cA A Pl out) args s 0 0 (FA A Pl)) D cA A Pl (FA A Pl) 7 M 98 [] [.int s1, .int s0] := by
    intro s0 s1 M hf
    unfold f_X9_feedsOf_b98 at hf
    refine wm_iadd C dX9_feedsOf_g5.2.1 ?_
    refine wm_goto (tgt := 117) C dX9_feedsOf_g5.2.2.1 (by decide) ?_
    exact hb117 _ _ hf
  have hb30 : ∀ (v1 : Int32) (v2 : Int32) (v3 : Int32) (v4 : Int32) (M : Mem), f_X9_feedsOf_b30 v1 v2 v3 v4 M = some out → WM p l e (RM 109) s m args below meth c 0 0 (MQ below (QI D cA A Pl out) args s 0 0 (FA A Pl)) D cA A Pl (FA A Pl) 7 M 30 [(0, .ref (A 100)), (1, .int v1), (2, .int v2), (3, .int v3), (4, .int v4)] [] := by
    intro v1 v2 v3 v4 M hf
    unfold f_X9_feedsOf_b30 at hf
    refine wm_aload_n 0 C dX9_feedsOf_g1.2.2.2.2.2.2.2.2.1 rfl ?_
    refine wm_iconst (v := 0) C dX9_feedsOf_g1.2.2.2.2.2.2.2.2.2.1 (by decide) ?_
    refine wm_iload_n 1 C dX9_feedsOf_g1.2.2.2.2.2.2.2.2.2.2.1 rfl ?_
    refine wm_iload_n 2 C dX9_feedsOf_g1.2.2.2.2.2.2.2.2.2.2.2 rfl ?_
    refine wm_iconst (v := 0) C dX9_feedsOf_g2.1 (by decide) ?_
    refine wm_aload_n 0 C dX9_feedsOf_g2.2.1 rfl ?_
    refine wm_iload_n 1 C dX9_feedsOf_g2.2.2.1 rfl ?_
    obtain ⟨o7, ho8, hf⟩ := bnd hf
    refine wm_callVi (As := [.int v1]) (ci := 8) C (c_X9_needsAll hPl _ _ _ ho8) mi_X9_needsAll wt_X9_128 (hPl 100 (by decide) (by decide)) rfl rfl rfl rfl (by decide) (by decide) (Nat.le_of_ble_eq_true rfl) dX9_feedsOf_g2.2.2.2.1 ?_
    obtain ⟨o9, ho10, hf⟩ := bnd hf
    refine wm_callVi (As := [.int 0, .int v1, .int v2, .int 0, .int o7.1]) (ci := 8) C (c_X9_says hPl _ _ _ _ _ _ _ ho10) mi_X9_says wt_X9_259 (hPl 100 (by decide) (by decide)) rfl rfl rfl rfl (by decide) (by decide) (Nat.le_of_ble_eq_true rfl) dX9_feedsOf_g2.2.2.2.2.1 ?_
    refine wm_istore (lv1 := [(5, .int o9.1), (0, .ref (A 100)), (1, .int v1), (2, .int v2), (3, .int v3), (4, .int v4)]) C dX9_feedsOf_g2.2.2.2.2.2.1 (by decide) rfl ?_
    refine wm_iload_n 4 C dX9_feedsOf_g2.2.2.2.2.2.2.1 rfl ?_
    refine wm_iconst (v := 1) C dX9_feedsOf_g2.2.2.2.2.2.2.2.1 (by decide) ?_
    refine wm_icmp_eq (tgt := 55) C dX9_feedsOf_g2.2.2.2.2.2.2.2.2.1 (by decide) (fun c11 => ?_) (fun c11 => ?_)
    · have hf := (if_pos c11).symm.trans hf
      refine wm_pick [0] rfl ?_
      exact hb55 _ _ hf
    · have hf := (if_neg c11).symm.trans hf
      refine wm_iload_n 4 C dX9_feedsOf_g2.2.2.2.2.2.2.2.2.2.1 rfl ?_
      refine wm_iconst (v := 3) C dX9_feedsOf_g2.2.2.2.2.2.2.2.2.2.2.1 (by decide) ?_
      refine wm_icmp_ne (tgt := 62) C dX9_feedsOf_g2.2.2.2.2.2.2.2.2.2.2.2 (by decide) (fun c12 => ?_) (fun c12 => ?_)
      · have hf := (if_neg c12).symm.trans hf
        refine wm_iload_n 4 C dX9_feedsOf_g3.2.2.2.2.1 rfl ?_
        refine wm_iconst (v := 2) C dX9_feedsOf_g3.2.2.2.2.2.1 (by decide) ?_
        refine wm_icmp_ne (tgt := 74) C dX9_feedsOf_g3.2.2.2.2.2.2.1 (by decide) (fun c13 => ?_) (fun c13 => ?_)
        · have hf := (if_neg c13).symm.trans hf
          refine wm_iload_n 4 C dX9_feedsOf_g3.2.2.2.2.2.2.2.2.2.2.2 rfl ?_
          refine wm_iconst (v := 4) C dX9_feedsOf_g4.1 (by decide) ?_
          refine wm_icmp_ne (tgt := 102) C dX9_feedsOf_g4.2.1 (by decide) (fun c14 => ?_) (fun c14 => ?_)
          · have hf := (if_neg c14).symm.trans hf
            refine wm_iload_n 4 C dX9_feedsOf_g5.2.2.2.1 rfl ?_
            refine wm_iconst (v := 5) C dX9_feedsOf_g5.2.2.2.2.1 (by decide) ?_
            refine wm_icmp_ne (tgt := 115) C dX9_feedsOf_g5.2.2.2.2.2.1 (by decide) (fun c15 => ?_) (fun c15 => ?_)
            · have hf := (if_neg c15).symm.trans hf
              refine wm_iload 0 C dX9_feedsOf_g5.2.2.2.2.2.2.2.2.2.2.1 rfl ?_
              refine wm_pick [] rfl ?_
              exact hb117 _ _ hf
            · have hf := (if_pos c15).symm.trans hf
              refine wm_iload 0 C dX9_feedsOf_g5.2.2.2.2.2.2.1 rfl ?_
              refine wm_iload 5 C dX9_feedsOf_g5.2.2.2.2.2.2.2.1 rfl ?_
              refine wm_iadd C dX9_feedsOf_g5.2.2.2.2.2.2.2.2.1 ?_
              refine wm_goto (tgt := 117) C dX9_feedsOf_g5.2.2.2.2.2.2.2.2.2.1 (by decide) ?_
              refine wm_pick [] rfl ?_
              exact hb117 _ _ hf
          · have hf := (if_pos c14).symm.trans hf
            refine wm_iload 0 C dX9_feedsOf_g4.2.2.1 rfl ?_
            refine wm_iconst (v := 2) C dX9_feedsOf_g4.2.2.2.1 (by decide) ?_
            refine wm_idiv C (by decide) dX9_feedsOf_g4.2.2.2.2.1 ?_
            refine wm_aload_n 1 C dX9_feedsOf_g4.2.2.2.2.2.1 rfl ?_
            refine wm_get (ci := 8) (k := 7) (v := .int (o9.2 100 7)) C (hPl 100 (by decide) (by decide)) rfl rfl (by decide) wt_X9_116 iwX9 rfl dX9_feedsOf_g4.2.2.2.2.2.2.1 ?_
            refine wm_iconst (v := 4) C dX9_feedsOf_g4.2.2.2.2.2.2.2.1 (by decide) ?_
            refine wm_irem C (by decide) dX9_feedsOf_g4.2.2.2.2.2.2.2.2.1 ?_
            refine wm_if_ne (tgt := 97) C dX9_feedsOf_g4.2.2.2.2.2.2.2.2.2.1 (by decide) (fun c16 => ?_) (fun c16 => ?_)
            · have hf := (if_neg c16).symm.trans hf
              refine wm_iconst (v := 0) C dX9_feedsOf_g5.1 (by decide) ?_
              refine wm_pick [] rfl ?_
              exact hb98 _ _ _ hf
            · have hf := (if_pos c16).symm.trans hf
              refine wm_bipush (v := 10) C dX9_feedsOf_g4.2.2.2.2.2.2.2.2.2.2.1 (by decide) ?_
              refine wm_goto (tgt := 98) C dX9_feedsOf_g4.2.2.2.2.2.2.2.2.2.2.2 (by decide) ?_
              refine wm_pick [] rfl ?_
              exact hb98 _ _ _ hf
        · have hf := (if_pos c13).symm.trans hf
          refine wm_iload 0 C dX9_feedsOf_g3.2.2.2.2.2.2.2.1 rfl ?_
          refine wm_iconst (v := 2) C dX9_feedsOf_g3.2.2.2.2.2.2.2.2.1 (by decide) ?_
          refine wm_idiv C (by decide) dX9_feedsOf_g3.2.2.2.2.2.2.2.2.2.1 ?_
          refine wm_goto (tgt := 117) C dX9_feedsOf_g3.2.2.2.2.2.2.2.2.2.2.1 (by decide) ?_
          refine wm_pick [] rfl ?_
          exact hb117 _ _ hf
      · have hf := (if_pos c12).symm.trans hf
        refine wm_pick [0] rfl ?_
        exact hb55 _ _ hf
  have hf := ho
  unfold f_X9_feedsOf at hf
  refine wm_aload_n 0 C dX9_feedsOf_g0.1 rfl ?_
  refine wm_get (ci := 8) (k := 10) (v := .ref (A 106)) C (hPl 100 (by decide) (by decide)) rfl rfl (by decide) wt_X9_29 iwX9 rfl dX9_feedsOf_g0.2.1 ?_
  refine wm_iload_n 1 C dX9_feedsOf_g0.2.2.1 rfl ?_
  obtain ⟨h1, hf⟩ := ckd hf
  refine wm_iald (n := 6) (j := (v1).toNatClampNeg) (v := (M 106 (v1).toNatClampNeg)) C (hPl 106 (by decide) (by decide)) rfl rfl rfl h1 rfl rfl dX9_feedsOf_g0.2.2.2.1 ?_
  refine wm_istore_n (lv1 := [(3, .int (M 106 (v1).toNatClampNeg)), (0, .ref (A 100)), (1, .int v1), (2, .int v2)]) C dX9_feedsOf_g0.2.2.2.2.1 (by decide) rfl ?_
  refine wm_aload_n 1 C dX9_feedsOf_g0.2.2.2.2.2.1 rfl ?_
  refine wm_get (ci := 8) (k := 11) (v := .ref (A 107)) C (hPl 100 (by decide) (by decide)) rfl rfl (by decide) wt_X9_32 iwX9 rfl dX9_feedsOf_g0.2.2.2.2.2.2.1 ?_
  refine wm_iconst (v := 3) C dX9_feedsOf_g0.2.2.2.2.2.2.2.1 (by decide) ?_
  refine wm_iload_n 2 C dX9_feedsOf_g0.2.2.2.2.2.2.2.2.1 rfl ?_
  refine wm_imul C dX9_feedsOf_g0.2.2.2.2.2.2.2.2.2.1 ?_
  obtain ⟨h2, hf⟩ := ckd hf
  refine wm_iald (n := 18) (j := ((3 * v1)).toNatClampNeg) (v := (M 107 ((3 * v1)).toNatClampNeg)) C (hPl 107 (by decide) (by decide)) rfl rfl rfl h2 rfl rfl dX9_feedsOf_g0.2.2.2.2.2.2.2.2.2.2.1 ?_
  refine wm_istore (lv1 := [(4, .int (M 107 ((3 * v1)).toNatClampNeg)), (3, .int (M 106 (v1).toNatClampNeg)), (0, .ref (A 100)), (1, .int v1), (2, .int v2)]) C dX9_feedsOf_g0.2.2.2.2.2.2.2.2.2.2.2 (by decide) rfl ?_
  refine wm_iload_n 1 C dX9_feedsOf_g1.1 rfl ?_
  refine wm_iconst (v := 3) C dX9_feedsOf_g1.2.1 (by decide) ?_
  refine wm_icmp_ne (tgt := 30) C dX9_feedsOf_g1.2.2.1 (by decide) (fun c3 => ?_) (fun c3 => ?_)
  · have hf := (if_neg c3).symm.trans hf
    refine wm_pick [2, 3, 4, 1, 0] rfl ?_
    exact hb30 _ _ _ _ _ hf
  · have hf := (if_pos c3).symm.trans hf
    refine wm_iload_n 4 C dX9_feedsOf_g1.2.2.2.1 rfl ?_
    refine wm_iconst (v := 1) C dX9_feedsOf_g1.2.2.2.2.1 (by decide) ?_
    refine wm_icmp_ne (tgt := 30) C dX9_feedsOf_g1.2.2.2.2.2.1 (by decide) (fun c4 => ?_) (fun c4 => ?_)
    · have hf := (if_neg c4).symm.trans hf
      refine wm_pick [2, 3, 4, 1, 0] rfl ?_
      exact hb30 _ _ _ _ _ hf
    · have hf := (if_pos c4).symm.trans hf
      refine wm_iload 0 C dX9_feedsOf_g1.2.2.2.2.2.2.1 rfl ?_
      exact wm_iret C hrt hf dX9_feedsOf_g1.2.2.2.2.2.2.2.1
set_option maxHeartbeats 4000000 in
set_option maxRecDepth 100000 in
theorem c_X9_crossOf {l : Launch} {D : va_G} {cA : Nat → ClassId} {A : Nat → Nat} {Pl : List Nat} (hPl : ∀ q, 100 ≤ q → q < 118 → q ∈ Pl) (v1 : Int32) (v2 : Int32) (v3 : Int32) (M : Mem) (out : (Int32 × Mem)) (ho : f_X9_crossOf v1 v2 v3 M = some out) : CtI l D cA A Pl yX9_crossOf cX9_crossOf 5 2 .int [.ref (A 100), .int v1, .int v2, .int v3] M out := by
  refine ct_I (by decide) (Nat.le_of_ble_eq_true rfl) (fun p e s m args below meth c C hrt => ?_)
  have hf := ho
  unfold f_X9_crossOf at hf
  refine wm_aload_n 0 C dX9_crossOf_g0.1 rfl ?_
  refine wm_iload_n 1 C dX9_crossOf_g0.2.1 rfl ?_
  refine wm_iload_n 3 C dX9_crossOf_g0.2.2.1 rfl ?_
  obtain ⟨o1, ho2, hf⟩ := bnd hf
  refine wm_callVi (As := [.int v1, .int v3]) (ci := 8) C (c_X9_needsOf hPl _ _ _ _ ho2) mi_X9_needsOf wt_X9_134 (hPl 100 (by decide) (by decide)) rfl rfl rfl rfl (by decide) (by decide) (Nat.le_of_ble_eq_true rfl) dX9_crossOf_g0.2.2.2.1 ?_
  refine wm_aload_n 0 C dX9_crossOf_g0.2.2.2.2.1 rfl ?_
  refine wm_get (ci := 8) (k := 8) (v := .ref (A 104)) C (hPl 100 (by decide) (by decide)) rfl rfl (by decide) wt_X9_23 iwX9 rfl dX9_crossOf_g0.2.2.2.2.2.1 ?_
  refine wm_bipush (v := 6) C dX9_crossOf_g0.2.2.2.2.2.2.1 (by decide) ?_
  refine wm_iload_n 2 C dX9_crossOf_g0.2.2.2.2.2.2.2.1 rfl ?_
  refine wm_imul C dX9_crossOf_g0.2.2.2.2.2.2.2.2.1 ?_
  refine wm_iload_n 3 C dX9_crossOf_g0.2.2.2.2.2.2.2.2.2.1 rfl ?_
  refine wm_iadd C dX9_crossOf_g0.2.2.2.2.2.2.2.2.2.2.1 ?_
  obtain ⟨h3, hf⟩ := ckd hf
  refine wm_iald (n := 12) (j := (((6 * v2) + v3)).toNatClampNeg) (v := (o1.2 104 (((6 * v2) + v3)).toNatClampNeg)) C (hPl 104 (by decide) (by decide)) rfl rfl rfl h3 rfl rfl dX9_crossOf_g0.2.2.2.2.2.2.2.2.2.2.2 ?_
  refine wm_isub C dX9_crossOf_g1.1 ?_
  refine wm_istore (lv1 := [(4, .int (o1.1 - (o1.2 104 (((6 * v2) + v3)).toNatClampNeg))), (0, .ref (A 100)), (1, .int v1), (2, .int v2), (3, .int v3)]) C dX9_crossOf_g1.2.1 (by decide) rfl ?_
  refine wm_iload 0 C dX9_crossOf_g1.2.2.1 rfl ?_
  refine wm_if_ge (tgt := 29) C dX9_crossOf_g1.2.2.2.1 (by decide) (fun c4 => ?_) (fun c4 => ?_)
  · have hf := (if_pos c4).symm.trans hf
    refine wm_iload 0 C dX9_crossOf_g1.2.2.2.2.2.2.1 rfl ?_
    exact wm_iret C hrt hf dX9_crossOf_g1.2.2.2.2.2.2.2
  · have hf := (if_neg c4).symm.trans hf
    refine wm_iconst (v := 0) C dX9_crossOf_g1.2.2.2.2.1 (by decide) ?_
    refine wm_goto (tgt := 31) C dX9_crossOf_g1.2.2.2.2.2.1 (by decide) ?_
    exact wm_iret C hrt hf dX9_crossOf_g1.2.2.2.2.2.2.2
set_option maxHeartbeats 4000000 in
set_option maxRecDepth 100000 in
theorem c_X9_tollPart {l : Launch} {D : va_G} {cA : Nat → ClassId} {A : Nat → Nat} {Pl : List Nat} (hPl : ∀ q, 100 ≤ q → q < 118 → q ∈ Pl) (v1 : Int32) (v2 : Int32) (v3 : Int32) (v4 : Int32) (M : Mem) (out : (Int32 × Mem)) (ho : f_X9_tollPart v1 v2 v3 v4 M = some out) : CtI l D cA A Pl yX9_tollPart cX9_tollPart 7 109 .int [.ref (A 100), .int v1, .int v2, .int v3, .int v4] M out := by
  refine ct_I (by decide) (Nat.le_of_ble_eq_true rfl) (fun p e s m args below meth c C hrt => ?_)
  have hb26 : ∀ (v5 : Int32) (M : Mem), f_X9_tollPart_b26 v5 M = some out → WM p l e (RM 109) s m args below meth c 0 0 (MQ below (QI D cA A Pl out) args s 0 0 (FA A Pl)) D cA A Pl (FA A Pl) 7 M 26 [(5, .int v5)] [] := by
    intro v5 M hf
    unfold f_X9_tollPart_b26 at hf
    refine wm_iload 0 C dX9_tollPart_g1.2.2.1 rfl ?_
    refine wm_iconst (v := 1) C dX9_tollPart_g1.2.2.2.1 (by decide) ?_
    refine wm_icmp_ne (tgt := 36) C dX9_tollPart_g1.2.2.2.2.1 (by decide) (fun c11 => ?_) (fun c11 => ?_)
    · have hf := (if_neg c11).symm.trans hf
      refine wm_iload 0 C dX9_tollPart_g1.2.2.2.2.2.2.2.1 rfl ?_
      refine wm_iconst (v := 3) C dX9_tollPart_g1.2.2.2.2.2.2.2.2.1 (by decide) ?_
      refine wm_icmp_ne (tgt := 46) C dX9_tollPart_g1.2.2.2.2.2.2.2.2.2.1 (by decide) (fun c12 => ?_) (fun c12 => ?_)
      · have hf := (if_neg c12).symm.trans hf
        refine wm_bipush (v := 9) C dX9_tollPart_g2.1 (by decide) ?_
        exact wm_iret C hrt hf dX9_tollPart_g2.2.1
      · have hf := (if_pos c12).symm.trans hf
        refine wm_iconst (v := 1) C dX9_tollPart_g1.2.2.2.2.2.2.2.2.2.2.1 (by decide) ?_
        refine wm_goto (tgt := 48) C dX9_tollPart_g1.2.2.2.2.2.2.2.2.2.2.2 (by decide) ?_
        exact wm_iret C hrt hf dX9_tollPart_g2.2.1
    · have hf := (if_pos c11).symm.trans hf
      refine wm_iconst (v := 0) C dX9_tollPart_g1.2.2.2.2.2.1 (by decide) ?_
      refine wm_goto (tgt := 48) C dX9_tollPart_g1.2.2.2.2.2.2.1 (by decide) ?_
      exact wm_iret C hrt hf dX9_tollPart_g2.2.1
  have hb99 : ∀ (s0 : Int32) (M : Mem), f_X9_tollPart_b99 s0 M = some out → WM p l e (RM 109) s m args below meth c 0 0 (MQ below (QI D cA A Pl out) args s 0 0 (FA A Pl)) D cA A Pl (FA A Pl) 7 M 99 [] [.int s0] := by
    intro s0 M hf
    unfold f_X9_tollPart_b99 at hf
    refine wm_iconst (v := 0) C dX9_tollPart_g4.2.2.2.2.2.2.2.2.1 (by decide) ?_
    refine wm_bipush (v := 99) C dX9_tollPart_g4.2.2.2.2.2.2.2.2.2.1 (by decide) ?_
    obtain ⟨o13, ho14, hf⟩ := bnd hf
    refine wm_callSi (As := [.int s0, .int 0, .int 99]) C (c_X9_within hPl _ _ _ _ _ ho14) mi_X9_within wt_X9_255 rfl rfl (by decide) (by decide) (Nat.le_of_ble_eq_true rfl) dX9_tollPart_g4.2.2.2.2.2.2.2.2.2.2.1 ?_
    exact wm_iret C hrt hf dX9_tollPart_g4.2.2.2.2.2.2.2.2.2.2.2
  have hb72 : ∀ (v1 : Int32) (v2 : Int32) (v3 : Int32) (v4 : Int32) (v5 : Int32) (M : Mem), f_X9_tollPart_b72 v1 v2 v3 v4 v5 M = some out → WM p l e (RM 109) s m args below meth c 0 0 (MQ below (QI D cA A Pl out) args s 0 0 (FA A Pl)) D cA A Pl (FA A Pl) 7 M 72 [(0, .ref (A 100)), (1, .int v1), (2, .int v2), (3, .int v3), (4, .int v4), (5, .int v5)] [] := by
    intro v1 v2 v3 v4 v5 M hf
    unfold f_X9_tollPart_b72 at hf
    refine wm_aload_n 0 C dX9_tollPart_g3.2.2.2.2.2.1 rfl ?_
    refine wm_iconst (v := 1) C dX9_tollPart_g3.2.2.2.2.2.2.1 (by decide) ?_
    refine wm_iload_n 1 C dX9_tollPart_g3.2.2.2.2.2.2.2.1 rfl ?_
    refine wm_iload_n 2 C dX9_tollPart_g3.2.2.2.2.2.2.2.2.1 rfl ?_
    refine wm_iload_n 3 C dX9_tollPart_g3.2.2.2.2.2.2.2.2.2.1 rfl ?_
    refine wm_iload 4 C dX9_tollPart_g3.2.2.2.2.2.2.2.2.2.2.1 rfl ?_
    obtain ⟨o8, ho9, hf⟩ := bnd hf
    refine wm_callVi (As := [.int 1, .int v1, .int v2, .int v3, .int v4]) (ci := 8) C (c_X9_says hPl _ _ _ _ _ _ _ ho9) mi_X9_says wt_X9_259 (hPl 100 (by decide) (by decide)) rfl rfl rfl rfl (by decide) (by decide) (Nat.le_of_ble_eq_true rfl) dX9_tollPart_g3.2.2.2.2.2.2.2.2.2.2.2 ?_
    refine wm_istore (lv1 := [(6, .int o8.1), (0, .ref (A 100)), (1, .int v1), (2, .int v2), (3, .int v3), (4, .int v4), (5, .int v5)]) C dX9_tollPart_g4.1 (by decide) rfl ?_
    refine wm_iload 6 C dX9_tollPart_g4.2.1 rfl ?_
    refine wm_if_ne (tgt := 94) C dX9_tollPart_g4.2.2.1 (by decide) (fun c10 => ?_) (fun c10 => ?_)
    · have hf := (if_neg c10).symm.trans hf
      refine wm_iload 5 C dX9_tollPart_g4.2.2.2.2.2.1 rfl ?_
      refine wm_iload 0 C dX9_tollPart_g4.2.2.2.2.2.2.1 rfl ?_
      refine wm_imul C dX9_tollPart_g4.2.2.2.2.2.2.2.1 ?_
      refine wm_pick [] rfl ?_
      exact hb99 _ _ hf
    · have hf := (if_pos c10).symm.trans hf
      refine wm_iload 0 C dX9_tollPart_g4.2.2.2.1 rfl ?_
      refine wm_goto (tgt := 99) C dX9_tollPart_g4.2.2.2.2.1 (by decide) ?_
      refine wm_pick [] rfl ?_
      exact hb99 _ _ hf
  have hf := ho
  unfold f_X9_tollPart at hf
  refine wm_aload_n 0 C dX9_tollPart_g0.1 rfl ?_
  refine wm_get (ci := 8) (k := 10) (v := .ref (A 106)) C (hPl 100 (by decide) (by decide)) rfl rfl (by decide) wt_X9_29 iwX9 rfl dX9_tollPart_g0.2.1 ?_
  refine wm_iload_n 1 C dX9_tollPart_g0.2.2.1 rfl ?_
  obtain ⟨h1, hf⟩ := ckd hf
  refine wm_iald (n := 6) (j := (v1).toNatClampNeg) (v := (M 106 (v1).toNatClampNeg)) C (hPl 106 (by decide) (by decide)) rfl rfl rfl h1 rfl rfl dX9_tollPart_g0.2.2.2.1 ?_
  refine wm_istore (lv1 := [(5, .int (M 106 (v1).toNatClampNeg)), (0, .ref (A 100)), (1, .int v1), (2, .int v2), (3, .int v3), (4, .int v4)]) C dX9_tollPart_g0.2.2.2.2.1 (by decide) rfl ?_
  refine wm_iload 0 C dX9_tollPart_g0.2.2.2.2.2.1 rfl ?_
  refine wm_iconst (v := 1) C dX9_tollPart_g0.2.2.2.2.2.2.1 (by decide) ?_
  refine wm_icmp_eq (tgt := 26) C dX9_tollPart_g0.2.2.2.2.2.2.2.1 (by decide) (fun c2 => ?_) (fun c2 => ?_)
  · have hf := (if_pos c2).symm.trans hf
    refine wm_pick [0] rfl ?_
    exact hb26 _ _ hf
  · have hf := (if_neg c2).symm.trans hf
    refine wm_iload 0 C dX9_tollPart_g0.2.2.2.2.2.2.2.2.1 rfl ?_
    refine wm_iconst (v := 3) C dX9_tollPart_g0.2.2.2.2.2.2.2.2.2.1 (by decide) ?_
    refine wm_icmp_eq (tgt := 26) C dX9_tollPart_g0.2.2.2.2.2.2.2.2.2.2.1 (by decide) (fun c3 => ?_) (fun c3 => ?_)
    · have hf := (if_pos c3).symm.trans hf
      refine wm_pick [0] rfl ?_
      exact hb26 _ _ hf
    · have hf := (if_neg c3).symm.trans hf
      refine wm_iload 0 C dX9_tollPart_g0.2.2.2.2.2.2.2.2.2.2.2 rfl ?_
      refine wm_iconst (v := 5) C dX9_tollPart_g1.1 (by decide) ?_
      refine wm_icmp_ne (tgt := 49) C dX9_tollPart_g1.2.1 (by decide) (fun c4 => ?_) (fun c4 => ?_)
      · have hf := (if_neg c4).symm.trans hf
        refine wm_iload 0 C dX9_tollPart_g2.2.2.1 rfl ?_
        refine wm_iconst (v := 4) C dX9_tollPart_g2.2.2.2.1 (by decide) ?_
        refine wm_icmp_ne (tgt := 72) C dX9_tollPart_g2.2.2.2.2.1 (by decide) (fun c5 => ?_) (fun c5 => ?_)
        · have hf := (if_neg c5).symm.trans hf
          refine wm_pick [1, 2, 3, 4, 5, 0] rfl ?_
          exact hb72 _ _ _ _ _ _ hf
        · have hf := (if_pos c5).symm.trans hf
          refine wm_iload_n 4 C dX9_tollPart_g2.2.2.2.2.2.1 rfl ?_
          refine wm_aload_n 1 C dX9_tollPart_g2.2.2.2.2.2.2.1 rfl ?_
          refine wm_get (ci := 8) (k := 11) (v := .ref (A 107)) C (hPl 100 (by decide) (by decide)) rfl rfl (by decide) wt_X9_32 iwX9 rfl dX9_tollPart_g2.2.2.2.2.2.2.2.1 ?_
          refine wm_iconst (v := 3) C dX9_tollPart_g2.2.2.2.2.2.2.2.2.1 (by decide) ?_
          refine wm_iload_n 2 C dX9_tollPart_g2.2.2.2.2.2.2.2.2.2.1 rfl ?_
          refine wm_imul C dX9_tollPart_g2.2.2.2.2.2.2.2.2.2.2.1 ?_
          obtain ⟨h6, hf⟩ := ckd hf
          refine wm_iald (n := 18) (j := ((3 * v1)).toNatClampNeg) (v := (M 107 ((3 * v1)).toNatClampNeg)) C (hPl 107 (by decide) (by decide)) rfl rfl rfl h6 rfl rfl dX9_tollPart_g2.2.2.2.2.2.2.2.2.2.2.2 ?_
          refine wm_bipush (v := 6) C dX9_tollPart_g3.1 (by decide) ?_
          refine wm_irem C (by decide) dX9_tollPart_g3.2.1 ?_
          refine wm_icmp_ne (tgt := 72) C dX9_tollPart_g3.2.2.1 (by decide) (fun c7 => ?_) (fun c7 => ?_)
          · have hf := (if_neg c7).symm.trans hf
            refine wm_pick [1, 2, 3, 4, 5, 0] rfl ?_
            exact hb72 _ _ _ _ _ _ hf
          · have hf := (if_pos c7).symm.trans hf
            refine wm_iconst (v := 0) C dX9_tollPart_g3.2.2.2.1 (by decide) ?_
            exact wm_iret C hrt hf dX9_tollPart_g3.2.2.2.2.1
      · have hf := (if_pos c4).symm.trans hf
        refine wm_pick [0] rfl ?_
        exact hb26 _ _ hf
set_option maxHeartbeats 4000000 in
set_option maxRecDepth 100000 in
theorem c_X9_tollOf {l : Launch} {D : va_G} {cA : Nat → ClassId} {A : Nat → Nat} {Pl : List Nat} (hPl : ∀ q, 100 ≤ q → q < 118 → q ∈ Pl) (v1 : Int32) (v2 : Int32) (M : Mem) (out : (Int32 × Mem)) (ho : f_X9_tollOf v1 v2 M = some out) : CtI l D cA A Pl yX9_tollOf cX9_tollOf 6 110 .int [.ref (A 100), .int v1, .int v2] M out := by
  refine ct_I (by decide) (Nat.le_of_ble_eq_true rfl) (fun p e s m args below meth c C hrt => ?_)
  have hb42 : ∀ (r : Int32 → Int32 → Int32 → Int32 → Mem → Option (Int32 × Mem)) (hr : ∀ (v1 : Int32) (v2 : Int32) (v3 : Int32) (v4 : Int32) (M : Mem), r v1 v2 v3 v4 M = some out → WM p l e (RM 110) s m args below meth c 0 0 (MQ below (QI D cA A Pl out) args s 0 0 (FA A Pl)) D cA A Pl (FA A Pl) 6 M 5 [(0, .ref (A 100)), (1, .int v1), (2, .int v2), (3, .int v3), (4, .int v4)] []), ∀ (v1 : Int32) (v2 : Int32) (v4 : Int32) (s0 : Int32) (s1 : Int32) (M : Mem), f_X9_tollOf_b42 r v1 v2 v4 s0 s1 M = some out → WM p l e (RM 110) s m args below meth c 0 0 (MQ below (QI D cA A Pl out) args s 0 0 (FA A Pl)) D cA A Pl (FA A Pl) 6 M 42 [(0, .ref (A 100)), (1, .int v1), (2, .int v2), (4, .int v4)] [.int s1, .int s0] := by
    intro r hr v1 v2 v4 s0 s1 M hf
    unfold f_X9_tollOf_b42 at hf
    refine wm_iadd C dX9_tollOf_g2.1 ?_
    refine wm_istore_n (lv1 := [(3, .int (s0 + s1)), (0, .ref (A 100)), (1, .int v1), (2, .int v2), (4, .int v4)]) C dX9_tollOf_g2.2.1 (by decide) rfl ?_
    refine wm_iinc (lv1 := [(4, .int (v4 + 1)), (3, .int (s0 + s1)), (0, .ref (A 100)), (1, .int v1), (2, .int v2)]) (v := (v4 + 1)) 4 C dX9_tollOf_g2.2.2.1 rfl (by first | rfl | decide) (by decide) rfl ?_
    refine wm_goto (tgt := 5) C dX9_tollOf_g2.2.2.2.1 (by decide) ?_
    refine wm_pick [2, 3, 4, 1, 0] rfl ?_
    exact hr _ _ _ _ _ hf
  have hl5 : ∀ (n : Nat), ∀ (v1 : Int32) (v2 : Int32) (v3 : Int32) (v4 : Int32) (M : Mem), f_X9_tollOf_l5 n v1 v2 v3 v4 M = some out → WM p l e (RM 110) s m args below meth c 0 0 (MQ below (QI D cA A Pl out) args s 0 0 (FA A Pl)) D cA A Pl (FA A Pl) 6 M 5 [(0, .ref (A 100)), (1, .int v1), (2, .int v2), (3, .int v3), (4, .int v4)] [] := by
    intro n
    induction n with
    | zero => intro v1 v2 v3 v4 M hf; rw [f_X9_tollOf_l5] at hf; cases hf
    | succ n hr =>
      intro v1 v2 v3 v4 M hf
      rw [f_X9_tollOf_l5] at hf
      refine wm_iload 4 C dX9_tollOf_g0.2.2.2.2.1 rfl ?_
      refine wm_bipush (v := 6) C dX9_tollOf_g0.2.2.2.2.2.1 (by decide) ?_
      refine wm_icmp_ge (tgt := 50) C dX9_tollOf_g0.2.2.2.2.2.2.1 (by decide) (fun c1 => ?_) (fun c1 => ?_)
      · have hf := (if_pos c1).symm.trans hf
        refine wm_iload_n 3 C dX9_tollOf_g2.2.2.2.2.1 rfl ?_
        exact wm_iret C hrt hf dX9_tollOf_g2.2.2.2.2.2
      · have hf := (if_neg c1).symm.trans hf
        refine wm_aload_n 0 C dX9_tollOf_g0.2.2.2.2.2.2.2.1 rfl ?_
        refine wm_iload_n 1 C dX9_tollOf_g0.2.2.2.2.2.2.2.2.1 rfl ?_
        refine wm_iload_n 2 C dX9_tollOf_g0.2.2.2.2.2.2.2.2.2.1 rfl ?_
        refine wm_iload 4 C dX9_tollOf_g0.2.2.2.2.2.2.2.2.2.2.1 rfl ?_
        obtain ⟨o2, ho3, hf⟩ := bnd hf
        refine wm_callVi (As := [.int v1, .int v2, .int v4]) (ci := 8) C (c_X9_crossOf hPl _ _ _ _ _ ho3) mi_X9_crossOf wt_X9_263 (hPl 100 (by decide) (by decide)) rfl rfl rfl rfl (by decide) (by decide) (Nat.le_of_ble_eq_true rfl) dX9_tollOf_g0.2.2.2.2.2.2.2.2.2.2.2 ?_
        refine wm_istore (lv1 := [(5, .int o2.1), (0, .ref (A 100)), (1, .int v1), (2, .int v2), (3, .int v3), (4, .int v4)]) C dX9_tollOf_g1.1 (by decide) rfl ?_
        refine wm_iload_n 4 C dX9_tollOf_g1.2.1 rfl ?_
        refine wm_iload 0 C dX9_tollOf_g1.2.2.1 rfl ?_
        refine wm_if_le (tgt := 41) C dX9_tollOf_g1.2.2.2.1 (by decide) (fun c4 => ?_) (fun c4 => ?_)
        · have hf := (if_pos c4).symm.trans hf
          refine wm_iconst (v := 0) C dX9_tollOf_g1.2.2.2.2.2.2.2.2.2.2.2 (by decide) ?_
          refine wm_pick [1, 2, 3, 5] rfl ?_
          exact (hb42 _ hr) _ _ _ _ _ _ hf
        · have hf := (if_neg c4).symm.trans hf
          refine wm_aload_n 1 C dX9_tollOf_g1.2.2.2.2.1 rfl ?_
          refine wm_iload_n 2 C dX9_tollOf_g1.2.2.2.2.2.1 rfl ?_
          refine wm_iload_n 3 C dX9_tollOf_g1.2.2.2.2.2.2.1 rfl ?_
          refine wm_iload 5 C dX9_tollOf_g1.2.2.2.2.2.2.2.1 rfl ?_
          refine wm_iload 0 C dX9_tollOf_g1.2.2.2.2.2.2.2.2.1 rfl ?_
          obtain ⟨o5, ho6, hf⟩ := bnd hf
          refine wm_callVi (As := [.int v1, .int v2, .int v4, .int o2.1]) (ci := 8) C (c_X9_tollPart hPl _ _ _ _ _ _ ho6) mi_X9_tollPart wt_X9_266 (hPl 100 (by decide) (by decide)) rfl rfl rfl rfl (by decide) (by decide) (Nat.le_of_ble_eq_true rfl) dX9_tollOf_g1.2.2.2.2.2.2.2.2.2.1 ?_
          refine wm_goto (tgt := 42) C dX9_tollOf_g1.2.2.2.2.2.2.2.2.2.2.1 (by decide) ?_
          refine wm_pick [1, 2, 3, 5] rfl ?_
          exact (hb42 _ hr) _ _ _ _ _ _ hf
  have hf := ho
  unfold f_X9_tollOf at hf
  refine wm_iconst (v := 0) C dX9_tollOf_g0.1 (by decide) ?_
  refine wm_istore_n (lv1 := [(3, .int 0), (0, .ref (A 100)), (1, .int v1), (2, .int v2)]) C dX9_tollOf_g0.2.1 (by decide) rfl ?_
  refine wm_iconst (v := 0) C dX9_tollOf_g0.2.2.1 (by decide) ?_
  refine wm_istore (lv1 := [(4, .int 0), (3, .int 0), (0, .ref (A 100)), (1, .int v1), (2, .int v2)]) C dX9_tollOf_g0.2.2.2.1 (by decide) rfl ?_
  refine wm_pick [2, 3, 4, 1, 0] rfl ?_
  exact (hl5 FU) _ _ _ _ _ hf
set_option maxHeartbeats 4000000 in
set_option maxRecDepth 100000 in
theorem c_X9_signsAt {l : Launch} {D : va_G} {cA : Nat → ClassId} {A : Nat → Nat} {Pl : List Nat} (hPl : ∀ q, 100 ≤ q → q < 118 → q ∈ Pl) (v1 : Int32) (v2 : Int32) (v3 : Int32) (v4 : Int32) (M : Mem) (out : (Int32 × Mem)) (ho : f_X9_signsAt v1 v2 v3 v4 M = some out) : CtI l D cA A Pl yX9_signsAt cX9_signsAt 7 109 .boolean [.ref (A 100), .int v1, .int v2, .int v3, .int v4] M out := by
  refine ct_I (by decide) (Nat.le_of_ble_eq_true rfl) (fun p e s m args below meth c C hrt => ?_)
  have hb67 : ∀ (v3 : Int32) (v4 : Int32) (v6 : Int32) (M : Mem), f_X9_signsAt_b67 v3 v4 v6 M = some out → WM p l e (RM 109) s m args below meth c 0 0 (MQ below (QI D cA A Pl out) args s 0 0 (FA A Pl)) D cA A Pl (FA A Pl) 7 M 67 [(0, .ref (A 100)), (3, .int v3), (4, .int v4), (6, .int v6)] [] := by
    intro v3 v4 v6 M hf
    unfold f_X9_signsAt_b67 at hf
    refine wm_iload 3 C dX9_signsAt_g3.2.2.2.1 rfl ?_
    refine wm_if_eq (tgt := 87) C dX9_signsAt_g3.2.2.2.2.1 (by decide) (fun c9 => ?_) (fun c9 => ?_)
    · have hf := (if_pos c9).symm.trans hf
      refine wm_iconst (v := 0) C dX9_signsAt_g4.2.1 (by decide) ?_
      refine wm_goto (tgt := 117) C dX9_signsAt_g4.2.2.1 (by decide) ?_
      exact wm_zret C hrt rfl hf dX9_signsAt_g5.2.2.2.2
    · have hf := (if_neg c9).symm.trans hf
      refine wm_iload 2 C dX9_signsAt_g3.2.2.2.2.2.1 rfl ?_
      refine wm_aload_n 0 C dX9_signsAt_g3.2.2.2.2.2.2.1 rfl ?_
      refine wm_get (ci := 8) (k := 9) (v := .ref (A 105)) C (hPl 100 (by decide) (by decide)) rfl rfl (by decide) wt_X9_26 iwX9 rfl dX9_signsAt_g3.2.2.2.2.2.2.2.1 ?_
      refine wm_iload_n 1 C dX9_signsAt_g3.2.2.2.2.2.2.2.2.1 rfl ?_
      obtain ⟨h10, hf⟩ := ckd hf
      refine wm_iald (n := 2) (j := (v3).toNatClampNeg) (v := (M 105 (v3).toNatClampNeg)) C (hPl 105 (by decide) (by decide)) rfl rfl rfl h10 rfl rfl dX9_signsAt_g3.2.2.2.2.2.2.2.2.2.1 ?_
      refine wm_icmp_ge (tgt := 87) C dX9_signsAt_g3.2.2.2.2.2.2.2.2.2.2.1 (by decide) (fun c11 => ?_) (fun c11 => ?_)
      · have hf := (if_pos c11).symm.trans hf
        refine wm_iconst (v := 0) C dX9_signsAt_g4.2.1 (by decide) ?_
        refine wm_goto (tgt := 117) C dX9_signsAt_g4.2.2.1 (by decide) ?_
        exact wm_zret C hrt rfl hf dX9_signsAt_g5.2.2.2.2
      · have hf := (if_neg c11).symm.trans hf
        refine wm_iconst (v := 1) C dX9_signsAt_g3.2.2.2.2.2.2.2.2.2.2.2 (by decide) ?_
        refine wm_goto (tgt := 117) C dX9_signsAt_g4.1 (by decide) ?_
        exact wm_zret C hrt rfl hf dX9_signsAt_g5.2.2.2.2
  have hb53 : ∀ (v2 : Int32) (v3 : Int32) (v4 : Int32) (v5 : Int32) (s0 : Int32) (M : Mem), f_X9_signsAt_b53 v2 v3 v4 v5 s0 M = some out → WM p l e (RM 109) s m args below meth c 0 0 (MQ below (QI D cA A Pl out) args s 0 0 (FA A Pl)) D cA A Pl (FA A Pl) 7 M 53 [(0, .ref (A 100)), (2, .int v2), (3, .int v3), (4, .int v4), (5, .int v5)] [.int s0] := by
    intro v2 v3 v4 v5 s0 M hf
    unfold f_X9_signsAt_b53 at hf
    refine wm_istore (lv1 := [(6, .int s0), (0, .ref (A 100)), (2, .int v2), (3, .int v3), (4, .int v4), (5, .int v5)]) C dX9_signsAt_g2.2.2.2.2.2.2.2.2.1 (by decide) rfl ?_
    refine wm_iload 5 C dX9_signsAt_g2.2.2.2.2.2.2.2.2.2.1 rfl ?_
    refine wm_iconst (v := 2) C dX9_signsAt_g2.2.2.2.2.2.2.2.2.2.2.1 (by decide) ?_
    refine wm_icmp_eq (tgt := 67) C dX9_signsAt_g2.2.2.2.2.2.2.2.2.2.2.2 (by decide) (fun c12 => ?_) (fun c12 => ?_)
    · have hf := (if_pos c12).symm.trans hf
      refine wm_pick [1, 3, 4, 0] rfl ?_
      exact hb67 _ _ _ _ hf
    · have hf := (if_neg c12).symm.trans hf
      refine wm_iload 5 C dX9_signsAt_g3.1 rfl ?_
      refine wm_iconst (v := 4) C dX9_signsAt_g3.2.1 (by decide) ?_
      refine wm_icmp_ne (tgt := 91) C dX9_signsAt_g3.2.2.1 (by decide) (fun c13 => ?_) (fun c13 => ?_)
      · have hf := (if_neg c13).symm.trans hf
        refine wm_iload 5 C dX9_signsAt_g4.2.2.2.1 rfl ?_
        refine wm_iconst (v := 5) C dX9_signsAt_g4.2.2.2.2.1 (by decide) ?_
        refine wm_icmp_ne (tgt := 115) C dX9_signsAt_g4.2.2.2.2.2.1 (by decide) (fun c14 => ?_) (fun c14 => ?_)
        · have hf := (if_neg c14).symm.trans hf
          refine wm_iload 0 C dX9_signsAt_g5.2.2.2.1 rfl ?_
          obtain ⟨h15, hf⟩ := ckd hf
          exact wm_zret C hrt (zb_n h15) hf dX9_signsAt_g5.2.2.2.2
        · have hf := (if_pos c14).symm.trans hf
          refine wm_iload 0 C dX9_signsAt_g4.2.2.2.2.2.2.1 rfl ?_
          refine wm_if_ne (tgt := 107) C dX9_signsAt_g4.2.2.2.2.2.2.2.1 (by decide) (fun c16 => ?_) (fun c16 => ?_)
          · have hf := (if_neg c16).symm.trans hf
            refine wm_iconst (v := 1) C dX9_signsAt_g4.2.2.2.2.2.2.2.2.2.2.2 (by decide) ?_
            refine wm_goto (tgt := 117) C dX9_signsAt_g5.1 (by decide) ?_
            exact wm_zret C hrt rfl hf dX9_signsAt_g5.2.2.2.2
          · have hf := (if_pos c16).symm.trans hf
            refine wm_iload_n 2 C dX9_signsAt_g4.2.2.2.2.2.2.2.2.1 rfl ?_
            refine wm_iload_n 3 C dX9_signsAt_g4.2.2.2.2.2.2.2.2.2.1 rfl ?_
            refine wm_icmp_ne (tgt := 111) C dX9_signsAt_g4.2.2.2.2.2.2.2.2.2.2.1 (by decide) (fun c17 => ?_) (fun c17 => ?_)
            · have hf := (if_neg c17).symm.trans hf
              refine wm_iconst (v := 0) C dX9_signsAt_g5.2.1 (by decide) ?_
              refine wm_goto (tgt := 117) C dX9_signsAt_g5.2.2.1 (by decide) ?_
              exact wm_zret C hrt rfl hf dX9_signsAt_g5.2.2.2.2
            · have hf := (if_pos c17).symm.trans hf
              refine wm_iconst (v := 1) C dX9_signsAt_g4.2.2.2.2.2.2.2.2.2.2.2 (by decide) ?_
              refine wm_goto (tgt := 117) C dX9_signsAt_g5.1 (by decide) ?_
              exact wm_zret C hrt rfl hf dX9_signsAt_g5.2.2.2.2
      · have hf := (if_pos c13).symm.trans hf
        refine wm_pick [1, 3, 4, 0] rfl ?_
        exact hb67 _ _ _ _ hf
  have hb35 : ∀ (v1 : Int32) (v2 : Int32) (v3 : Int32) (v4 : Int32) (v5 : Int32) (M : Mem), f_X9_signsAt_b35 v1 v2 v3 v4 v5 M = some out → WM p l e (RM 109) s m args below meth c 0 0 (MQ below (QI D cA A Pl out) args s 0 0 (FA A Pl)) D cA A Pl (FA A Pl) 7 M 35 [(0, .ref (A 100)), (1, .int v1), (2, .int v2), (3, .int v3), (4, .int v4), (5, .int v5)] [] := by
    intro v1 v2 v3 v4 v5 M hf
    unfold f_X9_signsAt_b35 at hf
    refine wm_aload_n 0 C dX9_signsAt_g1.2.2.2.2.2.2.2.2.2.1 rfl ?_
    refine wm_iconst (v := 2) C dX9_signsAt_g1.2.2.2.2.2.2.2.2.2.2.1 (by decide) ?_
    refine wm_iload_n 1 C dX9_signsAt_g1.2.2.2.2.2.2.2.2.2.2.2 rfl ?_
    refine wm_iload_n 3 C dX9_signsAt_g2.1 rfl ?_
    refine wm_iconst (v := 0) C dX9_signsAt_g2.2.1 (by decide) ?_
    refine wm_iload 4 C dX9_signsAt_g2.2.2.1 rfl ?_
    obtain ⟨o6, ho7, hf⟩ := bnd hf
    refine wm_callVi (As := [.int 2, .int v1, .int v3, .int 0, .int v4]) (ci := 8) C (c_X9_says hPl _ _ _ _ _ _ _ ho7) mi_X9_says wt_X9_259 (hPl 100 (by decide) (by decide)) rfl rfl rfl rfl (by decide) (by decide) (Nat.le_of_ble_eq_true rfl) dX9_signsAt_g2.2.2.2.1 ?_
    refine wm_if_eq (tgt := 52) C dX9_signsAt_g2.2.2.2.2.1 (by decide) (fun c8 => ?_) (fun c8 => ?_)
    · have hf := (if_pos c8).symm.trans hf
      refine wm_iconst (v := 0) C dX9_signsAt_g2.2.2.2.2.2.2.2.1 (by decide) ?_
      refine wm_pick [0, 2, 3, 4, 5] rfl ?_
      exact hb53 _ _ _ _ _ _ hf
    · have hf := (if_neg c8).symm.trans hf
      refine wm_iconst (v := 1) C dX9_signsAt_g2.2.2.2.2.2.1 (by decide) ?_
      refine wm_goto (tgt := 53) C dX9_signsAt_g2.2.2.2.2.2.2.1 (by decide) ?_
      refine wm_pick [0, 2, 3, 4, 5] rfl ?_
      exact hb53 _ _ _ _ _ _ hf
  have hf := ho
  unfold f_X9_signsAt at hf
  refine wm_aload_n 0 C dX9_signsAt_g0.1 rfl ?_
  refine wm_get (ci := 8) (k := 10) (v := .ref (A 106)) C (hPl 100 (by decide) (by decide)) rfl rfl (by decide) wt_X9_29 iwX9 rfl dX9_signsAt_g0.2.1 ?_
  refine wm_iload_n 1 C dX9_signsAt_g0.2.2.1 rfl ?_
  obtain ⟨h1, hf⟩ := ckd hf
  refine wm_iald (n := 6) (j := (v1).toNatClampNeg) (v := (M 106 (v1).toNatClampNeg)) C (hPl 106 (by decide) (by decide)) rfl rfl rfl h1 rfl rfl dX9_signsAt_g0.2.2.2.1 ?_
  refine wm_istore (lv1 := [(5, .int (M 106 (v1).toNatClampNeg)), (0, .ref (A 100)), (1, .int v1), (2, .int v2), (3, .int v3), (4, .int v4)]) C dX9_signsAt_g0.2.2.2.2.1 (by decide) rfl ?_
  refine wm_iload 0 C dX9_signsAt_g0.2.2.2.2.2.1 rfl ?_
  refine wm_iconst (v := 1) C dX9_signsAt_g0.2.2.2.2.2.2.1 (by decide) ?_
  refine wm_icmp_eq (tgt := 20) C dX9_signsAt_g0.2.2.2.2.2.2.2.1 (by decide) (fun c2 => ?_) (fun c2 => ?_)
  · have hf := (if_pos c2).symm.trans hf
    refine wm_iconst (v := 1) C dX9_signsAt_g0.2.2.2.2.2.2.2.2.2.2.2 (by decide) ?_
    exact wm_zret C hrt rfl hf dX9_signsAt_g1.1
  · have hf := (if_neg c2).symm.trans hf
    refine wm_iload 0 C dX9_signsAt_g0.2.2.2.2.2.2.2.2.1 rfl ?_
    refine wm_iconst (v := 3) C dX9_signsAt_g0.2.2.2.2.2.2.2.2.2.1 (by decide) ?_
    refine wm_icmp_ne (tgt := 22) C dX9_signsAt_g0.2.2.2.2.2.2.2.2.2.2.1 (by decide) (fun c3 => ?_) (fun c3 => ?_)
    · have hf := (if_neg c3).symm.trans hf
      refine wm_iload 0 C dX9_signsAt_g1.2.1 rfl ?_
      refine wm_iconst (v := 4) C dX9_signsAt_g1.2.2.1 (by decide) ?_
      refine wm_icmp_ne (tgt := 35) C dX9_signsAt_g1.2.2.2.1 (by decide) (fun c4 => ?_) (fun c4 => ?_)
      · have hf := (if_neg c4).symm.trans hf
        refine wm_pick [1, 2, 3, 4, 5, 0] rfl ?_
        exact hb35 _ _ _ _ _ _ hf
      · have hf := (if_pos c4).symm.trans hf
        refine wm_iload_n 3 C dX9_signsAt_g1.2.2.2.2.1 rfl ?_
        refine wm_iload_n 4 C dX9_signsAt_g1.2.2.2.2.2.1 rfl ?_
        refine wm_icmp_ne (tgt := 35) C dX9_signsAt_g1.2.2.2.2.2.2.1 (by decide) (fun c5 => ?_) (fun c5 => ?_)
        · have hf := (if_neg c5).symm.trans hf
          refine wm_pick [1, 2, 3, 4, 5, 0] rfl ?_
          exact hb35 _ _ _ _ _ _ hf
        · have hf := (if_pos c5).symm.trans hf
          refine wm_iconst (v := 1) C dX9_signsAt_g1.2.2.2.2.2.2.2.1 (by decide) ?_
          exact wm_zret C hrt rfl hf dX9_signsAt_g1.2.2.2.2.2.2.2.2.1
    · have hf := (if_pos c3).symm.trans hf
      refine wm_iconst (v := 1) C dX9_signsAt_g0.2.2.2.2.2.2.2.2.2.2.2 (by decide) ?_
      exact wm_zret C hrt rfl hf dX9_signsAt_g1.1
set_option maxHeartbeats 4000000 in
set_option maxRecDepth 100000 in
theorem c_X9_canBe {l : Launch} {D : va_G} {cA : Nat → ClassId} {A : Nat → Nat} {Pl : List Nat} (hPl : ∀ q, 100 ≤ q → q < 118 → q ∈ Pl) (v1 : Int32) (v2 : Int32) (M : Mem) (out : (Int32 × Mem)) (ho : f_X9_canBe v1 v2 M = some out) : CtI l D cA A Pl yX9_canBe cX9_canBe 4 3 .boolean [.ref (A 100), .int v1, .int v2] M out := by
  refine ct_I (by decide) (Nat.le_of_ble_eq_true rfl) (fun p e s m args below meth c C hrt => ?_)
  have hl2 : ∀ (n : Nat), ∀ (v1 : Int32) (v2 : Int32) (v3 : Int32) (M : Mem), f_X9_canBe_l2 n v1 v2 v3 M = some out → WM p l e (RM 3) s m args below meth c 0 0 (MQ below (QI D cA A Pl out) args s 0 0 (FA A Pl)) D cA A Pl (FA A Pl) 4 M 2 [(0, .ref (A 100)), (1, .int v1), (2, .int v2), (3, .int v3)] [] := by
    intro n
    induction n with
    | zero => intro v1 v2 v3 M hf; rw [f_X9_canBe_l2] at hf; cases hf
    | succ n hr =>
      intro v1 v2 v3 M hf
      rw [f_X9_canBe_l2] at hf
      refine wm_iload_n 3 C dX9_canBe_g0.2.2.1 rfl ?_
      refine wm_bipush (v := 6) C dX9_canBe_g0.2.2.2.1 (by decide) ?_
      refine wm_icmp_ge (tgt := 39) C dX9_canBe_g0.2.2.2.2.1 (by decide) (fun c1 => ?_) (fun c1 => ?_)
      · have hf := (if_pos c1).symm.trans hf
        refine wm_iconst (v := 1) C dX9_canBe_g2.2.1 (by decide) ?_
        exact wm_zret C hrt rfl hf dX9_canBe_g2.2.2
      · have hf := (if_neg c1).symm.trans hf
        refine wm_aload_n 0 C dX9_canBe_g0.2.2.2.2.2.1 rfl ?_
        refine wm_iload_n 1 C dX9_canBe_g0.2.2.2.2.2.2.1 rfl ?_
        refine wm_iload_n 2 C dX9_canBe_g0.2.2.2.2.2.2.2.1 rfl ?_
        refine wm_iload_n 3 C dX9_canBe_g0.2.2.2.2.2.2.2.2.1 rfl ?_
        obtain ⟨o2, ho3, hf⟩ := bnd hf
        refine wm_callVi (As := [.int v1, .int v2, .int v3]) (ci := 8) C (c_X9_crossOf hPl _ _ _ _ _ ho3) mi_X9_crossOf wt_X9_263 (hPl 100 (by decide) (by decide)) rfl rfl rfl rfl (by decide) (by decide) (Nat.le_of_ble_eq_true rfl) dX9_canBe_g0.2.2.2.2.2.2.2.2.2.1 ?_
        refine wm_aload_n 0 C dX9_canBe_g0.2.2.2.2.2.2.2.2.2.2.1 rfl ?_
        refine wm_get (ci := 8) (k := 8) (v := .ref (A 104)) C (hPl 100 (by decide) (by decide)) rfl rfl (by decide) wt_X9_23 iwX9 rfl dX9_canBe_g0.2.2.2.2.2.2.2.2.2.2.2 ?_
        refine wm_bipush (v := 6) C dX9_canBe_g1.1 (by decide) ?_
        refine wm_iconst (v := 1) C dX9_canBe_g1.2.1 (by decide) ?_
        refine wm_iload_n 2 C dX9_canBe_g1.2.2.1 rfl ?_
        refine wm_isub C dX9_canBe_g1.2.2.2.1 ?_
        refine wm_imul C dX9_canBe_g1.2.2.2.2.1 ?_
        refine wm_iload_n 3 C dX9_canBe_g1.2.2.2.2.2.1 rfl ?_
        refine wm_iadd C dX9_canBe_g1.2.2.2.2.2.2.1 ?_
        obtain ⟨h4, hf⟩ := ckd hf
        refine wm_iald (n := 12) (j := (((6 * (1 - v2)) + v3)).toNatClampNeg) (v := (o2.2 104 (((6 * (1 - v2)) + v3)).toNatClampNeg)) C (hPl 104 (by decide) (by decide)) rfl rfl rfl h4 rfl rfl dX9_canBe_g1.2.2.2.2.2.2.2.1 ?_
        refine wm_icmp_le (tgt := 33) C dX9_canBe_g1.2.2.2.2.2.2.2.2.1 (by decide) (fun c5 => ?_) (fun c5 => ?_)
        · have hf := (if_pos c5).symm.trans hf
          refine wm_iinc (lv1 := [(3, .int (v3 + 1)), (0, .ref (A 100)), (1, .int v1), (2, .int v2)]) (v := (v3 + 1)) 3 C dX9_canBe_g1.2.2.2.2.2.2.2.2.2.2.2 rfl (by first | rfl | decide) (by decide) rfl ?_
          refine wm_goto (tgt := 2) C dX9_canBe_g2.1 (by decide) ?_
          refine wm_pick [1, 2, 3, 0] rfl ?_
          exact hr _ _ _ _ hf
        · have hf := (if_neg c5).symm.trans hf
          refine wm_iconst (v := 0) C dX9_canBe_g1.2.2.2.2.2.2.2.2.2.1 (by decide) ?_
          exact wm_zret C hrt rfl hf dX9_canBe_g1.2.2.2.2.2.2.2.2.2.2.1
  have hf := ho
  unfold f_X9_canBe at hf
  refine wm_iconst (v := 0) C dX9_canBe_g0.1 (by decide) ?_
  refine wm_istore_n (lv1 := [(3, .int 0), (0, .ref (A 100)), (1, .int v1), (2, .int v2)]) C dX9_canBe_g0.2.1 (by decide) rfl ?_
  refine wm_pick [1, 2, 3, 0] rfl ?_
  exact (hl2 FU) _ _ _ _ hf
set_option maxHeartbeats 4000000 in
set_option maxRecDepth 100000 in
theorem c_X9_isRatified {l : Launch} {D : va_G} {cA : Nat → ClassId} {A : Nat → Nat} {Pl : List Nat} (hPl : ∀ q, 100 ≤ q → q < 118 → q ∈ Pl) (v1 : Int32) (v2 : Int32) (M : Mem) (out : (Int32 × Mem)) (ho : f_X9_isRatified v1 v2 M = some out) : CtI l D cA A Pl yX9_isRatified cX9_isRatified 4 111 .boolean [.ref (A 100), .int v1, .int v2] M out := by
  refine ct_I (by decide) (Nat.le_of_ble_eq_true rfl) (fun p e s m args below meth c C hrt => ?_)
  have hf := ho
  unfold f_X9_isRatified at hf
  refine wm_aload_n 0 C dX9_isRatified_g0.1 rfl ?_
  refine wm_iload_n 1 C dX9_isRatified_g0.2.1 rfl ?_
  refine wm_iload_n 2 C dX9_isRatified_g0.2.2.1 rfl ?_
  obtain ⟨o1, ho2, hf⟩ := bnd hf
  refine wm_callVi (As := [.int v1, .int v2]) (ci := 8) C (c_X9_tollOf hPl _ _ _ _ ho2) mi_X9_tollOf wt_X9_270 (hPl 100 (by decide) (by decide)) rfl rfl rfl rfl (by decide) (by decide) (Nat.le_of_ble_eq_true rfl) dX9_isRatified_g0.2.2.2.1 ?_
  refine wm_istore_n (lv1 := [(3, .int o1.1), (0, .ref (A 100)), (1, .int v1), (2, .int v2)]) C dX9_isRatified_g0.2.2.2.2.1 (by decide) rfl ?_
  refine wm_aload_n 1 C dX9_isRatified_g0.2.2.2.2.2.1 rfl ?_
  refine wm_iload_n 2 C dX9_isRatified_g0.2.2.2.2.2.2.1 rfl ?_
  refine wm_iload_n 3 C dX9_isRatified_g0.2.2.2.2.2.2.2.1 rfl ?_
  refine wm_iconst (v := 0) C dX9_isRatified_g0.2.2.2.2.2.2.2.2.1 (by decide) ?_
  refine wm_iload_n 0 C dX9_isRatified_g0.2.2.2.2.2.2.2.2.2.1 rfl ?_
  obtain ⟨o3, ho4, hf⟩ := bnd hf
  refine wm_callVi (As := [.int v1, .int v2, .int 0, .int o1.1]) (ci := 8) C (c_X9_signsAt hPl _ _ _ _ _ _ ho4) mi_X9_signsAt wt_X9_273 (hPl 100 (by decide) (by decide)) rfl rfl rfl rfl (by decide) (by decide) (Nat.le_of_ble_eq_true rfl) dX9_isRatified_g0.2.2.2.2.2.2.2.2.2.2.1 ?_
  refine wm_if_eq (tgt := 33) C dX9_isRatified_g0.2.2.2.2.2.2.2.2.2.2.2 (by decide) (fun c5 => ?_) (fun c5 => ?_)
  · have hf := (if_pos c5).symm.trans hf
    refine wm_iconst (v := 0) C dX9_isRatified_g1.2.2.2.2.2.2.2.2.2.1 (by decide) ?_
    exact wm_zret C hrt rfl hf dX9_isRatified_g1.2.2.2.2.2.2.2.2.2.2
  · have hf := (if_neg c5).symm.trans hf
    refine wm_aload_n 1 C dX9_isRatified_g1.1 rfl ?_
    refine wm_iload_n 2 C dX9_isRatified_g1.2.1 rfl ?_
    refine wm_iload_n 3 C dX9_isRatified_g1.2.2.1 rfl ?_
    refine wm_iconst (v := 1) C dX9_isRatified_g1.2.2.2.1 (by decide) ?_
    refine wm_iload_n 0 C dX9_isRatified_g1.2.2.2.2.1 rfl ?_
    obtain ⟨o6, ho7, hf⟩ := bnd hf
    refine wm_callVi (As := [.int v1, .int v2, .int 1, .int o1.1]) (ci := 8) C (c_X9_signsAt hPl _ _ _ _ _ _ ho7) mi_X9_signsAt wt_X9_273 (hPl 100 (by decide) (by decide)) rfl rfl rfl rfl (by decide) (by decide) (Nat.le_of_ble_eq_true rfl) dX9_isRatified_g1.2.2.2.2.2.1 ?_
    refine wm_if_eq (tgt := 33) C dX9_isRatified_g1.2.2.2.2.2.2.1 (by decide) (fun c8 => ?_) (fun c8 => ?_)
    · have hf := (if_pos c8).symm.trans hf
      refine wm_iconst (v := 0) C dX9_isRatified_g1.2.2.2.2.2.2.2.2.2.1 (by decide) ?_
      exact wm_zret C hrt rfl hf dX9_isRatified_g1.2.2.2.2.2.2.2.2.2.2
    · have hf := (if_neg c8).symm.trans hf
      refine wm_iconst (v := 1) C dX9_isRatified_g1.2.2.2.2.2.2.2.1 (by decide) ?_
      refine wm_goto (tgt := 34) C dX9_isRatified_g1.2.2.2.2.2.2.2.2.1 (by decide) ?_
      exact wm_zret C hrt rfl hf dX9_isRatified_g1.2.2.2.2.2.2.2.2.2.2
set_option maxHeartbeats 4000000 in
set_option maxRecDepth 100000 in
theorem c_X9_crossAll {l : Launch} {D : va_G} {cA : Nat → ClassId} {A : Nat → Nat} {Pl : List Nat} (hPl : ∀ q, 100 ≤ q → q < 118 → q ∈ Pl) (v1 : Int32) (v2 : Int32) (M : Mem) (out : (Int32 × Mem)) (ho : f_X9_crossAll v1 v2 M = some out) : CtI l D cA A Pl yX9_crossAll cX9_crossAll 5 3 .int [.ref (A 100), .int v1, .int v2] M out := by
  refine ct_I (by decide) (Nat.le_of_ble_eq_true rfl) (fun p e s m args below meth c C hrt => ?_)
  have hl5 : ∀ (n : Nat), ∀ (v1 : Int32) (v2 : Int32) (v3 : Int32) (v4 : Int32) (M : Mem), f_X9_crossAll_l5 n v1 v2 v3 v4 M = some out → WM p l e (RM 3) s m args below meth c 0 0 (MQ below (QI D cA A Pl out) args s 0 0 (FA A Pl)) D cA A Pl (FA A Pl) 5 M 5 [(0, .ref (A 100)), (1, .int v1), (2, .int v2), (3, .int v3), (4, .int v4)] [] := by
    intro n
    induction n with
    | zero => intro v1 v2 v3 v4 M hf; rw [f_X9_crossAll_l5] at hf; cases hf
    | succ n hr =>
      intro v1 v2 v3 v4 M hf
      rw [f_X9_crossAll_l5] at hf
      refine wm_iload 4 C dX9_crossAll_g0.2.2.2.2.1 rfl ?_
      refine wm_bipush (v := 6) C dX9_crossAll_g0.2.2.2.2.2.1 (by decide) ?_
      refine wm_icmp_ge (tgt := 29) C dX9_crossAll_g0.2.2.2.2.2.2.1 (by decide) (fun c1 => ?_) (fun c1 => ?_)
      · have hf := (if_pos c1).symm.trans hf
        refine wm_iload_n 3 C dX9_crossAll_g1.2.2.2.2.2.1 rfl ?_
        exact wm_iret C hrt hf dX9_crossAll_g1.2.2.2.2.2.2
      · have hf := (if_neg c1).symm.trans hf
        refine wm_iload_n 3 C dX9_crossAll_g0.2.2.2.2.2.2.2.1 rfl ?_
        refine wm_aload_n 0 C dX9_crossAll_g0.2.2.2.2.2.2.2.2.1 rfl ?_
        refine wm_iload_n 1 C dX9_crossAll_g0.2.2.2.2.2.2.2.2.2.1 rfl ?_
        refine wm_iload_n 2 C dX9_crossAll_g0.2.2.2.2.2.2.2.2.2.2.1 rfl ?_
        refine wm_iload 4 C dX9_crossAll_g0.2.2.2.2.2.2.2.2.2.2.2 rfl ?_
        obtain ⟨o2, ho3, hf⟩ := bnd hf
        refine wm_callVi (As := [.int v1, .int v2, .int v4]) (ci := 8) C (c_X9_crossOf hPl _ _ _ _ _ ho3) mi_X9_crossOf wt_X9_263 (hPl 100 (by decide) (by decide)) rfl rfl rfl rfl (by decide) (by decide) (Nat.le_of_ble_eq_true rfl) dX9_crossAll_g1.1 ?_
        refine wm_iadd C dX9_crossAll_g1.2.1 ?_
        refine wm_istore_n (lv1 := [(3, .int (v3 + o2.1)), (0, .ref (A 100)), (1, .int v1), (2, .int v2), (4, .int v4)]) C dX9_crossAll_g1.2.2.1 (by decide) rfl ?_
        refine wm_iinc (lv1 := [(4, .int (v4 + 1)), (3, .int (v3 + o2.1)), (0, .ref (A 100)), (1, .int v1), (2, .int v2)]) (v := (v4 + 1)) 4 C dX9_crossAll_g1.2.2.2.1 rfl (by first | rfl | decide) (by decide) rfl ?_
        refine wm_goto (tgt := 5) C dX9_crossAll_g1.2.2.2.2.1 (by decide) ?_
        refine wm_pick [2, 3, 4, 1, 0] rfl ?_
        exact hr _ _ _ _ _ hf
  have hf := ho
  unfold f_X9_crossAll at hf
  refine wm_iconst (v := 0) C dX9_crossAll_g0.1 (by decide) ?_
  refine wm_istore_n (lv1 := [(3, .int 0), (0, .ref (A 100)), (1, .int v1), (2, .int v2)]) C dX9_crossAll_g0.2.1 (by decide) rfl ?_
  refine wm_iconst (v := 0) C dX9_crossAll_g0.2.2.1 (by decide) ?_
  refine wm_istore (lv1 := [(4, .int 0), (3, .int 0), (0, .ref (A 100)), (1, .int v1), (2, .int v2)]) C dX9_crossAll_g0.2.2.2.1 (by decide) rfl ?_
  refine wm_pick [2, 3, 4, 1, 0] rfl ?_
  exact (hl5 FU) _ _ _ _ _ hf
set_option maxHeartbeats 4000000 in
set_option maxRecDepth 100000 in
theorem c_X9_asks {l : Launch} {D : va_G} {cA : Nat → ClassId} {A : Nat → Nat} {Pl : List Nat} (hPl : ∀ q, 100 ≤ q → q < 118 → q ∈ Pl) (v1 : Int32) (v2 : Int32) (v3 : Int32) (M : Mem) (out : (Int32 × Mem)) (ho : f_X9_asks v1 v2 v3 M = some out) : CtI l D cA A Pl yX9_asks cX9_asks 5 111 .int [.ref (A 100), .int v1, .int v2, .int v3] M out := by
  refine ct_I (by decide) (Nat.le_of_ble_eq_true rfl) (fun p e s m args below meth c C hrt => ?_)
  have hf := ho
  unfold f_X9_asks at hf
  refine wm_aload_n 0 C dX9_asks_g0.1 rfl ?_
  refine wm_iload_n 1 C dX9_asks_g0.2.1 rfl ?_
  obtain ⟨o1, ho2, hf⟩ := bnd hf
  refine wm_callVi (As := [.int v1]) (ci := 8) C (c_X9_isDish hPl _ _ _ ho2) mi_X9_isDish wt_X9_94 (hPl 100 (by decide) (by decide)) rfl rfl rfl rfl (by decide) (by decide) (Nat.le_of_ble_eq_true rfl) dX9_asks_g0.2.2.1 ?_
  refine wm_if_eq (tgt := 27) C dX9_asks_g0.2.2.2.1 (by decide) (fun c3 => ?_) (fun c3 => ?_)
  · have hf := (if_pos c3).symm.trans hf
    refine wm_sipush (v := (-1000)) C dX9_asks_g1.2.1 (by decide) ?_
    exact wm_iret C hrt hf dX9_asks_g1.2.2.1
  · have hf := (if_neg c3).symm.trans hf
    refine wm_iload_n 2 C dX9_asks_g0.2.2.2.2.1 rfl ?_
    obtain ⟨o4, ho5, hf⟩ := bnd hf
    refine wm_callSi (As := [.int v2]) C (c_X9_isKitchen hPl _ _ _ ho5) mi_X9_isKitchen wt_X9_91 rfl rfl (by decide) (by decide) (Nat.le_of_ble_eq_true rfl) dX9_asks_g0.2.2.2.2.2.1 ?_
    refine wm_if_eq (tgt := 27) C dX9_asks_g0.2.2.2.2.2.2.1 (by decide) (fun c6 => ?_) (fun c6 => ?_)
    · have hf := (if_pos c6).symm.trans hf
      refine wm_sipush (v := (-1000)) C dX9_asks_g1.2.1 (by decide) ?_
      exact wm_iret C hrt hf dX9_asks_g1.2.2.1
    · have hf := (if_neg c6).symm.trans hf
      refine wm_iload_n 3 C dX9_asks_g0.2.2.2.2.2.2.2.1 rfl ?_
      refine wm_i2l C dX9_asks_g0.2.2.2.2.2.2.2.2.1 ?_
      refine wm_lconst (v := 0) C dX9_asks_g0.2.2.2.2.2.2.2.2.2.1 (by decide) ?_
      refine wm_ldc2 (v := 6) C wt_X9_277 dX9_asks_g0.2.2.2.2.2.2.2.2.2.2.1 ?_
      obtain ⟨o7, ho8, hf⟩ := bnd hf
      refine wm_callSi (As := [.long ((v3 : Int32).toInt64), .long 0, .long 6]) C (c_X9_in hPl _ _ _ _ _ ho8) mi_X9_in wt_X9_79 rfl rfl (by decide) (by decide) (Nat.le_of_ble_eq_true rfl) dX9_asks_g0.2.2.2.2.2.2.2.2.2.2.2 ?_
      refine wm_if_ne (tgt := 31) C dX9_asks_g1.1 (by decide) (fun c9 => ?_) (fun c9 => ?_)
      · have hf := (if_neg c9).symm.trans hf
        refine wm_aload_n 0 C dX9_asks_g1.2.2.2.1 rfl ?_
        refine wm_iload_n 1 C dX9_asks_g1.2.2.2.2.1 rfl ?_
        refine wm_iload_n 2 C dX9_asks_g1.2.2.2.2.2.1 rfl ?_
        obtain ⟨o10, ho11, hf⟩ := bnd hf
        refine wm_callVi (As := [.int v1, .int v2]) (ci := 8) C (c_X9_tollOf hPl _ _ _ _ ho11) mi_X9_tollOf wt_X9_270 (hPl 100 (by decide) (by decide)) rfl rfl rfl rfl (by decide) (by decide) (Nat.le_of_ble_eq_true rfl) dX9_asks_g1.2.2.2.2.2.2.1 ?_
        refine wm_istore (lv1 := [(4, .int o10.1), (0, .ref (A 100)), (1, .int v1), (2, .int v2), (3, .int v3)]) C dX9_asks_g1.2.2.2.2.2.2.2.1 (by decide) rfl ?_
        refine wm_iload_n 4 C dX9_asks_g1.2.2.2.2.2.2.2.2.1 rfl ?_
        refine wm_iconst (v := 3) C dX9_asks_g1.2.2.2.2.2.2.2.2.2.1 (by decide) ?_
        refine wm_icmp_ge (tgt := 82) C dX9_asks_g1.2.2.2.2.2.2.2.2.2.2.1 (by decide) (fun c12 => ?_) (fun c12 => ?_)
        · have hf := (if_pos c12).symm.trans hf
          refine wm_iload_n 4 C dX9_asks_g3.2.2.2.2.2.2.2.2.1 rfl ?_
          refine wm_iconst (v := 5) C dX9_asks_g3.2.2.2.2.2.2.2.2.2.1 (by decide) ?_
          refine wm_icmp_ge (tgt := 107) C dX9_asks_g3.2.2.2.2.2.2.2.2.2.2.1 (by decide) (fun c13 => ?_) (fun c13 => ?_)
          · have hf := (if_pos c13).symm.trans hf
            refine wm_iload_n 4 C dX9_asks_g5.1 rfl ?_
            refine wm_iconst (v := 5) C dX9_asks_g5.2.1 (by decide) ?_
            refine wm_icmp_ne (tgt := 121) C dX9_asks_g5.2.2.1 (by decide) (fun c14 => ?_) (fun c14 => ?_)
            · have hf := (if_neg c14).symm.trans hf
              refine wm_aload_n 1 C dX9_asks_g5.2.2.2.2.2.2.2.2.1 rfl ?_
              refine wm_iload_n 2 C dX9_asks_g5.2.2.2.2.2.2.2.2.2.1 rfl ?_
              refine wm_iload_n 3 C dX9_asks_g5.2.2.2.2.2.2.2.2.2.2.1 rfl ?_
              obtain ⟨o15, ho16, hf⟩ := bnd hf
              refine wm_callVi (As := [.int v1, .int v2]) (ci := 8) C (c_X9_feedsOf hPl _ _ _ _ ho16) mi_X9_feedsOf wt_X9_285 (hPl 100 (by decide) (by decide)) rfl rfl rfl rfl (by decide) (by decide) (Nat.le_of_ble_eq_true rfl) dX9_asks_g5.2.2.2.2.2.2.2.2.2.2.2 ?_
              refine wm_iload 0 C dX9_asks_g6.1 rfl ?_
              refine wm_isub C dX9_asks_g6.2.1 ?_
              exact wm_iret C hrt hf dX9_asks_g6.2.2
            · have hf := (if_pos c14).symm.trans hf
              refine wm_aload_n 1 C dX9_asks_g5.2.2.2.1 rfl ?_
              refine wm_iload_n 2 C dX9_asks_g5.2.2.2.2.1 rfl ?_
              refine wm_iload_n 3 C dX9_asks_g5.2.2.2.2.2.1 rfl ?_
              obtain ⟨o17, ho18, hf⟩ := bnd hf
              refine wm_callVi (As := [.int v1, .int v2]) (ci := 8) C (c_X9_feedsOf hPl _ _ _ _ ho18) mi_X9_feedsOf wt_X9_285 (hPl 100 (by decide) (by decide)) rfl rfl rfl rfl (by decide) (by decide) (Nat.le_of_ble_eq_true rfl) dX9_asks_g5.2.2.2.2.2.2.1 ?_
              refine wm_goto (tgt := 130) C dX9_asks_g5.2.2.2.2.2.2.2.1 (by decide) ?_
              exact wm_iret C hrt hf dX9_asks_g6.2.2
          · have hf := (if_neg c13).symm.trans hf
            refine wm_aload_n 1 C dX9_asks_g3.2.2.2.2.2.2.2.2.2.2.2 rfl ?_
            refine wm_iload_n 2 C dX9_asks_g4.1 rfl ?_
            refine wm_iload_n 3 C dX9_asks_g4.2.1 rfl ?_
            refine wm_iload_n 4 C dX9_asks_g4.2.2.1 rfl ?_
            refine wm_iconst (v := 3) C dX9_asks_g4.2.2.2.1 (by decide) ?_
            refine wm_isub C dX9_asks_g4.2.2.2.2.1 ?_
            refine wm_iload 0 C dX9_asks_g4.2.2.2.2.2.1 rfl ?_
            obtain ⟨o19, ho20, hf⟩ := bnd hf
            refine wm_callVi (As := [.int v1, .int v2, .int (v3 - 3), .int o10.1]) (ci := 8) C (c_X9_signsAt hPl _ _ _ _ _ _ ho20) mi_X9_signsAt wt_X9_273 (hPl 100 (by decide) (by decide)) rfl rfl rfl rfl (by decide) (by decide) (Nat.le_of_ble_eq_true rfl) dX9_asks_g4.2.2.2.2.2.2.1 ?_
            refine wm_if_eq (tgt := 105) C dX9_asks_g4.2.2.2.2.2.2.2.1 (by decide) (fun c21 => ?_) (fun c21 => ?_)
            · have hf := (if_pos c21).symm.trans hf
              refine wm_iconst (v := 0) C dX9_asks_g4.2.2.2.2.2.2.2.2.2.2.1 (by decide) ?_
              exact wm_iret C hrt hf dX9_asks_g4.2.2.2.2.2.2.2.2.2.2.2
            · have hf := (if_neg c21).symm.trans hf
              refine wm_iconst (v := 1) C dX9_asks_g4.2.2.2.2.2.2.2.2.1 (by decide) ?_
              refine wm_goto (tgt := 106) C dX9_asks_g4.2.2.2.2.2.2.2.2.2.1 (by decide) ?_
              exact wm_iret C hrt hf dX9_asks_g4.2.2.2.2.2.2.2.2.2.2.2
        · have hf := (if_neg c12).symm.trans hf
          refine wm_iload_n 4 C dX9_asks_g1.2.2.2.2.2.2.2.2.2.2.2 rfl ?_
          refine wm_if_ne (tgt := 65) C dX9_asks_g2.1 (by decide) (fun c22 => ?_) (fun c22 => ?_)
          · have hf := (if_neg c22).symm.trans hf
            refine wm_iload_n 4 C dX9_asks_g2.2.2.2.2.2.2.2.2.2.2.1 rfl ?_
            refine wm_iconst (v := 1) C dX9_asks_g2.2.2.2.2.2.2.2.2.2.2.2 (by decide) ?_
            refine wm_icmp_ne (tgt := 79) C dX9_asks_g3.1 (by decide) (fun c23 => ?_) (fun c23 => ?_)
            · have hf := (if_neg c23).symm.trans hf
              refine wm_iload 0 C dX9_asks_g3.2.2.2.2.2.2.1 rfl ?_
              exact wm_iret C hrt hf dX9_asks_g3.2.2.2.2.2.2.2.1
            · have hf := (if_pos c23).symm.trans hf
              refine wm_aload_n 1 C dX9_asks_g3.2.1 rfl ?_
              refine wm_iload_n 2 C dX9_asks_g3.2.2.1 rfl ?_
              refine wm_iload_n 3 C dX9_asks_g3.2.2.2.1 rfl ?_
              obtain ⟨o24, ho25, hf⟩ := bnd hf
              refine wm_callVi (As := [.int v1, .int v2]) (ci := 8) C (c_X9_crossAll hPl _ _ _ _ ho25) mi_X9_crossAll wt_X9_282 (hPl 100 (by decide) (by decide)) rfl rfl rfl rfl (by decide) (by decide) (Nat.le_of_ble_eq_true rfl) dX9_asks_g3.2.2.2.2.1 ?_
              refine wm_goto (tgt := 81) C dX9_asks_g3.2.2.2.2.2.1 (by decide) ?_
              exact wm_iret C hrt hf dX9_asks_g3.2.2.2.2.2.2.2.1
          · have hf := (if_pos c22).symm.trans hf
            refine wm_aload_n 1 C dX9_asks_g2.2.1 rfl ?_
            refine wm_iload_n 2 C dX9_asks_g2.2.2.1 rfl ?_
            refine wm_iload_n 3 C dX9_asks_g2.2.2.2.1 rfl ?_
            obtain ⟨o26, ho27, hf⟩ := bnd hf
            refine wm_callVi (As := [.int v1, .int v2]) (ci := 8) C (c_X9_canBe hPl _ _ _ _ ho27) mi_X9_canBe wt_X9_279 (hPl 100 (by decide) (by decide)) rfl rfl rfl rfl (by decide) (by decide) (Nat.le_of_ble_eq_true rfl) dX9_asks_g2.2.2.2.2.1 ?_
            refine wm_if_eq (tgt := 61) C dX9_asks_g2.2.2.2.2.2.1 (by decide) (fun c28 => ?_) (fun c28 => ?_)
            · have hf := (if_pos c28).symm.trans hf
              refine wm_iconst (v := 0) C dX9_asks_g2.2.2.2.2.2.2.2.2.1 (by decide) ?_
              refine wm_goto (tgt := 81) C dX9_asks_g2.2.2.2.2.2.2.2.2.2.1 (by decide) ?_
              exact wm_iret C hrt hf dX9_asks_g3.2.2.2.2.2.2.2.1
            · have hf := (if_neg c28).symm.trans hf
              refine wm_iconst (v := 1) C dX9_asks_g2.2.2.2.2.2.2.1 (by decide) ?_
              refine wm_goto (tgt := 81) C dX9_asks_g2.2.2.2.2.2.2.2.1 (by decide) ?_
              exact wm_iret C hrt hf dX9_asks_g3.2.2.2.2.2.2.2.1
      · have hf := (if_pos c9).symm.trans hf
        refine wm_sipush (v := (-1000)) C dX9_asks_g1.2.1 (by decide) ?_
        exact wm_iret C hrt hf dX9_asks_g1.2.2.1
set_option maxHeartbeats 4000000 in
set_option maxRecDepth 100000 in
theorem c_X9_isCooked {l : Launch} {D : va_G} {cA : Nat → ClassId} {A : Nat → Nat} {Pl : List Nat} (hPl : ∀ q, 100 ≤ q → q < 118 → q ∈ Pl) (v1 : Int32) (v2 : Int32) (M : Mem) (out : (Int32 × Mem)) (ho : f_X9_isCooked v1 v2 M = some out) : CtI l D cA A Pl yX9_isCooked cX9_isCooked 3 112 .boolean [.ref (A 100), .int v1, .int v2] M out := by
  refine ct_I (by decide) (Nat.le_of_ble_eq_true rfl) (fun p e s m args below meth c C hrt => ?_)
  have hf := ho
  unfold f_X9_isCooked at hf
  refine wm_aload_n 0 C dX9_isCooked_g0.1 rfl ?_
  refine wm_iload_n 1 C dX9_isCooked_g0.2.1 rfl ?_
  refine wm_iload_n 2 C dX9_isCooked_g0.2.2.1 rfl ?_
  obtain ⟨o1, ho2, hf⟩ := bnd hf
  refine wm_callVi (As := [.int v1, .int v2]) (ci := 8) C (c_X9_canBe hPl _ _ _ _ ho2) mi_X9_canBe wt_X9_279 (hPl 100 (by decide) (by decide)) rfl rfl rfl rfl (by decide) (by decide) (Nat.le_of_ble_eq_true rfl) dX9_isCooked_g0.2.2.2.1 ?_
  refine wm_if_eq (tgt := 22) C dX9_isCooked_g0.2.2.2.2.1 (by decide) (fun c3 => ?_) (fun c3 => ?_)
  · have hf := (if_pos c3).symm.trans hf
    refine wm_iconst (v := 0) C dX9_isCooked_g1.1 (by decide) ?_
    exact wm_zret C hrt rfl hf dX9_isCooked_g1.2
  · have hf := (if_neg c3).symm.trans hf
    refine wm_aload_n 0 C dX9_isCooked_g0.2.2.2.2.2.1 rfl ?_
    refine wm_iload_n 1 C dX9_isCooked_g0.2.2.2.2.2.2.1 rfl ?_
    refine wm_iload_n 2 C dX9_isCooked_g0.2.2.2.2.2.2.2.1 rfl ?_
    obtain ⟨o4, ho5, hf⟩ := bnd hf
    refine wm_callVi (As := [.int v1, .int v2]) (ci := 8) C (c_X9_isRatified hPl _ _ _ _ ho5) mi_X9_isRatified wt_X9_288 (hPl 100 (by decide) (by decide)) rfl rfl rfl rfl (by decide) (by decide) (Nat.le_of_ble_eq_true rfl) dX9_isCooked_g0.2.2.2.2.2.2.2.2.1 ?_
    refine wm_if_eq (tgt := 22) C dX9_isCooked_g0.2.2.2.2.2.2.2.2.2.1 (by decide) (fun c6 => ?_) (fun c6 => ?_)
    · have hf := (if_pos c6).symm.trans hf
      refine wm_iconst (v := 0) C dX9_isCooked_g1.1 (by decide) ?_
      exact wm_zret C hrt rfl hf dX9_isCooked_g1.2
    · have hf := (if_neg c6).symm.trans hf
      refine wm_iconst (v := 1) C dX9_isCooked_g0.2.2.2.2.2.2.2.2.2.2.1 (by decide) ?_
      refine wm_goto (tgt := 23) C dX9_isCooked_g0.2.2.2.2.2.2.2.2.2.2.2 (by decide) ?_
      exact wm_zret C hrt rfl hf dX9_isCooked_g1.2
set_option maxHeartbeats 4000000 in
set_option maxRecDepth 100000 in
theorem c_X9_uses {l : Launch} {D : va_G} {cA : Nat → ClassId} {A : Nat → Nat} {Pl : List Nat} (hPl : ∀ q, 100 ≤ q → q < 118 → q ∈ Pl) (v1 : Int32) (v2 : Int32) (M : Mem) (out : Mem) (ho : f_X9_uses v1 v2 M = some out) : CtV l D cA A Pl yX9_uses cX9_uses 5 3 [.ref (A 100), .int v1, .int v2] M out := by
  refine ct_V (by decide) (Nat.le_of_ble_eq_true rfl) (fun p e s m args below meth c C hrt => ?_)
  have hl2 : ∀ (n : Nat), ∀ (v1 : Int32) (v2 : Int32) (v3 : Int32) (M : Mem), f_X9_uses_l2 n v1 v2 v3 M = some out → WM p l e (RM 3) s m args below meth c 0 0 (MQ below (QV D cA A Pl out) args s 0 0 (FA A Pl)) D cA A Pl (FA A Pl) 5 M 2 [(0, .ref (A 100)), (1, .int v1), (2, .int v2), (3, .int v3)] [] := by
    intro n
    induction n with
    | zero => intro v1 v2 v3 M hf; rw [f_X9_uses_l2] at hf; cases hf
    | succ n hr =>
      intro v1 v2 v3 M hf
      rw [f_X9_uses_l2] at hf
      refine wm_iload_n 3 C dX9_uses_g0.2.2.1 rfl ?_
      refine wm_bipush (v := 6) C dX9_uses_g0.2.2.2.1 (by decide) ?_
      refine wm_icmp_ge (tgt := 64) C dX9_uses_g0.2.2.2.2.1 (by decide) (fun c1 => ?_) (fun c1 => ?_)
      · have hf := (if_pos c1).symm.trans hf
        exact wm_vret C hrt hf dX9_uses_g3.2.2.2.2.2.2.2.2
      · have hf := (if_neg c1).symm.trans hf
        refine wm_aload_n 0 C dX9_uses_g0.2.2.2.2.2.1 rfl ?_
        refine wm_iload_n 1 C dX9_uses_g0.2.2.2.2.2.2.1 rfl ?_
        refine wm_iload_n 2 C dX9_uses_g0.2.2.2.2.2.2.2.1 rfl ?_
        refine wm_iload_n 3 C dX9_uses_g0.2.2.2.2.2.2.2.2.1 rfl ?_
        obtain ⟨o2, ho3, hf⟩ := bnd hf
        refine wm_callVi (As := [.int v1, .int v2, .int v3]) (ci := 8) C (c_X9_crossOf hPl _ _ _ _ _ ho3) mi_X9_crossOf wt_X9_263 (hPl 100 (by decide) (by decide)) rfl rfl rfl rfl (by decide) (by decide) (Nat.le_of_ble_eq_true rfl) dX9_uses_g0.2.2.2.2.2.2.2.2.2.1 ?_
        refine wm_istore (lv1 := [(4, .int o2.1), (0, .ref (A 100)), (1, .int v1), (2, .int v2), (3, .int v3)]) C dX9_uses_g0.2.2.2.2.2.2.2.2.2.2.1 (by decide) rfl ?_
        refine wm_aload_n 1 C dX9_uses_g0.2.2.2.2.2.2.2.2.2.2.2 rfl ?_
        refine wm_get (ci := 8) (k := 8) (v := .ref (A 104)) C (hPl 100 (by decide) (by decide)) rfl rfl (by decide) wt_X9_23 iwX9 rfl dX9_uses_g1.1 ?_
        refine wm_bipush (v := 6) C dX9_uses_g1.2.1 (by decide) ?_
        refine wm_iload_n 3 C dX9_uses_g1.2.2.1 rfl ?_
        refine wm_imul C dX9_uses_g1.2.2.2.1 ?_
        refine wm_iload_n 4 C dX9_uses_g1.2.2.2.2.1 rfl ?_
        refine wm_iadd C dX9_uses_g1.2.2.2.2.2.1 ?_
        refine wm_dup2 C dX9_uses_g1.2.2.2.2.2.2.1 rfl rfl ?_
        obtain ⟨h4, hf⟩ := ckd hf
        refine wm_iald (n := 12) (j := (((6 * v2) + v3)).toNatClampNeg) (v := (o2.2 104 (((6 * v2) + v3)).toNatClampNeg)) C (hPl 104 (by decide) (by decide)) rfl rfl rfl h4 rfl rfl dX9_uses_g1.2.2.2.2.2.2.2.1 ?_
        refine wm_aload_n 1 C dX9_uses_g1.2.2.2.2.2.2.2.2.1 rfl ?_
        refine wm_iload_n 2 C dX9_uses_g1.2.2.2.2.2.2.2.2.2.1 rfl ?_
        refine wm_iload_n 4 C dX9_uses_g1.2.2.2.2.2.2.2.2.2.2.1 rfl ?_
        obtain ⟨o5, ho6, hf⟩ := bnd hf
        refine wm_callVi (As := [.int v1, .int v3]) (ci := 8) C (c_X9_needsOf hPl _ _ _ _ ho6) mi_X9_needsOf wt_X9_134 (hPl 100 (by decide) (by decide)) rfl rfl rfl rfl (by decide) (by decide) (Nat.le_of_ble_eq_true rfl) dX9_uses_g1.2.2.2.2.2.2.2.2.2.2.2 ?_
        refine wm_iload 0 C dX9_uses_g2.1 rfl ?_
        refine wm_isub C dX9_uses_g2.2.1 ?_
        refine wm_isub C dX9_uses_g2.2.2.1 ?_
        refine wm_iast (n := 12) (j := (((6 * v2) + v3)).toNatClampNeg) (x := ((o2.2 104 (((6 * v2) + v3)).toNatClampNeg) - (o5.1 - o2.1))) C (hPl 104 (by decide) (by decide)) rfl rfl rfl h4 rfl dX9_uses_g2.2.2.2.1 ?_
        refine wm_aload_n 1 C dX9_uses_g2.2.2.2.2.1 rfl ?_
        refine wm_get (ci := 8) (k := 8) (v := .ref (A 104)) C (hPl 100 (by decide) (by decide)) rfl rfl (by decide) wt_X9_23 iwX9 (by first | rfl | simp [fld, mu, upd, mcp]) dX9_uses_g2.2.2.2.2.2.1 ?_
        refine wm_bipush (v := 6) C dX9_uses_g2.2.2.2.2.2.2.1 (by decide) ?_
        refine wm_iconst (v := 1) C dX9_uses_g2.2.2.2.2.2.2.2.1 (by decide) ?_
        refine wm_iload_n 3 C dX9_uses_g2.2.2.2.2.2.2.2.2.1 rfl ?_
        refine wm_isub C dX9_uses_g2.2.2.2.2.2.2.2.2.2.1 ?_
        refine wm_imul C dX9_uses_g2.2.2.2.2.2.2.2.2.2.2.1 ?_
        refine wm_iload_n 4 C dX9_uses_g2.2.2.2.2.2.2.2.2.2.2.2 rfl ?_
        refine wm_iadd C dX9_uses_g3.1 ?_
        refine wm_dup2 C dX9_uses_g3.2.1 rfl rfl ?_
        obtain ⟨h7, hf⟩ := ckd hf
        refine wm_iald (n := 12) (j := (((6 * (1 - v2)) + v3)).toNatClampNeg) (v := ((mu o5.2 104 (((6 * v2) + v3)).toNatClampNeg ((o2.2 104 (((6 * v2) + v3)).toNatClampNeg) - (o5.1 - o2.1))) 104 (((6 * (1 - v2)) + v3)).toNatClampNeg)) C (hPl 104 (by decide) (by decide)) rfl rfl rfl h7 rfl (by first | rfl | simp [mu, upd, mcp]) dX9_uses_g3.2.2.1 ?_
        refine wm_iload 0 C dX9_uses_g3.2.2.2.1 rfl ?_
        refine wm_isub C dX9_uses_g3.2.2.2.2.1 ?_
        refine wm_iast (n := 12) (j := (((6 * (1 - v2)) + v3)).toNatClampNeg) (x := (((mu o5.2 104 (((6 * v2) + v3)).toNatClampNeg ((o2.2 104 (((6 * v2) + v3)).toNatClampNeg) - (o5.1 - o2.1))) 104 (((6 * (1 - v2)) + v3)).toNatClampNeg) - o2.1)) C (hPl 104 (by decide) (by decide)) rfl rfl rfl h7 rfl dX9_uses_g3.2.2.2.2.2.1 ?_
        refine wm_iinc (lv1 := [(3, .int (v3 + 1)), (4, .int o2.1), (0, .ref (A 100)), (1, .int v1), (2, .int v2)]) (v := (v3 + 1)) 4 C dX9_uses_g3.2.2.2.2.2.2.1 rfl (by first | rfl | decide) (by decide) rfl ?_
        refine wm_goto (tgt := 2) C dX9_uses_g3.2.2.2.2.2.2.2.1 (by decide) ?_
        refine wm_pick [2, 3, 4, 0] rfl ?_
        exact hr _ _ _ _ hf
  have hf := ho
  unfold f_X9_uses at hf
  refine wm_iconst (v := 0) C dX9_uses_g0.1 (by decide) ?_
  refine wm_istore_n (lv1 := [(3, .int 0), (0, .ref (A 100)), (1, .int v1), (2, .int v2)]) C dX9_uses_g0.2.1 (by decide) rfl ?_
  refine wm_pick [1, 2, 3, 0] rfl ?_
  exact (hl2 FU) _ _ _ _ hf
set_option maxHeartbeats 4000000 in
set_option maxRecDepth 100000 in
theorem c_X9_counts {l : Launch} {D : va_G} {cA : Nat → ClassId} {A : Nat → Nat} {Pl : List Nat} (hPl : ∀ q, 100 ≤ q → q < 118 → q ∈ Pl) (v1 : Int32) (M : Mem) (out : Mem) (ho : f_X9_counts v1 M = some out) : CtV l D cA A Pl yX9_counts cX9_counts 2 2 [.ref (A 100), .int v1] M out := by
  refine ct_V (by decide) (Nat.le_of_ble_eq_true rfl) (fun p e s m args below meth c C hrt => ?_)
  have hf := ho
  unfold f_X9_counts at hf
  refine wm_aload_n 0 C dX9_counts_g0.1 rfl ?_
  refine wm_get (ci := 8) (k := 11) (v := .ref (A 107)) C (hPl 100 (by decide) (by decide)) rfl rfl (by decide) wt_X9_32 iwX9 rfl dX9_counts_g0.2.1 ?_
  refine wm_iconst (v := 3) C dX9_counts_g0.2.2.1 (by decide) ?_
  refine wm_iload_n 1 C dX9_counts_g0.2.2.2.1 rfl ?_
  refine wm_imul C dX9_counts_g0.2.2.2.2.1 ?_
  refine wm_iconst (v := 2) C dX9_counts_g0.2.2.2.2.2.1 (by decide) ?_
  refine wm_iadd C dX9_counts_g0.2.2.2.2.2.2.1 ?_
  refine wm_aload_n 0 C dX9_counts_g0.2.2.2.2.2.2.2.1 rfl ?_
  refine wm_get (ci := 8) (k := 11) (v := .ref (A 107)) C (hPl 100 (by decide) (by decide)) rfl rfl (by decide) wt_X9_32 iwX9 rfl dX9_counts_g0.2.2.2.2.2.2.2.2.1 ?_
  refine wm_iconst (v := 3) C dX9_counts_g0.2.2.2.2.2.2.2.2.2.1 (by decide) ?_
  refine wm_iload_n 1 C dX9_counts_g0.2.2.2.2.2.2.2.2.2.2.1 rfl ?_
  refine wm_imul C dX9_counts_g0.2.2.2.2.2.2.2.2.2.2.2 ?_
  refine wm_iconst (v := 2) C dX9_counts_g1.1 (by decide) ?_
  refine wm_iadd C dX9_counts_g1.2.1 ?_
  obtain ⟨h1, hf⟩ := ckd hf
  refine wm_iald (n := 18) (j := (((3 * v1) + 2)).toNatClampNeg) (v := (M 107 (((3 * v1) + 2)).toNatClampNeg)) C (hPl 107 (by decide) (by decide)) rfl rfl rfl h1 rfl rfl dX9_counts_g1.2.2.1 ?_
  refine wm_iconst (v := 1) C dX9_counts_g1.2.2.2.1 (by decide) ?_
  refine wm_iadd C dX9_counts_g1.2.2.2.2.1 ?_
  refine wm_iconst (v := 0) C dX9_counts_g1.2.2.2.2.2.1 (by decide) ?_
  refine wm_sipush (v := 999) C dX9_counts_g1.2.2.2.2.2.2.1 (by decide) ?_
  obtain ⟨o2, ho3, hf⟩ := bnd hf
  refine wm_callSi (As := [.int ((M 107 (((3 * v1) + 2)).toNatClampNeg) + 1), .int 0, .int 999]) C (c_X9_within hPl _ _ _ _ _ ho3) mi_X9_within wt_X9_255 rfl rfl (by decide) (by decide) (Nat.le_of_ble_eq_true rfl) dX9_counts_g1.2.2.2.2.2.2.2.1 ?_
  refine wm_iast (n := 18) (j := (((3 * v1) + 2)).toNatClampNeg) (x := o2.1) C (hPl 107 (by decide) (by decide)) rfl rfl rfl h1 rfl dX9_counts_g1.2.2.2.2.2.2.2.2.1 ?_
  exact wm_vret C hrt hf dX9_counts_g1.2.2.2.2.2.2.2.2.2
set_option maxHeartbeats 4000000 in
set_option maxRecDepth 100000 in
theorem c_X9_cook {l : Launch} {D : va_G} {cA : Nat → ClassId} {A : Nat → Nat} {Pl : List Nat} (hPl : ∀ q, 100 ≤ q → q < 118 → q ∈ Pl) (v1 : Int32) (v2 : Int32) (M : Mem) (out : (Int32 × Mem)) (ho : f_X9_cook v1 v2 M = some out) : CtI l D cA A Pl yX9_cook cX9_cook 4 112 .int [.ref (A 100), .int v1, .int v2] M out := by
  refine ct_I (by decide) (Nat.le_of_ble_eq_true rfl) (fun p e s m args below meth c C hrt => ?_)
  have hf := ho
  unfold f_X9_cook at hf
  refine wm_aload_n 0 C dX9_cook_g0.1 rfl ?_
  refine wm_iload_n 1 C dX9_cook_g0.2.1 rfl ?_
  obtain ⟨o1, ho2, hf⟩ := bnd hf
  refine wm_callVi (As := [.int v1]) (ci := 8) C (c_X9_isDish hPl _ _ _ ho2) mi_X9_isDish wt_X9_94 (hPl 100 (by decide) (by decide)) rfl rfl rfl rfl (by decide) (by decide) (Nat.le_of_ble_eq_true rfl) dX9_cook_g0.2.2.1 ?_
  refine wm_if_eq (tgt := 15) C dX9_cook_g0.2.2.2.1 (by decide) (fun c3 => ?_) (fun c3 => ?_)
  · have hf := (if_pos c3).symm.trans hf
    refine wm_sipush (v := (-1000)) C dX9_cook_g0.2.2.2.2.2.2.2.1 (by decide) ?_
    exact wm_iret C hrt hf dX9_cook_g0.2.2.2.2.2.2.2.2.1
  · have hf := (if_neg c3).symm.trans hf
    refine wm_iload_n 2 C dX9_cook_g0.2.2.2.2.1 rfl ?_
    obtain ⟨o4, ho5, hf⟩ := bnd hf
    refine wm_callSi (As := [.int v2]) C (c_X9_isKitchen hPl _ _ _ ho5) mi_X9_isKitchen wt_X9_91 rfl rfl (by decide) (by decide) (Nat.le_of_ble_eq_true rfl) dX9_cook_g0.2.2.2.2.2.1 ?_
    refine wm_if_ne (tgt := 19) C dX9_cook_g0.2.2.2.2.2.2.1 (by decide) (fun c6 => ?_) (fun c6 => ?_)
    · have hf := (if_neg c6).symm.trans hf
      refine wm_aload_n 0 C dX9_cook_g0.2.2.2.2.2.2.2.2.2.1 rfl ?_
      refine wm_iload_n 1 C dX9_cook_g0.2.2.2.2.2.2.2.2.2.2.1 rfl ?_
      refine wm_iload_n 2 C dX9_cook_g0.2.2.2.2.2.2.2.2.2.2.2 rfl ?_
      obtain ⟨o7, ho8, hf⟩ := bnd hf
      refine wm_callVi (As := [.int v1, .int v2]) (ci := 8) C (c_X9_canBe hPl _ _ _ _ ho8) mi_X9_canBe wt_X9_279 (hPl 100 (by decide) (by decide)) rfl rfl rfl rfl (by decide) (by decide) (Nat.le_of_ble_eq_true rfl) dX9_cook_g1.1 ?_
      refine wm_if_ne (tgt := 32) C dX9_cook_g1.2.1 (by decide) (fun c9 => ?_) (fun c9 => ?_)
      · have hf := (if_neg c9).symm.trans hf
        refine wm_aload_n 0 C dX9_cook_g1.2.2.2.2.1 rfl ?_
        refine wm_iload_n 1 C dX9_cook_g1.2.2.2.2.2.1 rfl ?_
        refine wm_iload_n 2 C dX9_cook_g1.2.2.2.2.2.2.1 rfl ?_
        obtain ⟨o10, ho11, hf⟩ := bnd hf
        refine wm_callVi (As := [.int v1, .int v2]) (ci := 8) C (c_X9_isRatified hPl _ _ _ _ ho11) mi_X9_isRatified wt_X9_288 (hPl 100 (by decide) (by decide)) rfl rfl rfl rfl (by decide) (by decide) (Nat.le_of_ble_eq_true rfl) dX9_cook_g1.2.2.2.2.2.2.2.1 ?_
        refine wm_if_ne (tgt := 45) C dX9_cook_g1.2.2.2.2.2.2.2.2.1 (by decide) (fun c12 => ?_) (fun c12 => ?_)
        · have hf := (if_neg c12).symm.trans hf
          refine wm_aload_n 0 C dX9_cook_g1.2.2.2.2.2.2.2.2.2.2.2 rfl ?_
          refine wm_iload_n 1 C dX9_cook_g2.1 rfl ?_
          refine wm_iload_n 2 C dX9_cook_g2.2.1 rfl ?_
          obtain ⟨o13, ho14, hf⟩ := bnd hf
          refine wm_callVi (As := [.int v1, .int v2]) (ci := 8) C (c_X9_feedsOf hPl _ _ _ _ ho14) mi_X9_feedsOf wt_X9_285 (hPl 100 (by decide) (by decide)) rfl rfl rfl rfl (by decide) (by decide) (Nat.le_of_ble_eq_true rfl) dX9_cook_g2.2.2.1 ?_
          refine wm_aload_n 0 C dX9_cook_g2.2.2.2.1 rfl ?_
          refine wm_iload_n 1 C dX9_cook_g2.2.2.2.2.1 rfl ?_
          refine wm_iload_n 2 C dX9_cook_g2.2.2.2.2.2.1 rfl ?_
          obtain ⟨o15, ho16, hf⟩ := bnd hf
          refine wm_callVi (As := [.int v1, .int v2]) (ci := 8) C (c_X9_tollOf hPl _ _ _ _ ho16) mi_X9_tollOf wt_X9_270 (hPl 100 (by decide) (by decide)) rfl rfl rfl rfl (by decide) (by decide) (Nat.le_of_ble_eq_true rfl) dX9_cook_g2.2.2.2.2.2.2.1 ?_
          refine wm_isub C dX9_cook_g2.2.2.2.2.2.2.2.1 ?_
          refine wm_istore_n (lv1 := [(3, .int (o13.1 - o15.1)), (0, .ref (A 100)), (1, .int v1), (2, .int v2)]) C dX9_cook_g2.2.2.2.2.2.2.2.2.1 (by decide) rfl ?_
          refine wm_aload_n 1 C dX9_cook_g2.2.2.2.2.2.2.2.2.2.1 rfl ?_
          refine wm_iload_n 2 C dX9_cook_g2.2.2.2.2.2.2.2.2.2.2.1 rfl ?_
          refine wm_iload_n 3 C dX9_cook_g2.2.2.2.2.2.2.2.2.2.2.2 rfl ?_
          obtain ⟨o17, ho18, hf⟩ := bnd hf
          refine wm_callVv (As := [.int v1, .int v2]) (ci := 8) C (c_X9_uses hPl _ _ _ _ ho18) mi_X9_uses wt_X9_291 (hPl 100 (by decide) (by decide)) rfl rfl rfl rfl (by decide) (by decide) (Nat.le_of_ble_eq_true rfl) dX9_cook_g3.1 ?_
          refine wm_aload_n 1 C dX9_cook_g3.2.1 rfl ?_
          refine wm_iload_n 2 C dX9_cook_g3.2.2.1 rfl ?_
          obtain ⟨o19, ho20, hf⟩ := bnd hf
          refine wm_callVv (As := [.int v1]) (ci := 8) C (c_X9_counts hPl _ _ _ ho20) mi_X9_counts wt_X9_295 (hPl 100 (by decide) (by decide)) rfl rfl rfl rfl (by decide) (by decide) (Nat.le_of_ble_eq_true rfl) dX9_cook_g3.2.2.2.1 ?_
          refine wm_iload_n 0 C dX9_cook_g3.2.2.2.2.1 rfl ?_
          exact wm_iret C hrt hf dX9_cook_g3.2.2.2.2.2
        · have hf := (if_pos c12).symm.trans hf
          refine wm_sipush (v := (-1002)) C dX9_cook_g1.2.2.2.2.2.2.2.2.2.1 (by decide) ?_
          exact wm_iret C hrt hf dX9_cook_g1.2.2.2.2.2.2.2.2.2.2.1
      · have hf := (if_pos c9).symm.trans hf
        refine wm_sipush (v := (-1001)) C dX9_cook_g1.2.2.1 (by decide) ?_
        exact wm_iret C hrt hf dX9_cook_g1.2.2.2.1
    · have hf := (if_pos c6).symm.trans hf
      refine wm_sipush (v := (-1000)) C dX9_cook_g0.2.2.2.2.2.2.2.1 (by decide) ?_
      exact wm_iret C hrt hf dX9_cook_g0.2.2.2.2.2.2.2.2.1
set_option maxHeartbeats 4000000 in
set_option maxRecDepth 100000 in
theorem c_X9_laysAside {l : Launch} {D : va_G} {cA : Nat → ClassId} {A : Nat → Nat} {Pl : List Nat} (hPl : ∀ q, 100 ≤ q → q < 118 → q ∈ Pl) (M : Mem) (out : Mem) (ho : f_X9_laysAside M = some out) : CtV l D cA A Pl yX9_laysAside cX9_laysAside 2 1 [.ref (A 100)] M out := by
  refine ct_V (by decide) (Nat.le_of_ble_eq_true rfl) (fun p e s m args below meth c C hrt => ?_)
  have hl2 : ∀ (n : Nat), ∀ (v1 : Int32) (M : Mem), f_X9_laysAside_l2 n v1 M = some out → WM p l e (RM 1) s m args below meth c 0 0 (MQ below (QV D cA A Pl out) args s 0 0 (FA A Pl)) D cA A Pl (FA A Pl) 2 M 2 [(0, .ref (A 100)), (1, .int v1)] [] := by
    intro n
    induction n with
    | zero => intro v1 M hf; rw [f_X9_laysAside_l2] at hf; cases hf
    | succ n hr =>
      intro v1 M hf
      rw [f_X9_laysAside_l2] at hf
      refine wm_iload_n 1 C dX9_laysAside_g0.2.2.1 rfl ?_
      refine wm_bipush (v := 12) C dX9_laysAside_g0.2.2.2.1 (by decide) ?_
      refine wm_icmp_ge (tgt := 26) C dX9_laysAside_g0.2.2.2.2.1 (by decide) (fun c1 => ?_) (fun c1 => ?_)
      · have hf := (if_pos c1).symm.trans hf
        exact wm_vret C hrt hf dX9_laysAside_g1.2.2.2
      · have hf := (if_neg c1).symm.trans hf
        refine wm_aload_n 0 C dX9_laysAside_g0.2.2.2.2.2.1 rfl ?_
        refine wm_get (ci := 8) (k := 28) (v := .ref (A 108)) C (hPl 100 (by decide) (by decide)) rfl rfl (by decide) wt_X9_35 iwX9 rfl dX9_laysAside_g0.2.2.2.2.2.2.1 ?_
        refine wm_iload_n 1 C dX9_laysAside_g0.2.2.2.2.2.2.2.1 rfl ?_
        refine wm_aload_n 0 C dX9_laysAside_g0.2.2.2.2.2.2.2.2.1 rfl ?_
        refine wm_get (ci := 8) (k := 8) (v := .ref (A 104)) C (hPl 100 (by decide) (by decide)) rfl rfl (by decide) wt_X9_23 iwX9 rfl dX9_laysAside_g0.2.2.2.2.2.2.2.2.2.1 ?_
        refine wm_iload_n 1 C dX9_laysAside_g0.2.2.2.2.2.2.2.2.2.2.1 rfl ?_
        obtain ⟨h2, hf⟩ := ckd hf
        refine wm_iald (n := 12) (j := (v1).toNatClampNeg) (v := (M 104 (v1).toNatClampNeg)) C (hPl 104 (by decide) (by decide)) rfl rfl rfl h2 rfl rfl dX9_laysAside_g0.2.2.2.2.2.2.2.2.2.2.2 ?_
        refine wm_iast (n := 12) (j := (v1).toNatClampNeg) (x := (M 104 (v1).toNatClampNeg)) C (hPl 108 (by decide) (by decide)) rfl rfl rfl h2 rfl dX9_laysAside_g1.1 ?_
        refine wm_iinc (lv1 := [(1, .int (v1 + 1)), (0, .ref (A 100))]) (v := (v1 + 1)) 1 C dX9_laysAside_g1.2.1 rfl (by first | rfl | decide) (by decide) rfl ?_
        refine wm_goto (tgt := 2) C dX9_laysAside_g1.2.2.1 (by decide) ?_
        refine wm_pick [1, 0] rfl ?_
        exact hr _ _ hf
  have hf := ho
  unfold f_X9_laysAside at hf
  refine wm_iconst (v := 0) C dX9_laysAside_g0.1 (by decide) ?_
  refine wm_istore_n (lv1 := [(1, .int 0), (0, .ref (A 100))]) C dX9_laysAside_g0.2.1 (by decide) rfl ?_
  refine wm_pick [1, 0] rfl ?_
  exact (hl2 FU) _ _ hf
set_option maxHeartbeats 4000000 in
set_option maxRecDepth 100000 in
theorem c_X9_laysBack {l : Launch} {D : va_G} {cA : Nat → ClassId} {A : Nat → Nat} {Pl : List Nat} (hPl : ∀ q, 100 ≤ q → q < 118 → q ∈ Pl) (M : Mem) (out : Mem) (ho : f_X9_laysBack M = some out) : CtV l D cA A Pl yX9_laysBack cX9_laysBack 2 1 [.ref (A 100)] M out := by
  refine ct_V (by decide) (Nat.le_of_ble_eq_true rfl) (fun p e s m args below meth c C hrt => ?_)
  have hl2 : ∀ (n : Nat), ∀ (v1 : Int32) (M : Mem), f_X9_laysBack_l2 n v1 M = some out → WM p l e (RM 1) s m args below meth c 0 0 (MQ below (QV D cA A Pl out) args s 0 0 (FA A Pl)) D cA A Pl (FA A Pl) 2 M 2 [(0, .ref (A 100)), (1, .int v1)] [] := by
    intro n
    induction n with
    | zero => intro v1 M hf; rw [f_X9_laysBack_l2] at hf; cases hf
    | succ n hr =>
      intro v1 M hf
      rw [f_X9_laysBack_l2] at hf
      refine wm_iload_n 1 C dX9_laysBack_g0.2.2.1 rfl ?_
      refine wm_bipush (v := 12) C dX9_laysBack_g0.2.2.2.1 (by decide) ?_
      refine wm_icmp_ge (tgt := 26) C dX9_laysBack_g0.2.2.2.2.1 (by decide) (fun c1 => ?_) (fun c1 => ?_)
      · have hf := (if_pos c1).symm.trans hf
        exact wm_vret C hrt hf dX9_laysBack_g1.2.2.2
      · have hf := (if_neg c1).symm.trans hf
        refine wm_aload_n 0 C dX9_laysBack_g0.2.2.2.2.2.1 rfl ?_
        refine wm_get (ci := 8) (k := 8) (v := .ref (A 104)) C (hPl 100 (by decide) (by decide)) rfl rfl (by decide) wt_X9_23 iwX9 rfl dX9_laysBack_g0.2.2.2.2.2.2.1 ?_
        refine wm_iload_n 1 C dX9_laysBack_g0.2.2.2.2.2.2.2.1 rfl ?_
        refine wm_aload_n 0 C dX9_laysBack_g0.2.2.2.2.2.2.2.2.1 rfl ?_
        refine wm_get (ci := 8) (k := 28) (v := .ref (A 108)) C (hPl 100 (by decide) (by decide)) rfl rfl (by decide) wt_X9_35 iwX9 rfl dX9_laysBack_g0.2.2.2.2.2.2.2.2.2.1 ?_
        refine wm_iload_n 1 C dX9_laysBack_g0.2.2.2.2.2.2.2.2.2.2.1 rfl ?_
        obtain ⟨h2, hf⟩ := ckd hf
        refine wm_iald (n := 12) (j := (v1).toNatClampNeg) (v := (M 108 (v1).toNatClampNeg)) C (hPl 108 (by decide) (by decide)) rfl rfl rfl h2 rfl rfl dX9_laysBack_g0.2.2.2.2.2.2.2.2.2.2.2 ?_
        refine wm_iast (n := 12) (j := (v1).toNatClampNeg) (x := (M 108 (v1).toNatClampNeg)) C (hPl 104 (by decide) (by decide)) rfl rfl rfl h2 rfl dX9_laysBack_g1.1 ?_
        refine wm_iinc (lv1 := [(1, .int (v1 + 1)), (0, .ref (A 100))]) (v := (v1 + 1)) 1 C dX9_laysBack_g1.2.1 rfl (by first | rfl | decide) (by decide) rfl ?_
        refine wm_goto (tgt := 2) C dX9_laysBack_g1.2.2.1 (by decide) ?_
        refine wm_pick [1, 0] rfl ?_
        exact hr _ _ hf
  have hf := ho
  unfold f_X9_laysBack at hf
  refine wm_iconst (v := 0) C dX9_laysBack_g0.1 (by decide) ?_
  refine wm_istore_n (lv1 := [(1, .int 0), (0, .ref (A 100))]) C dX9_laysBack_g0.2.1 (by decide) rfl ?_
  refine wm_pick [1, 0] rfl ?_
  exact (hl2 FU) _ _ hf
set_option maxHeartbeats 4000000 in
set_option maxRecDepth 100000 in
theorem c_X9_isMenu {l : Launch} {D : va_G} {cA : Nat → ClassId} {A : Nat → Nat} {Pl : List Nat} (hPl : ∀ q, 100 ≤ q → q < 118 → q ∈ Pl) (v1 : Int32) (M : Mem) (out : (Int32 × Mem)) (ho : f_X9_isMenu v1 M = some out) : CtI l D cA A Pl yX9_isMenu cX9_isMenu 4 1 .boolean [.ref (A 100), .int v1] M out := by
  refine ct_I (by decide) (Nat.le_of_ble_eq_true rfl) (fun p e s m args below meth c C hrt => ?_)
  have hl9 : ∀ (k50 : Int32 → Mem → Option (Int32 × Mem)) (hk50 : ∀ (v2 : Int32) (M : Mem), k50 v2 M = some out → WM p l e (RM 1) s m args below meth c 0 0 (MQ below (QI D cA A Pl out) args s 0 0 (FA A Pl)) D cA A Pl (FA A Pl) 4 M 50 [(2, .int v2)] []) (n : Nat), ∀ (v1 : Int32) (v2 : Int32) (v3 : Int32) (M : Mem), f_X9_isMenu_l9 k50 n v1 v2 v3 M = some out → WM p l e (RM 1) s m args below meth c 0 0 (MQ below (QI D cA A Pl out) args s 0 0 (FA A Pl)) D cA A Pl (FA A Pl) 4 M 9 [(0, .ref (A 100)), (1, .int v1), (2, .int v2), (3, .int v3)] [] := by
    intro k50 hk50 n
    induction n with
    | zero => intro v1 v2 v3 M hf; rw [f_X9_isMenu_l9] at hf; cases hf
    | succ n hr =>
      intro v1 v2 v3 M hf
      rw [f_X9_isMenu_l9] at hf
      refine wm_iload_n 3 C dX9_isMenu_g0.2.2.2.2.2.2.2.1 rfl ?_
      refine wm_if_lt (tgt := 50) C dX9_isMenu_g0.2.2.2.2.2.2.2.2.1 (by decide) (fun c1 => ?_) (fun c1 => ?_)
      · have hf := (if_pos c1).symm.trans hf
        refine wm_pick [2] rfl ?_
        exact hk50 _ _ hf
      · have hf := (if_neg c1).symm.trans hf
        refine wm_aload_n 0 C dX9_isMenu_g0.2.2.2.2.2.2.2.2.2.1 rfl ?_
        refine wm_get (ci := 8) (k := 29) (v := .ref (A 109)) C (hPl 100 (by decide) (by decide)) rfl rfl (by decide) wt_X9_38 iwX9 rfl dX9_isMenu_g0.2.2.2.2.2.2.2.2.2.2.1 ?_
        refine wm_iload_n 3 C dX9_isMenu_g0.2.2.2.2.2.2.2.2.2.2.2 rfl ?_
        refine wm_iload_n 2 C dX9_isMenu_g1.1 rfl ?_
        refine wm_bipush (v := 10) C dX9_isMenu_g1.2.1 (by decide) ?_
        refine wm_irem C (by decide) dX9_isMenu_g1.2.2.1 ?_
        obtain ⟨h2, hf⟩ := ckd hf
        refine wm_iast (n := 6) (j := (v3).toNatClampNeg) (x := (jrem v2 10)) C (hPl 109 (by decide) (by decide)) rfl rfl rfl h2 rfl dX9_isMenu_g1.2.2.2.1 ?_
        refine wm_iload_n 2 C dX9_isMenu_g1.2.2.2.2.1 rfl ?_
        refine wm_bipush (v := 10) C dX9_isMenu_g1.2.2.2.2.2.1 (by decide) ?_
        refine wm_idiv C (by decide) dX9_isMenu_g1.2.2.2.2.2.2.1 ?_
        refine wm_istore_n (lv1 := [(2, .int (v2 / 10)), (0, .ref (A 100)), (1, .int v1), (3, .int v3)]) C dX9_isMenu_g1.2.2.2.2.2.2.2.1 (by decide) rfl ?_
        refine wm_iload_n 2 C dX9_isMenu_g1.2.2.2.2.2.2.2.2.1 rfl ?_
        refine wm_if_lt (tgt := 42) C dX9_isMenu_g1.2.2.2.2.2.2.2.2.2.1 (by decide) (fun c3 => ?_) (fun c3 => ?_)
        · have hf := (if_pos c3).symm.trans hf
          refine wm_iconst (v := 0) C dX9_isMenu_g2.2.2.2.2.1 (by decide) ?_
          exact wm_zret C hrt rfl hf dX9_isMenu_g2.2.2.2.2.2.1
        · have hf := (if_neg c3).symm.trans hf
          refine wm_aload_n 1 C dX9_isMenu_g1.2.2.2.2.2.2.2.2.2.2.1 rfl ?_
          refine wm_get (ci := 8) (k := 29) (v := .ref (A 109)) C (hPl 100 (by decide) (by decide)) rfl rfl (by decide) wt_X9_38 iwX9 (by first | rfl | simp [fld, mu, upd, mcp]) dX9_isMenu_g1.2.2.2.2.2.2.2.2.2.2.2 ?_
          refine wm_iload_n 3 C dX9_isMenu_g2.1 rfl ?_
          refine wm_iald (n := 6) (j := (v3).toNatClampNeg) (v := (jrem v2 10)) C (hPl 109 (by decide) (by decide)) rfl rfl rfl h2 rfl (by first | rfl | simp [mu, upd, mcp]) dX9_isMenu_g2.2.1 ?_
          refine wm_iconst (v := 2) C dX9_isMenu_g2.2.2.1 (by decide) ?_
          refine wm_icmp_le (tgt := 44) C dX9_isMenu_g2.2.2.2.1 (by decide) (fun c4 => ?_) (fun c4 => ?_)
          · have hf := (if_pos c4).symm.trans hf
            refine wm_iinc (lv1 := [(3, .int (v3 + (-1))), (2, .int (v2 / 10)), (0, .ref (A 100)), (1, .int v1)]) (v := (v3 + (-1))) 3 C dX9_isMenu_g2.2.2.2.2.2.2.1 rfl (by first | rfl | decide) (by decide) rfl ?_
            refine wm_goto (tgt := 9) C dX9_isMenu_g2.2.2.2.2.2.2.2.1 (by decide) ?_
            refine wm_pick [2, 3, 1, 0] rfl ?_
            exact hr _ _ _ _ hf
          · have hf := (if_neg c4).symm.trans hf
            refine wm_iconst (v := 0) C dX9_isMenu_g2.2.2.2.2.1 (by decide) ?_
            exact wm_zret C hrt rfl hf dX9_isMenu_g2.2.2.2.2.2.1
  have hb50 : ∀ (v2 : Int32) (M : Mem), f_X9_isMenu_b50 v2 M = some out → WM p l e (RM 1) s m args below meth c 0 0 (MQ below (QI D cA A Pl out) args s 0 0 (FA A Pl)) D cA A Pl (FA A Pl) 4 M 50 [(2, .int v2)] [] := by
    intro v2 M hf
    unfold f_X9_isMenu_b50 at hf
    refine wm_iload_n 0 C dX9_isMenu_g2.2.2.2.2.2.2.2.2.1 rfl ?_
    refine wm_if_ne (tgt := 58) C dX9_isMenu_g2.2.2.2.2.2.2.2.2.2.1 (by decide) (fun c5 => ?_) (fun c5 => ?_)
    · have hf := (if_neg c5).symm.trans hf
      refine wm_iconst (v := 0) C dX9_isMenu_g3.1 (by decide) ?_
      exact wm_zret C hrt rfl hf dX9_isMenu_g3.2
    · have hf := (if_pos c5).symm.trans hf
      refine wm_iconst (v := 1) C dX9_isMenu_g2.2.2.2.2.2.2.2.2.2.2.1 (by decide) ?_
      refine wm_goto (tgt := 59) C dX9_isMenu_g2.2.2.2.2.2.2.2.2.2.2.2 (by decide) ?_
      exact wm_zret C hrt rfl hf dX9_isMenu_g3.2
  have hf := ho
  unfold f_X9_isMenu at hf
  refine wm_iload_n 1 C dX9_isMenu_g0.1 rfl ?_
  refine wm_istore_n (lv1 := [(2, .int v1), (0, .ref (A 100)), (1, .int v1)]) C dX9_isMenu_g0.2.1 (by decide) rfl ?_
  refine wm_aload_n 1 C dX9_isMenu_g0.2.2.1 rfl ?_
  refine wm_get (ci := 8) (k := 12) (v := .int (M 100 12)) C (hPl 100 (by decide) (by decide)) rfl rfl (by decide) wt_X9_76 iwX9 rfl dX9_isMenu_g0.2.2.2.1 ?_
  refine wm_iconst (v := 1) C dX9_isMenu_g0.2.2.2.2.1 (by decide) ?_
  refine wm_isub C dX9_isMenu_g0.2.2.2.2.2.1 ?_
  refine wm_istore_n (lv1 := [(3, .int ((M 100 12) - 1)), (2, .int v1), (0, .ref (A 100)), (1, .int v1)]) C dX9_isMenu_g0.2.2.2.2.2.2.1 (by decide) rfl ?_
  refine wm_pick [2, 3, 1, 0] rfl ?_
  exact (hl9 _ hb50 FU) _ _ _ _ hf
set_option maxHeartbeats 4000000 in
set_option maxRecDepth 100000 in
theorem c_X9_cooksAll {l : Launch} {D : va_G} {cA : Nat → ClassId} {A : Nat → Nat} {Pl : List Nat} (hPl : ∀ q, 100 ≤ q → q < 118 → q ∈ Pl) (M : Mem) (out : (Int32 × Mem)) (ho : f_X9_cooksAll M = some out) : CtI l D cA A Pl yX9_cooksAll cX9_cooksAll 3 113 .int [.ref (A 100)] M out := by
  refine ct_I (by decide) (Nat.le_of_ble_eq_true rfl) (fun p e s m args below meth c C hrt => ?_)
  have hb80 : ∀ (r : Int32 → Mem → Option (Int32 × Mem)) (hr : ∀ (v1 : Int32) (M : Mem), r v1 M = some out → WM p l e (RM 113) s m args below meth c 0 0 (MQ below (QI D cA A Pl out) args s 0 0 (FA A Pl)) D cA A Pl (FA A Pl) 3 M 12 [(0, .ref (A 100)), (1, .int v1)] []), ∀ (v1 : Int32) (M : Mem), f_X9_cooksAll_b80 r v1 M = some out → WM p l e (RM 113) s m args below meth c 0 0 (MQ below (QI D cA A Pl out) args s 0 0 (FA A Pl)) D cA A Pl (FA A Pl) 3 M 80 [(0, .ref (A 100)), (1, .int v1)] [] := by
    intro r hr v1 M hf
    unfold f_X9_cooksAll_b80 at hf
    refine wm_iinc (lv1 := [(1, .int (v1 + 1)), (0, .ref (A 100))]) (v := (v1 + 1)) 1 C dX9_cooksAll_g4.2.2.1 rfl (by first | rfl | decide) (by decide) rfl ?_
    refine wm_goto (tgt := 12) C dX9_cooksAll_g4.2.2.2.1 (by decide) ?_
    refine wm_pick [1, 0] rfl ?_
    exact hr _ _ hf
  have hl12 : ∀ (n : Nat), ∀ (v1 : Int32) (M : Mem), f_X9_cooksAll_l12 n v1 M = some out → WM p l e (RM 113) s m args below meth c 0 0 (MQ below (QI D cA A Pl out) args s 0 0 (FA A Pl)) D cA A Pl (FA A Pl) 3 M 12 [(0, .ref (A 100)), (1, .int v1)] [] := by
    intro n
    induction n with
    | zero => intro v1 M hf; rw [f_X9_cooksAll_l12] at hf; cases hf
    | succ n hr =>
      intro v1 M hf
      rw [f_X9_cooksAll_l12] at hf
      refine wm_iload_n 1 C dX9_cooksAll_g0.2.2.2.2.2.2.2.2.1 rfl ?_
      refine wm_aload_n 0 C dX9_cooksAll_g0.2.2.2.2.2.2.2.2.2.1 rfl ?_
      refine wm_get (ci := 8) (k := 12) (v := .int (M 100 12)) C (hPl 100 (by decide) (by decide)) rfl rfl (by decide) wt_X9_76 iwX9 rfl dX9_cooksAll_g0.2.2.2.2.2.2.2.2.2.2.1 ?_
      refine wm_icmp_ge (tgt := 86) C dX9_cooksAll_g0.2.2.2.2.2.2.2.2.2.2.2 (by decide) (fun c1 => ?_) (fun c1 => ?_)
      · have hf := (if_pos c1).symm.trans hf
        refine wm_iconst (v := (-1)) C dX9_cooksAll_g4.2.2.2.2.1 (by decide) ?_
        exact wm_iret C hrt hf dX9_cooksAll_g4.2.2.2.2.2
      · have hf := (if_neg c1).symm.trans hf
        refine wm_aload_n 0 C dX9_cooksAll_g1.1 rfl ?_
        refine wm_get (ci := 8) (k := 29) (v := .ref (A 109)) C (hPl 100 (by decide) (by decide)) rfl rfl (by decide) wt_X9_38 iwX9 rfl dX9_cooksAll_g1.2.1 ?_
        refine wm_iload_n 1 C dX9_cooksAll_g1.2.2.1 rfl ?_
        obtain ⟨h2, hf⟩ := ckd hf
        refine wm_iald (n := 6) (j := (v1).toNatClampNeg) (v := (M 109 (v1).toNatClampNeg)) C (hPl 109 (by decide) (by decide)) rfl rfl rfl h2 rfl rfl dX9_cooksAll_g1.2.2.2.1 ?_
        refine wm_iconst (v := 1) C dX9_cooksAll_g1.2.2.2.2.1 (by decide) ?_
        refine wm_isub C dX9_cooksAll_g1.2.2.2.2.2.1 ?_
        refine wm_istore_n (lv1 := [(2, .int ((M 109 (v1).toNatClampNeg) - 1)), (0, .ref (A 100)), (1, .int v1)]) C dX9_cooksAll_g1.2.2.2.2.2.2.1 (by decide) rfl ?_
        refine wm_iload_n 0 C dX9_cooksAll_g1.2.2.2.2.2.2.2.1 rfl ?_
        refine wm_if_lt (tgt := 80) C dX9_cooksAll_g1.2.2.2.2.2.2.2.2.1 (by decide) (fun c3 => ?_) (fun c3 => ?_)
        · have hf := (if_pos c3).symm.trans hf
          refine wm_pick [1, 2] rfl ?_
          exact (hb80 _ hr) _ _ hf
        · have hf := (if_neg c3).symm.trans hf
          refine wm_aload_n 1 C dX9_cooksAll_g1.2.2.2.2.2.2.2.2.2.1 rfl ?_
          refine wm_iload_n 2 C dX9_cooksAll_g1.2.2.2.2.2.2.2.2.2.2.1 rfl ?_
          refine wm_iload_n 0 C dX9_cooksAll_g1.2.2.2.2.2.2.2.2.2.2.2 rfl ?_
          obtain ⟨o4, ho5, hf⟩ := bnd hf
          refine wm_callVi (As := [.int v1, .int ((M 109 (v1).toNatClampNeg) - 1)]) (ci := 8) C (c_X9_isCooked hPl _ _ _ _ ho5) mi_X9_isCooked wt_X9_305 (hPl 100 (by decide) (by decide)) rfl rfl rfl rfl (by decide) (by decide) (Nat.le_of_ble_eq_true rfl) dX9_cooksAll_g2.1 ?_
          refine wm_if_ne (tgt := 44) C dX9_cooksAll_g2.2.1 (by decide) (fun c6 => ?_) (fun c6 => ?_)
          · have hf := (if_neg c6).symm.trans hf
            refine wm_aload_n 1 C dX9_cooksAll_g2.2.2.2.2.1 rfl ?_
            refine wm_dup C dX9_cooksAll_g2.2.2.2.2.2.1 rfl ?_
            refine wm_get (ci := 8) (k := 30) (v := .int (o4.2 100 30)) C (hPl 100 (by decide) (by decide)) rfl rfl (by decide) wt_X9_299 iwX9 rfl dX9_cooksAll_g2.2.2.2.2.2.2.1 ?_
            refine wm_aload_n 1 C dX9_cooksAll_g2.2.2.2.2.2.2.2.1 rfl ?_
            refine wm_iload_n 2 C dX9_cooksAll_g2.2.2.2.2.2.2.2.2.1 rfl ?_
            refine wm_iload_n 0 C dX9_cooksAll_g2.2.2.2.2.2.2.2.2.2.1 rfl ?_
            obtain ⟨o7, ho8, hf⟩ := bnd hf
            refine wm_callVi (As := [.int v1, .int ((M 109 (v1).toNatClampNeg) - 1)]) (ci := 8) C (c_X9_feedsOf hPl _ _ _ _ ho8) mi_X9_feedsOf wt_X9_285 (hPl 100 (by decide) (by decide)) rfl rfl rfl rfl (by decide) (by decide) (Nat.le_of_ble_eq_true rfl) dX9_cooksAll_g2.2.2.2.2.2.2.2.2.2.2.1 ?_
            refine wm_iadd C dX9_cooksAll_g2.2.2.2.2.2.2.2.2.2.2.2 ?_
            refine wm_put (ci := 8) (k := 30) (x := ((o4.2 100 30) + o7.1)) C (hPl 100 (by decide) (by decide)) rfl rfl (by decide) wt_X9_299 iwX9 tyX9_ok nmX9 rfl rfl rfl rfl (fun _ => rfl) (Nat.le_of_ble_eq_true rfl) dX9_cooksAll_g3.1 ?_
            refine wm_aload_n 1 C dX9_cooksAll_g3.2.1 rfl ?_
            refine wm_dup C dX9_cooksAll_g3.2.2.1 rfl ?_
            refine wm_get (ci := 8) (k := 31) (v := .int (o7.2 100 31)) C (hPl 100 (by decide) (by decide)) rfl rfl (by decide) wt_X9_302 iwX9 (by first | rfl | simp [fld, mu, upd, mcp]) dX9_cooksAll_g3.2.2.2.1 ?_
            refine wm_aload_n 1 C dX9_cooksAll_g3.2.2.2.2.1 rfl ?_
            refine wm_iload_n 2 C dX9_cooksAll_g3.2.2.2.2.2.1 rfl ?_
            refine wm_iload_n 0 C dX9_cooksAll_g3.2.2.2.2.2.2.1 rfl ?_
            obtain ⟨o9, ho10, hf⟩ := bnd hf
            refine wm_callVi (As := [.int v1, .int ((M 109 (v1).toNatClampNeg) - 1)]) (ci := 8) C (c_X9_tollOf hPl _ _ _ _ ho10) mi_X9_tollOf wt_X9_270 (hPl 100 (by decide) (by decide)) rfl rfl rfl rfl (by decide) (by decide) (Nat.le_of_ble_eq_true rfl) dX9_cooksAll_g3.2.2.2.2.2.2.2.1 ?_
            refine wm_iadd C dX9_cooksAll_g3.2.2.2.2.2.2.2.2.1 ?_
            refine wm_put (ci := 8) (k := 31) (x := ((o7.2 100 31) + o9.1)) C (hPl 100 (by decide) (by decide)) rfl rfl (by decide) wt_X9_302 iwX9 tyX9_ok nmX9 rfl rfl rfl rfl (fun _ => rfl) (Nat.le_of_ble_eq_true rfl) dX9_cooksAll_g3.2.2.2.2.2.2.2.2.2.1 ?_
            refine wm_aload_n 1 C dX9_cooksAll_g3.2.2.2.2.2.2.2.2.2.2.1 rfl ?_
            refine wm_iload_n 2 C dX9_cooksAll_g3.2.2.2.2.2.2.2.2.2.2.2 rfl ?_
            refine wm_iload_n 0 C dX9_cooksAll_g4.1 rfl ?_
            obtain ⟨o11, ho12, hf⟩ := bnd hf
            refine wm_callVv (As := [.int v1, .int ((M 109 (v1).toNatClampNeg) - 1)]) (ci := 8) C (c_X9_uses hPl _ _ _ _ ho12) mi_X9_uses wt_X9_291 (hPl 100 (by decide) (by decide)) rfl rfl rfl rfl (by decide) (by decide) (Nat.le_of_ble_eq_true rfl) dX9_cooksAll_g4.2.1 ?_
            refine wm_pick [1, 2] rfl ?_
            exact (hb80 _ hr) _ _ hf
          · have hf := (if_pos c6).symm.trans hf
            refine wm_iload_n 2 C dX9_cooksAll_g2.2.2.1 rfl ?_
            exact wm_iret C hrt hf dX9_cooksAll_g2.2.2.2.1
  have hf := ho
  unfold f_X9_cooksAll at hf
  refine wm_aload_n 0 C dX9_cooksAll_g0.1 rfl ?_
  refine wm_iconst (v := 0) C dX9_cooksAll_g0.2.1 (by decide) ?_
  refine wm_put (ci := 8) (k := 30) (x := 0) C (hPl 100 (by decide) (by decide)) rfl rfl (by decide) wt_X9_299 iwX9 tyX9_ok nmX9 rfl rfl rfl rfl (fun _ => rfl) (Nat.le_of_ble_eq_true rfl) dX9_cooksAll_g0.2.2.1 ?_
  refine wm_aload_n 0 C dX9_cooksAll_g0.2.2.2.1 rfl ?_
  refine wm_iconst (v := 0) C dX9_cooksAll_g0.2.2.2.2.1 (by decide) ?_
  refine wm_put (ci := 8) (k := 31) (x := 0) C (hPl 100 (by decide) (by decide)) rfl rfl (by decide) wt_X9_302 iwX9 tyX9_ok nmX9 rfl rfl rfl rfl (fun _ => rfl) (Nat.le_of_ble_eq_true rfl) dX9_cooksAll_g0.2.2.2.2.2.1 ?_
  refine wm_iconst (v := 0) C dX9_cooksAll_g0.2.2.2.2.2.2.1 (by decide) ?_
  refine wm_istore_n (lv1 := [(1, .int 0), (0, .ref (A 100))]) C dX9_cooksAll_g0.2.2.2.2.2.2.2.1 (by decide) rfl ?_
  refine wm_pick [1, 0] rfl ?_
  exact (hl12 FU) _ _ hf
set_option maxHeartbeats 4000000 in
set_option maxRecDepth 100000 in
theorem c_X9_menu {l : Launch} {D : va_G} {cA : Nat → ClassId} {A : Nat → Nat} {Pl : List Nat} (hPl : ∀ q, 100 ≤ q → q < 118 → q ∈ Pl) (v1 : Int32) (v2 : Int32) (M : Mem) (out : (Int32 × Mem)) (ho : f_X9_menu v1 v2 M = some out) : CtI l D cA A Pl yX9_menu cX9_menu 4 114 .int [.ref (A 100), .int v1, .int v2] M out := by
  refine ct_I (by decide) (Nat.le_of_ble_eq_true rfl) (fun p e s m args below meth c C hrt => ?_)
  have hb45 : ∀ (v2 : Int32) (v3 : Int32) (M : Mem), f_X9_menu_b45 v2 v3 M = some out → WM p l e (RM 114) s m args below meth c 0 0 (MQ below (QI D cA A Pl out) args s 0 0 (FA A Pl)) D cA A Pl (FA A Pl) 4 M 45 [(2, .int v2), (3, .int v3)] [] := by
    intro v2 v3 M hf
    unfold f_X9_menu_b45 at hf
    refine wm_iload_n 0 C dX9_menu_g2.1 rfl ?_
    refine wm_iconst (v := 4) C dX9_menu_g2.2.1 (by decide) ?_
    refine wm_icmp_ne (tgt := 54) C dX9_menu_g2.2.2.1 (by decide) (fun c18 => ?_) (fun c18 => ?_)
    · have hf := (if_neg c18).symm.trans hf
      refine wm_iload_n 1 C dX9_menu_g2.2.2.2.2.2.1 rfl ?_
      refine wm_iconst (v := (-1)) C dX9_menu_g2.2.2.2.2.2.2.1 (by decide) ?_
      refine wm_icmp_ne (tgt := 63) C dX9_menu_g2.2.2.2.2.2.2.2.1 (by decide) (fun c19 => ?_) (fun c19 => ?_)
      · have hf := (if_neg c19).symm.trans hf
        refine wm_iconst (v := 0) C dX9_menu_g2.2.2.2.2.2.2.2.2.2.2.1 (by decide) ?_
        exact wm_iret C hrt hf dX9_menu_g2.2.2.2.2.2.2.2.2.2.2.2
      · have hf := (if_pos c19).symm.trans hf
        refine wm_iconst (v := 1) C dX9_menu_g2.2.2.2.2.2.2.2.2.1 (by decide) ?_
        refine wm_goto (tgt := 64) C dX9_menu_g2.2.2.2.2.2.2.2.2.2.1 (by decide) ?_
        exact wm_iret C hrt hf dX9_menu_g2.2.2.2.2.2.2.2.2.2.2.2
    · have hf := (if_pos c18).symm.trans hf
      refine wm_iload_n 1 C dX9_menu_g2.2.2.2.1 rfl ?_
      refine wm_goto (tgt := 64) C dX9_menu_g2.2.2.2.2.1 (by decide) ?_
      exact wm_iret C hrt hf dX9_menu_g2.2.2.2.2.2.2.2.2.2.2.2
  have hf := ho
  unfold f_X9_menu at hf
  refine wm_aload_n 0 C dX9_menu_g0.1 rfl ?_
  refine wm_iload_n 1 C dX9_menu_g0.2.1 rfl ?_
  obtain ⟨o1, ho2, hf⟩ := bnd hf
  refine wm_callVi (As := [.int v1]) (ci := 8) C (c_X9_isMenu hPl _ _ _ ho2) mi_X9_isMenu wt_X9_308 (hPl 100 (by decide) (by decide)) rfl rfl rfl rfl (by decide) (by decide) (Nat.le_of_ble_eq_true rfl) dX9_menu_g0.2.2.1 ?_
  refine wm_if_eq (tgt := 20) C dX9_menu_g0.2.2.2.1 (by decide) (fun c3 => ?_) (fun c3 => ?_)
  · have hf := (if_pos c3).symm.trans hf
    refine wm_bipush (v := (-2)) C dX9_menu_g0.2.2.2.2.2.2.2.2.2.2.1 (by decide) ?_
    exact wm_iret C hrt hf dX9_menu_g0.2.2.2.2.2.2.2.2.2.2.2
  · have hf := (if_neg c3).symm.trans hf
    refine wm_iload_n 2 C dX9_menu_g0.2.2.2.2.1 rfl ?_
    refine wm_i2l C dX9_menu_g0.2.2.2.2.2.1 ?_
    refine wm_lconst (v := 0) C dX9_menu_g0.2.2.2.2.2.2.1 (by decide) ?_
    refine wm_ldc2 (v := 4) C wt_X9_98 dX9_menu_g0.2.2.2.2.2.2.2.1 ?_
    obtain ⟨o4, ho5, hf⟩ := bnd hf
    refine wm_callSi (As := [.long ((v2 : Int32).toInt64), .long 0, .long 4]) C (c_X9_in hPl _ _ _ _ _ ho5) mi_X9_in wt_X9_79 rfl rfl (by decide) (by decide) (Nat.le_of_ble_eq_true rfl) dX9_menu_g0.2.2.2.2.2.2.2.2.1 ?_
    refine wm_if_ne (tgt := 23) C dX9_menu_g0.2.2.2.2.2.2.2.2.2.1 (by decide) (fun c6 => ?_) (fun c6 => ?_)
    · have hf := (if_neg c6).symm.trans hf
      refine wm_aload_n 0 C dX9_menu_g1.1 rfl ?_
      obtain ⟨o7, ho8, hf⟩ := bnd hf
      refine wm_callVv (As := []) (ci := 8) C (c_X9_laysAside hPl  _ _ ho8) mi_X9_laysAside wt_X9_311 (hPl 100 (by decide) (by decide)) rfl rfl rfl rfl (by decide) (by decide) (Nat.le_of_ble_eq_true rfl) dX9_menu_g1.2.1 ?_
      refine wm_aload_n 0 C dX9_menu_g1.2.2.1 rfl ?_
      obtain ⟨o9, ho10, hf⟩ := bnd hf
      refine wm_callVi (As := []) (ci := 8) C (c_X9_cooksAll hPl  _ _ ho10) mi_X9_cooksAll wt_X9_314 (hPl 100 (by decide) (by decide)) rfl rfl rfl rfl (by decide) (by decide) (Nat.le_of_ble_eq_true rfl) dX9_menu_g1.2.2.2.1 ?_
      refine wm_istore_n (lv1 := [(3, .int o9.1), (0, .ref (A 100)), (1, .int v1), (2, .int v2)]) C dX9_menu_g1.2.2.2.2.1 (by decide) rfl ?_
      refine wm_aload_n 1 C dX9_menu_g1.2.2.2.2.2.1 rfl ?_
      obtain ⟨o11, ho12, hf⟩ := bnd hf
      refine wm_callVv (As := []) (ci := 8) C (c_X9_laysBack hPl  _ _ ho12) mi_X9_laysBack wt_X9_317 (hPl 100 (by decide) (by decide)) rfl rfl rfl rfl (by decide) (by decide) (Nat.le_of_ble_eq_true rfl) dX9_menu_g1.2.2.2.2.2.2.1 ?_
      refine wm_iload_n 3 C dX9_menu_g1.2.2.2.2.2.2.2.1 rfl ?_
      refine wm_if_eq (tgt := 45) C dX9_menu_g1.2.2.2.2.2.2.2.2.1 (by decide) (fun c13 => ?_) (fun c13 => ?_)
      · have hf := (if_pos c13).symm.trans hf
        refine wm_pick [3, 0] rfl ?_
        exact hb45 _ _ _ hf
      · have hf := (if_neg c13).symm.trans hf
        refine wm_iload_n 3 C dX9_menu_g1.2.2.2.2.2.2.2.2.2.1 rfl ?_
        refine wm_iconst (v := 4) C dX9_menu_g1.2.2.2.2.2.2.2.2.2.2.1 (by decide) ?_
        refine wm_icmp_ne (tgt := 65) C dX9_menu_g1.2.2.2.2.2.2.2.2.2.2.2 (by decide) (fun c14 => ?_) (fun c14 => ?_)
        · have hf := (if_neg c14).symm.trans hf
          refine wm_iload_n 0 C dX9_menu_g3.1 rfl ?_
          refine wm_iconst (v := (-1)) C dX9_menu_g3.2.1 (by decide) ?_
          refine wm_icmp_eq (tgt := 76) C dX9_menu_g3.2.2.1 (by decide) (fun c15 => ?_) (fun c15 => ?_)
          · have hf := (if_pos c15).symm.trans hf
            refine wm_iload_n 3 C dX9_menu_g3.2.2.2.2.2.1 rfl ?_
            refine wm_iconst (v := 1) C dX9_menu_g3.2.2.2.2.2.2.1 (by decide) ?_
            refine wm_icmp_ne (tgt := 93) C dX9_menu_g3.2.2.2.2.2.2.2.1 (by decide) (fun c16 => ?_) (fun c16 => ?_)
            · have hf := (if_neg c16).symm.trans hf
              refine wm_iload_n 3 C dX9_menu_g4.2.2.1 rfl ?_
              refine wm_iconst (v := 2) C dX9_menu_g4.2.2.2.1 (by decide) ?_
              refine wm_icmp_ne (tgt := 105) C dX9_menu_g4.2.2.2.2.1 (by decide) (fun c17 => ?_) (fun c17 => ?_)
              · have hf := (if_neg c17).symm.trans hf
                refine wm_aload_n 1 C dX9_menu_g4.2.2.2.2.2.2.2.2.1 rfl ?_
                refine wm_get (ci := 8) (k := 31) (v := .int (o11 100 31)) C (hPl 100 (by decide) (by decide)) rfl rfl (by decide) wt_X9_302 iwX9 rfl dX9_menu_g4.2.2.2.2.2.2.2.2.2.1 ?_
                exact wm_iret C hrt hf dX9_menu_g4.2.2.2.2.2.2.2.2.2.2
              · have hf := (if_pos c17).symm.trans hf
                refine wm_aload_n 1 C dX9_menu_g4.2.2.2.2.2.1 rfl ?_
                refine wm_get (ci := 8) (k := 30) (v := .int (o11 100 30)) C (hPl 100 (by decide) (by decide)) rfl rfl (by decide) wt_X9_299 iwX9 rfl dX9_menu_g4.2.2.2.2.2.2.1 ?_
                refine wm_goto (tgt := 109) C dX9_menu_g4.2.2.2.2.2.2.2.1 (by decide) ?_
                exact wm_iret C hrt hf dX9_menu_g4.2.2.2.2.2.2.2.2.2.2
            · have hf := (if_pos c16).symm.trans hf
              refine wm_aload_n 1 C dX9_menu_g3.2.2.2.2.2.2.2.2.1 rfl ?_
              refine wm_get (ci := 8) (k := 30) (v := .int (o11 100 30)) C (hPl 100 (by decide) (by decide)) rfl rfl (by decide) wt_X9_299 iwX9 rfl dX9_menu_g3.2.2.2.2.2.2.2.2.2.1 ?_
              refine wm_aload_n 1 C dX9_menu_g3.2.2.2.2.2.2.2.2.2.2.1 rfl ?_
              refine wm_get (ci := 8) (k := 31) (v := .int (o11 100 31)) C (hPl 100 (by decide) (by decide)) rfl rfl (by decide) wt_X9_302 iwX9 rfl dX9_menu_g3.2.2.2.2.2.2.2.2.2.2.2 ?_
              refine wm_isub C dX9_menu_g4.1 ?_
              refine wm_goto (tgt := 109) C dX9_menu_g4.2.1 (by decide) ?_
              exact wm_iret C hrt hf dX9_menu_g4.2.2.2.2.2.2.2.2.2.2
          · have hf := (if_neg c15).symm.trans hf
            refine wm_ldc_w (v := (-100000)) C wt_X9_320 dX9_menu_g3.2.2.2.1 ?_
            refine wm_goto (tgt := 109) C dX9_menu_g3.2.2.2.2.1 (by decide) ?_
            exact wm_iret C hrt hf dX9_menu_g4.2.2.2.2.2.2.2.2.2.2
        · have hf := (if_pos c14).symm.trans hf
          refine wm_pick [3, 0] rfl ?_
          exact hb45 _ _ _ hf
    · have hf := (if_pos c6).symm.trans hf
      refine wm_bipush (v := (-2)) C dX9_menu_g0.2.2.2.2.2.2.2.2.2.2.1 (by decide) ?_
      exact wm_iret C hrt hf dX9_menu_g0.2.2.2.2.2.2.2.2.2.2.2
set_option maxHeartbeats 4000000 in
set_option maxRecDepth 100000 in
theorem c_X9_serve {l : Launch} {D : va_G} {cA : Nat → ClassId} {A : Nat → Nat} {Pl : List Nat} (hPl : ∀ q, 100 ≤ q → q < 118 → q ∈ Pl) (v1 : Int32) (M : Mem) (out : (Int32 × Mem)) (ho : f_X9_serve v1 M = some out) : CtI l D cA A Pl yX9_serve cX9_serve 4 114 .int [.ref (A 100), .int v1] M out := by
  refine ct_I (by decide) (Nat.le_of_ble_eq_true rfl) (fun p e s m args below meth c C hrt => ?_)
  have hb36 : ∀ (v2 : Int32) (M : Mem), f_X9_serve_b36 v2 M = some out → WM p l e (RM 114) s m args below meth c 0 0 (MQ below (QI D cA A Pl out) args s 0 0 (FA A Pl)) D cA A Pl (FA A Pl) 4 M 36 [(0, .ref (A 100)), (2, .int v2)] [] := by
    intro v2 M hf
    unfold f_X9_serve_b36 at hf
    refine wm_aload_n 0 C dX9_serve_g1.2.2.2.2.2.2.1 rfl ?_
    obtain ⟨o15, ho16, hf⟩ := bnd hf
    refine wm_callVv (As := []) (ci := 8) C (c_X9_laysBack hPl  _ _ ho16) mi_X9_laysBack wt_X9_317 (hPl 100 (by decide) (by decide)) rfl rfl rfl rfl (by decide) (by decide) (Nat.le_of_ble_eq_true rfl) dX9_serve_g1.2.2.2.2.2.2.2.1 ?_
    refine wm_iload_n 1 C dX9_serve_g1.2.2.2.2.2.2.2.2.1 rfl ?_
    refine wm_iconst (v := (-1)) C dX9_serve_g1.2.2.2.2.2.2.2.2.2.1 (by decide) ?_
    refine wm_icmp_eq (tgt := 51) C dX9_serve_g1.2.2.2.2.2.2.2.2.2.2.1 (by decide) (fun c17 => ?_) (fun c17 => ?_)
    · have hf := (if_pos c17).symm.trans hf
      refine wm_ldc_w (v := (-100003)) C wt_X9_323 dX9_serve_g2.2.1 ?_
      exact wm_iret C hrt hf dX9_serve_g2.2.2.1
    · have hf := (if_neg c17).symm.trans hf
      refine wm_ldc_w (v := (-100002)) C wt_X9_322 dX9_serve_g1.2.2.2.2.2.2.2.2.2.2.2 ?_
      refine wm_goto (tgt := 54) C dX9_serve_g2.1 (by decide) ?_
      exact wm_iret C hrt hf dX9_serve_g2.2.2.1
  have hb79 : ∀ (r : Int32 → Mem → Option (Int32 × Mem)) (hr : ∀ (v3 : Int32) (M : Mem), r v3 M = some out → WM p l e (RM 114) s m args below meth c 0 0 (MQ below (QI D cA A Pl out) args s 0 0 (FA A Pl)) D cA A Pl (FA A Pl) 4 M 57 [(0, .ref (A 100)), (3, .int v3)] []) (k85 : Mem → Option (Int32 × Mem)) (hk85 : ∀  (M : Mem), k85  M = some out → WM p l e (RM 114) s m args below meth c 0 0 (MQ below (QI D cA A Pl out) args s 0 0 (FA A Pl)) D cA A Pl (FA A Pl) 4 M 85 [(0, .ref (A 100))] []), ∀ (v3 : Int32) (M : Mem), f_X9_serve_b79 r k85 v3 M = some out → WM p l e (RM 114) s m args below meth c 0 0 (MQ below (QI D cA A Pl out) args s 0 0 (FA A Pl)) D cA A Pl (FA A Pl) 4 M 79 [(0, .ref (A 100)), (3, .int v3)] [] := by
    intro r hr k85 hk85 v3 M hf
    unfold f_X9_serve_b79 at hf
    refine wm_iinc (lv1 := [(3, .int (v3 + 1)), (0, .ref (A 100))]) (v := (v3 + 1)) 1 C dX9_serve_g3.2.2.2.2.2.1 rfl (by first | rfl | decide) (by decide) rfl ?_
    refine wm_goto (tgt := 57) C dX9_serve_g3.2.2.2.2.2.2.1 (by decide) ?_
    refine wm_pick [1, 0] rfl ?_
    exact hr _ _ hf
  have hl57 : ∀ (k85 : Mem → Option (Int32 × Mem)) (hk85 : ∀  (M : Mem), k85  M = some out → WM p l e (RM 114) s m args below meth c 0 0 (MQ below (QI D cA A Pl out) args s 0 0 (FA A Pl)) D cA A Pl (FA A Pl) 4 M 85 [(0, .ref (A 100))] []) (n : Nat), ∀ (v3 : Int32) (M : Mem), f_X9_serve_l57 k85 n v3 M = some out → WM p l e (RM 114) s m args below meth c 0 0 (MQ below (QI D cA A Pl out) args s 0 0 (FA A Pl)) D cA A Pl (FA A Pl) 4 M 57 [(0, .ref (A 100)), (3, .int v3)] [] := by
    intro k85 hk85 n
    induction n with
    | zero => intro v3 M hf; rw [f_X9_serve_l57] at hf; cases hf
    | succ n hr =>
      intro v3 M hf
      rw [f_X9_serve_l57] at hf
      refine wm_iload_n 1 C dX9_serve_g2.2.2.2.2.2.1 rfl ?_
      refine wm_aload_n 0 C dX9_serve_g2.2.2.2.2.2.2.1 rfl ?_
      refine wm_get (ci := 8) (k := 12) (v := .int (M 100 12)) C (hPl 100 (by decide) (by decide)) rfl rfl (by decide) wt_X9_76 iwX9 rfl dX9_serve_g2.2.2.2.2.2.2.2.1 ?_
      refine wm_icmp_ge (tgt := 85) C dX9_serve_g2.2.2.2.2.2.2.2.2.1 (by decide) (fun c10 => ?_) (fun c10 => ?_)
      · have hf := (if_pos c10).symm.trans hf
        refine wm_pick [0] rfl ?_
        exact hk85 _ hf
      · have hf := (if_neg c10).symm.trans hf
        refine wm_aload_n 0 C dX9_serve_g2.2.2.2.2.2.2.2.2.2.1 rfl ?_
        refine wm_get (ci := 8) (k := 29) (v := .ref (A 109)) C (hPl 100 (by decide) (by decide)) rfl rfl (by decide) wt_X9_38 iwX9 rfl dX9_serve_g2.2.2.2.2.2.2.2.2.2.2.1 ?_
        refine wm_iload_n 1 C dX9_serve_g2.2.2.2.2.2.2.2.2.2.2.2 rfl ?_
        obtain ⟨h11, hf⟩ := ckd hf
        refine wm_iald (n := 6) (j := (v3).toNatClampNeg) (v := (M 109 (v3).toNatClampNeg)) C (hPl 109 (by decide) (by decide)) rfl rfl rfl h11 rfl rfl dX9_serve_g3.1 ?_
        refine wm_if_le (tgt := 79) C dX9_serve_g3.2.1 (by decide) (fun c12 => ?_) (fun c12 => ?_)
        · have hf := (if_pos c12).symm.trans hf
          exact (hb79 _ hr _ hk85) _ _ hf
        · have hf := (if_neg c12).symm.trans hf
          refine wm_aload_n 0 C dX9_serve_g3.2.2.1 rfl ?_
          refine wm_iload_n 1 C dX9_serve_g3.2.2.2.1 rfl ?_
          obtain ⟨o13, ho14, hf⟩ := bnd hf
          refine wm_callVv (As := [.int v3]) (ci := 8) C (c_X9_counts hPl _ _ _ ho14) mi_X9_counts wt_X9_295 (hPl 100 (by decide) (by decide)) rfl rfl rfl rfl (by decide) (by decide) (Nat.le_of_ble_eq_true rfl) dX9_serve_g3.2.2.2.2.1 ?_
          exact (hb79 _ hr _ hk85) _ _ hf
  have hb85 : ∀  (M : Mem), f_X9_serve_b85  M = some out → WM p l e (RM 114) s m args below meth c 0 0 (MQ below (QI D cA A Pl out) args s 0 0 (FA A Pl)) D cA A Pl (FA A Pl) 4 M 85 [(0, .ref (A 100))] [] := by
    intro  M hf
    unfold f_X9_serve_b85 at hf
    refine wm_aload_n 0 C dX9_serve_g3.2.2.2.2.2.2.2.1 rfl ?_
    refine wm_dup C dX9_serve_g3.2.2.2.2.2.2.2.2.1 rfl ?_
    refine wm_get (ci := 8) (k := 7) (v := .int (M 100 7)) C (hPl 100 (by decide) (by decide)) rfl rfl (by decide) wt_X9_116 iwX9 rfl dX9_serve_g3.2.2.2.2.2.2.2.2.2.1 ?_
    refine wm_iconst (v := 1) C dX9_serve_g3.2.2.2.2.2.2.2.2.2.2.1 (by decide) ?_
    refine wm_iadd C dX9_serve_g3.2.2.2.2.2.2.2.2.2.2.2 ?_
    refine wm_put (ci := 8) (k := 7) (x := ((M 100 7) + 1)) C (hPl 100 (by decide) (by decide)) rfl rfl (by decide) wt_X9_116 iwX9 tyX9_ok nmX9 rfl rfl rfl rfl (fun _ => rfl) (Nat.le_of_ble_eq_true rfl) dX9_serve_g4.1 ?_
    refine wm_aload_n 0 C dX9_serve_g4.2.1 rfl ?_
    refine wm_get (ci := 8) (k := 30) (v := .int (M 100 30)) C (hPl 100 (by decide) (by decide)) rfl rfl (by decide) wt_X9_299 iwX9 (by first | rfl | simp [fld, mu, upd, mcp]) dX9_serve_g4.2.2.1 ?_
    refine wm_aload_n 0 C dX9_serve_g4.2.2.2.1 rfl ?_
    refine wm_get (ci := 8) (k := 31) (v := .int (M 100 31)) C (hPl 100 (by decide) (by decide)) rfl rfl (by decide) wt_X9_302 iwX9 (by first | rfl | simp [fld, mu, upd, mcp]) dX9_serve_g4.2.2.2.2.1 ?_
    refine wm_isub C dX9_serve_g4.2.2.2.2.2.1 ?_
    exact wm_iret C hrt hf dX9_serve_g4.2.2.2.2.2.2
  have hf := ho
  unfold f_X9_serve at hf
  refine wm_aload_n 0 C dX9_serve_g0.1 rfl ?_
  refine wm_iload_n 1 C dX9_serve_g0.2.1 rfl ?_
  obtain ⟨o1, ho2, hf⟩ := bnd hf
  refine wm_callVi (As := [.int v1]) (ci := 8) C (c_X9_isMenu hPl _ _ _ ho2) mi_X9_isMenu wt_X9_308 (hPl 100 (by decide) (by decide)) rfl rfl rfl rfl (by decide) (by decide) (Nat.le_of_ble_eq_true rfl) dX9_serve_g0.2.2.1 ?_
  refine wm_if_ne (tgt := 12) C dX9_serve_g0.2.2.2.1 (by decide) (fun c3 => ?_) (fun c3 => ?_)
  · have hf := (if_neg c3).symm.trans hf
    refine wm_aload_n 0 C dX9_serve_g0.2.2.2.2.2.2.1 rfl ?_
    obtain ⟨o4, ho5, hf⟩ := bnd hf
    refine wm_callVv (As := []) (ci := 8) C (c_X9_laysAside hPl  _ _ ho5) mi_X9_laysAside wt_X9_311 (hPl 100 (by decide) (by decide)) rfl rfl rfl rfl (by decide) (by decide) (Nat.le_of_ble_eq_true rfl) dX9_serve_g0.2.2.2.2.2.2.2.1 ?_
    refine wm_aload_n 0 C dX9_serve_g0.2.2.2.2.2.2.2.2.1 rfl ?_
    obtain ⟨o6, ho7, hf⟩ := bnd hf
    refine wm_callVi (As := []) (ci := 8) C (c_X9_cooksAll hPl  _ _ ho7) mi_X9_cooksAll wt_X9_314 (hPl 100 (by decide) (by decide)) rfl rfl rfl rfl (by decide) (by decide) (Nat.le_of_ble_eq_true rfl) dX9_serve_g0.2.2.2.2.2.2.2.2.2.1 ?_
    refine wm_istore_n (lv1 := [(2, .int o6.1), (0, .ref (A 100)), (1, .int v1)]) C dX9_serve_g0.2.2.2.2.2.2.2.2.2.2.1 (by decide) rfl ?_
    refine wm_iload_n 0 C dX9_serve_g0.2.2.2.2.2.2.2.2.2.2.2 rfl ?_
    refine wm_iconst (v := (-1)) C dX9_serve_g1.1 (by decide) ?_
    refine wm_icmp_ne (tgt := 36) C dX9_serve_g1.2.1 (by decide) (fun c8 => ?_) (fun c8 => ?_)
    · have hf := (if_neg c8).symm.trans hf
      refine wm_pick [1, 0] rfl ?_
      exact hb36 _ _ hf
    · have hf := (if_pos c8).symm.trans hf
      refine wm_aload_n 1 C dX9_serve_g1.2.2.1 rfl ?_
      refine wm_get (ci := 8) (k := 7) (v := .int (o6.2 100 7)) C (hPl 100 (by decide) (by decide)) rfl rfl (by decide) wt_X9_116 iwX9 rfl dX9_serve_g1.2.2.2.1 ?_
      refine wm_sipush (v := 999) C dX9_serve_g1.2.2.2.2.1 (by decide) ?_
      refine wm_icmp_ne (tgt := 55) C dX9_serve_g1.2.2.2.2.2.1 (by decide) (fun c9 => ?_) (fun c9 => ?_)
      · have hf := (if_neg c9).symm.trans hf
        refine wm_iconst (v := 0) C dX9_serve_g2.2.2.2.1 (by decide) ?_
        refine wm_istore_n (lv1 := [(3, .int 0), (2, .int o6.1), (0, .ref (A 100)), (1, .int v1)]) C dX9_serve_g2.2.2.2.2.1 (by decide) rfl ?_
        refine wm_pick [2, 0] rfl ?_
        exact (hl57 _ hb85 FU) _ _ hf
      · have hf := (if_pos c9).symm.trans hf
        refine wm_pick [1, 0] rfl ?_
        exact hb36 _ _ hf
  · have hf := (if_pos c3).symm.trans hf
    refine wm_ldc_w (v := (-100001)) C wt_X9_321 dX9_serve_g0.2.2.2.2.1 ?_
    exact wm_iret C hrt hf dX9_serve_g0.2.2.2.2.2.1
set_option maxHeartbeats 4000000 in
set_option maxRecDepth 100000 in
theorem cb_X9_menus {l : Launch} {D : va_G} {cA : Nat → ClassId} {A : Nat → Nat} {Pl : List Nat} (hPl : ∀ q, 100 ≤ q → q < 118 → q ∈ Pl) (hd : Nat) (hHB : 113 ≤ hd) (rc_X9_menus : Int32 → Int32 → Int32 → Int32 → Int32 → Int32 → Int32 → Mem → Option Mem) (hrc_X9_menus : ∀ (v1 : Int32) (v2 : Int32) (v3 : Int32) (v4 : Int32) (v5 : Int32) (v6 : Int32) (v7 : Int32) (M : Mem) (out : Mem), rc_X9_menus v1 v2 v3 v4 v5 v6 v7 M = some out → CtV l D cA A Pl yX9_menus cX9_menus 12 hd [.ref (A 100), .int v1, .int v2, .int v3, .int v4, .int v5, .int v6, .int v7] M out) (v1 : Int32) (v2 : Int32) (v3 : Int32) (v4 : Int32) (v5 : Int32) (v6 : Int32) (v7 : Int32) (M : Mem) (out : Mem) (ho : f_X9_menus_b rc_X9_menus v1 v2 v3 v4 v5 v6 v7 M = some out) : CtV l D cA A Pl yX9_menus cX9_menus 12 (hd + 1) [.ref (A 100), .int v1, .int v2, .int v3, .int v4, .int v5, .int v6, .int v7] M out := by
  refine ct_V (by decide) (Nat.le_of_ble_eq_true rfl) (fun p e s m args below meth c C hrt => ?_)
  have hb39 : ∀ (v3 : Int32) (v5 : Int32) (v6 : Int32) (v7 : Int32) (v8 : Int32) (M : Mem), f_X9_menus_b39 rc_X9_menus v3 v5 v6 v7 v8 M = some out → WM p l e (RM (hd + 1)) s m args below meth c 0 0 (MQ below (QV D cA A Pl out) args s 0 0 (FA A Pl)) D cA A Pl (FA A Pl) 12 M 39 [(0, .ref (A 100)), (3, .int v3), (5, .int v5), (6, .int v6), (7, .int v7), (8, .int v8)] [] := by
    intro v3 v5 v6 v7 v8 M hf
    unfold f_X9_menus_b39 at hf
    refine wm_aload_n 0 C dX9_menus_g1.2.2.2.2.2.2.2.1 rfl ?_
    refine wm_iload_n 1 C dX9_menus_g1.2.2.2.2.2.2.2.2.1 rfl ?_
    refine wm_put (ci := 8) (k := 32) (x := v3) C (hPl 100 (by decide) (by decide)) rfl rfl (by decide) wt_X9_324 iwX9 tyX9_ok nmX9 rfl rfl rfl rfl (fun _ => rfl) (Nat.le_of_ble_eq_true rfl) dX9_menus_g1.2.2.2.2.2.2.2.2.2.1 ?_
    refine wm_aload_n 0 C dX9_menus_g1.2.2.2.2.2.2.2.2.2.2.1 rfl ?_
    refine wm_iload 5 C dX9_menus_g1.2.2.2.2.2.2.2.2.2.2.2 rfl ?_
    refine wm_put (ci := 8) (k := 33) (x := v8) C (hPl 100 (by decide) (by decide)) rfl rfl (by decide) wt_X9_327 iwX9 tyX9_ok nmX9 rfl rfl rfl rfl (fun _ => rfl) (Nat.le_of_ble_eq_true rfl) dX9_menus_g2.1 ?_
    refine wm_aload_n 0 C dX9_menus_g2.2.1 rfl ?_
    refine wm_iload 2 C dX9_menus_g2.2.2.1 rfl ?_
    refine wm_put (ci := 8) (k := 34) (x := v5) C (hPl 100 (by decide) (by decide)) rfl rfl (by decide) wt_X9_330 iwX9 tyX9_ok nmX9 rfl rfl rfl rfl (fun _ => rfl) (Nat.le_of_ble_eq_true rfl) dX9_menus_g2.2.2.2.1 ?_
    refine wm_aload_n 0 C dX9_menus_g2.2.2.2.2.1 rfl ?_
    refine wm_iload 3 C dX9_menus_g2.2.2.2.2.2.1 rfl ?_
    refine wm_put (ci := 8) (k := 35) (x := v6) C (hPl 100 (by decide) (by decide)) rfl rfl (by decide) wt_X9_333 iwX9 tyX9_ok nmX9 rfl rfl rfl rfl (fun _ => rfl) (Nat.le_of_ble_eq_true rfl) dX9_menus_g2.2.2.2.2.2.2.1 ?_
    refine wm_aload_n 0 C dX9_menus_g2.2.2.2.2.2.2.2.1 rfl ?_
    refine wm_iload 4 C dX9_menus_g2.2.2.2.2.2.2.2.2.1 rfl ?_
    refine wm_put (ci := 8) (k := 36) (x := v7) C (hPl 100 (by decide) (by decide)) rfl rfl (by decide) wt_X9_336 iwX9 tyX9_ok nmX9 rfl rfl rfl rfl (fun _ => rfl) (Nat.le_of_ble_eq_true rfl) dX9_menus_g2.2.2.2.2.2.2.2.2.2.1 ?_
    exact wm_vret C hrt hf dX9_menus_g2.2.2.2.2.2.2.2.2.2.2.1
  have hb20 : ∀ (v3 : Int32) (v5 : Int32) (v6 : Int32) (v7 : Int32) (s0 : Int32) (M : Mem), f_X9_menus_b20 rc_X9_menus v3 v5 v6 v7 s0 M = some out → WM p l e (RM (hd + 1)) s m args below meth c 0 0 (MQ below (QV D cA A Pl out) args s 0 0 (FA A Pl)) D cA A Pl (FA A Pl) 12 M 20 [(0, .ref (A 100)), (3, .int v3), (5, .int v5), (6, .int v6), (7, .int v7)] [.int s0] := by
    intro v3 v5 v6 v7 s0 M hf
    unfold f_X9_menus_b20 at hf
    refine wm_istore (lv1 := [(8, .int s0), (0, .ref (A 100)), (3, .int v3), (5, .int v5), (6, .int v6), (7, .int v7)]) C dX9_menus_g0.2.2.2.2.2.2.2.2.2.2.1 (by decide) rfl ?_
    refine wm_aload_n 1 C dX9_menus_g0.2.2.2.2.2.2.2.2.2.2.2 rfl ?_
    refine wm_get (ci := 8) (k := 32) (v := .int (M 100 32)) C (hPl 100 (by decide) (by decide)) rfl rfl (by decide) wt_X9_324 iwX9 rfl dX9_menus_g1.1 ?_
    refine wm_iconst (v := (-1)) C dX9_menus_g1.2.1 (by decide) ?_
    refine wm_icmp_eq (tgt := 39) C dX9_menus_g1.2.2.1 (by decide) (fun c15 => ?_) (fun c15 => ?_)
    · have hf := (if_pos c15).symm.trans hf
      refine wm_pick [1, 2, 3, 4, 5, 0] rfl ?_
      exact hb39 _ _ _ _ _ _ hf
    · have hf := (if_neg c15).symm.trans hf
      refine wm_iload 0 C dX9_menus_g1.2.2.2.1 rfl ?_
      refine wm_aload_n 1 C dX9_menus_g1.2.2.2.2.1 rfl ?_
      refine wm_get (ci := 8) (k := 33) (v := .int (M 100 33)) C (hPl 100 (by decide) (by decide)) rfl rfl (by decide) wt_X9_327 iwX9 rfl dX9_menus_g1.2.2.2.2.2.1 ?_
      refine wm_icmp_le (tgt := 68) C dX9_menus_g1.2.2.2.2.2.2.1 (by decide) (fun c16 => ?_) (fun c16 => ?_)
      · have hf := (if_pos c16).symm.trans hf
        exact wm_vret C hrt hf dX9_menus_g2.2.2.2.2.2.2.2.2.2.2.1
      · have hf := (if_neg c16).symm.trans hf
        refine wm_pick [1, 2, 3, 4, 5, 0] rfl ?_
        exact hb39 _ _ _ _ _ _ hf
  have hl137 : ∀ (k169 : Int32 → Int32 → Int32 → Int32 → Int32 → Int32 → Int32 → Int32 → Int32 → Int32 → Mem → Option Mem) (hk169 : ∀ (v1 : Int32) (v2 : Int32) (v3 : Int32) (v4 : Int32) (v5 : Int32) (v6 : Int32) (v7 : Int32) (v8 : Int32) (v9 : Int32) (v10 : Int32) (M : Mem), k169 v1 v2 v3 v4 v5 v6 v7 v8 v9 v10 M = some out → WM p l e (RM (hd + 1)) s m args below meth c 0 0 (MQ below (QV D cA A Pl out) args s 0 0 (FA A Pl)) D cA A Pl (FA A Pl) 12 M 169 [(0, .ref (A 100)), (1, .int v1), (2, .int v2), (3, .int v3), (4, .int v4), (5, .int v5), (6, .int v6), (7, .int v7), (8, .int v8), (9, .int v9), (10, .int v10)] []) (n : Nat), ∀ (v1 : Int32) (v2 : Int32) (v3 : Int32) (v4 : Int32) (v5 : Int32) (v6 : Int32) (v7 : Int32) (v8 : Int32) (v9 : Int32) (v10 : Int32) (v11 : Int32) (M : Mem), f_X9_menus_l137 rc_X9_menus k169 n v1 v2 v3 v4 v5 v6 v7 v8 v9 v10 v11 M = some out → WM p l e (RM (hd + 1)) s m args below meth c 0 0 (MQ below (QV D cA A Pl out) args s 0 0 (FA A Pl)) D cA A Pl (FA A Pl) 12 M 137 [(0, .ref (A 100)), (1, .int v1), (2, .int v2), (3, .int v3), (4, .int v4), (5, .int v5), (6, .int v6), (7, .int v7), (8, .int v8), (9, .int v9), (10, .int v10), (11, .int v11)] [] := by
    intro k169 hk169 n
    induction n with
    | zero => intro v1 v2 v3 v4 v5 v6 v7 v8 v9 v10 v11 M hf; rw [f_X9_menus_l137] at hf; cases hf
    | succ n hr =>
      intro v1 v2 v3 v4 v5 v6 v7 v8 v9 v10 v11 M hf
      rw [f_X9_menus_l137] at hf
      refine wm_iload 11 C dX9_menus_g6.2.2.1 rfl ?_
      refine wm_bipush (v := 12) C dX9_menus_g6.2.2.2.1 (by decide) ?_
      refine wm_icmp_ge (tgt := 169) C dX9_menus_g6.2.2.2.2.1 (by decide) (fun c8 => ?_) (fun c8 => ?_)
      · have hf := (if_pos c8).symm.trans hf
        refine wm_pick [0, 1, 2, 3, 4, 5, 6, 7, 8, 9, 10] rfl ?_
        exact hk169 _ _ _ _ _ _ _ _ _ _ _ hf
      · have hf := (if_neg c8).symm.trans hf
        refine wm_aload_n 0 C dX9_menus_g6.2.2.2.2.2.1 rfl ?_
        refine wm_get (ci := 8) (k := 38) (v := .ref (A 110)) C (hPl 100 (by decide) (by decide)) rfl rfl (by decide) wt_X9_41 iwX9 rfl dX9_menus_g6.2.2.2.2.2.2.1 ?_
        refine wm_bipush (v := 12) C dX9_menus_g6.2.2.2.2.2.2.2.1 (by decide) ?_
        refine wm_iload_n 2 C dX9_menus_g6.2.2.2.2.2.2.2.2.1 rfl ?_
        refine wm_imul C dX9_menus_g6.2.2.2.2.2.2.2.2.2.1 ?_
        refine wm_iload 11 C dX9_menus_g6.2.2.2.2.2.2.2.2.2.2.1 rfl ?_
        refine wm_iadd C dX9_menus_g6.2.2.2.2.2.2.2.2.2.2.2 ?_
        refine wm_aload_n 0 C dX9_menus_g7.1 rfl ?_
        refine wm_get (ci := 8) (k := 8) (v := .ref (A 104)) C (hPl 100 (by decide) (by decide)) rfl rfl (by decide) wt_X9_23 iwX9 rfl dX9_menus_g7.2.1 ?_
        refine wm_iload 11 C dX9_menus_g7.2.2.1 rfl ?_
        obtain ⟨h9, hf⟩ := ckd hf
        refine wm_iald (n := 12) (j := (v11).toNatClampNeg) (v := (M 104 (v11).toNatClampNeg)) C (hPl 104 (by decide) (by decide)) rfl rfl rfl h9 rfl rfl dX9_menus_g7.2.2.2.1 ?_
        obtain ⟨h10, hf⟩ := ckd hf
        refine wm_iast (n := 72) (j := (((12 * v2) + v11)).toNatClampNeg) (x := (M 104 (v11).toNatClampNeg)) C (hPl 110 (by decide) (by decide)) rfl rfl rfl h10 rfl dX9_menus_g7.2.2.2.2.1 ?_
        refine wm_iinc (lv1 := [(11, .int (v11 + 1)), (0, .ref (A 100)), (1, .int v1), (2, .int v2), (3, .int v3), (4, .int v4), (5, .int v5), (6, .int v6), (7, .int v7), (8, .int v8), (9, .int v9), (10, .int v10)]) (v := (v11 + 1)) 11 C dX9_menus_g7.2.2.2.2.2.1 rfl (by first | rfl | decide) (by decide) rfl ?_
        refine wm_goto (tgt := 137) C dX9_menus_g7.2.2.2.2.2.2.1 (by decide) ?_
        refine wm_pick [1, 2, 3, 4, 5, 6, 7, 8, 9, 10, 11, 0] rfl ?_
        exact hr _ _ _ _ _ _ _ _ _ _ _ _ hf
  have hl257 : ∀ (k289 : Int32 → Int32 → Int32 → Int32 → Int32 → Int32 → Int32 → Int32 → Mem → Option Mem) (hk289 : ∀ (v1 : Int32) (v2 : Int32) (v3 : Int32) (v4 : Int32) (v5 : Int32) (v6 : Int32) (v7 : Int32) (v8 : Int32) (M : Mem), k289 v1 v2 v3 v4 v5 v6 v7 v8 M = some out → WM p l e (RM (hd + 1)) s m args below meth c 0 0 (MQ below (QV D cA A Pl out) args s 0 0 (FA A Pl)) D cA A Pl (FA A Pl) 12 M 289 [(0, .ref (A 100)), (1, .int v1), (2, .int v2), (3, .int v3), (4, .int v4), (5, .int v5), (6, .int v6), (7, .int v7), (8, .int v8)] []) (n : Nat), ∀ (v1 : Int32) (v2 : Int32) (v3 : Int32) (v4 : Int32) (v5 : Int32) (v6 : Int32) (v7 : Int32) (v8 : Int32) (v11 : Int32) (M : Mem), f_X9_menus_l257 rc_X9_menus k289 n v1 v2 v3 v4 v5 v6 v7 v8 v11 M = some out → WM p l e (RM (hd + 1)) s m args below meth c 0 0 (MQ below (QV D cA A Pl out) args s 0 0 (FA A Pl)) D cA A Pl (FA A Pl) 12 M 257 [(0, .ref (A 100)), (1, .int v1), (2, .int v2), (3, .int v3), (4, .int v4), (5, .int v5), (6, .int v6), (7, .int v7), (8, .int v8), (11, .int v11)] [] := by
    intro k289 hk289 n
    induction n with
    | zero => intro v1 v2 v3 v4 v5 v6 v7 v8 v11 M hf; rw [f_X9_menus_l257] at hf; cases hf
    | succ n hr =>
      intro v1 v2 v3 v4 v5 v6 v7 v8 v11 M hf
      rw [f_X9_menus_l257] at hf
      refine wm_iload 9 C dX9_menus_g11.2.2.2.2.2.2.2.2.2.2.2 rfl ?_
      refine wm_bipush (v := 12) C dX9_menus_g12.1 (by decide) ?_
      refine wm_icmp_ge (tgt := 289) C dX9_menus_g12.2.1 (by decide) (fun c5 => ?_) (fun c5 => ?_)
      · have hf := (if_pos c5).symm.trans hf
        refine wm_pick [0, 1, 2, 3, 4, 5, 6, 7, 8] rfl ?_
        exact hk289 _ _ _ _ _ _ _ _ _ hf
      · have hf := (if_neg c5).symm.trans hf
        refine wm_aload_n 0 C dX9_menus_g12.2.2.1 rfl ?_
        refine wm_get (ci := 8) (k := 8) (v := .ref (A 104)) C (hPl 100 (by decide) (by decide)) rfl rfl (by decide) wt_X9_23 iwX9 rfl dX9_menus_g12.2.2.2.1 ?_
        refine wm_iload 9 C dX9_menus_g12.2.2.2.2.1 rfl ?_
        refine wm_aload_n 0 C dX9_menus_g12.2.2.2.2.2.1 rfl ?_
        refine wm_get (ci := 8) (k := 38) (v := .ref (A 110)) C (hPl 100 (by decide) (by decide)) rfl rfl (by decide) wt_X9_41 iwX9 rfl dX9_menus_g12.2.2.2.2.2.2.1 ?_
        refine wm_bipush (v := 12) C dX9_menus_g12.2.2.2.2.2.2.2.1 (by decide) ?_
        refine wm_iload_n 2 C dX9_menus_g12.2.2.2.2.2.2.2.2.1 rfl ?_
        refine wm_imul C dX9_menus_g12.2.2.2.2.2.2.2.2.2.1 ?_
        refine wm_iload 9 C dX9_menus_g12.2.2.2.2.2.2.2.2.2.2.1 rfl ?_
        refine wm_iadd C dX9_menus_g12.2.2.2.2.2.2.2.2.2.2.2 ?_
        obtain ⟨h6, hf⟩ := ckd hf
        refine wm_iald (n := 72) (j := (((12 * v2) + v11)).toNatClampNeg) (v := (M 110 (((12 * v2) + v11)).toNatClampNeg)) C (hPl 110 (by decide) (by decide)) rfl rfl rfl h6 rfl rfl dX9_menus_g13.1 ?_
        obtain ⟨h7, hf⟩ := ckd hf
        refine wm_iast (n := 12) (j := (v11).toNatClampNeg) (x := (M 110 (((12 * v2) + v11)).toNatClampNeg)) C (hPl 104 (by decide) (by decide)) rfl rfl rfl h7 rfl dX9_menus_g13.2.1 ?_
        refine wm_iinc (lv1 := [(11, .int (v11 + 1)), (0, .ref (A 100)), (1, .int v1), (2, .int v2), (3, .int v3), (4, .int v4), (5, .int v5), (6, .int v6), (7, .int v7), (8, .int v8)]) (v := (v11 + 1)) 9 C dX9_menus_g13.2.2.1 rfl (by first | rfl | decide) (by decide) rfl ?_
        refine wm_goto (tgt := 257) C dX9_menus_g13.2.2.2.1 (by decide) ?_
        refine wm_pick [1, 2, 3, 4, 5, 6, 7, 8, 9, 0] rfl ?_
        exact hr _ _ _ _ _ _ _ _ _ _ hf
  have hb289 : ∀ (r : Int32 → Int32 → Int32 → Int32 → Int32 → Int32 → Int32 → Int32 → Mem → Option Mem) (hr : ∀ (v1 : Int32) (v2 : Int32) (v3 : Int32) (v4 : Int32) (v5 : Int32) (v6 : Int32) (v7 : Int32) (v8 : Int32) (M : Mem), r v1 v2 v3 v4 v5 v6 v7 v8 M = some out → WM p l e (RM (hd + 1)) s m args below meth c 0 0 (MQ below (QV D cA A Pl out) args s 0 0 (FA A Pl)) D cA A Pl (FA A Pl) 12 M 92 [(0, .ref (A 100)), (1, .int v1), (2, .int v2), (3, .int v3), (4, .int v4), (5, .int v5), (6, .int v6), (7, .int v7), (8, .int v8)] []), ∀ (v1 : Int32) (v2 : Int32) (v3 : Int32) (v4 : Int32) (v5 : Int32) (v6 : Int32) (v7 : Int32) (v8 : Int32) (M : Mem), f_X9_menus_b289 rc_X9_menus r v1 v2 v3 v4 v5 v6 v7 v8 M = some out → WM p l e (RM (hd + 1)) s m args below meth c 0 0 (MQ below (QV D cA A Pl out) args s 0 0 (FA A Pl)) D cA A Pl (FA A Pl) 12 M 289 [(0, .ref (A 100)), (1, .int v1), (2, .int v2), (3, .int v3), (4, .int v4), (5, .int v5), (6, .int v6), (7, .int v7), (8, .int v8)] [] := by
    intro r hr v1 v2 v3 v4 v5 v6 v7 v8 M hf
    unfold f_X9_menus_b289 at hf
    refine wm_iinc (lv1 := [(8, .int (v8 + 1)), (0, .ref (A 100)), (1, .int v1), (2, .int v2), (3, .int v3), (4, .int v4), (5, .int v5), (6, .int v6), (7, .int v7)]) (v := (v8 + 1)) 8 C dX9_menus_g13.2.2.2.2.1 rfl (by first | rfl | decide) (by decide) rfl ?_
    refine wm_goto (tgt := 92) C dX9_menus_g13.2.2.2.2.2.1 (by decide) ?_
    refine wm_pick [1, 2, 3, 4, 5, 6, 7, 8, 0] rfl ?_
    exact hr _ _ _ _ _ _ _ _ _ hf
  have hb251 : ∀ (r : Int32 → Int32 → Int32 → Int32 → Int32 → Int32 → Int32 → Int32 → Mem → Option Mem) (hr : ∀ (v1 : Int32) (v2 : Int32) (v3 : Int32) (v4 : Int32) (v5 : Int32) (v6 : Int32) (v7 : Int32) (v8 : Int32) (M : Mem), r v1 v2 v3 v4 v5 v6 v7 v8 M = some out → WM p l e (RM (hd + 1)) s m args below meth c 0 0 (MQ below (QV D cA A Pl out) args s 0 0 (FA A Pl)) D cA A Pl (FA A Pl) 12 M 92 [(0, .ref (A 100)), (1, .int v1), (2, .int v2), (3, .int v3), (4, .int v4), (5, .int v5), (6, .int v6), (7, .int v7), (8, .int v8)] []), ∀ (v1 : Int32) (v2 : Int32) (v3 : Int32) (v4 : Int32) (v5 : Int32) (v6 : Int32) (v7 : Int32) (v8 : Int32) (s1 : Int32) (s2 : Int32) (s3 : Int32) (s4 : Int32) (s5 : Int32) (s6 : Int32) (s7 : Int32) (M : Mem), f_X9_menus_b251 rc_X9_menus r v1 v2 v3 v4 v5 v6 v7 v8 s1 s2 s3 s4 s5 s6 s7 M = some out → WM p l e (RM (hd + 1)) s m args below meth c 0 0 (MQ below (QV D cA A Pl out) args s 0 0 (FA A Pl)) D cA A Pl (FA A Pl) 12 M 251 [(0, .ref (A 100)), (1, .int v1), (2, .int v2), (3, .int v3), (4, .int v4), (5, .int v5), (6, .int v6), (7, .int v7), (8, .int v8)] [.int s7, .int s6, .int s5, .int s4, .int s3, .int s2, .int s1, .ref (A 100)] := by
    intro r hr v1 v2 v3 v4 v5 v6 v7 v8 s1 s2 s3 s4 s5 s6 s7 M hf
    unfold f_X9_menus_b251 at hf
    obtain ⟨o18, ho19, hf⟩ := bnd hf
    refine wm_callVv (As := [.int s1, .int s2, .int s3, .int s4, .int s5, .int s6, .int s7]) (ci := 8) C (hrc_X9_menus _ _ _ _ _ _ _ _ _ ho19) mi_X9_menus wt_X9_339 (hPl 100 (by decide) (by decide)) rfl rfl rfl rfl (by omega) (by decide) (Nat.le_of_ble_eq_true rfl) dX9_menus_g11.2.2.2.2.2.2.2.2.1 ?_
    refine wm_iconst (v := 0) C dX9_menus_g11.2.2.2.2.2.2.2.2.2.1 (by decide) ?_
    refine wm_istore (lv1 := [(11, .int 0), (0, .ref (A 100)), (1, .int v1), (2, .int v2), (3, .int v3), (4, .int v4), (5, .int v5), (6, .int v6), (7, .int v7), (8, .int v8)]) C dX9_menus_g11.2.2.2.2.2.2.2.2.2.2.1 (by decide) rfl ?_
    refine wm_pick [1, 2, 3, 4, 5, 6, 7, 8, 9, 0] rfl ?_
    exact (hl257 _ (hb289 _ hr) FU) _ _ _ _ _ _ _ _ _ _ hf
  have hb235 : ∀ (r : Int32 → Int32 → Int32 → Int32 → Int32 → Int32 → Int32 → Int32 → Mem → Option Mem) (hr : ∀ (v1 : Int32) (v2 : Int32) (v3 : Int32) (v4 : Int32) (v5 : Int32) (v6 : Int32) (v7 : Int32) (v8 : Int32) (M : Mem), r v1 v2 v3 v4 v5 v6 v7 v8 M = some out → WM p l e (RM (hd + 1)) s m args below meth c 0 0 (MQ below (QV D cA A Pl out) args s 0 0 (FA A Pl)) D cA A Pl (FA A Pl) 12 M 92 [(0, .ref (A 100)), (1, .int v1), (2, .int v2), (3, .int v3), (4, .int v4), (5, .int v5), (6, .int v6), (7, .int v7), (8, .int v8)] []), ∀ (v1 : Int32) (v2 : Int32) (v3 : Int32) (v4 : Int32) (v5 : Int32) (v6 : Int32) (v7 : Int32) (v8 : Int32) (s1 : Int32) (s2 : Int32) (s3 : Int32) (s4 : Int32) (s5 : Int32) (s6 : Int32) (M : Mem), f_X9_menus_b235 rc_X9_menus r v1 v2 v3 v4 v5 v6 v7 v8 s1 s2 s3 s4 s5 s6 M = some out → WM p l e (RM (hd + 1)) s m args below meth c 0 0 (MQ below (QV D cA A Pl out) args s 0 0 (FA A Pl)) D cA A Pl (FA A Pl) 12 M 235 [(0, .ref (A 100)), (1, .int v1), (2, .int v2), (3, .int v3), (4, .int v4), (5, .int v5), (6, .int v6), (7, .int v7), (8, .int v8)] [.int s6, .int s5, .int s4, .int s3, .int s2, .int s1, .ref (A 100)] := by
    intro r hr v1 v2 v3 v4 v5 v6 v7 v8 s1 s2 s3 s4 s5 s6 M hf
    unfold f_X9_menus_b235 at hf
    refine wm_iload 8 C dX9_menus_g10.2.2.2.2.2.2.2.2.2.2.2 rfl ?_
    refine wm_if_ne (tgt := 247) C dX9_menus_g11.1 (by decide) (fun c14 => ?_) (fun c14 => ?_)
    · have hf := (if_neg c14).symm.trans hf
      refine wm_iload 7 C dX9_menus_g11.2.2.2.2.2.1 rfl ?_
      refine wm_iconst (v := 1) C dX9_menus_g11.2.2.2.2.2.2.1 (by decide) ?_
      refine wm_isub C dX9_menus_g11.2.2.2.2.2.2.2.1 ?_
      exact (hb251 _ hr) _ _ _ _ _ _ _ _ _ _ _ _ _ _ _ _ hf
    · have hf := (if_pos c14).symm.trans hf
      refine wm_iload 7 C dX9_menus_g11.2.1 rfl ?_
      refine wm_iconst (v := 1) C dX9_menus_g11.2.2.1 (by decide) ?_
      refine wm_iadd C dX9_menus_g11.2.2.2.1 ?_
      refine wm_goto (tgt := 251) C dX9_menus_g11.2.2.2.2.1 (by decide) ?_
      exact (hb251 _ hr) _ _ _ _ _ _ _ _ _ _ _ _ _ _ _ _ hf
  have hb215 : ∀ (r : Int32 → Int32 → Int32 → Int32 → Int32 → Int32 → Int32 → Int32 → Mem → Option Mem) (hr : ∀ (v1 : Int32) (v2 : Int32) (v3 : Int32) (v4 : Int32) (v5 : Int32) (v6 : Int32) (v7 : Int32) (v8 : Int32) (M : Mem), r v1 v2 v3 v4 v5 v6 v7 v8 M = some out → WM p l e (RM (hd + 1)) s m args below meth c 0 0 (MQ below (QV D cA A Pl out) args s 0 0 (FA A Pl)) D cA A Pl (FA A Pl) 12 M 92 [(0, .ref (A 100)), (1, .int v1), (2, .int v2), (3, .int v3), (4, .int v4), (5, .int v5), (6, .int v6), (7, .int v7), (8, .int v8)] []), ∀ (v1 : Int32) (v2 : Int32) (v3 : Int32) (v4 : Int32) (v5 : Int32) (v6 : Int32) (v7 : Int32) (v8 : Int32) (v9 : Int32) (s1 : Int32) (s2 : Int32) (s3 : Int32) (s4 : Int32) (M : Mem), f_X9_menus_b215 rc_X9_menus r v1 v2 v3 v4 v5 v6 v7 v8 v9 s1 s2 s3 s4 M = some out → WM p l e (RM (hd + 1)) s m args below meth c 0 0 (MQ below (QV D cA A Pl out) args s 0 0 (FA A Pl)) D cA A Pl (FA A Pl) 12 M 215 [(0, .ref (A 100)), (1, .int v1), (2, .int v2), (3, .int v3), (4, .int v4), (5, .int v5), (6, .int v6), (7, .int v7), (8, .int v8), (9, .int v9)] [.int s4, .int s3, .int s2, .int s1, .ref (A 100)] := by
    intro r hr v1 v2 v3 v4 v5 v6 v7 v8 v9 s1 s2 s3 s4 M hf
    unfold f_X9_menus_b215 at hf
    refine wm_iload 5 C dX9_menus_g10.2.1 rfl ?_
    refine wm_iload 9 C dX9_menus_g10.2.2.1 rfl ?_
    refine wm_iadd C dX9_menus_g10.2.2.2.1 ?_
    refine wm_iload 8 C dX9_menus_g10.2.2.2.2.1 rfl ?_
    refine wm_if_ne (tgt := 233) C dX9_menus_g10.2.2.2.2.2.1 (by decide) (fun c17 => ?_) (fun c17 => ?_)
    · have hf := (if_neg c17).symm.trans hf
      refine wm_iload 6 C dX9_menus_g10.2.2.2.2.2.2.2.2.2.2.1 rfl ?_
      refine wm_pick [0, 1, 2, 3, 4, 5, 6, 7, 8] rfl ?_
      exact (hb235 _ hr) _ _ _ _ _ _ _ _ _ _ _ _ _ _ _ hf
    · have hf := (if_pos c17).symm.trans hf
      refine wm_iload 6 C dX9_menus_g10.2.2.2.2.2.2.1 rfl ?_
      refine wm_iload 9 C dX9_menus_g10.2.2.2.2.2.2.2.1 rfl ?_
      refine wm_iadd C dX9_menus_g10.2.2.2.2.2.2.2.2.1 ?_
      refine wm_goto (tgt := 235) C dX9_menus_g10.2.2.2.2.2.2.2.2.2.1 (by decide) ?_
      refine wm_pick [0, 1, 2, 3, 4, 5, 6, 7, 8] rfl ?_
      exact (hb235 _ hr) _ _ _ _ _ _ _ _ _ _ _ _ _ _ _ hf
  have hb169 : ∀ (r : Int32 → Int32 → Int32 → Int32 → Int32 → Int32 → Int32 → Int32 → Mem → Option Mem) (hr : ∀ (v1 : Int32) (v2 : Int32) (v3 : Int32) (v4 : Int32) (v5 : Int32) (v6 : Int32) (v7 : Int32) (v8 : Int32) (M : Mem), r v1 v2 v3 v4 v5 v6 v7 v8 M = some out → WM p l e (RM (hd + 1)) s m args below meth c 0 0 (MQ below (QV D cA A Pl out) args s 0 0 (FA A Pl)) D cA A Pl (FA A Pl) 12 M 92 [(0, .ref (A 100)), (1, .int v1), (2, .int v2), (3, .int v3), (4, .int v4), (5, .int v5), (6, .int v6), (7, .int v7), (8, .int v8)] []), ∀ (v1 : Int32) (v2 : Int32) (v3 : Int32) (v4 : Int32) (v5 : Int32) (v6 : Int32) (v7 : Int32) (v8 : Int32) (v9 : Int32) (v10 : Int32) (M : Mem), f_X9_menus_b169 rc_X9_menus r v1 v2 v3 v4 v5 v6 v7 v8 v9 v10 M = some out → WM p l e (RM (hd + 1)) s m args below meth c 0 0 (MQ below (QV D cA A Pl out) args s 0 0 (FA A Pl)) D cA A Pl (FA A Pl) 12 M 169 [(0, .ref (A 100)), (1, .int v1), (2, .int v2), (3, .int v3), (4, .int v4), (5, .int v5), (6, .int v6), (7, .int v7), (8, .int v8), (9, .int v9), (10, .int v10)] [] := by
    intro r hr v1 v2 v3 v4 v5 v6 v7 v8 v9 v10 M hf
    unfold f_X9_menus_b169 at hf
    refine wm_aload_n 0 C dX9_menus_g7.2.2.2.2.2.2.2.1 rfl ?_
    refine wm_iload_n 2 C dX9_menus_g7.2.2.2.2.2.2.2.2.1 rfl ?_
    refine wm_iload 8 C dX9_menus_g7.2.2.2.2.2.2.2.2.2.1 rfl ?_
    obtain ⟨o11, ho12, hf⟩ := bnd hf
    refine wm_callVv (As := [.int v2, .int v8]) (ci := 8) C (c_X9_uses hPl _ _ _ _ ho12) mi_X9_uses wt_X9_291 (hPl 100 (by decide) (by decide)) rfl rfl rfl rfl (by omega) (by decide) (Nat.le_of_ble_eq_true rfl) dX9_menus_g7.2.2.2.2.2.2.2.2.2.2.1 ?_
    refine wm_aload_n 0 C dX9_menus_g7.2.2.2.2.2.2.2.2.2.2.2 rfl ?_
    refine wm_iload_n 1 C dX9_menus_g8.1 rfl ?_
    refine wm_iload_n 2 C dX9_menus_g8.2.1 rfl ?_
    refine wm_iconst (v := 1) C dX9_menus_g8.2.2.1 (by decide) ?_
    refine wm_iadd C dX9_menus_g8.2.2.2.1 ?_
    refine wm_bipush (v := 10) C dX9_menus_g8.2.2.2.2.1 (by decide) ?_
    refine wm_iload_n 3 C dX9_menus_g8.2.2.2.2.2.1 rfl ?_
    refine wm_imul C dX9_menus_g8.2.2.2.2.2.2.1 ?_
    refine wm_iload 8 C dX9_menus_g8.2.2.2.2.2.2.2.1 rfl ?_
    refine wm_iadd C dX9_menus_g8.2.2.2.2.2.2.2.2.1 ?_
    refine wm_iconst (v := 1) C dX9_menus_g8.2.2.2.2.2.2.2.2.2.1 (by decide) ?_
    refine wm_iadd C dX9_menus_g8.2.2.2.2.2.2.2.2.2.2.1 ?_
    refine wm_iload_n 1 C dX9_menus_g8.2.2.2.2.2.2.2.2.2.2.2 rfl ?_
    refine wm_iconst (v := 2) C dX9_menus_g9.1 (by decide) ?_
    refine wm_icmp_ne (tgt := 207) C dX9_menus_g9.2.1 (by decide) (fun c13 => ?_) (fun c13 => ?_)
    · have hf := (if_neg c13).symm.trans hf
      refine wm_iload 4 C dX9_menus_g9.2.2.2.2.2.2.2.2.1 rfl ?_
      refine wm_iload 9 C dX9_menus_g9.2.2.2.2.2.2.2.2.2.1 rfl ?_
      refine wm_iadd C dX9_menus_g9.2.2.2.2.2.2.2.2.2.2.1 ?_
      refine wm_iload 10 C dX9_menus_g9.2.2.2.2.2.2.2.2.2.2.2 rfl ?_
      refine wm_isub C dX9_menus_g10.1 ?_
      refine wm_pick [0, 1, 2, 3, 4, 5, 6, 7, 8, 9] rfl ?_
      exact (hb215 _ hr) _ _ _ _ _ _ _ _ _ _ _ _ _ _ hf
    · have hf := (if_pos c13).symm.trans hf
      refine wm_iload 4 C dX9_menus_g9.2.2.1 rfl ?_
      refine wm_sipush (v := 10000) C dX9_menus_g9.2.2.2.1 (by decide) ?_
      refine wm_iadd C dX9_menus_g9.2.2.2.2.1 ?_
      refine wm_iload 10 C dX9_menus_g9.2.2.2.2.2.1 rfl ?_
      refine wm_isub C dX9_menus_g9.2.2.2.2.2.2.1 ?_
      refine wm_goto (tgt := 215) C dX9_menus_g9.2.2.2.2.2.2.2.1 (by decide) ?_
      refine wm_pick [0, 1, 2, 3, 4, 5, 6, 7, 8, 9] rfl ?_
      exact (hb215 _ hr) _ _ _ _ _ _ _ _ _ _ _ _ _ _ hf
  have hl92 : ∀ (n : Nat), ∀ (v1 : Int32) (v2 : Int32) (v3 : Int32) (v4 : Int32) (v5 : Int32) (v6 : Int32) (v7 : Int32) (v8 : Int32) (M : Mem), f_X9_menus_l92 rc_X9_menus n v1 v2 v3 v4 v5 v6 v7 v8 M = some out → WM p l e (RM (hd + 1)) s m args below meth c 0 0 (MQ below (QV D cA A Pl out) args s 0 0 (FA A Pl)) D cA A Pl (FA A Pl) 12 M 92 [(0, .ref (A 100)), (1, .int v1), (2, .int v2), (3, .int v3), (4, .int v4), (5, .int v5), (6, .int v6), (7, .int v7), (8, .int v8)] [] := by
    intro n
    induction n with
    | zero => intro v1 v2 v3 v4 v5 v6 v7 v8 M hf; rw [f_X9_menus_l92] at hf; cases hf
    | succ n hr =>
      intro v1 v2 v3 v4 v5 v6 v7 v8 M hf
      rw [f_X9_menus_l92] at hf
      refine wm_iload 8 C dX9_menus_g4.2.2.1 rfl ?_
      refine wm_iconst (v := 2) C dX9_menus_g4.2.2.2.1 (by decide) ?_
      refine wm_icmp_ge (tgt := 295) C dX9_menus_g4.2.2.2.2.1 (by decide) (fun c20 => ?_) (fun c20 => ?_)
      · have hf := (if_pos c20).symm.trans hf
        exact wm_vret C hrt hf dX9_menus_g13.2.2.2.2.2.2
      · have hf := (if_neg c20).symm.trans hf
        refine wm_iload_n 2 C dX9_menus_g4.2.2.2.2.2.1 rfl ?_
        refine wm_aload_n 0 C dX9_menus_g4.2.2.2.2.2.2.1 rfl ?_
        refine wm_get (ci := 8) (k := 37) (v := .int (M 100 37)) C (hPl 100 (by decide) (by decide)) rfl rfl (by decide) wt_X9_343 iwX9 rfl dX9_menus_g4.2.2.2.2.2.2.2.1 ?_
        refine wm_icmp_eq (tgt := 295) C dX9_menus_g4.2.2.2.2.2.2.2.2.1 (by decide) (fun c21 => ?_) (fun c21 => ?_)
        · have hf := (if_pos c21).symm.trans hf
          exact wm_vret C hrt hf dX9_menus_g13.2.2.2.2.2.2
        · have hf := (if_neg c21).symm.trans hf
          refine wm_aload_n 0 C dX9_menus_g4.2.2.2.2.2.2.2.2.2.1 rfl ?_
          refine wm_iload_n 2 C dX9_menus_g4.2.2.2.2.2.2.2.2.2.2.1 rfl ?_
          refine wm_iload 8 C dX9_menus_g4.2.2.2.2.2.2.2.2.2.2.2 rfl ?_
          obtain ⟨o22, ho23, hf⟩ := bnd hf
          refine wm_callVi (As := [.int v2, .int v8]) (ci := 8) C (c_X9_isCooked hPl _ _ _ _ ho23) mi_X9_isCooked wt_X9_305 (hPl 100 (by decide) (by decide)) rfl rfl rfl rfl (by omega) (by decide) (Nat.le_of_ble_eq_true rfl) dX9_menus_g5.1 ?_
          refine wm_if_eq (tgt := 289) C dX9_menus_g5.2.1 (by decide) (fun c24 => ?_) (fun c24 => ?_)
          · have hf := (if_pos c24).symm.trans hf
            exact (hb289 _ hr) _ _ _ _ _ _ _ _ _ hf
          · have hf := (if_neg c24).symm.trans hf
            refine wm_aload_n 0 C dX9_menus_g5.2.2.1 rfl ?_
            refine wm_iload_n 2 C dX9_menus_g5.2.2.2.1 rfl ?_
            refine wm_iload 8 C dX9_menus_g5.2.2.2.2.1 rfl ?_
            obtain ⟨o25, ho26, hf⟩ := bnd hf
            refine wm_callVi (As := [.int v2, .int v8]) (ci := 8) C (c_X9_feedsOf hPl _ _ _ _ ho26) mi_X9_feedsOf wt_X9_285 (hPl 100 (by decide) (by decide)) rfl rfl rfl rfl (by omega) (by decide) (Nat.le_of_ble_eq_true rfl) dX9_menus_g5.2.2.2.2.2.1 ?_
            refine wm_istore (lv1 := [(9, .int o25.1), (0, .ref (A 100)), (1, .int v1), (2, .int v2), (3, .int v3), (4, .int v4), (5, .int v5), (6, .int v6), (7, .int v7), (8, .int v8)]) C dX9_menus_g5.2.2.2.2.2.2.1 (by decide) rfl ?_
            refine wm_aload_n 1 C dX9_menus_g5.2.2.2.2.2.2.2.1 rfl ?_
            refine wm_iload_n 3 C dX9_menus_g5.2.2.2.2.2.2.2.2.1 rfl ?_
            refine wm_iload 9 C dX9_menus_g5.2.2.2.2.2.2.2.2.2.1 rfl ?_
            obtain ⟨o27, ho28, hf⟩ := bnd hf
            refine wm_callVi (As := [.int v2, .int v8]) (ci := 8) C (c_X9_tollOf hPl _ _ _ _ ho28) mi_X9_tollOf wt_X9_270 (hPl 100 (by decide) (by decide)) rfl rfl rfl rfl (by omega) (by decide) (Nat.le_of_ble_eq_true rfl) dX9_menus_g5.2.2.2.2.2.2.2.2.2.2.1 ?_
            refine wm_istore (lv1 := [(10, .int o27.1), (9, .int o25.1), (0, .ref (A 100)), (1, .int v1), (2, .int v2), (3, .int v3), (4, .int v4), (5, .int v5), (6, .int v6), (7, .int v7), (8, .int v8)]) C dX9_menus_g5.2.2.2.2.2.2.2.2.2.2.2 (by decide) rfl ?_
            refine wm_iconst (v := 0) C dX9_menus_g6.1 (by decide) ?_
            refine wm_istore (lv1 := [(11, .int 0), (10, .int o27.1), (9, .int o25.1), (0, .ref (A 100)), (1, .int v1), (2, .int v2), (3, .int v3), (4, .int v4), (5, .int v5), (6, .int v6), (7, .int v7), (8, .int v8)]) C dX9_menus_g6.2.1 (by decide) rfl ?_
            refine wm_pick [3, 4, 5, 6, 7, 8, 9, 10, 11, 2, 1, 0] rfl ?_
            exact (hl137 _ (hb169 _ hr) FU) _ _ _ _ _ _ _ _ _ _ _ _ hf
  have hf := ho
  unfold f_X9_menus_b at hf
  refine wm_iload_n 2 C dX9_menus_g0.1 rfl ?_
  refine wm_aload_n 0 C dX9_menus_g0.2.1 rfl ?_
  refine wm_get (ci := 8) (k := 12) (v := .int (M 100 12)) C (hPl 100 (by decide) (by decide)) rfl rfl (by decide) wt_X9_76 iwX9 rfl dX9_menus_g0.2.2.1 ?_
  refine wm_icmp_ne (tgt := 69) C dX9_menus_g0.2.2.2.1 (by decide) (fun c1 => ?_) (fun c1 => ?_)
  · have hf := (if_neg c1).symm.trans hf
    refine wm_aload_n 0 C dX9_menus_g2.2.2.2.2.2.2.2.2.2.2.2 rfl ?_
    refine wm_iload_n 1 C dX9_menus_g3.1 rfl ?_
    refine wm_iload_n 2 C dX9_menus_g3.2.1 rfl ?_
    refine wm_iconst (v := 1) C dX9_menus_g3.2.2.1 (by decide) ?_
    refine wm_iadd C dX9_menus_g3.2.2.2.1 ?_
    refine wm_bipush (v := 10) C dX9_menus_g3.2.2.2.2.1 (by decide) ?_
    refine wm_iload_n 3 C dX9_menus_g3.2.2.2.2.2.1 rfl ?_
    refine wm_imul C dX9_menus_g3.2.2.2.2.2.2.1 ?_
    refine wm_iload 4 C dX9_menus_g3.2.2.2.2.2.2.2.1 rfl ?_
    refine wm_iload 5 C dX9_menus_g3.2.2.2.2.2.2.2.2.1 rfl ?_
    refine wm_iload 6 C dX9_menus_g3.2.2.2.2.2.2.2.2.2.1 rfl ?_
    refine wm_iload 7 C dX9_menus_g3.2.2.2.2.2.2.2.2.2.2.1 rfl ?_
    obtain ⟨o2, ho3, hf⟩ := bnd hf
    refine wm_callVv (As := [.int v1, .int (v2 + 1), .int (10 * v3), .int v4, .int v5, .int v6, .int v7]) (ci := 8) C (hrc_X9_menus _ _ _ _ _ _ _ _ _ ho3) mi_X9_menus wt_X9_339 (hPl 100 (by decide) (by decide)) rfl rfl rfl rfl (by omega) (by decide) (Nat.le_of_ble_eq_true rfl) dX9_menus_g3.2.2.2.2.2.2.2.2.2.2.2 ?_
    refine wm_iconst (v := 0) C dX9_menus_g4.1 (by decide) ?_
    refine wm_istore (lv1 := [(8, .int 0), (0, .ref (A 100)), (1, .int v1), (2, .int v2), (3, .int v3), (4, .int v4), (5, .int v5), (6, .int v6), (7, .int v7)]) C dX9_menus_g4.2.1 (by decide) rfl ?_
    refine wm_pick [1, 2, 3, 4, 5, 6, 7, 8, 0] rfl ?_
    exact (hl92 FU) _ _ _ _ _ _ _ _ _ hf
  · have hf := (if_pos c1).symm.trans hf
    refine wm_iload_n 1 C dX9_menus_g0.2.2.2.2.1 rfl ?_
    refine wm_iconst (v := 1) C dX9_menus_g0.2.2.2.2.2.1 (by decide) ?_
    refine wm_icmp_ne (tgt := 18) C dX9_menus_g0.2.2.2.2.2.2.1 (by decide) (fun c4 => ?_) (fun c4 => ?_)
    · have hf := (if_neg c4).symm.trans hf
      refine wm_iload 4 C dX9_menus_g0.2.2.2.2.2.2.2.2.2.1 rfl ?_
      refine wm_pick [0, 3, 5, 6, 7] rfl ?_
      exact hb20 _ _ _ _ _ _ hf
    · have hf := (if_pos c4).symm.trans hf
      refine wm_iload 5 C dX9_menus_g0.2.2.2.2.2.2.2.1 rfl ?_
      refine wm_goto (tgt := 20) C dX9_menus_g0.2.2.2.2.2.2.2.2.1 (by decide) ?_
      refine wm_pick [0, 3, 5, 6, 7] rfl ?_
      exact hb20 _ _ _ _ _ _ hf
theorem cg_X9_menus {l : Launch} {D : va_G} {cA : Nat → ClassId} {A : Nat → Nat} {Pl : List Nat} (hPl : ∀ q, 100 ≤ q → q < 118 → q ∈ Pl) : ∀ d : Nat, (∀ (v1 : Int32) (v2 : Int32) (v3 : Int32) (v4 : Int32) (v5 : Int32) (v6 : Int32) (v7 : Int32) (M : Mem) (out : Mem), f_X9_menus d v1 v2 v3 v4 v5 v6 v7 M = some out → CtV l D cA A Pl yX9_menus cX9_menus 12 (113 + d) [.ref (A 100), .int v1, .int v2, .int v3, .int v4, .int v5, .int v6, .int v7] M out) := by
  intro d
  induction d with
  | zero => exact (fun v1 v2 v3 v4 v5 v6 v7 M out ho => by have ho : none = some out := ho; cases ho)
  | succ d ih => exact (fun v1 v2 v3 v4 v5 v6 v7 M out ho => cb_X9_menus hPl (113 + d) (by omega) _ ih v1 v2 v3 v4 v5 v6 v7 M out ho)
theorem c_X9_menus {l : Launch} {D : va_G} {cA : Nat → ClassId} {A : Nat → Nat} {Pl : List Nat} (hPl : ∀ q, 100 ≤ q → q < 118 → q ∈ Pl) (v1 : Int32) (v2 : Int32) (v3 : Int32) (v4 : Int32) (v5 : Int32) (v6 : Int32) (v7 : Int32) (M : Mem) (out : Mem) (ho : f_X9_menus DP v1 v2 v3 v4 v5 v6 v7 M = some out) : CtV l D cA A Pl yX9_menus cX9_menus 12 213 [.ref (A 100), .int v1, .int v2, .int v3, .int v4, .int v5, .int v6, .int v7] M out := (cg_X9_menus hPl DP) v1 v2 v3 v4 v5 v6 v7 M out ho
set_option maxHeartbeats 4000000 in
set_option maxRecDepth 100000 in
theorem c_X9_bestOf {l : Launch} {D : va_G} {cA : Nat → ClassId} {A : Nat → Nat} {Pl : List Nat} (hPl : ∀ q, 100 ≤ q → q < 118 → q ∈ Pl) (v1 : Int32) (v2 : Int32) (M : Mem) (out : Mem) (ho : f_X9_bestOf v1 v2 M = some out) : CtV l D cA A Pl yX9_bestOf cX9_bestOf 3 214 [.ref (A 100), .int v1, .int v2] M out := by
  refine ct_V (by decide) (Nat.le_of_ble_eq_true rfl) (fun p e s m args below meth c C hrt => ?_)
  have hf := ho
  unfold f_X9_bestOf at hf
  refine wm_aload_n 0 C dX9_bestOf_g0.1 rfl ?_
  refine wm_iconst (v := (-1)) C dX9_bestOf_g0.2.1 (by decide) ?_
  refine wm_put (ci := 8) (k := 32) (x := (-1)) C (hPl 100 (by decide) (by decide)) rfl rfl (by decide) wt_X9_324 iwX9 tyX9_ok nmX9 rfl rfl rfl rfl (fun _ => rfl) (Nat.le_of_ble_eq_true rfl) dX9_bestOf_g0.2.2.1 ?_
  refine wm_aload_n 0 C dX9_bestOf_g0.2.2.2.1 rfl ?_
  refine wm_iload_n 2 C dX9_bestOf_g0.2.2.2.2.1 rfl ?_
  refine wm_put (ci := 8) (k := 37) (x := v2) C (hPl 100 (by decide) (by decide)) rfl rfl (by decide) wt_X9_343 iwX9 tyX9_ok nmX9 rfl rfl rfl rfl (fun _ => rfl) (Nat.le_of_ble_eq_true rfl) dX9_bestOf_g0.2.2.2.2.2.1 ?_
  refine wm_aload_n 0 C dX9_bestOf_g0.2.2.2.2.2.2.1 rfl ?_
  refine wm_iload_n 1 C dX9_bestOf_g0.2.2.2.2.2.2.2.1 rfl ?_
  refine wm_iconst (v := 0) C dX9_bestOf_g0.2.2.2.2.2.2.2.2.1 (by decide) ?_
  refine wm_iconst (v := 0) C dX9_bestOf_g0.2.2.2.2.2.2.2.2.2.1 (by decide) ?_
  refine wm_iconst (v := 0) C dX9_bestOf_g0.2.2.2.2.2.2.2.2.2.2.1 (by decide) ?_
  refine wm_iconst (v := 0) C dX9_bestOf_g0.2.2.2.2.2.2.2.2.2.2.2 (by decide) ?_
  refine wm_iconst (v := 0) C dX9_bestOf_g1.1 (by decide) ?_
  refine wm_iconst (v := 0) C dX9_bestOf_g1.2.1 (by decide) ?_
  obtain ⟨o1, ho2, hf⟩ := bnd hf
  refine wm_callVv (As := [.int v1, .int 0, .int 0, .int 0, .int 0, .int 0, .int 0]) (ci := 8) C (c_X9_menus hPl _ _ _ _ _ _ _ _ _ ho2) mi_X9_menus wt_X9_339 (hPl 100 (by decide) (by decide)) rfl rfl rfl rfl (by decide) (by decide) (Nat.le_of_ble_eq_true rfl) dX9_bestOf_g1.2.2.1 ?_
  exact wm_vret C hrt hf dX9_bestOf_g1.2.2.2
set_option maxHeartbeats 4000000 in
set_option maxRecDepth 100000 in
theorem c_X9_dishesOf {l : Launch} {D : va_G} {cA : Nat → ClassId} {A : Nat → Nat} {Pl : List Nat} (hPl : ∀ q, 100 ≤ q → q < 118 → q ∈ Pl) (v0 : Int32) (M : Mem) (out : (Int32 × Mem)) (ho : f_X9_dishesOf v0 M = some out) : CtI l D cA A Pl yX9_dishesOf cX9_dishesOf 3 1 .int [.int v0] M out := by
  refine ct_I (by decide) (Nat.le_of_ble_eq_true rfl) (fun p e s m args below meth c C hrt => ?_)
  have hb21 : ∀ (r : Int32 → Int32 → Mem → Option (Int32 × Mem)) (hr : ∀ (v1 : Int32) (v2 : Int32) (M : Mem), r v1 v2 M = some out → WM p l e (RM 1) s m args below meth c 0 0 (MQ below (QI D cA A Pl out) args s 0 0 (FA A Pl)) D cA A Pl (FA A Pl) 3 M 4 [(1, .int v1), (2, .int v2)] []), ∀ (v2 : Int32) (s0 : Int32) (s1 : Int32) (M : Mem), f_X9_dishesOf_b21 r v2 s0 s1 M = some out → WM p l e (RM 1) s m args below meth c 0 0 (MQ below (QI D cA A Pl out) args s 0 0 (FA A Pl)) D cA A Pl (FA A Pl) 3 M 21 [(2, .int v2)] [.int s1, .int s0] := by
    intro r hr v2 s0 s1 M hf
    unfold f_X9_dishesOf_b21 at hf
    refine wm_iadd C dX9_dishesOf_g1.2.2.1 ?_
    refine wm_istore_n (lv1 := [(1, .int (s0 + s1)), (2, .int v2)]) C dX9_dishesOf_g1.2.2.2.1 (by decide) rfl ?_
    refine wm_iload_n 1 C dX9_dishesOf_g1.2.2.2.2.1 rfl ?_
    refine wm_bipush (v := 10) C dX9_dishesOf_g1.2.2.2.2.2.1 (by decide) ?_
    refine wm_idiv C (by decide) dX9_dishesOf_g1.2.2.2.2.2.2.1 ?_
    refine wm_istore_n (lv1 := [(2, .int (v2 / 10)), (1, .int (s0 + s1))]) C dX9_dishesOf_g1.2.2.2.2.2.2.2.1 (by decide) rfl ?_
    refine wm_goto (tgt := 4) C dX9_dishesOf_g1.2.2.2.2.2.2.2.2.1 (by decide) ?_
    refine wm_pick [1, 0] rfl ?_
    exact hr _ _ _ hf
  have hl4 : ∀ (n : Nat), ∀ (v1 : Int32) (v2 : Int32) (M : Mem), f_X9_dishesOf_l4 n v1 v2 M = some out → WM p l e (RM 1) s m args below meth c 0 0 (MQ below (QI D cA A Pl out) args s 0 0 (FA A Pl)) D cA A Pl (FA A Pl) 3 M 4 [(1, .int v1), (2, .int v2)] [] := by
    intro n
    induction n with
    | zero => intro v1 v2 M hf; rw [f_X9_dishesOf_l4] at hf; cases hf
    | succ n hr =>
      intro v1 v2 M hf
      rw [f_X9_dishesOf_l4] at hf
      refine wm_iload_n 1 C dX9_dishesOf_g0.2.2.2.2.1 rfl ?_
      refine wm_if_le (tgt := 31) C dX9_dishesOf_g0.2.2.2.2.2.1 (by decide) (fun c1 => ?_) (fun c1 => ?_)
      · have hf := (if_pos c1).symm.trans hf
        refine wm_iload_n 0 C dX9_dishesOf_g1.2.2.2.2.2.2.2.2.2.1 rfl ?_
        exact wm_iret C hrt hf dX9_dishesOf_g1.2.2.2.2.2.2.2.2.2.2
      · have hf := (if_neg c1).symm.trans hf
        refine wm_iload_n 0 C dX9_dishesOf_g0.2.2.2.2.2.2.1 rfl ?_
        refine wm_iload_n 1 C dX9_dishesOf_g0.2.2.2.2.2.2.2.1 rfl ?_
        refine wm_bipush (v := 10) C dX9_dishesOf_g0.2.2.2.2.2.2.2.2.1 (by decide) ?_
        refine wm_irem C (by decide) dX9_dishesOf_g0.2.2.2.2.2.2.2.2.2.1 ?_
        refine wm_if_ne (tgt := 20) C dX9_dishesOf_g0.2.2.2.2.2.2.2.2.2.2.1 (by decide) (fun c2 => ?_) (fun c2 => ?_)
        · have hf := (if_neg c2).symm.trans hf
          refine wm_iconst (v := 1) C dX9_dishesOf_g1.2.1 (by decide) ?_
          refine wm_pick [1] rfl ?_
          exact (hb21 _ hr) _ _ _ _ hf
        · have hf := (if_pos c2).symm.trans hf
          refine wm_iconst (v := 0) C dX9_dishesOf_g0.2.2.2.2.2.2.2.2.2.2.2 (by decide) ?_
          refine wm_goto (tgt := 21) C dX9_dishesOf_g1.1 (by decide) ?_
          refine wm_pick [1] rfl ?_
          exact (hb21 _ hr) _ _ _ _ hf
  have hf := ho
  unfold f_X9_dishesOf at hf
  refine wm_iconst (v := 0) C dX9_dishesOf_g0.1 (by decide) ?_
  refine wm_istore_n (lv1 := [(1, .int 0), (0, .int v0)]) C dX9_dishesOf_g0.2.1 (by decide) rfl ?_
  refine wm_iload_n 1 C dX9_dishesOf_g0.2.2.1 rfl ?_
  refine wm_istore_n (lv1 := [(2, .int v0), (1, .int 0), (0, .int v0)]) C dX9_dishesOf_g0.2.2.2.1 (by decide) rfl ?_
  refine wm_pick [1, 0] rfl ?_
  exact (hl4 FU) _ _ _ hf
set_option maxHeartbeats 4000000 in
set_option maxRecDepth 100000 in
theorem c_X9_best {l : Launch} {D : va_G} {cA : Nat → ClassId} {A : Nat → Nat} {Pl : List Nat} (hPl : ∀ q, 100 ≤ q → q < 118 → q ∈ Pl) (v1 : Int32) (M : Mem) (out : (Int32 × Mem)) (ho : f_X9_best v1 M = some out) : CtI l D cA A Pl yX9_best cX9_best 3 215 .int [.ref (A 100), .int v1] M out := by
  refine ct_I (by decide) (Nat.le_of_ble_eq_true rfl) (fun p e s m args below meth c C hrt => ?_)
  have hb42 : ∀ (v1 : Int32) (s1 : Int32) (M : Mem), f_X9_best_b42 v1 s1 M = some out → WM p l e (RM 215) s m args below meth c 0 0 (MQ below (QI D cA A Pl out) args s 0 0 (FA A Pl)) D cA A Pl (FA A Pl) 3 M 42 [(0, .ref (A 100)), (1, .int v1)] [.int s1, .ref (A 100)] := by
    intro v1 s1 M hf
    unfold f_X9_best_b42 at hf
    refine wm_iconst (v := (-1)) C dX9_best_g1.2.2.2.2.2.2.2.2.2.2.2 (by decide) ?_
    obtain ⟨o7, ho8, hf⟩ := bnd hf
    refine wm_callVv (As := [.int s1, .int (-1)]) (ci := 8) C (c_X9_bestOf hPl _ _ _ _ ho8) mi_X9_bestOf wt_X9_348 (hPl 100 (by decide) (by decide)) rfl rfl rfl rfl (by decide) (by decide) (Nat.le_of_ble_eq_true rfl) dX9_best_g2.1 ?_
    refine wm_iload_n 1 C dX9_best_g2.2.1 rfl ?_
    refine wm_iconst (v := 4) C dX9_best_g2.2.2.1 (by decide) ?_
    refine wm_icmp_ge (tgt := 69) C dX9_best_g2.2.2.2.1 (by decide) (fun c9 => ?_) (fun c9 => ?_)
    · have hf := (if_pos c9).symm.trans hf
      refine wm_aload_n 0 C dX9_best_g3.2.2.1 rfl ?_
      refine wm_get (ci := 8) (k := 32) (v := .int (o7 100 32)) C (hPl 100 (by decide) (by decide)) rfl rfl (by decide) wt_X9_324 iwX9 rfl dX9_best_g3.2.2.2.1 ?_
      obtain ⟨o10, ho11, hf⟩ := bnd hf
      refine wm_callSi (As := [.int (o7 100 32)]) C (c_X9_dishesOf hPl _ _ _ ho11) mi_X9_dishesOf wt_X9_351 rfl rfl (by decide) (by decide) (Nat.le_of_ble_eq_true rfl) dX9_best_g3.2.2.2.2.1 ?_
      refine wm_istore_n (lv1 := [(2, .int o10.1), (0, .ref (A 100)), (1, .int v1)]) C dX9_best_g3.2.2.2.2.2.1 (by decide) rfl ?_
      refine wm_iload_n 2 C dX9_best_g3.2.2.2.2.2.2.1 rfl ?_
      refine wm_iconst (v := 4) C dX9_best_g3.2.2.2.2.2.2.2.1 (by decide) ?_
      refine wm_icmp_ne (tgt := 89) C dX9_best_g3.2.2.2.2.2.2.2.2.1 (by decide) (fun c12 => ?_) (fun c12 => ?_)
      · have hf := (if_neg c12).symm.trans hf
        refine wm_iload_n 2 C dX9_best_g4.1 rfl ?_
        refine wm_iconst (v := 5) C dX9_best_g4.2.1 (by decide) ?_
        refine wm_icmp_ne (tgt := 107) C dX9_best_g4.2.2.1 (by decide) (fun c13 => ?_) (fun c13 => ?_)
        · have hf := (if_neg c13).symm.trans hf
          refine wm_iload_n 2 C dX9_best_g4.2.2.2.2.2.2.2.2.2.2.1 rfl ?_
          refine wm_bipush (v := 6) C dX9_best_g4.2.2.2.2.2.2.2.2.2.2.2 (by decide) ?_
          refine wm_icmp_ne (tgt := 117) C dX9_best_g5.1 (by decide) (fun c14 => ?_) (fun c14 => ?_)
          · have hf := (if_neg c14).symm.trans hf
            refine wm_aload_n 1 C dX9_best_g5.2.2.2.1 rfl ?_
            refine wm_get (ci := 8) (k := 36) (v := .int (o10.2 100 36)) C (hPl 100 (by decide) (by decide)) rfl rfl (by decide) wt_X9_336 iwX9 rfl dX9_best_g5.2.2.2.2.1 ?_
            exact wm_iret C hrt hf dX9_best_g5.2.2.2.2.2
          · have hf := (if_pos c14).symm.trans hf
            refine wm_iload_n 0 C dX9_best_g5.2.1 rfl ?_
            refine wm_goto (tgt := 121) C dX9_best_g5.2.2.1 (by decide) ?_
            exact wm_iret C hrt hf dX9_best_g5.2.2.2.2.2
        · have hf := (if_pos c13).symm.trans hf
          refine wm_sipush (v := 10000) C dX9_best_g4.2.2.2.1 (by decide) ?_
          refine wm_iload_n 0 C dX9_best_g4.2.2.2.2.1 rfl ?_
          refine wm_imul C dX9_best_g4.2.2.2.2.2.1 ?_
          refine wm_aload_n 1 C dX9_best_g4.2.2.2.2.2.2.1 rfl ?_
          refine wm_get (ci := 8) (k := 33) (v := .int (o10.2 100 33)) C (hPl 100 (by decide) (by decide)) rfl rfl (by decide) wt_X9_327 iwX9 rfl dX9_best_g4.2.2.2.2.2.2.2.1 ?_
          refine wm_isub C dX9_best_g4.2.2.2.2.2.2.2.2.1 ?_
          refine wm_goto (tgt := 121) C dX9_best_g4.2.2.2.2.2.2.2.2.2.1 (by decide) ?_
          exact wm_iret C hrt hf dX9_best_g5.2.2.2.2.2
      · have hf := (if_pos c12).symm.trans hf
        refine wm_aload_n 1 C dX9_best_g3.2.2.2.2.2.2.2.2.2.1 rfl ?_
        refine wm_get (ci := 8) (k := 32) (v := .int (o10.2 100 32)) C (hPl 100 (by decide) (by decide)) rfl rfl (by decide) wt_X9_324 iwX9 rfl dX9_best_g3.2.2.2.2.2.2.2.2.2.2.1 ?_
        refine wm_goto (tgt := 121) C dX9_best_g3.2.2.2.2.2.2.2.2.2.2.2 (by decide) ?_
        exact wm_iret C hrt hf dX9_best_g5.2.2.2.2.2
    · have hf := (if_neg c9).symm.trans hf
      refine wm_iload_n 1 C dX9_best_g2.2.2.2.2.1 rfl ?_
      refine wm_iconst (v := 2) C dX9_best_g2.2.2.2.2.2.1 (by decide) ?_
      refine wm_irem C (by decide) dX9_best_g2.2.2.2.2.2.2.1 ?_
      refine wm_if_ne (tgt := 64) C dX9_best_g2.2.2.2.2.2.2.2.1 (by decide) (fun c15 => ?_) (fun c15 => ?_)
      · have hf := (if_neg c15).symm.trans hf
        refine wm_aload_n 0 C dX9_best_g2.2.2.2.2.2.2.2.2.2.2.2 rfl ?_
        refine wm_get (ci := 8) (k := 33) (v := .int (o7 100 33)) C (hPl 100 (by decide) (by decide)) rfl rfl (by decide) wt_X9_327 iwX9 rfl dX9_best_g3.1 ?_
        exact wm_iret C hrt hf dX9_best_g3.2.1
      · have hf := (if_pos c15).symm.trans hf
        refine wm_aload_n 0 C dX9_best_g2.2.2.2.2.2.2.2.2.1 rfl ?_
        refine wm_get (ci := 8) (k := 32) (v := .int (o7 100 32)) C (hPl 100 (by decide) (by decide)) rfl rfl (by decide) wt_X9_324 iwX9 rfl dX9_best_g2.2.2.2.2.2.2.2.2.2.1 ?_
        refine wm_goto (tgt := 68) C dX9_best_g2.2.2.2.2.2.2.2.2.2.2.1 (by decide) ?_
        exact wm_iret C hrt hf dX9_best_g3.2.1
  have hb28 : ∀ (v1 : Int32) (M : Mem), f_X9_best_b28 v1 M = some out → WM p l e (RM 215) s m args below meth c 0 0 (MQ below (QI D cA A Pl out) args s 0 0 (FA A Pl)) D cA A Pl (FA A Pl) 3 M 28 [(0, .ref (A 100)), (1, .int v1)] [.ref (A 100)] := by
    intro v1 M hf
    unfold f_X9_best_b28 at hf
    refine wm_iconst (v := 0) C dX9_best_g1.2.2.2.1 (by decide) ?_
    refine wm_goto (tgt := 42) C dX9_best_g1.2.2.2.2.1 (by decide) ?_
    exact hb42 _ _ _ hf
  have hf := ho
  unfold f_X9_best at hf
  refine wm_iload_n 1 C dX9_best_g0.1 rfl ?_
  refine wm_i2l C dX9_best_g0.2.1 ?_
  refine wm_lconst (v := 0) C dX9_best_g0.2.2.1 (by decide) ?_
  refine wm_ldc2 (v := 7) C wt_X9_346 dX9_best_g0.2.2.2.1 ?_
  obtain ⟨o1, ho2, hf⟩ := bnd hf
  refine wm_callSi (As := [.long ((v1 : Int32).toInt64), .long 0, .long 7]) C (c_X9_in hPl _ _ _ _ _ ho2) mi_X9_in wt_X9_79 rfl rfl (by decide) (by decide) (Nat.le_of_ble_eq_true rfl) dX9_best_g0.2.2.2.2.1 ?_
  refine wm_if_ne (tgt := 16) C dX9_best_g0.2.2.2.2.2.1 (by decide) (fun c3 => ?_) (fun c3 => ?_)
  · have hf := (if_neg c3).symm.trans hf
    refine wm_aload_n 0 C dX9_best_g0.2.2.2.2.2.2.2.2.1 rfl ?_
    refine wm_iload_n 1 C dX9_best_g0.2.2.2.2.2.2.2.2.2.1 rfl ?_
    refine wm_iconst (v := 2) C dX9_best_g0.2.2.2.2.2.2.2.2.2.2.1 (by decide) ?_
    refine wm_icmp_lt (tgt := 28) C dX9_best_g0.2.2.2.2.2.2.2.2.2.2.2 (by decide) (fun c4 => ?_) (fun c4 => ?_)
    · have hf := (if_pos c4).symm.trans hf
      exact hb28 _ _ hf
    · have hf := (if_neg c4).symm.trans hf
      refine wm_iload_n 1 C dX9_best_g1.1 rfl ?_
      refine wm_bipush (v := 7) C dX9_best_g1.2.1 (by decide) ?_
      refine wm_icmp_ne (tgt := 32) C dX9_best_g1.2.2.1 (by decide) (fun c5 => ?_) (fun c5 => ?_)
      · have hf := (if_neg c5).symm.trans hf
        refine wm_iload_n 1 C dX9_best_g1.2.2.2.2.2.1 rfl ?_
        refine wm_iconst (v := 4) C dX9_best_g1.2.2.2.2.2.2.1 (by decide) ?_
        refine wm_icmp_ge (tgt := 41) C dX9_best_g1.2.2.2.2.2.2.2.1 (by decide) (fun c6 => ?_) (fun c6 => ?_)
        · have hf := (if_pos c6).symm.trans hf
          refine wm_iconst (v := 2) C dX9_best_g1.2.2.2.2.2.2.2.2.2.2.1 (by decide) ?_
          exact hb42 _ _ _ hf
        · have hf := (if_neg c6).symm.trans hf
          refine wm_iconst (v := 1) C dX9_best_g1.2.2.2.2.2.2.2.2.1 (by decide) ?_
          refine wm_goto (tgt := 42) C dX9_best_g1.2.2.2.2.2.2.2.2.2.1 (by decide) ?_
          exact hb42 _ _ _ hf
      · have hf := (if_pos c5).symm.trans hf
        exact hb28 _ _ hf
  · have hf := (if_pos c3).symm.trans hf
    refine wm_ldc_w (v := (-100000)) C wt_X9_320 dX9_best_g0.2.2.2.2.2.2.1 ?_
    exact wm_iret C hrt hf dX9_best_g0.2.2.2.2.2.2.2.1
set_option maxHeartbeats 4000000 in
set_option maxRecDepth 100000 in
theorem c_X9_leave {l : Launch} {D : va_G} {cA : Nat → ClassId} {A : Nat → Nat} {Pl : List Nat} (hPl : ∀ q, 100 ≤ q → q < 118 → q ∈ Pl) (v1 : Int32) (M : Mem) (out : (Int32 × Mem)) (ho : f_X9_leave v1 M = some out) : CtI l D cA A Pl yX9_leave cX9_leave 5 215 .int [.ref (A 100), .int v1] M out := by
  refine ct_I (by decide) (Nat.le_of_ble_eq_true rfl) (fun p e s m args below meth c C hrt => ?_)
  have hb58 : ∀ (r : Int32 → Int32 → Int32 → Int32 → Mem → Option (Int32 × Mem)) (hr : ∀ (v1 : Int32) (v2 : Int32) (v3 : Int32) (v4 : Int32) (M : Mem), r v1 v2 v3 v4 M = some out → WM p l e (RM 215) s m args below meth c 0 0 (MQ below (QI D cA A Pl out) args s 0 0 (FA A Pl)) D cA A Pl (FA A Pl) 5 M 21 [(0, .ref (A 100)), (1, .int v1), (2, .int v2), (3, .int v3), (4, .int v4)] []) (k64 : Int32 → Int32 → Int32 → Mem → Option (Int32 × Mem)) (hk64 : ∀ (v1 : Int32) (v2 : Int32) (v3 : Int32) (M : Mem), k64 v1 v2 v3 M = some out → WM p l e (RM 215) s m args below meth c 0 0 (MQ below (QI D cA A Pl out) args s 0 0 (FA A Pl)) D cA A Pl (FA A Pl) 5 M 64 [(1, .int v1), (2, .int v2), (3, .int v3)] []), ∀ (v1 : Int32) (v2 : Int32) (v3 : Int32) (v4 : Int32) (M : Mem), f_X9_leave_b58 r k64 v1 v2 v3 v4 M = some out → WM p l e (RM 215) s m args below meth c 0 0 (MQ below (QI D cA A Pl out) args s 0 0 (FA A Pl)) D cA A Pl (FA A Pl) 5 M 58 [(0, .ref (A 100)), (1, .int v1), (2, .int v2), (3, .int v3), (4, .int v4)] [] := by
    intro r hr k64 hk64 v1 v2 v3 v4 M hf
    unfold f_X9_leave_b58 at hf
    refine wm_iinc (lv1 := [(4, .int (v4 + 1)), (0, .ref (A 100)), (1, .int v1), (2, .int v2), (3, .int v3)]) (v := (v4 + 1)) 4 C dX9_leave_g2.2.2.2.2.2.2.2.2.2.2.1 rfl (by first | rfl | decide) (by decide) rfl ?_
    refine wm_goto (tgt := 21) C dX9_leave_g2.2.2.2.2.2.2.2.2.2.2.2 (by decide) ?_
    refine wm_pick [1, 2, 3, 4, 0] rfl ?_
    exact hr _ _ _ _ _ hf
  have hb50 : ∀ (r : Int32 → Int32 → Int32 → Int32 → Mem → Option (Int32 × Mem)) (hr : ∀ (v1 : Int32) (v2 : Int32) (v3 : Int32) (v4 : Int32) (M : Mem), r v1 v2 v3 v4 M = some out → WM p l e (RM 215) s m args below meth c 0 0 (MQ below (QI D cA A Pl out) args s 0 0 (FA A Pl)) D cA A Pl (FA A Pl) 5 M 21 [(0, .ref (A 100)), (1, .int v1), (2, .int v2), (3, .int v3), (4, .int v4)] []) (k64 : Int32 → Int32 → Int32 → Mem → Option (Int32 × Mem)) (hk64 : ∀ (v1 : Int32) (v2 : Int32) (v3 : Int32) (M : Mem), k64 v1 v2 v3 M = some out → WM p l e (RM 215) s m args below meth c 0 0 (MQ below (QI D cA A Pl out) args s 0 0 (FA A Pl)) D cA A Pl (FA A Pl) 5 M 64 [(1, .int v1), (2, .int v2), (3, .int v3)] []), ∀ (v1 : Int32) (v4 : Int32) (M : Mem), f_X9_leave_b50 r k64 v1 v4 M = some out → WM p l e (RM 215) s m args below meth c 0 0 (MQ below (QI D cA A Pl out) args s 0 0 (FA A Pl)) D cA A Pl (FA A Pl) 5 M 50 [(0, .ref (A 100)), (1, .int v1), (4, .int v4)] [] := by
    intro r hr k64 hk64 v1 v4 M hf
    unfold f_X9_leave_b50 at hf
    refine wm_iload 2 C dX9_leave_g2.2.2.2.2.2.1 rfl ?_
    refine wm_istore_n (lv1 := [(2, .int v4), (0, .ref (A 100)), (1, .int v1), (4, .int v4)]) C dX9_leave_g2.2.2.2.2.2.2.1 (by decide) rfl ?_
    refine wm_aload_n 1 C dX9_leave_g2.2.2.2.2.2.2.2.1 rfl ?_
    refine wm_get (ci := 8) (k := 33) (v := .int (M 100 33)) C (hPl 100 (by decide) (by decide)) rfl rfl (by decide) wt_X9_327 iwX9 rfl dX9_leave_g2.2.2.2.2.2.2.2.2.1 ?_
    refine wm_istore_n (lv1 := [(3, .int (M 100 33)), (2, .int v4), (0, .ref (A 100)), (1, .int v1), (4, .int v4)]) C dX9_leave_g2.2.2.2.2.2.2.2.2.2.1 (by decide) rfl ?_
    refine wm_pick [2, 3, 1, 0, 4] rfl ?_
    exact (hb58 _ hr _ hk64) _ _ _ _ _ hf
  have hl21 : ∀ (k64 : Int32 → Int32 → Int32 → Mem → Option (Int32 × Mem)) (hk64 : ∀ (v1 : Int32) (v2 : Int32) (v3 : Int32) (M : Mem), k64 v1 v2 v3 M = some out → WM p l e (RM 215) s m args below meth c 0 0 (MQ below (QI D cA A Pl out) args s 0 0 (FA A Pl)) D cA A Pl (FA A Pl) 5 M 64 [(1, .int v1), (2, .int v2), (3, .int v3)] []) (n : Nat), ∀ (v1 : Int32) (v2 : Int32) (v3 : Int32) (v4 : Int32) (M : Mem), f_X9_leave_l21 k64 n v1 v2 v3 v4 M = some out → WM p l e (RM 215) s m args below meth c 0 0 (MQ below (QI D cA A Pl out) args s 0 0 (FA A Pl)) D cA A Pl (FA A Pl) 5 M 21 [(0, .ref (A 100)), (1, .int v1), (2, .int v2), (3, .int v3), (4, .int v4)] [] := by
    intro k64 hk64 n
    induction n with
    | zero => intro v1 v2 v3 v4 M hf; rw [f_X9_leave_l21] at hf; cases hf
    | succ n hr =>
      intro v1 v2 v3 v4 M hf
      rw [f_X9_leave_l21] at hf
      refine wm_iload 4 C dX9_leave_g1.2.2.1 rfl ?_
      refine wm_aload_n 0 C dX9_leave_g1.2.2.2.1 rfl ?_
      refine wm_get (ci := 8) (k := 12) (v := .int (M 100 12)) C (hPl 100 (by decide) (by decide)) rfl rfl (by decide) wt_X9_76 iwX9 rfl dX9_leave_g1.2.2.2.2.1 ?_
      refine wm_icmp_ge (tgt := 64) C dX9_leave_g1.2.2.2.2.2.1 (by decide) (fun c5 => ?_) (fun c5 => ?_)
      · have hf := (if_pos c5).symm.trans hf
        refine wm_pick [1, 2, 3] rfl ?_
        exact hk64 _ _ _ _ hf
      · have hf := (if_neg c5).symm.trans hf
        refine wm_aload_n 0 C dX9_leave_g1.2.2.2.2.2.2.1 rfl ?_
        refine wm_iconst (v := 0) C dX9_leave_g1.2.2.2.2.2.2.2.1 (by decide) ?_
        refine wm_iload 4 C dX9_leave_g1.2.2.2.2.2.2.2.2.1 rfl ?_
        obtain ⟨o6, ho7, hf⟩ := bnd hf
        refine wm_callVv (As := [.int 0, .int v4]) (ci := 8) C (c_X9_bestOf hPl _ _ _ _ ho7) mi_X9_bestOf wt_X9_348 (hPl 100 (by decide) (by decide)) rfl rfl rfl rfl (by decide) (by decide) (Nat.le_of_ble_eq_true rfl) dX9_leave_g1.2.2.2.2.2.2.2.2.2.1 ?_
        refine wm_iload_n 2 C dX9_leave_g1.2.2.2.2.2.2.2.2.2.2.1 rfl ?_
        refine wm_iconst (v := (-1)) C dX9_leave_g1.2.2.2.2.2.2.2.2.2.2.2 (by decide) ?_
        refine wm_icmp_eq (tgt := 50) C dX9_leave_g2.1 (by decide) (fun c8 => ?_) (fun c8 => ?_)
        · have hf := (if_pos c8).symm.trans hf
          refine wm_pick [0, 1, 4] rfl ?_
          exact (hb50 _ hr _ hk64) _ _ _ hf
        · have hf := (if_neg c8).symm.trans hf
          refine wm_aload_n 0 C dX9_leave_g2.2.1 rfl ?_
          refine wm_get (ci := 8) (k := 33) (v := .int (o6 100 33)) C (hPl 100 (by decide) (by decide)) rfl rfl (by decide) wt_X9_327 iwX9 rfl dX9_leave_g2.2.2.1 ?_
          refine wm_iload_n 3 C dX9_leave_g2.2.2.2.1 rfl ?_
          refine wm_icmp_le (tgt := 58) C dX9_leave_g2.2.2.2.2.1 (by decide) (fun c9 => ?_) (fun c9 => ?_)
          · have hf := (if_pos c9).symm.trans hf
            exact (hb58 _ hr _ hk64) _ _ _ _ _ hf
          · have hf := (if_neg c9).symm.trans hf
            refine wm_pick [0, 1, 4] rfl ?_
            exact (hb50 _ hr _ hk64) _ _ _ hf
  have hb64 : ∀ (v1 : Int32) (v2 : Int32) (v3 : Int32) (M : Mem), f_X9_leave_b64 v1 v2 v3 M = some out → WM p l e (RM 215) s m args below meth c 0 0 (MQ below (QI D cA A Pl out) args s 0 0 (FA A Pl)) D cA A Pl (FA A Pl) 5 M 64 [(1, .int v1), (2, .int v2), (3, .int v3)] [] := by
    intro v1 v2 v3 M hf
    unfold f_X9_leave_b64 at hf
    refine wm_iload_n 0 C dX9_leave_g3.1 rfl ?_
    refine wm_if_ne (tgt := 72) C dX9_leave_g3.2.1 (by decide) (fun c4 => ?_) (fun c4 => ?_)
    · have hf := (if_neg c4).symm.trans hf
      refine wm_iload_n 2 C dX9_leave_g3.2.2.2.2.1 rfl ?_
      exact wm_iret C hrt hf dX9_leave_g3.2.2.2.2.2
    · have hf := (if_pos c4).symm.trans hf
      refine wm_iload_n 1 C dX9_leave_g3.2.2.1 rfl ?_
      refine wm_goto (tgt := 73) C dX9_leave_g3.2.2.2.1 (by decide) ?_
      exact wm_iret C hrt hf dX9_leave_g3.2.2.2.2.2
  have hf := ho
  unfold f_X9_leave at hf
  refine wm_iload_n 1 C dX9_leave_g0.1 rfl ?_
  refine wm_i2l C dX9_leave_g0.2.1 ?_
  refine wm_lconst (v := 0) C dX9_leave_g0.2.2.1 (by decide) ?_
  refine wm_lconst (v := 1) C dX9_leave_g0.2.2.2.1 (by decide) ?_
  obtain ⟨o1, ho2, hf⟩ := bnd hf
  refine wm_callSi (As := [.long ((v1 : Int32).toInt64), .long 0, .long 1]) C (c_X9_in hPl _ _ _ _ _ ho2) mi_X9_in wt_X9_79 rfl rfl (by decide) (by decide) (Nat.le_of_ble_eq_true rfl) dX9_leave_g0.2.2.2.2.1 ?_
  refine wm_if_ne (tgt := 14) C dX9_leave_g0.2.2.2.2.2.1 (by decide) (fun c3 => ?_) (fun c3 => ?_)
  · have hf := (if_neg c3).symm.trans hf
    refine wm_iconst (v := (-1)) C dX9_leave_g0.2.2.2.2.2.2.2.2.1 (by decide) ?_
    refine wm_istore_n (lv1 := [(2, .int (-1)), (0, .ref (A 100)), (1, .int v1)]) C dX9_leave_g0.2.2.2.2.2.2.2.2.2.1 (by decide) rfl ?_
    refine wm_iconst (v := 0) C dX9_leave_g0.2.2.2.2.2.2.2.2.2.2.1 (by decide) ?_
    refine wm_istore_n (lv1 := [(3, .int 0), (2, .int (-1)), (0, .ref (A 100)), (1, .int v1)]) C dX9_leave_g0.2.2.2.2.2.2.2.2.2.2.2 (by decide) rfl ?_
    refine wm_iconst (v := 0) C dX9_leave_g1.1 (by decide) ?_
    refine wm_istore (lv1 := [(4, .int 0), (3, .int 0), (2, .int (-1)), (0, .ref (A 100)), (1, .int v1)]) C dX9_leave_g1.2.1 (by decide) rfl ?_
    refine wm_pick [3, 4, 2, 1, 0] rfl ?_
    exact (hl21 _ hb64 FU) _ _ _ _ _ hf
  · have hf := (if_pos c3).symm.trans hf
    refine wm_ldc_w (v := (-100000)) C wt_X9_320 dX9_leave_g0.2.2.2.2.2.2.1 ?_
    exact wm_iret C hrt hf dX9_leave_g0.2.2.2.2.2.2.2.1
set_option maxHeartbeats 4000000 in
set_option maxRecDepth 100000 in
theorem c_X9_buy {l : Launch} {D : va_G} {cA : Nat → ClassId} {A : Nat → Nat} {Pl : List Nat} (hPl : ∀ q, 100 ≤ q → q < 118 → q ∈ Pl) (v1 : Int32) (v2 : Int32) (M : Mem) (out : (Int32 × Mem)) (ho : f_X9_buy v1 v2 M = some out) : CtI l D cA A Pl yX9_buy cX9_buy 7 215 .int [.ref (A 100), .int v1, .int v2] M out := by
  refine ct_I (by decide) (Nat.le_of_ble_eq_true rfl) (fun p e s m args below meth c C hrt => ?_)
  have hb115 : ∀ (r : Int32 → Int32 → Int32 → Int32 → Int32 → Mem → Option (Int32 × Mem)) (hr : ∀ (v1 : Int32) (v2 : Int32) (v3 : Int32) (v4 : Int32) (v5 : Int32) (M : Mem), r v1 v2 v3 v4 v5 M = some out → WM p l e (RM 215) s m args below meth c 0 0 (MQ below (QI D cA A Pl out) args s 0 0 (FA A Pl)) D cA A Pl (FA A Pl) 7 M 29 [(0, .ref (A 100)), (1, .int v1), (2, .int v2), (3, .int v3), (4, .int v4), (5, .int v5)] []) (k121 : Int32 → Int32 → Int32 → Mem → Option (Int32 × Mem)) (hk121 : ∀ (v2 : Int32) (v3 : Int32) (v4 : Int32) (M : Mem), k121 v2 v3 v4 M = some out → WM p l e (RM 215) s m args below meth c 0 0 (MQ below (QI D cA A Pl out) args s 0 0 (FA A Pl)) D cA A Pl (FA A Pl) 7 M 121 [(2, .int v2), (3, .int v3), (4, .int v4)] []), ∀ (v1 : Int32) (v2 : Int32) (v3 : Int32) (v4 : Int32) (v5 : Int32) (M : Mem), f_X9_buy_b115 r k121 v1 v2 v3 v4 v5 M = some out → WM p l e (RM 215) s m args below meth c 0 0 (MQ below (QI D cA A Pl out) args s 0 0 (FA A Pl)) D cA A Pl (FA A Pl) 7 M 115 [(0, .ref (A 100)), (1, .int v1), (2, .int v2), (3, .int v3), (4, .int v4), (5, .int v5)] [] := by
    intro r hr k121 hk121 v1 v2 v3 v4 v5 M hf
    unfold f_X9_buy_b115 at hf
    refine wm_iinc (lv1 := [(5, .int (v5 + 1)), (0, .ref (A 100)), (1, .int v1), (2, .int v2), (3, .int v3), (4, .int v4)]) (v := (v5 + 1)) 5 C dX9_buy_g5.2.2.2.2.2.2.2.2.1 rfl (by first | rfl | decide) (by decide) rfl ?_
    refine wm_goto (tgt := 29) C dX9_buy_g5.2.2.2.2.2.2.2.2.2.1 (by decide) ?_
    refine wm_pick [1, 2, 3, 4, 5, 0] rfl ?_
    exact hr _ _ _ _ _ _ hf
  have hb106 : ∀ (r : Int32 → Int32 → Int32 → Int32 → Int32 → Mem → Option (Int32 × Mem)) (hr : ∀ (v1 : Int32) (v2 : Int32) (v3 : Int32) (v4 : Int32) (v5 : Int32) (M : Mem), r v1 v2 v3 v4 v5 M = some out → WM p l e (RM 215) s m args below meth c 0 0 (MQ below (QI D cA A Pl out) args s 0 0 (FA A Pl)) D cA A Pl (FA A Pl) 7 M 29 [(0, .ref (A 100)), (1, .int v1), (2, .int v2), (3, .int v3), (4, .int v4), (5, .int v5)] []) (k121 : Int32 → Int32 → Int32 → Mem → Option (Int32 × Mem)) (hk121 : ∀ (v2 : Int32) (v3 : Int32) (v4 : Int32) (M : Mem), k121 v2 v3 v4 M = some out → WM p l e (RM 215) s m args below meth c 0 0 (MQ below (QI D cA A Pl out) args s 0 0 (FA A Pl)) D cA A Pl (FA A Pl) 7 M 121 [(2, .int v2), (3, .int v3), (4, .int v4)] []), ∀ (v1 : Int32) (v2 : Int32) (v5 : Int32) (M : Mem), f_X9_buy_b106 r k121 v1 v2 v5 M = some out → WM p l e (RM 215) s m args below meth c 0 0 (MQ below (QI D cA A Pl out) args s 0 0 (FA A Pl)) D cA A Pl (FA A Pl) 7 M 106 [(0, .ref (A 100)), (1, .int v1), (2, .int v2), (5, .int v5)] [] := by
    intro r hr k121 hk121 v1 v2 v5 M hf
    unfold f_X9_buy_b106 at hf
    refine wm_iload 3 C dX9_buy_g5.2.2.2.1 rfl ?_
    refine wm_istore_n (lv1 := [(3, .int v5), (0, .ref (A 100)), (1, .int v1), (2, .int v2), (5, .int v5)]) C dX9_buy_g5.2.2.2.2.1 (by decide) rfl ?_
    refine wm_aload_n 1 C dX9_buy_g5.2.2.2.2.2.1 rfl ?_
    refine wm_get (ci := 8) (k := 33) (v := .int (M 100 33)) C (hPl 100 (by decide) (by decide)) rfl rfl (by decide) wt_X9_327 iwX9 rfl dX9_buy_g5.2.2.2.2.2.2.1 ?_
    refine wm_istore (lv1 := [(4, .int (M 100 33)), (3, .int v5), (0, .ref (A 100)), (1, .int v1), (2, .int v2), (5, .int v5)]) C dX9_buy_g5.2.2.2.2.2.2.2.1 (by decide) rfl ?_
    refine wm_pick [2, 3, 4, 1, 0, 5] rfl ?_
    exact (hb115 _ hr _ hk121) _ _ _ _ _ _ hf
  have hl29 : ∀ (k121 : Int32 → Int32 → Int32 → Mem → Option (Int32 × Mem)) (hk121 : ∀ (v2 : Int32) (v3 : Int32) (v4 : Int32) (M : Mem), k121 v2 v3 v4 M = some out → WM p l e (RM 215) s m args below meth c 0 0 (MQ below (QI D cA A Pl out) args s 0 0 (FA A Pl)) D cA A Pl (FA A Pl) 7 M 121 [(2, .int v2), (3, .int v3), (4, .int v4)] []) (n : Nat), ∀ (v1 : Int32) (v2 : Int32) (v3 : Int32) (v4 : Int32) (v5 : Int32) (M : Mem), f_X9_buy_l29 k121 n v1 v2 v3 v4 v5 M = some out → WM p l e (RM 215) s m args below meth c 0 0 (MQ below (QI D cA A Pl out) args s 0 0 (FA A Pl)) D cA A Pl (FA A Pl) 7 M 29 [(0, .ref (A 100)), (1, .int v1), (2, .int v2), (3, .int v3), (4, .int v4), (5, .int v5)] [] := by
    intro k121 hk121 n
    induction n with
    | zero => intro v1 v2 v3 v4 v5 M hf; rw [f_X9_buy_l29] at hf; cases hf
    | succ n hr =>
      intro v1 v2 v3 v4 v5 M hf
      rw [f_X9_buy_l29] at hf
      refine wm_iload 5 C dX9_buy_g1.2.2.2.2.2.1 rfl ?_
      refine wm_bipush (v := 6) C dX9_buy_g1.2.2.2.2.2.2.1 (by decide) ?_
      refine wm_icmp_ge (tgt := 121) C dX9_buy_g1.2.2.2.2.2.2.2.1 (by decide) (fun c8 => ?_) (fun c8 => ?_)
      · have hf := (if_pos c8).symm.trans hf
        refine wm_pick [2, 3, 4] rfl ?_
        exact hk121 _ _ _ _ hf
      · have hf := (if_neg c8).symm.trans hf
        refine wm_aload_n 0 C dX9_buy_g1.2.2.2.2.2.2.2.2.1 rfl ?_
        refine wm_get (ci := 8) (k := 8) (v := .ref (A 104)) C (hPl 100 (by decide) (by decide)) rfl rfl (by decide) wt_X9_23 iwX9 rfl dX9_buy_g1.2.2.2.2.2.2.2.2.2.1 ?_
        refine wm_bipush (v := 6) C dX9_buy_g1.2.2.2.2.2.2.2.2.2.2.1 (by decide) ?_
        refine wm_iload_n 1 C dX9_buy_g1.2.2.2.2.2.2.2.2.2.2.2 rfl ?_
        refine wm_imul C dX9_buy_g2.1 ?_
        refine wm_iload 5 C dX9_buy_g2.2.1 rfl ?_
        refine wm_iadd C dX9_buy_g2.2.2.1 ?_
        obtain ⟨h9, hf⟩ := ckd hf
        refine wm_iald (n := 12) (j := (((6 * v1) + v5)).toNatClampNeg) (v := (M 104 (((6 * v1) + v5)).toNatClampNeg)) C (hPl 104 (by decide) (by decide)) rfl rfl rfl h9 rfl rfl dX9_buy_g2.2.2.2.1 ?_
        refine wm_istore (lv1 := [(6, .int (M 104 (((6 * v1) + v5)).toNatClampNeg)), (0, .ref (A 100)), (1, .int v1), (2, .int v2), (3, .int v3), (4, .int v4), (5, .int v5)]) C dX9_buy_g2.2.2.2.2.1 (by decide) rfl ?_
        refine wm_aload_n 1 C dX9_buy_g2.2.2.2.2.2.1 rfl ?_
        refine wm_get (ci := 8) (k := 8) (v := .ref (A 104)) C (hPl 100 (by decide) (by decide)) rfl rfl (by decide) wt_X9_23 iwX9 rfl dX9_buy_g2.2.2.2.2.2.2.1 ?_
        refine wm_bipush (v := 6) C dX9_buy_g2.2.2.2.2.2.2.2.1 (by decide) ?_
        refine wm_iload_n 2 C dX9_buy_g2.2.2.2.2.2.2.2.2.1 rfl ?_
        refine wm_imul C dX9_buy_g2.2.2.2.2.2.2.2.2.2.1 ?_
        refine wm_iload 6 C dX9_buy_g2.2.2.2.2.2.2.2.2.2.2.1 rfl ?_
        refine wm_iadd C dX9_buy_g2.2.2.2.2.2.2.2.2.2.2.2 ?_
        refine wm_iload 0 C dX9_buy_g3.1 rfl ?_
        refine wm_iconst (v := 1) C dX9_buy_g3.2.1 (by decide) ?_
        refine wm_iadd C dX9_buy_g3.2.2.1 ?_
        refine wm_iconst (v := 0) C dX9_buy_g3.2.2.2.1 (by decide) ?_
        refine wm_bipush (v := 99) C dX9_buy_g3.2.2.2.2.1 (by decide) ?_
        obtain ⟨o10, ho11, hf⟩ := bnd hf
        refine wm_callSi (As := [.int ((M 104 (((6 * v1) + v5)).toNatClampNeg) + 1), .int 0, .int 99]) C (c_X9_within hPl _ _ _ _ _ ho11) mi_X9_within wt_X9_255 rfl rfl (by decide) (by decide) (Nat.le_of_ble_eq_true rfl) dX9_buy_g3.2.2.2.2.2.1 ?_
        refine wm_iast (n := 12) (j := (((6 * v1) + v5)).toNatClampNeg) (x := o10.1) C (hPl 104 (by decide) (by decide)) rfl rfl rfl h9 rfl dX9_buy_g3.2.2.2.2.2.2.1 ?_
        refine wm_aload_n 1 C dX9_buy_g3.2.2.2.2.2.2.2.1 rfl ?_
        refine wm_iconst (v := 0) C dX9_buy_g3.2.2.2.2.2.2.2.2.1 (by decide) ?_
        refine wm_iconst (v := (-1)) C dX9_buy_g3.2.2.2.2.2.2.2.2.2.1 (by decide) ?_
        obtain ⟨o12, ho13, hf⟩ := bnd hf
        refine wm_callVv (As := [.int 0, .int (-1)]) (ci := 8) C (c_X9_bestOf hPl _ _ _ _ ho13) mi_X9_bestOf wt_X9_348 (hPl 100 (by decide) (by decide)) rfl rfl rfl rfl (by decide) (by decide) (Nat.le_of_ble_eq_true rfl) dX9_buy_g3.2.2.2.2.2.2.2.2.2.2.1 ?_
        refine wm_aload_n 1 C dX9_buy_g3.2.2.2.2.2.2.2.2.2.2.2 rfl ?_
        refine wm_get (ci := 8) (k := 8) (v := .ref (A 104)) C (hPl 100 (by decide) (by decide)) rfl rfl (by decide) wt_X9_23 iwX9 rfl dX9_buy_g4.1 ?_
        refine wm_bipush (v := 6) C dX9_buy_g4.2.1 (by decide) ?_
        refine wm_iload_n 2 C dX9_buy_g4.2.2.1 rfl ?_
        refine wm_imul C dX9_buy_g4.2.2.2.1 ?_
        refine wm_iload 6 C dX9_buy_g4.2.2.2.2.1 rfl ?_
        refine wm_iadd C dX9_buy_g4.2.2.2.2.2.1 ?_
        refine wm_iload 0 C dX9_buy_g4.2.2.2.2.2.2.1 rfl ?_
        refine wm_iast (n := 12) (j := (((6 * v1) + v5)).toNatClampNeg) (x := (M 104 (((6 * v1) + v5)).toNatClampNeg)) C (hPl 104 (by decide) (by decide)) rfl rfl rfl h9 rfl dX9_buy_g4.2.2.2.2.2.2.2.1 ?_
        refine wm_iload_n 4 C dX9_buy_g4.2.2.2.2.2.2.2.2.1 rfl ?_
        refine wm_iconst (v := (-1)) C dX9_buy_g4.2.2.2.2.2.2.2.2.2.1 (by decide) ?_
        refine wm_icmp_eq (tgt := 106) C dX9_buy_g4.2.2.2.2.2.2.2.2.2.2.1 (by decide) (fun c14 => ?_) (fun c14 => ?_)
        · have hf := (if_pos c14).symm.trans hf
          refine wm_pick [1, 2, 3, 6] rfl ?_
          exact (hb106 _ hr _ hk121) _ _ _ _ hf
        · have hf := (if_neg c14).symm.trans hf
          refine wm_aload_n 1 C dX9_buy_g4.2.2.2.2.2.2.2.2.2.2.2 rfl ?_
          refine wm_get (ci := 8) (k := 33) (v := .int (o12 100 33)) C (hPl 100 (by decide) (by decide)) rfl rfl (by decide) wt_X9_327 iwX9 (by first | rfl | simp [fld, mu, upd, mcp]) dX9_buy_g5.1 ?_
          refine wm_iload 5 C dX9_buy_g5.2.1 rfl ?_
          refine wm_icmp_le (tgt := 115) C dX9_buy_g5.2.2.1 (by decide) (fun c15 => ?_) (fun c15 => ?_)
          · have hf := (if_pos c15).symm.trans hf
            refine wm_pick [1, 2, 3, 4, 5, 6] rfl ?_
            exact (hb115 _ hr _ hk121) _ _ _ _ _ _ hf
          · have hf := (if_neg c15).symm.trans hf
            refine wm_pick [1, 2, 3, 6] rfl ?_
            exact (hb106 _ hr _ hk121) _ _ _ _ hf
  have hb121 : ∀ (v2 : Int32) (v3 : Int32) (v4 : Int32) (M : Mem), f_X9_buy_b121 v2 v3 v4 M = some out → WM p l e (RM 215) s m args below meth c 0 0 (MQ below (QI D cA A Pl out) args s 0 0 (FA A Pl)) D cA A Pl (FA A Pl) 7 M 121 [(2, .int v2), (3, .int v3), (4, .int v4)] [] := by
    intro v2 v3 v4 M hf
    unfold f_X9_buy_b121 at hf
    refine wm_iload_n 0 C dX9_buy_g5.2.2.2.2.2.2.2.2.2.2.1 rfl ?_
    refine wm_if_ne (tgt := 129) C dX9_buy_g5.2.2.2.2.2.2.2.2.2.2.2 (by decide) (fun c7 => ?_) (fun c7 => ?_)
    · have hf := (if_neg c7).symm.trans hf
      refine wm_iload 2 C dX9_buy_g6.2.2.1 rfl ?_
      exact wm_iret C hrt hf dX9_buy_g6.2.2.2
    · have hf := (if_pos c7).symm.trans hf
      refine wm_iload_n 1 C dX9_buy_g6.1 rfl ?_
      refine wm_goto (tgt := 131) C dX9_buy_g6.2.1 (by decide) ?_
      exact wm_iret C hrt hf dX9_buy_g6.2.2.2
  have hf := ho
  unfold f_X9_buy at hf
  refine wm_iload_n 1 C dX9_buy_g0.1 rfl ?_
  obtain ⟨o1, ho2, hf⟩ := bnd hf
  refine wm_callSi (As := [.int v1]) C (c_X9_isKitchen hPl _ _ _ ho2) mi_X9_isKitchen wt_X9_91 rfl rfl (by decide) (by decide) (Nat.le_of_ble_eq_true rfl) dX9_buy_g0.2.1 ?_
  refine wm_if_eq (tgt := 17) C dX9_buy_g0.2.2.1 (by decide) (fun c3 => ?_) (fun c3 => ?_)
  · have hf := (if_pos c3).symm.trans hf
    refine wm_ldc_w (v := (-100000)) C wt_X9_320 dX9_buy_g0.2.2.2.2.2.2.2.2.2.1 ?_
    exact wm_iret C hrt hf dX9_buy_g0.2.2.2.2.2.2.2.2.2.2.1
  · have hf := (if_neg c3).symm.trans hf
    refine wm_iload_n 2 C dX9_buy_g0.2.2.2.1 rfl ?_
    refine wm_i2l C dX9_buy_g0.2.2.2.2.1 ?_
    refine wm_lconst (v := 0) C dX9_buy_g0.2.2.2.2.2.1 (by decide) ?_
    refine wm_lconst (v := 1) C dX9_buy_g0.2.2.2.2.2.2.1 (by decide) ?_
    obtain ⟨o4, ho5, hf⟩ := bnd hf
    refine wm_callSi (As := [.long ((v2 : Int32).toInt64), .long 0, .long 1]) C (c_X9_in hPl _ _ _ _ _ ho5) mi_X9_in wt_X9_79 rfl rfl (by decide) (by decide) (Nat.le_of_ble_eq_true rfl) dX9_buy_g0.2.2.2.2.2.2.2.1 ?_
    refine wm_if_ne (tgt := 21) C dX9_buy_g0.2.2.2.2.2.2.2.2.1 (by decide) (fun c6 => ?_) (fun c6 => ?_)
    · have hf := (if_neg c6).symm.trans hf
      refine wm_iconst (v := (-1)) C dX9_buy_g0.2.2.2.2.2.2.2.2.2.2.2 (by decide) ?_
      refine wm_istore_n (lv1 := [(3, .int (-1)), (0, .ref (A 100)), (1, .int v1), (2, .int v2)]) C dX9_buy_g1.1 (by decide) rfl ?_
      refine wm_iconst (v := 0) C dX9_buy_g1.2.1 (by decide) ?_
      refine wm_istore (lv1 := [(4, .int 0), (3, .int (-1)), (0, .ref (A 100)), (1, .int v1), (2, .int v2)]) C dX9_buy_g1.2.2.1 (by decide) rfl ?_
      refine wm_iconst (v := 0) C dX9_buy_g1.2.2.2.1 (by decide) ?_
      refine wm_istore (lv1 := [(5, .int 0), (4, .int 0), (3, .int (-1)), (0, .ref (A 100)), (1, .int v1), (2, .int v2)]) C dX9_buy_g1.2.2.2.2.1 (by decide) rfl ?_
      refine wm_pick [3, 4, 5, 2, 1, 0] rfl ?_
      exact (hl29 _ hb121 FU) _ _ _ _ _ _ hf
    · have hf := (if_pos c6).symm.trans hf
      refine wm_ldc_w (v := (-100000)) C wt_X9_320 dX9_buy_g0.2.2.2.2.2.2.2.2.2.1 ?_
      exact wm_iret C hrt hf dX9_buy_g0.2.2.2.2.2.2.2.2.2.2.1
set_option maxHeartbeats 4000000 in
set_option maxRecDepth 100000 in
theorem c_X9_lowest {l : Launch} {D : va_G} {cA : Nat → ClassId} {A : Nat → Nat} {Pl : List Nat} (hPl : ∀ q, 100 ≤ q → q < 118 → q ∈ Pl) (w0 : Int64) (w2 : Int64) (v4 : Int32) (M : Mem) (out : (Int64 × Mem)) (ho : f_X9_lowest w0 w2 v4 M = some out) : CtL l D cA A Pl yX9_lowest cX9_lowest 11 1 [.long w0, .long w2, .int v4] M out := by
  refine ct_L (by decide) (Nat.le_of_ble_eq_true rfl) (fun p e s m args below meth c C hrt => ?_)
  have hl6 : ∀ (k31 : Int64 → Int64 → Int32 → Int64 → Mem → Option (Int64 × Mem)) (hk31 : ∀ (w0 : Int64) (w2 : Int64) (v4 : Int32) (w5 : Int64) (M : Mem), k31 w0 w2 v4 w5 M = some out → WM p l e (RM 1) s m args below meth c 0 0 (MQ below (QL D cA A Pl out) args s 0 0 (FA A Pl)) D cA A Pl (FA A Pl) 11 M 31 [(0, .long w0), (2, .long w2), (4, .int v4), (5, .long w5)] []) (n : Nat), ∀ (w0 : Int64) (w2 : Int64) (v4 : Int32) (w5 : Int64) (w7 : Int64) (M : Mem), f_X9_lowest_l6 k31 n w0 w2 v4 w5 w7 M = some out → WM p l e (RM 1) s m args below meth c 0 0 (MQ below (QL D cA A Pl out) args s 0 0 (FA A Pl)) D cA A Pl (FA A Pl) 11 M 6 [(0, .long w0), (2, .long w2), (4, .int v4), (5, .long w5), (7, .long w7)] [] := by
    intro k31 hk31 n
    induction n with
    | zero => intro w0 w2 v4 w5 w7 M hf; rw [f_X9_lowest_l6] at hf; cases hf
    | succ n hr =>
      intro w0 w2 v4 w5 w7 M hf
      rw [f_X9_lowest_l6] at hf
      refine wm_lload 4 C dX9_lowest_g0.2.2.2.2.1 rfl ?_
      refine wm_lconst (v := 0) C dX9_lowest_g0.2.2.2.2.2.1 (by decide) ?_
      refine wm_lcmp C dX9_lowest_g0.2.2.2.2.2.2.1 ?_
      refine wm_if_eq (tgt := 31) C dX9_lowest_g0.2.2.2.2.2.2.2.1 (by decide) (fun c1 => ?_) (fun c1 => ?_)
      · have hf := (if_pos c1).symm.trans hf
        refine wm_pick [0, 1, 2, 3] rfl ?_
        exact hk31 _ _ _ _ _ hf
      · have hf := (if_neg c1).symm.trans hf
        refine wm_lload 3 C dX9_lowest_g0.2.2.2.2.2.2.2.2.1 rfl ?_
        refine wm_lload 4 C dX9_lowest_g0.2.2.2.2.2.2.2.2.2.1 rfl ?_
        obtain ⟨h2, hf⟩ := ckd hf
        refine wm_lrem C (nzl0 h2) dX9_lowest_g0.2.2.2.2.2.2.2.2.2.2.1 ?_
        refine wm_lstore (lv1 := [(9, .long (jlrem w5 w7)), (0, .long w0), (2, .long w2), (4, .int v4), (5, .long w5), (7, .long w7)]) C dX9_lowest_g0.2.2.2.2.2.2.2.2.2.2.2 (by decide) rfl ?_
        refine wm_lload 5 C dX9_lowest_g1.1 rfl ?_
        refine wm_lstore (lv1 := [(5, .long w7), (9, .long (jlrem w5 w7)), (0, .long w0), (2, .long w2), (4, .int v4), (7, .long w7)]) C dX9_lowest_g1.2.1 (by decide) rfl ?_
        refine wm_lload 1 C dX9_lowest_g1.2.2.1 rfl ?_
        refine wm_lstore (lv1 := [(7, .long (jlrem w5 w7)), (5, .long w7), (9, .long (jlrem w5 w7)), (0, .long w0), (2, .long w2), (4, .int v4)]) C dX9_lowest_g1.2.2.2.1 (by decide) rfl ?_
        refine wm_goto (tgt := 6) C dX9_lowest_g1.2.2.2.2.1 (by decide) ?_
        refine wm_pick [3, 4, 5, 1, 0] rfl ?_
        exact hr _ _ _ _ _ _ hf
  have hb31 : ∀ (w0 : Int64) (w2 : Int64) (v4 : Int32) (w5 : Int64) (M : Mem), f_X9_lowest_b31 w0 w2 v4 w5 M = some out → WM p l e (RM 1) s m args below meth c 0 0 (MQ below (QL D cA A Pl out) args s 0 0 (FA A Pl)) D cA A Pl (FA A Pl) 11 M 31 [(0, .long w0), (2, .long w2), (4, .int v4), (5, .long w5)] [] := by
    intro w0 w2 v4 w5 M hf
    unfold f_X9_lowest_b31 at hf
    refine wm_iload 2 C dX9_lowest_g1.2.2.2.2.2.1 rfl ?_
    refine wm_if_ne (tgt := 43) C dX9_lowest_g1.2.2.2.2.2.2.1 (by decide) (fun c3 => ?_) (fun c3 => ?_)
    · have hf := (if_neg c3).symm.trans hf
      refine wm_lload_n 1 C dX9_lowest_g1.2.2.2.2.2.2.2.2.2.2.2 rfl ?_
      refine wm_lload 3 C dX9_lowest_g2.1 rfl ?_
      obtain ⟨h4, hf⟩ := ckd hf
      refine wm_ldiv C (nzl0 h4) dX9_lowest_g2.2.1 ?_
      exact wm_lret C hrt hf dX9_lowest_g2.2.2
    · have hf := (if_pos c3).symm.trans hf
      refine wm_lload_n 0 C dX9_lowest_g1.2.2.2.2.2.2.2.1 rfl ?_
      refine wm_lload 3 C dX9_lowest_g1.2.2.2.2.2.2.2.2.1 rfl ?_
      obtain ⟨h5, hf⟩ := ckd hf
      refine wm_ldiv C (nzl0 h5) dX9_lowest_g1.2.2.2.2.2.2.2.2.2.1 ?_
      refine wm_goto (tgt := 47) C dX9_lowest_g1.2.2.2.2.2.2.2.2.2.2.1 (by decide) ?_
      exact wm_lret C hrt hf dX9_lowest_g2.2.2
  have hf := ho
  unfold f_X9_lowest at hf
  refine wm_lload_n 0 C dX9_lowest_g0.1 rfl ?_
  refine wm_lstore (lv1 := [(5, .long w0), (0, .long w0), (2, .long w2), (4, .int v4)]) C dX9_lowest_g0.2.1 (by decide) rfl ?_
  refine wm_lload_n 2 C dX9_lowest_g0.2.2.1 rfl ?_
  refine wm_lstore (lv1 := [(7, .long w2), (5, .long w0), (0, .long w0), (2, .long w2), (4, .int v4)]) C dX9_lowest_g0.2.2.2.1 (by decide) rfl ?_
  refine wm_pick [2, 3, 4, 1, 0] rfl ?_
  exact (hl6 _ hb31 FU) _ _ _ _ _ _ hf
set_option maxHeartbeats 4000000 in
set_option maxRecDepth 100000 in
theorem c_X9_share {l : Launch} {D : va_G} {cA : Nat → ClassId} {A : Nat → Nat} {Pl : List Nat} (hPl : ∀ q, 100 ≤ q → q < 118 → q ∈ Pl) (v1 : Int32) (M : Mem) (out : (Int64 × Mem)) (ho : f_X9_share v1 M = some out) : CtL l D cA A Pl yX9_share cX9_share 2 215 [.ref (A 100), .int v1] M out := by
  refine ct_L (by decide) (Nat.le_of_ble_eq_true rfl) (fun p e s m args below meth c C hrt => ?_)
  have hf := ho
  unfold f_X9_share at hf
  refine wm_iload_n 1 C dX9_share_g0.1 rfl ?_
  refine wm_i2l C dX9_share_g0.2.1 ?_
  refine wm_lconst (v := 0) C dX9_share_g0.2.2.1 (by decide) ?_
  refine wm_lconst (v := 1) C dX9_share_g0.2.2.2.1 (by decide) ?_
  obtain ⟨o1, ho2, hf⟩ := bnd hf
  refine wm_callSi (As := [.long ((v1 : Int32).toInt64), .long 0, .long 1]) C (c_X9_in hPl _ _ _ _ _ ho2) mi_X9_in wt_X9_79 rfl rfl (by decide) (by decide) (Nat.le_of_ble_eq_true rfl) dX9_share_g0.2.2.2.2.1 ?_
  refine wm_if_ne (tgt := 14) C dX9_share_g0.2.2.2.2.2.1 (by decide) (fun c3 => ?_) (fun c3 => ?_)
  · have hf := (if_neg c3).symm.trans hf
    refine wm_aload_n 0 C dX9_share_g0.2.2.2.2.2.2.2.2.1 rfl ?_
    refine wm_iconst (v := 0) C dX9_share_g0.2.2.2.2.2.2.2.2.2.1 (by decide) ?_
    refine wm_iconst (v := (-1)) C dX9_share_g0.2.2.2.2.2.2.2.2.2.2.1 (by decide) ?_
    obtain ⟨o4, ho5, hf⟩ := bnd hf
    refine wm_callVv (As := [.int 0, .int (-1)]) (ci := 8) C (c_X9_bestOf hPl _ _ _ _ ho5) mi_X9_bestOf wt_X9_348 (hPl 100 (by decide) (by decide)) rfl rfl rfl rfl (by decide) (by decide) (Nat.le_of_ble_eq_true rfl) dX9_share_g0.2.2.2.2.2.2.2.2.2.2.2 ?_
    refine wm_aload_n 0 C dX9_share_g1.1 rfl ?_
    refine wm_get (ci := 8) (k := 34) (v := .int (o4 100 34)) C (hPl 100 (by decide) (by decide)) rfl rfl (by decide) wt_X9_330 iwX9 rfl dX9_share_g1.2.1 ?_
    refine wm_if_ne (tgt := 33) C dX9_share_g1.2.2.1 (by decide) (fun c6 => ?_) (fun c6 => ?_)
    · have hf := (if_neg c6).symm.trans hf
      refine wm_aload_n 0 C dX9_share_g1.2.2.2.2.2.1 rfl ?_
      refine wm_get (ci := 8) (k := 35) (v := .int (o4 100 35)) C (hPl 100 (by decide) (by decide)) rfl rfl (by decide) wt_X9_333 iwX9 rfl dX9_share_g1.2.2.2.2.2.2.1 ?_
      refine wm_i2l C dX9_share_g1.2.2.2.2.2.2.2.1 ?_
      refine wm_aload_n 0 C dX9_share_g1.2.2.2.2.2.2.2.2.1 rfl ?_
      refine wm_get (ci := 8) (k := 34) (v := .int (o4 100 34)) C (hPl 100 (by decide) (by decide)) rfl rfl (by decide) wt_X9_330 iwX9 rfl dX9_share_g1.2.2.2.2.2.2.2.2.2.1 ?_
      refine wm_i2l C dX9_share_g1.2.2.2.2.2.2.2.2.2.2.1 ?_
      refine wm_iload_n 1 C dX9_share_g1.2.2.2.2.2.2.2.2.2.2.2 rfl ?_
      obtain ⟨o7, ho8, hf⟩ := bnd hf
      refine wm_callSl (As := [.long (((o4 100 35) : Int32).toInt64), .long (((o4 100 34) : Int32).toInt64), .int v1]) C (c_X9_lowest hPl _ _ _ _ _ ho8) mi_X9_lowest wt_X9_356 rfl rfl (by decide) (by decide) (Nat.le_of_ble_eq_true rfl) dX9_share_g2.1 ?_
      exact wm_lret C hrt hf dX9_share_g2.2
    · have hf := (if_pos c6).symm.trans hf
      refine wm_ldc2 (v := (-4611686018427387904)) C wt_X9_354 dX9_share_g1.2.2.2.1 ?_
      refine wm_goto (tgt := 47) C dX9_share_g1.2.2.2.2.1 (by decide) ?_
      exact wm_lret C hrt hf dX9_share_g2.2
  · have hf := (if_pos c3).symm.trans hf
    refine wm_ldc2 (v := (-4611686018427387904)) C wt_X9_354 dX9_share_g0.2.2.2.2.2.2.1 ?_
    exact wm_lret C hrt hf dX9_share_g0.2.2.2.2.2.2.2.1
set_option maxHeartbeats 4000000 in
set_option maxRecDepth 100000 in
theorem c_X9_worthIn {l : Launch} {D : va_G} {cA : Nat → ClassId} {A : Nat → Nat} {Pl : List Nat} (hPl : ∀ q, 100 ≤ q → q < 118 → q ∈ Pl) (v1 : Int32) (v2 : Int32) (M : Mem) (out : (Int32 × Mem)) (ho : f_X9_worthIn v1 v2 M = some out) : CtI l D cA A Pl yX9_worthIn cX9_worthIn 3 113 .int [.ref (A 100), .int v1, .int v2] M out := by
  refine ct_I (by decide) (Nat.le_of_ble_eq_true rfl) (fun p e s m args below meth c C hrt => ?_)
  have hf := ho
  unfold f_X9_worthIn at hf
  refine wm_aload_n 0 C dX9_worthIn_g0.1 rfl ?_
  refine wm_iload_n 1 C dX9_worthIn_g0.2.1 rfl ?_
  refine wm_iload_n 2 C dX9_worthIn_g0.2.2.1 rfl ?_
  obtain ⟨o1, ho2, hf⟩ := bnd hf
  refine wm_callVi (As := [.int v1, .int v2]) (ci := 8) C (c_X9_isCooked hPl _ _ _ _ ho2) mi_X9_isCooked wt_X9_305 (hPl 100 (by decide) (by decide)) rfl rfl rfl rfl (by decide) (by decide) (Nat.le_of_ble_eq_true rfl) dX9_worthIn_g0.2.2.2.1 ?_
  refine wm_if_eq (tgt := 25) C dX9_worthIn_g0.2.2.2.2.1 (by decide) (fun c3 => ?_) (fun c3 => ?_)
  · have hf := (if_pos c3).symm.trans hf
    refine wm_iconst (v := (-1)) C dX9_worthIn_g1.2.2.2.1 (by decide) ?_
    exact wm_iret C hrt hf dX9_worthIn_g1.2.2.2.2
  · have hf := (if_neg c3).symm.trans hf
    refine wm_aload_n 0 C dX9_worthIn_g0.2.2.2.2.2.1 rfl ?_
    refine wm_iload_n 1 C dX9_worthIn_g0.2.2.2.2.2.2.1 rfl ?_
    refine wm_iload_n 2 C dX9_worthIn_g0.2.2.2.2.2.2.2.1 rfl ?_
    obtain ⟨o4, ho5, hf⟩ := bnd hf
    refine wm_callVi (As := [.int v1, .int v2]) (ci := 8) C (c_X9_feedsOf hPl _ _ _ _ ho5) mi_X9_feedsOf wt_X9_285 (hPl 100 (by decide) (by decide)) rfl rfl rfl rfl (by decide) (by decide) (Nat.le_of_ble_eq_true rfl) dX9_worthIn_g0.2.2.2.2.2.2.2.2.1 ?_
    refine wm_aload_n 0 C dX9_worthIn_g0.2.2.2.2.2.2.2.2.2.1 rfl ?_
    refine wm_iload_n 1 C dX9_worthIn_g0.2.2.2.2.2.2.2.2.2.2.1 rfl ?_
    refine wm_iload_n 2 C dX9_worthIn_g0.2.2.2.2.2.2.2.2.2.2.2 rfl ?_
    obtain ⟨o6, ho7, hf⟩ := bnd hf
    refine wm_callVi (As := [.int v1, .int v2]) (ci := 8) C (c_X9_tollOf hPl _ _ _ _ ho7) mi_X9_tollOf wt_X9_270 (hPl 100 (by decide) (by decide)) rfl rfl rfl rfl (by decide) (by decide) (Nat.le_of_ble_eq_true rfl) dX9_worthIn_g1.1 ?_
    refine wm_isub C dX9_worthIn_g1.2.1 ?_
    refine wm_goto (tgt := 26) C dX9_worthIn_g1.2.2.1 (by decide) ?_
    exact wm_iret C hrt hf dX9_worthIn_g1.2.2.2.2
set_option maxHeartbeats 4000000 in
set_option maxRecDepth 100000 in
theorem c_X9_firstOther {l : Launch} {D : va_G} {cA : Nat → ClassId} {A : Nat → Nat} {Pl : List Nat} (hPl : ∀ q, 100 ≤ q → q < 118 → q ∈ Pl) (v1 : Int32) (v2 : Int32) (M : Mem) (out : (Int32 × Mem)) (ho : f_X9_firstOther v1 v2 M = some out) : CtI l D cA A Pl yX9_firstOther cX9_firstOther 4 114 .int [.ref (A 100), .int v1, .int v2] M out := by
  refine ct_I (by decide) (Nat.le_of_ble_eq_true rfl) (fun p e s m args below meth c C hrt => ?_)
  have hl2 : ∀ (n : Nat), ∀ (v1 : Int32) (v2 : Int32) (v3 : Int32) (M : Mem), f_X9_firstOther_l2 n v1 v2 v3 M = some out → WM p l e (RM 114) s m args below meth c 0 0 (MQ below (QI D cA A Pl out) args s 0 0 (FA A Pl)) D cA A Pl (FA A Pl) 4 M 2 [(0, .ref (A 100)), (1, .int v1), (2, .int v2), (3, .int v3)] [] := by
    intro n
    induction n with
    | zero => intro v1 v2 v3 M hf; rw [f_X9_firstOther_l2] at hf; cases hf
    | succ n hr =>
      intro v1 v2 v3 M hf
      rw [f_X9_firstOther_l2] at hf
      refine wm_iload_n 3 C dX9_firstOther_g0.2.2.1 rfl ?_
      refine wm_iconst (v := 2) C dX9_firstOther_g0.2.2.2.1 (by decide) ?_
      refine wm_icmp_ge (tgt := 35) C dX9_firstOther_g0.2.2.2.2.1 (by decide) (fun c1 => ?_) (fun c1 => ?_)
      · have hf := (if_pos c1).symm.trans hf
        refine wm_iconst (v := (-1)) C dX9_firstOther_g1.2.2.2.2.2.2.2.2.2.2.1 (by decide) ?_
        exact wm_iret C hrt hf dX9_firstOther_g1.2.2.2.2.2.2.2.2.2.2.2
      · have hf := (if_neg c1).symm.trans hf
        refine wm_aload_n 0 C dX9_firstOther_g0.2.2.2.2.2.1 rfl ?_
        refine wm_iload_n 2 C dX9_firstOther_g0.2.2.2.2.2.2.1 rfl ?_
        refine wm_iload_n 3 C dX9_firstOther_g0.2.2.2.2.2.2.2.1 rfl ?_
        obtain ⟨o2, ho3, hf⟩ := bnd hf
        refine wm_callVi (As := [.int v2, .int v3]) (ci := 8) C (c_X9_worthIn hPl _ _ _ _ ho3) mi_X9_worthIn wt_X9_360 (hPl 100 (by decide) (by decide)) rfl rfl rfl rfl (by decide) (by decide) (Nat.le_of_ble_eq_true rfl) dX9_firstOther_g0.2.2.2.2.2.2.2.2.1 ?_
        refine wm_aload_n 0 C dX9_firstOther_g0.2.2.2.2.2.2.2.2.2.1 rfl ?_
        refine wm_get (ci := 8) (k := 48) (v := .ref (A 117)) C (hPl 100 (by decide) (by decide)) rfl rfl (by decide) wt_X9_66 iwX9 rfl dX9_firstOther_g0.2.2.2.2.2.2.2.2.2.2.1 ?_
        refine wm_bipush (v := 40) C dX9_firstOther_g0.2.2.2.2.2.2.2.2.2.2.2 (by decide) ?_
        refine wm_iload_n 1 C dX9_firstOther_g1.1 rfl ?_
        refine wm_imul C dX9_firstOther_g1.2.1 ?_
        refine wm_iload_n 3 C dX9_firstOther_g1.2.2.1 rfl ?_
        refine wm_iadd C dX9_firstOther_g1.2.2.2.1 ?_
        obtain ⟨h4, hf⟩ := ckd hf
        refine wm_iald (n := 160) (j := (((40 * v1) + v3)).toNatClampNeg) (v := (o2.2 117 (((40 * v1) + v3)).toNatClampNeg)) C (hPl 117 (by decide) (by decide)) rfl rfl rfl h4 rfl rfl dX9_firstOther_g1.2.2.2.2.1 ?_
        refine wm_icmp_eq (tgt := 29) C dX9_firstOther_g1.2.2.2.2.2.1 (by decide) (fun c5 => ?_) (fun c5 => ?_)
        · have hf := (if_pos c5).symm.trans hf
          refine wm_iinc (lv1 := [(3, .int (v3 + 1)), (0, .ref (A 100)), (1, .int v1), (2, .int v2)]) (v := (v3 + 1)) 3 C dX9_firstOther_g1.2.2.2.2.2.2.2.2.1 rfl (by first | rfl | decide) (by decide) rfl ?_
          refine wm_goto (tgt := 2) C dX9_firstOther_g1.2.2.2.2.2.2.2.2.2.1 (by decide) ?_
          refine wm_pick [1, 2, 3, 0] rfl ?_
          exact hr _ _ _ _ hf
        · have hf := (if_neg c5).symm.trans hf
          refine wm_iload_n 3 C dX9_firstOther_g1.2.2.2.2.2.2.1 rfl ?_
          exact wm_iret C hrt hf dX9_firstOther_g1.2.2.2.2.2.2.2.1
  have hf := ho
  unfold f_X9_firstOther at hf
  refine wm_iconst (v := 0) C dX9_firstOther_g0.1 (by decide) ?_
  refine wm_istore_n (lv1 := [(3, .int 0), (0, .ref (A 100)), (1, .int v1), (2, .int v2)]) C dX9_firstOther_g0.2.1 (by decide) rfl ?_
  refine wm_pick [1, 2, 3, 0] rfl ?_
  exact (hl2 FU) _ _ _ _ hf
set_option maxHeartbeats 4000000 in
set_option maxRecDepth 100000 in
theorem c_X9_likeSet {l : Launch} {D : va_G} {cA : Nat → ClassId} {A : Nat → Nat} {Pl : List Nat} (hPl : ∀ q, 100 ≤ q → q < 118 → q ∈ Pl) (v1 : Int32) (M : Mem) (out : (Int32 × Mem)) (ho : f_X9_likeSet v1 M = some out) : CtI l D cA A Pl yX9_likeSet cX9_likeSet 4 115 .int [.ref (A 100), .int v1] M out := by
  refine ct_I (by decide) (Nat.le_of_ble_eq_true rfl) (fun p e s m args below meth c C hrt => ?_)
  have hb28 : ∀ (r : Int32 → Int32 → Int32 → Mem → Option (Int32 × Mem)) (hr : ∀ (v1 : Int32) (v2 : Int32) (v3 : Int32) (M : Mem), r v1 v2 v3 M = some out → WM p l e (RM 115) s m args below meth c 0 0 (MQ below (QI D cA A Pl out) args s 0 0 (FA A Pl)) D cA A Pl (FA A Pl) 4 M 4 [(0, .ref (A 100)), (1, .int v1), (2, .int v2), (3, .int v3)] []), ∀ (v1 : Int32) (v3 : Int32) (s0 : Int32) (s1 : Int32) (M : Mem), f_X9_likeSet_b28 r v1 v3 s0 s1 M = some out → WM p l e (RM 115) s m args below meth c 0 0 (MQ below (QI D cA A Pl out) args s 0 0 (FA A Pl)) D cA A Pl (FA A Pl) 4 M 28 [(0, .ref (A 100)), (1, .int v1), (3, .int v3)] [.int s1, .int s0] := by
    intro r hr v1 v3 s0 s1 M hf
    unfold f_X9_likeSet_b28 at hf
    refine wm_iload_n 2 C dX9_likeSet_g1.2.2.2.2.2.2.1 rfl ?_
    refine wm_ishl C dX9_likeSet_g1.2.2.2.2.2.2.2.1 ?_
    refine wm_ior C dX9_likeSet_g1.2.2.2.2.2.2.2.2.1 ?_
    refine wm_istore_n (lv1 := [(2, .int (s0 ||| (jshl s1 v3))), (0, .ref (A 100)), (1, .int v1), (3, .int v3)]) C dX9_likeSet_g1.2.2.2.2.2.2.2.2.2.1 (by decide) rfl ?_
    refine wm_iinc (lv1 := [(3, .int (v3 + 1)), (2, .int (s0 ||| (jshl s1 v3))), (0, .ref (A 100)), (1, .int v1)]) (v := (v3 + 1)) 3 C dX9_likeSet_g1.2.2.2.2.2.2.2.2.2.2.1 rfl (by first | rfl | decide) (by decide) rfl ?_
    refine wm_goto (tgt := 4) C dX9_likeSet_g1.2.2.2.2.2.2.2.2.2.2.2 (by decide) ?_
    refine wm_pick [2, 3, 1, 0] rfl ?_
    exact hr _ _ _ _ hf
  have hl4 : ∀ (n : Nat), ∀ (v1 : Int32) (v2 : Int32) (v3 : Int32) (M : Mem), f_X9_likeSet_l4 n v1 v2 v3 M = some out → WM p l e (RM 115) s m args below meth c 0 0 (MQ below (QI D cA A Pl out) args s 0 0 (FA A Pl)) D cA A Pl (FA A Pl) 4 M 4 [(0, .ref (A 100)), (1, .int v1), (2, .int v2), (3, .int v3)] [] := by
    intro n
    induction n with
    | zero => intro v1 v2 v3 M hf; rw [f_X9_likeSet_l4] at hf; cases hf
    | succ n hr =>
      intro v1 v2 v3 M hf
      rw [f_X9_likeSet_l4] at hf
      refine wm_iload_n 3 C dX9_likeSet_g0.2.2.2.2.1 rfl ?_
      refine wm_aload_n 0 C dX9_likeSet_g0.2.2.2.2.2.1 rfl ?_
      refine wm_get (ci := 8) (k := 12) (v := .int (M 100 12)) C (hPl 100 (by decide) (by decide)) rfl rfl (by decide) wt_X9_76 iwX9 rfl dX9_likeSet_g0.2.2.2.2.2.2.1 ?_
      refine wm_icmp_ge (tgt := 38) C dX9_likeSet_g0.2.2.2.2.2.2.2.1 (by decide) (fun c1 => ?_) (fun c1 => ?_)
      · have hf := (if_pos c1).symm.trans hf
        refine wm_iload_n 2 C dX9_likeSet_g2.1 rfl ?_
        exact wm_iret C hrt hf dX9_likeSet_g2.2
      · have hf := (if_neg c1).symm.trans hf
        refine wm_iload_n 2 C dX9_likeSet_g0.2.2.2.2.2.2.2.2.1 rfl ?_
        refine wm_aload_n 0 C dX9_likeSet_g0.2.2.2.2.2.2.2.2.2.1 rfl ?_
        refine wm_iload_n 1 C dX9_likeSet_g0.2.2.2.2.2.2.2.2.2.2.1 rfl ?_
        refine wm_iload_n 3 C dX9_likeSet_g0.2.2.2.2.2.2.2.2.2.2.2 rfl ?_
        obtain ⟨o2, ho3, hf⟩ := bnd hf
        refine wm_callVi (As := [.int v1, .int v3]) (ci := 8) C (c_X9_firstOther hPl _ _ _ _ ho3) mi_X9_firstOther wt_X9_363 (hPl 100 (by decide) (by decide)) rfl rfl rfl rfl (by decide) (by decide) (Nat.le_of_ble_eq_true rfl) dX9_likeSet_g1.1 ?_
        refine wm_iconst (v := (-1)) C dX9_likeSet_g1.2.1 (by decide) ?_
        refine wm_icmp_ne (tgt := 27) C dX9_likeSet_g1.2.2.1 (by decide) (fun c4 => ?_) (fun c4 => ?_)
        · have hf := (if_neg c4).symm.trans hf
          refine wm_iconst (v := 0) C dX9_likeSet_g1.2.2.2.2.2.1 (by decide) ?_
          refine wm_pick [0, 1, 3] rfl ?_
          exact (hb28 _ hr) _ _ _ _ _ hf
        · have hf := (if_pos c4).symm.trans hf
          refine wm_iconst (v := 1) C dX9_likeSet_g1.2.2.2.1 (by decide) ?_
          refine wm_goto (tgt := 28) C dX9_likeSet_g1.2.2.2.2.1 (by decide) ?_
          refine wm_pick [0, 1, 3] rfl ?_
          exact (hb28 _ hr) _ _ _ _ _ hf
  have hf := ho
  unfold f_X9_likeSet at hf
  refine wm_iconst (v := 0) C dX9_likeSet_g0.1 (by decide) ?_
  refine wm_istore_n (lv1 := [(2, .int 0), (0, .ref (A 100)), (1, .int v1)]) C dX9_likeSet_g0.2.1 (by decide) rfl ?_
  refine wm_iconst (v := 0) C dX9_likeSet_g0.2.2.1 (by decide) ?_
  refine wm_istore_n (lv1 := [(3, .int 0), (2, .int 0), (0, .ref (A 100)), (1, .int v1)]) C dX9_likeSet_g0.2.2.2.1 (by decide) rfl ?_
  refine wm_pick [2, 3, 1, 0] rfl ?_
  exact (hl4 FU) _ _ _ _ hf
set_option maxHeartbeats 4000000 in
set_option maxRecDepth 100000 in
theorem c_X9_isSheet {l : Launch} {D : va_G} {cA : Nat → ClassId} {A : Nat → Nat} {Pl : List Nat} (hPl : ∀ q, 100 ≤ q → q < 118 → q ∈ Pl) (v0 : Int32) (M : Mem) (out : (Int32 × Mem)) (ho : f_X9_isSheet v0 M = some out) : CtI l D cA A Pl yX9_isSheet cX9_isSheet 1 2 .boolean [.int v0] M out := by
  refine ct_I (by decide) (Nat.le_of_ble_eq_true rfl) (fun p e s m args below meth c C hrt => ?_)
  have hf := ho
  unfold f_X9_isSheet at hf
  refine wm_iload_n 0 C dX9_isSheet_g0.1 rfl ?_
  refine wm_i2l C dX9_isSheet_g0.2.1 ?_
  refine wm_lconst (v := 0) C dX9_isSheet_g0.2.2.1 (by decide) ?_
  refine wm_ldc2 (v := 3) C wt_X9_391 dX9_isSheet_g0.2.2.2.1 ?_
  obtain ⟨o1, ho2, hf⟩ := bnd hf
  refine wm_callSi (As := [.long ((v0 : Int32).toInt64), .long 0, .long 3]) C (c_X9_in hPl _ _ _ _ _ ho2) mi_X9_in wt_X9_79 rfl rfl (by decide) (by decide) (Nat.le_of_ble_eq_true rfl) dX9_isSheet_g0.2.2.2.2.1 ?_
  obtain ⟨h3, hf⟩ := ckd hf
  exact wm_zret C hrt (zb_n h3) hf dX9_isSheet_g0.2.2.2.2.2
set_option maxHeartbeats 4000000 in
set_option maxRecDepth 100000 in
theorem c_X9_tells {l : Launch} {D : va_G} {cA : Nat → ClassId} {A : Nat → Nat} {Pl : List Nat} (hPl : ∀ q, 100 ≤ q → q < 118 → q ∈ Pl) (v1 : Int32) (v2 : Int32) (v3 : Int32) (M : Mem) (out : (Int32 × Mem)) (ho : f_X9_tells v1 v2 v3 M = some out) : CtI l D cA A Pl yX9_tells cX9_tells 12 116 .int [.ref (A 100), .int v1, .int v2, .int v3] M out := by
  refine ct_I (by decide) (Nat.le_of_ble_eq_true rfl) (fun p e s m args below meth c C hrt => ?_)
  have hb65 : ∀ (v1 : Int32) (v2 : Int32) (v3 : Int32) (M : Mem), f_X9_tells_b65 v1 v2 v3 M = some out → WM p l e (RM 116) s m args below meth c 0 0 (MQ below (QI D cA A Pl out) args s 0 0 (FA A Pl)) D cA A Pl (FA A Pl) 12 M 65 [(0, .ref (A 100)), (1, .int v1), (2, .int v2), (3, .int v3)] [] := by
    intro v1 v2 v3 M hf
    unfold f_X9_tells_b65 at hf
    refine wm_iload_n 3 C dX9_tells_g2.2.2.2.2.2.2.2.2.2.2.2 rfl ?_
    refine wm_if_ne (tgt := 78) C dX9_tells_g3.1 (by decide) (fun c22 => ?_) (fun c22 => ?_)
    · have hf := (if_neg c22).symm.trans hf
      refine wm_aload_n 0 C dX9_tells_g3.2.2.2.2.2.2.1 rfl ?_
      refine wm_iload_n 1 C dX9_tells_g3.2.2.2.2.2.2.2.1 rfl ?_
      obtain ⟨o23, ho24, hf⟩ := bnd hf
      refine wm_callVi (As := [.int v1]) (ci := 8) C (c_X9_likeSet hPl _ _ _ ho24) mi_X9_likeSet wt_X9_369 (hPl 100 (by decide) (by decide)) rfl rfl rfl rfl (by decide) (by decide) (Nat.le_of_ble_eq_true rfl) dX9_tells_g3.2.2.2.2.2.2.2.2.1 ?_
      exact wm_iret C hrt hf dX9_tells_g3.2.2.2.2.2.2.2.2.2.1
    · have hf := (if_pos c22).symm.trans hf
      refine wm_aload_n 0 C dX9_tells_g3.2.1 rfl ?_
      refine wm_iload_n 1 C dX9_tells_g3.2.2.1 rfl ?_
      refine wm_iload_n 2 C dX9_tells_g3.2.2.2.1 rfl ?_
      obtain ⟨o25, ho26, hf⟩ := bnd hf
      refine wm_callVi (As := [.int v1, .int v2]) (ci := 8) C (c_X9_firstOther hPl _ _ _ _ ho26) mi_X9_firstOther wt_X9_363 (hPl 100 (by decide) (by decide)) rfl rfl rfl rfl (by decide) (by decide) (Nat.le_of_ble_eq_true rfl) dX9_tells_g3.2.2.2.2.1 ?_
      refine wm_goto (tgt := 83) C dX9_tells_g3.2.2.2.2.2.1 (by decide) ?_
      exact wm_iret C hrt hf dX9_tells_g3.2.2.2.2.2.2.2.2.2.1
  have hb268 : ∀ (r : Int32 → Int32 → Int32 → Int32 → Int32 → Int32 → Int32 → Int32 → Int32 → Int32 → Mem → Option (Int32 × Mem)) (hr : ∀ (v1 : Int32) (v2 : Int32) (v3 : Int32) (v4 : Int32) (v5 : Int32) (v6 : Int32) (v8 : Int32) (v9 : Int32) (v10 : Int32) (v11 : Int32) (M : Mem), r v1 v2 v3 v4 v5 v6 v8 v9 v10 v11 M = some out → WM p l e (RM 116) s m args below meth c 0 0 (MQ below (QI D cA A Pl out) args s 0 0 (FA A Pl)) D cA A Pl (FA A Pl) 12 M 216 [(0, .ref (A 100)), (1, .int v1), (2, .int v2), (3, .int v3), (4, .int v4), (5, .int v5), (6, .int v6), (8, .int v8), (9, .int v9), (10, .int v10), (11, .int v11)] []) (k274 : Int32 → Int32 → Int32 → Int32 → Int32 → Int32 → Int32 → Mem → Option (Int32 × Mem)) (hk274 : ∀ (v3 : Int32) (v4 : Int32) (v5 : Int32) (v6 : Int32) (v8 : Int32) (v9 : Int32) (v10 : Int32) (M : Mem), k274 v3 v4 v5 v6 v8 v9 v10 M = some out → WM p l e (RM 116) s m args below meth c 0 0 (MQ below (QI D cA A Pl out) args s 0 0 (FA A Pl)) D cA A Pl (FA A Pl) 12 M 274 [(0, .ref (A 100)), (3, .int v3), (4, .int v4), (5, .int v5), (6, .int v6), (8, .int v8), (9, .int v9), (10, .int v10)] []), ∀ (v1 : Int32) (v2 : Int32) (v3 : Int32) (v4 : Int32) (v5 : Int32) (v6 : Int32) (v8 : Int32) (v9 : Int32) (v10 : Int32) (v11 : Int32) (M : Mem), f_X9_tells_b268 r k274 v1 v2 v3 v4 v5 v6 v8 v9 v10 v11 M = some out → WM p l e (RM 116) s m args below meth c 0 0 (MQ below (QI D cA A Pl out) args s 0 0 (FA A Pl)) D cA A Pl (FA A Pl) 12 M 268 [(0, .ref (A 100)), (1, .int v1), (2, .int v2), (3, .int v3), (4, .int v4), (5, .int v5), (6, .int v6), (8, .int v8), (9, .int v9), (10, .int v10), (11, .int v11)] [] := by
    intro r hr k274 hk274 v1 v2 v3 v4 v5 v6 v8 v9 v10 v11 M hf
    unfold f_X9_tells_b268 at hf
    refine wm_iinc (lv1 := [(11, .int (v11 + (-1))), (0, .ref (A 100)), (1, .int v1), (2, .int v2), (3, .int v3), (4, .int v4), (5, .int v5), (6, .int v6), (8, .int v8), (9, .int v9), (10, .int v10)]) (v := (v11 + (-1))) 10 C dX9_tells_g11.2.2.2.2.2.2.2.2.2.1 rfl (by first | rfl | decide) (by decide) rfl ?_
    refine wm_goto (tgt := 216) C dX9_tells_g11.2.2.2.2.2.2.2.2.2.2.1 (by decide) ?_
    refine wm_pick [1, 2, 3, 4, 5, 6, 7, 8, 9, 10, 0] rfl ?_
    exact hr _ _ _ _ _ _ _ _ _ _ _ hf
  have hb258 : ∀ (r : Int32 → Int32 → Int32 → Int32 → Int32 → Int32 → Int32 → Int32 → Int32 → Int32 → Mem → Option (Int32 × Mem)) (hr : ∀ (v1 : Int32) (v2 : Int32) (v3 : Int32) (v4 : Int32) (v5 : Int32) (v6 : Int32) (v8 : Int32) (v9 : Int32) (v10 : Int32) (v11 : Int32) (M : Mem), r v1 v2 v3 v4 v5 v6 v8 v9 v10 v11 M = some out → WM p l e (RM 116) s m args below meth c 0 0 (MQ below (QI D cA A Pl out) args s 0 0 (FA A Pl)) D cA A Pl (FA A Pl) 12 M 216 [(0, .ref (A 100)), (1, .int v1), (2, .int v2), (3, .int v3), (4, .int v4), (5, .int v5), (6, .int v6), (8, .int v8), (9, .int v9), (10, .int v10), (11, .int v11)] []) (k274 : Int32 → Int32 → Int32 → Int32 → Int32 → Int32 → Int32 → Mem → Option (Int32 × Mem)) (hk274 : ∀ (v3 : Int32) (v4 : Int32) (v5 : Int32) (v6 : Int32) (v8 : Int32) (v9 : Int32) (v10 : Int32) (M : Mem), k274 v3 v4 v5 v6 v8 v9 v10 M = some out → WM p l e (RM 116) s m args below meth c 0 0 (MQ below (QI D cA A Pl out) args s 0 0 (FA A Pl)) D cA A Pl (FA A Pl) 12 M 274 [(0, .ref (A 100)), (3, .int v3), (4, .int v4), (5, .int v5), (6, .int v6), (8, .int v8), (9, .int v9), (10, .int v10)] []), ∀ (v1 : Int32) (v2 : Int32) (v3 : Int32) (v4 : Int32) (v5 : Int32) (v6 : Int32) (v9 : Int32) (v11 : Int32) (s0 : Int32) (s1 : Int32) (M : Mem), f_X9_tells_b258 r k274 v1 v2 v3 v4 v5 v6 v9 v11 s0 s1 M = some out → WM p l e (RM 116) s m args below meth c 0 0 (MQ below (QI D cA A Pl out) args s 0 0 (FA A Pl)) D cA A Pl (FA A Pl) 12 M 258 [(0, .ref (A 100)), (1, .int v1), (2, .int v2), (3, .int v3), (4, .int v4), (5, .int v5), (6, .int v6), (9, .int v9), (11, .int v11)] [.int s1, .int s0] := by
    intro r hr k274 hk274 v1 v2 v3 v4 v5 v6 v9 v11 s0 s1 M hf
    unfold f_X9_tells_b258 at hf
    refine wm_ior C dX9_tells_g11.2.2.2.2.1 ?_
    refine wm_istore (lv1 := [(8, .int (s0 ||| s1)), (0, .ref (A 100)), (1, .int v1), (2, .int v2), (3, .int v3), (4, .int v4), (5, .int v5), (6, .int v6), (9, .int v9), (11, .int v11)]) C dX9_tells_g11.2.2.2.2.2.1 (by decide) rfl ?_
    refine wm_iinc (lv1 := [(9, .int (v9 + 1)), (8, .int (s0 ||| s1)), (0, .ref (A 100)), (1, .int v1), (2, .int v2), (3, .int v3), (4, .int v4), (5, .int v5), (6, .int v6), (11, .int v11)]) (v := (v9 + 1)) 8 C dX9_tells_g11.2.2.2.2.2.2.1 rfl (by first | rfl | decide) (by decide) rfl ?_
    refine wm_iload 9 C dX9_tells_g11.2.2.2.2.2.2.2.1 rfl ?_
    refine wm_istore (lv1 := [(10, .int v11), (9, .int (v9 + 1)), (8, .int (s0 ||| s1)), (0, .ref (A 100)), (1, .int v1), (2, .int v2), (3, .int v3), (4, .int v4), (5, .int v5), (6, .int v6), (11, .int v11)]) C dX9_tells_g11.2.2.2.2.2.2.2.2.1 (by decide) rfl ?_
    refine wm_pick [3, 4, 5, 6, 7, 8, 9, 2, 1, 0, 10] rfl ?_
    exact (hb268 _ hr _ hk274) _ _ _ _ _ _ _ _ _ _ _ hf
  have hl216 : ∀ (k274 : Int32 → Int32 → Int32 → Int32 → Int32 → Int32 → Int32 → Mem → Option (Int32 × Mem)) (hk274 : ∀ (v3 : Int32) (v4 : Int32) (v5 : Int32) (v6 : Int32) (v8 : Int32) (v9 : Int32) (v10 : Int32) (M : Mem), k274 v3 v4 v5 v6 v8 v9 v10 M = some out → WM p l e (RM 116) s m args below meth c 0 0 (MQ below (QI D cA A Pl out) args s 0 0 (FA A Pl)) D cA A Pl (FA A Pl) 12 M 274 [(0, .ref (A 100)), (3, .int v3), (4, .int v4), (5, .int v5), (6, .int v6), (8, .int v8), (9, .int v9), (10, .int v10)] []) (n : Nat), ∀ (v1 : Int32) (v2 : Int32) (v3 : Int32) (v4 : Int32) (v5 : Int32) (v6 : Int32) (v8 : Int32) (v9 : Int32) (v10 : Int32) (v11 : Int32) (M : Mem), f_X9_tells_l216 k274 n v1 v2 v3 v4 v5 v6 v8 v9 v10 v11 M = some out → WM p l e (RM 116) s m args below meth c 0 0 (MQ below (QI D cA A Pl out) args s 0 0 (FA A Pl)) D cA A Pl (FA A Pl) 12 M 216 [(0, .ref (A 100)), (1, .int v1), (2, .int v2), (3, .int v3), (4, .int v4), (5, .int v5), (6, .int v6), (8, .int v8), (9, .int v9), (10, .int v10), (11, .int v11)] [] := by
    intro k274 hk274 n
    induction n with
    | zero => intro v1 v2 v3 v4 v5 v6 v8 v9 v10 v11 M hf; rw [f_X9_tells_l216] at hf; cases hf
    | succ n hr =>
      intro v1 v2 v3 v4 v5 v6 v8 v9 v10 v11 M hf
      rw [f_X9_tells_l216] at hf
      refine wm_iload 10 C dX9_tells_g9.2.2.2.2.2.2.1 rfl ?_
      refine wm_if_lt (tgt := 274) C dX9_tells_g9.2.2.2.2.2.2.2.1 (by decide) (fun c36 => ?_) (fun c36 => ?_)
      · have hf := (if_pos c36).symm.trans hf
        refine wm_pick [0, 3, 4, 5, 6, 7, 8, 9] rfl ?_
        exact hk274 _ _ _ _ _ _ _ _ hf
      · have hf := (if_neg c36).symm.trans hf
        refine wm_aload_n 0 C dX9_tells_g9.2.2.2.2.2.2.2.2.1 rfl ?_
        refine wm_iload 4 C dX9_tells_g9.2.2.2.2.2.2.2.2.2.1 rfl ?_
        refine wm_iload 5 C dX9_tells_g9.2.2.2.2.2.2.2.2.2.2.1 rfl ?_
        refine wm_iload 10 C dX9_tells_g9.2.2.2.2.2.2.2.2.2.2.2 rfl ?_
        obtain ⟨o37, ho38, hf⟩ := bnd hf
        refine wm_callVv (As := [.int v4, .int v5, .int v11]) (ci := 8) C (c_X9_lays hPl _ _ _ _ _ ho38) mi_X9_lays wt_X9_112 (hPl 100 (by decide) (by decide)) rfl rfl rfl rfl (by decide) (by decide) (Nat.le_of_ble_eq_true rfl) dX9_tells_g10.1 ?_
        refine wm_aload_n 0 C dX9_tells_g10.2.1 rfl ?_
        refine wm_iload_n 1 C dX9_tells_g10.2.2.1 rfl ?_
        refine wm_iload_n 2 C dX9_tells_g10.2.2.2.1 rfl ?_
        obtain ⟨o39, ho40, hf⟩ := bnd hf
        refine wm_callVi (As := [.int v1, .int v2]) (ci := 8) C (c_X9_firstOther hPl _ _ _ _ ho40) mi_X9_firstOther wt_X9_363 (hPl 100 (by decide) (by decide)) rfl rfl rfl rfl (by decide) (by decide) (Nat.le_of_ble_eq_true rfl) dX9_tells_g10.2.2.2.2.1 ?_
        refine wm_iconst (v := (-1)) C dX9_tells_g10.2.2.2.2.2.1 (by decide) ?_
        refine wm_icmp_ne (tgt := 268) C dX9_tells_g10.2.2.2.2.2.2.1 (by decide) (fun c41 => ?_) (fun c41 => ?_)
        · have hf := (if_neg c41).symm.trans hf
          exact (hb268 _ hr _ hk274) _ _ _ _ _ _ _ _ _ _ _ hf
        · have hf := (if_pos c41).symm.trans hf
          refine wm_iload 7 C dX9_tells_g10.2.2.2.2.2.2.2.1 rfl ?_
          refine wm_iload 10 C dX9_tells_g10.2.2.2.2.2.2.2.2.1 rfl ?_
          refine wm_bipush (v := 10) C dX9_tells_g10.2.2.2.2.2.2.2.2.2.1 (by decide) ?_
          refine wm_icmp_ge (tgt := 257) C dX9_tells_g10.2.2.2.2.2.2.2.2.2.2.1 (by decide) (fun c42 => ?_) (fun c42 => ?_)
          · have hf := (if_pos c42).symm.trans hf
            refine wm_iconst (v := 0) C dX9_tells_g11.2.2.2.1 (by decide) ?_
            refine wm_pick [0, 1, 2, 3, 4, 5, 6, 8, 10] rfl ?_
            exact (hb258 _ hr _ hk274) _ _ _ _ _ _ _ _ _ _ _ hf
          · have hf := (if_neg c42).symm.trans hf
            refine wm_iconst (v := 1) C dX9_tells_g10.2.2.2.2.2.2.2.2.2.2.2 (by decide) ?_
            refine wm_iload 10 C dX9_tells_g11.1 rfl ?_
            refine wm_ishl C dX9_tells_g11.2.1 ?_
            refine wm_goto (tgt := 258) C dX9_tells_g11.2.2.1 (by decide) ?_
            refine wm_pick [0, 1, 2, 3, 4, 5, 6, 8, 10] rfl ?_
            exact (hb258 _ hr _ hk274) _ _ _ _ _ _ _ _ _ _ _ hf
  have hb274 : ∀ (v3 : Int32) (v4 : Int32) (v5 : Int32) (v6 : Int32) (v8 : Int32) (v9 : Int32) (v10 : Int32) (M : Mem), f_X9_tells_b274 v3 v4 v5 v6 v8 v9 v10 M = some out → WM p l e (RM 116) s m args below meth c 0 0 (MQ below (QI D cA A Pl out) args s 0 0 (FA A Pl)) D cA A Pl (FA A Pl) 12 M 274 [(0, .ref (A 100)), (3, .int v3), (4, .int v4), (5, .int v5), (6, .int v6), (8, .int v8), (9, .int v9), (10, .int v10)] [] := by
    intro v3 v4 v5 v6 v8 v9 v10 M hf
    unfold f_X9_tells_b274 at hf
    refine wm_aload_n 0 C dX9_tells_g11.2.2.2.2.2.2.2.2.2.2.2 rfl ?_
    refine wm_iload 2 C dX9_tells_g12.1 rfl ?_
    refine wm_iload 3 C dX9_tells_g12.2.1 rfl ?_
    refine wm_iload 4 C dX9_tells_g12.2.2.1 rfl ?_
    obtain ⟨o30, ho31, hf⟩ := bnd hf
    refine wm_callVv (As := [.int v4, .int v5, .int v6]) (ci := 8) C (c_X9_lays hPl _ _ _ _ _ ho31) mi_X9_lays wt_X9_112 (hPl 100 (by decide) (by decide)) rfl rfl rfl rfl (by decide) (by decide) (Nat.le_of_ble_eq_true rfl) dX9_tells_g12.2.2.2.1 ?_
    refine wm_iload_n 1 C dX9_tells_g12.2.2.2.2.1 rfl ?_
    refine wm_iconst (v := 3) C dX9_tells_g12.2.2.2.2.2.1 (by decide) ?_
    refine wm_icmp_eq (tgt := 294) C dX9_tells_g12.2.2.2.2.2.2.1 (by decide) (fun c32 => ?_) (fun c32 => ?_)
    · have hf := (if_pos c32).symm.trans hf
      refine wm_iload 6 C dX9_tells_g12.2.2.2.2.2.2.2.2.2.2.1 rfl ?_
      refine wm_goto (tgt := 317) C dX9_tells_g12.2.2.2.2.2.2.2.2.2.2.2 (by decide) ?_
      exact wm_iret C hrt hf dX9_tells_g13.2.2.2.2.2.2.2.2.2
    · have hf := (if_neg c32).symm.trans hf
      refine wm_iload_n 1 C dX9_tells_g12.2.2.2.2.2.2.2.1 rfl ?_
      refine wm_iconst (v := 5) C dX9_tells_g12.2.2.2.2.2.2.2.2.1 (by decide) ?_
      refine wm_icmp_ne (tgt := 299) C dX9_tells_g12.2.2.2.2.2.2.2.2.2.1 (by decide) (fun c33 => ?_) (fun c33 => ?_)
      · have hf := (if_neg c33).symm.trans hf
        refine wm_iload_n 1 C dX9_tells_g13.1 rfl ?_
        refine wm_iconst (v := 4) C dX9_tells_g13.2.1 (by decide) ?_
        refine wm_icmp_eq (tgt := 310) C dX9_tells_g13.2.2.1 (by decide) (fun c34 => ?_) (fun c34 => ?_)
        · have hf := (if_pos c34).symm.trans hf
          refine wm_iload 7 C dX9_tells_g13.2.2.2.2.2.2.1 rfl ?_
          refine wm_goto (tgt := 317) C dX9_tells_g13.2.2.2.2.2.2.2.1 (by decide) ?_
          exact wm_iret C hrt hf dX9_tells_g13.2.2.2.2.2.2.2.2.2
        · have hf := (if_neg c34).symm.trans hf
          refine wm_iload_n 1 C dX9_tells_g13.2.2.2.1 rfl ?_
          refine wm_bipush (v := 6) C dX9_tells_g13.2.2.2.2.1 (by decide) ?_
          refine wm_icmp_ne (tgt := 315) C dX9_tells_g13.2.2.2.2.2.1 (by decide) (fun c35 => ?_) (fun c35 => ?_)
          · have hf := (if_neg c35).symm.trans hf
            refine wm_iload 5 C dX9_tells_g13.2.2.2.2.2.2.2.2.1 rfl ?_
            exact wm_iret C hrt hf dX9_tells_g13.2.2.2.2.2.2.2.2.2
          · have hf := (if_pos c35).symm.trans hf
            refine wm_iload 7 C dX9_tells_g13.2.2.2.2.2.2.1 rfl ?_
            refine wm_goto (tgt := 317) C dX9_tells_g13.2.2.2.2.2.2.2.1 (by decide) ?_
            exact wm_iret C hrt hf dX9_tells_g13.2.2.2.2.2.2.2.2.2
      · have hf := (if_pos c33).symm.trans hf
        refine wm_iload 6 C dX9_tells_g12.2.2.2.2.2.2.2.2.2.2.1 rfl ?_
        refine wm_goto (tgt := 317) C dX9_tells_g12.2.2.2.2.2.2.2.2.2.2.2 (by decide) ?_
        exact wm_iret C hrt hf dX9_tells_g13.2.2.2.2.2.2.2.2.2
  have hb201 : ∀ (v1 : Int32) (v2 : Int32) (v3 : Int32) (v4 : Int32) (v5 : Int32) (v6 : Int32) (s0 : Int32) (M : Mem), f_X9_tells_b201 v1 v2 v3 v4 v5 v6 s0 M = some out → WM p l e (RM 116) s m args below meth c 0 0 (MQ below (QI D cA A Pl out) args s 0 0 (FA A Pl)) D cA A Pl (FA A Pl) 12 M 201 [(0, .ref (A 100)), (1, .int v1), (2, .int v2), (3, .int v3), (4, .int v4), (5, .int v5), (6, .int v6)] [.int s0] := by
    intro v1 v2 v3 v4 v5 v6 s0 M hf
    unfold f_X9_tells_b201 at hf
    refine wm_istore (lv1 := [(7, .int s0), (0, .ref (A 100)), (1, .int v1), (2, .int v2), (3, .int v3), (4, .int v4), (5, .int v5), (6, .int v6)]) C dX9_tells_g8.2.2.2.2.2.2.2.2.2.1 (by decide) rfl ?_
    refine wm_iconst (v := 0) C dX9_tells_g8.2.2.2.2.2.2.2.2.2.2.1 (by decide) ?_
    refine wm_istore (lv1 := [(8, .int 0), (7, .int s0), (0, .ref (A 100)), (1, .int v1), (2, .int v2), (3, .int v3), (4, .int v4), (5, .int v5), (6, .int v6)]) C dX9_tells_g8.2.2.2.2.2.2.2.2.2.2.2 (by decide) rfl ?_
    refine wm_iconst (v := 0) C dX9_tells_g9.1 (by decide) ?_
    refine wm_istore (lv1 := [(9, .int 0), (8, .int 0), (7, .int s0), (0, .ref (A 100)), (1, .int v1), (2, .int v2), (3, .int v3), (4, .int v4), (5, .int v5), (6, .int v6)]) C dX9_tells_g9.2.1 (by decide) rfl ?_
    refine wm_iconst (v := (-1)) C dX9_tells_g9.2.2.1 (by decide) ?_
    refine wm_istore (lv1 := [(10, .int (-1)), (9, .int 0), (8, .int 0), (7, .int s0), (0, .ref (A 100)), (1, .int v1), (2, .int v2), (3, .int v3), (4, .int v4), (5, .int v5), (6, .int v6)]) C dX9_tells_g9.2.2.2.1 (by decide) rfl ?_
    refine wm_iload 3 C dX9_tells_g9.2.2.2.2.1 rfl ?_
    refine wm_istore (lv1 := [(11, .int s0), (10, .int (-1)), (9, .int 0), (8, .int 0), (7, .int s0), (0, .ref (A 100)), (1, .int v1), (2, .int v2), (3, .int v3), (4, .int v4), (5, .int v5), (6, .int v6)]) C dX9_tells_g9.2.2.2.2.2.1 (by decide) rfl ?_
    refine wm_pick [5, 6, 7, 8, 9, 10, 11, 3, 2, 1, 0] rfl ?_
    exact (hl216 _ hb274 FU) _ _ _ _ _ _ _ _ _ _ _ hf
  have hb160 : ∀ (v1 : Int32) (v2 : Int32) (v3 : Int32) (v4 : Int32) (v5 : Int32) (s0 : Int32) (M : Mem), f_X9_tells_b160 v1 v2 v3 v4 v5 s0 M = some out → WM p l e (RM 116) s m args below meth c 0 0 (MQ below (QI D cA A Pl out) args s 0 0 (FA A Pl)) D cA A Pl (FA A Pl) 12 M 160 [(0, .ref (A 100)), (1, .int v1), (2, .int v2), (3, .int v3), (4, .int v4), (5, .int v5)] [.int s0] := by
    intro v1 v2 v3 v4 v5 s0 M hf
    unfold f_X9_tells_b160 at hf
    refine wm_istore (lv1 := [(6, .int s0), (0, .ref (A 100)), (1, .int v1), (2, .int v2), (3, .int v3), (4, .int v4), (5, .int v5)]) C dX9_tells_g7.2.1 (by decide) rfl ?_
    refine wm_iload 5 C dX9_tells_g7.2.2.1 rfl ?_
    refine wm_bipush (v := 6) C dX9_tells_g7.2.2.2.1 (by decide) ?_
    refine wm_icmp_ne (tgt := 178) C dX9_tells_g7.2.2.2.2.1 (by decide) (fun c19 => ?_) (fun c19 => ?_)
    · have hf := (if_neg c19).symm.trans hf
      refine wm_iload 5 C dX9_tells_g7.2.2.2.2.2.2.2.2.2.2.1 rfl ?_
      refine wm_iconst (v := 5) C dX9_tells_g7.2.2.2.2.2.2.2.2.2.2.2 (by decide) ?_
      refine wm_icmp_ne (tgt := 188) C dX9_tells_g8.1 (by decide) (fun c20 => ?_) (fun c20 => ?_)
      · have hf := (if_neg c20).symm.trans hf
        refine wm_iload 5 C dX9_tells_g8.2.2.2.1 rfl ?_
        refine wm_iconst (v := 3) C dX9_tells_g8.2.2.2.2.1 (by decide) ?_
        refine wm_icmp_ne (tgt := 199) C dX9_tells_g8.2.2.2.2.2.1 (by decide) (fun c21 => ?_) (fun c21 => ?_)
        · have hf := (if_neg c21).symm.trans hf
          refine wm_bipush (v := 99) C dX9_tells_g8.2.2.2.2.2.2.2.2.1 (by decide) ?_
          refine wm_pick [1, 2, 3, 4, 5, 6, 0] rfl ?_
          exact hb201 _ _ _ _ _ _ _ _ hf
        · have hf := (if_pos c21).symm.trans hf
          refine wm_bipush (v := 9) C dX9_tells_g8.2.2.2.2.2.2.1 (by decide) ?_
          refine wm_goto (tgt := 201) C dX9_tells_g8.2.2.2.2.2.2.2.1 (by decide) ?_
          refine wm_pick [1, 2, 3, 4, 5, 6, 0] rfl ?_
          exact hb201 _ _ _ _ _ _ _ _ hf
      · have hf := (if_pos c20).symm.trans hf
        refine wm_iconst (v := 5) C dX9_tells_g8.2.1 (by decide) ?_
        refine wm_goto (tgt := 201) C dX9_tells_g8.2.2.1 (by decide) ?_
        refine wm_pick [1, 2, 3, 4, 5, 6, 0] rfl ?_
        exact hb201 _ _ _ _ _ _ _ _ hf
    · have hf := (if_pos c19).symm.trans hf
      refine wm_aload_n 1 C dX9_tells_g7.2.2.2.2.2.1 rfl ?_
      refine wm_get (ci := 8) (k := 3) (v := .int (M 100 3)) C (hPl 100 (by decide) (by decide)) rfl rfl (by decide) wt_X9_73 iwX9 rfl dX9_tells_g7.2.2.2.2.2.2.1 ?_
      refine wm_iconst (v := 1) C dX9_tells_g7.2.2.2.2.2.2.2.1 (by decide) ?_
      refine wm_isub C dX9_tells_g7.2.2.2.2.2.2.2.2.1 ?_
      refine wm_goto (tgt := 201) C dX9_tells_g7.2.2.2.2.2.2.2.2.2.1 (by decide) ?_
      refine wm_pick [1, 2, 3, 4, 5, 6, 0] rfl ?_
      exact hb201 _ _ _ _ _ _ _ _ hf
  have hb136 : ∀ (v1 : Int32) (v2 : Int32) (v3 : Int32) (v4 : Int32) (s0 : Int32) (M : Mem), f_X9_tells_b136 v1 v2 v3 v4 s0 M = some out → WM p l e (RM 116) s m args below meth c 0 0 (MQ below (QI D cA A Pl out) args s 0 0 (FA A Pl)) D cA A Pl (FA A Pl) 12 M 136 [(0, .ref (A 100)), (1, .int v1), (2, .int v2), (3, .int v3), (4, .int v4)] [.int s0] := by
    intro v1 v2 v3 v4 s0 M hf
    unfold f_X9_tells_b136 at hf
    refine wm_istore (lv1 := [(5, .int s0), (0, .ref (A 100)), (1, .int v1), (2, .int v2), (3, .int v3), (4, .int v4)]) C dX9_tells_g6.2.2.1 (by decide) rfl ?_
    refine wm_iload 5 C dX9_tells_g6.2.2.2.1 rfl ?_
    refine wm_bipush (v := 6) C dX9_tells_g6.2.2.2.2.1 (by decide) ?_
    refine wm_icmp_ne (tgt := 152) C dX9_tells_g6.2.2.2.2.2.1 (by decide) (fun c27 => ?_) (fun c27 => ?_)
    · have hf := (if_neg c27).symm.trans hf
      refine wm_aload_n 1 C dX9_tells_g6.2.2.2.2.2.2.2.2.2.1 rfl ?_
      refine wm_iload 0 C dX9_tells_g6.2.2.2.2.2.2.2.2.2.2.1 rfl ?_
      refine wm_iload 5 C dX9_tells_g6.2.2.2.2.2.2.2.2.2.2.2 rfl ?_
      obtain ⟨o28, ho29, hf⟩ := bnd hf
      refine wm_callVi (As := [.int s0, .int v4]) (ci := 8) C (c_X9_told hPl _ _ _ _ ho29) mi_X9_told wt_X9_108 (hPl 100 (by decide) (by decide)) rfl rfl rfl rfl (by decide) (by decide) (Nat.le_of_ble_eq_true rfl) dX9_tells_g7.1 ?_
      refine wm_pick [1, 2, 3, 4, 5, 0] rfl ?_
      exact hb160 _ _ _ _ _ _ _ hf
    · have hf := (if_pos c27).symm.trans hf
      refine wm_aload_n 1 C dX9_tells_g6.2.2.2.2.2.2.1 rfl ?_
      refine wm_get (ci := 8) (k := 4) (v := .int (M 100 4)) C (hPl 100 (by decide) (by decide)) rfl rfl (by decide) wt_X9_119 iwX9 rfl dX9_tells_g6.2.2.2.2.2.2.2.1 ?_
      refine wm_goto (tgt := 160) C dX9_tells_g6.2.2.2.2.2.2.2.2.1 (by decide) ?_
      refine wm_pick [1, 2, 3, 4, 5, 0] rfl ?_
      exact hb160 _ _ _ _ _ _ _ hf
  have hb123 : ∀ (v1 : Int32) (v2 : Int32) (v3 : Int32) (s0 : Int32) (M : Mem), f_X9_tells_b123 v1 v2 v3 s0 M = some out → WM p l e (RM 116) s m args below meth c 0 0 (MQ below (QI D cA A Pl out) args s 0 0 (FA A Pl)) D cA A Pl (FA A Pl) 12 M 123 [(0, .ref (A 100)), (1, .int v1), (2, .int v2), (3, .int v3)] [.int s0] := by
    intro v1 v2 v3 s0 M hf
    unfold f_X9_tells_b123 at hf
    refine wm_istore (lv1 := [(4, .int s0), (0, .ref (A 100)), (1, .int v1), (2, .int v2), (3, .int v3)]) C dX9_tells_g5.2.2.2.2.2.2.2.1 (by decide) rfl ?_
    refine wm_iload 0 C dX9_tells_g5.2.2.2.2.2.2.2.2.1 rfl ?_
    refine wm_iconst (v := 2) C dX9_tells_g5.2.2.2.2.2.2.2.2.2.1 (by decide) ?_
    refine wm_icmp_ne (tgt := 135) C dX9_tells_g5.2.2.2.2.2.2.2.2.2.2.1 (by decide) (fun c43 => ?_) (fun c43 => ?_)
    · have hf := (if_neg c43).symm.trans hf
      refine wm_iload_n 3 C dX9_tells_g6.2.1 rfl ?_
      refine wm_pick [1, 2, 3, 4, 0] rfl ?_
      exact hb136 _ _ _ _ _ _ hf
    · have hf := (if_pos c43).symm.trans hf
      refine wm_iconst (v := 0) C dX9_tells_g5.2.2.2.2.2.2.2.2.2.2.2 (by decide) ?_
      refine wm_goto (tgt := 136) C dX9_tells_g6.1 (by decide) ?_
      refine wm_pick [1, 2, 3, 4, 0] rfl ?_
      exact hb136 _ _ _ _ _ _ hf
  have hf := ho
  unfold f_X9_tells at hf
  refine wm_iload_n 1 C dX9_tells_g0.1 rfl ?_
  obtain ⟨o1, ho2, hf⟩ := bnd hf
  refine wm_callSi (As := [.int v1]) C (c_X9_isSheet hPl _ _ _ ho2) mi_X9_isSheet wt_X9_366 rfl rfl (by decide) (by decide) (Nat.le_of_ble_eq_true rfl) dX9_tells_g0.2.1 ?_
  refine wm_if_eq (tgt := 27) C dX9_tells_g0.2.2.1 (by decide) (fun c3 => ?_) (fun c3 => ?_)
  · have hf := (if_pos c3).symm.trans hf
    refine wm_bipush (v := (-2)) C dX9_tells_g1.2.1 (by decide) ?_
    exact wm_iret C hrt hf dX9_tells_g1.2.2.1
  · have hf := (if_neg c3).symm.trans hf
    refine wm_aload_n 0 C dX9_tells_g0.2.2.2.1 rfl ?_
    refine wm_iload_n 2 C dX9_tells_g0.2.2.2.2.1 rfl ?_
    obtain ⟨o4, ho5, hf⟩ := bnd hf
    refine wm_callVi (As := [.int v2]) (ci := 8) C (c_X9_isDish hPl _ _ _ ho5) mi_X9_isDish wt_X9_94 (hPl 100 (by decide) (by decide)) rfl rfl rfl rfl (by decide) (by decide) (Nat.le_of_ble_eq_true rfl) dX9_tells_g0.2.2.2.2.2.1 ?_
    refine wm_if_eq (tgt := 27) C dX9_tells_g0.2.2.2.2.2.2.1 (by decide) (fun c6 => ?_) (fun c6 => ?_)
    · have hf := (if_pos c6).symm.trans hf
      refine wm_bipush (v := (-2)) C dX9_tells_g1.2.1 (by decide) ?_
      exact wm_iret C hrt hf dX9_tells_g1.2.2.1
    · have hf := (if_neg c6).symm.trans hf
      refine wm_iload_n 3 C dX9_tells_g0.2.2.2.2.2.2.2.1 rfl ?_
      refine wm_i2l C dX9_tells_g0.2.2.2.2.2.2.2.2.1 ?_
      refine wm_lconst (v := 0) C dX9_tells_g0.2.2.2.2.2.2.2.2.2.1 (by decide) ?_
      refine wm_ldc2 (v := 8) C wt_X9_126 dX9_tells_g0.2.2.2.2.2.2.2.2.2.2.1 ?_
      obtain ⟨o7, ho8, hf⟩ := bnd hf
      refine wm_callSi (As := [.long ((v3 : Int32).toInt64), .long 0, .long 8]) C (c_X9_in hPl _ _ _ _ _ ho8) mi_X9_in wt_X9_79 rfl rfl (by decide) (by decide) (Nat.le_of_ble_eq_true rfl) dX9_tells_g0.2.2.2.2.2.2.2.2.2.2.2 ?_
      refine wm_if_ne (tgt := 30) C dX9_tells_g1.1 (by decide) (fun c9 => ?_) (fun c9 => ?_)
      · have hf := (if_neg c9).symm.trans hf
        refine wm_aload_n 0 C dX9_tells_g1.2.2.2.1 rfl ?_
        refine wm_get (ci := 8) (k := 45) (v := .ref (A 114)) C (hPl 100 (by decide) (by decide)) rfl rfl (by decide) wt_X9_56 iwX9 rfl dX9_tells_g1.2.2.2.2.1 ?_
        refine wm_iload_n 1 C dX9_tells_g1.2.2.2.2.2.1 rfl ?_
        obtain ⟨h10, hf⟩ := ckd hf
        refine wm_zald (n := 4) (j := (v1).toNatClampNeg) (v := (o7.2 114 (v1).toNatClampNeg)) C (hPl 114 (by decide) (by decide)) rfl rfl rfl h10 rfl rfl dX9_tells_g1.2.2.2.2.2.2.1 ?_
        refine wm_if_ne (tgt := 42) C dX9_tells_g1.2.2.2.2.2.2.2.1 (by decide) (fun c11 => ?_) (fun c11 => ?_)
        · have hf := (if_neg c11).symm.trans hf
          refine wm_aload_n 0 C dX9_tells_g1.2.2.2.2.2.2.2.2.2.2.1 rfl ?_
          refine wm_get (ci := 8) (k := 47) (v := .ref (A 116)) C (hPl 100 (by decide) (by decide)) rfl rfl (by decide) wt_X9_63 iwX9 rfl dX9_tells_g1.2.2.2.2.2.2.2.2.2.2.2 ?_
          refine wm_iload_n 1 C dX9_tells_g2.1 rfl ?_
          refine wm_iald (n := 4) (j := (v1).toNatClampNeg) (v := (o7.2 116 (v1).toNatClampNeg)) C (hPl 116 (by decide) (by decide)) rfl rfl rfl h10 rfl rfl dX9_tells_g2.2.1 ?_
          refine wm_iconst (v := 2) C dX9_tells_g2.2.2.1 (by decide) ?_
          refine wm_icmp_eq (tgt := 55) C dX9_tells_g2.2.2.2.1 (by decide) (fun c12 => ?_) (fun c12 => ?_)
          · have hf := (if_pos c12).symm.trans hf
            refine wm_iload_n 3 C dX9_tells_g2.2.2.2.2.2.2.1 rfl ?_
            refine wm_if_eq (tgt := 65) C dX9_tells_g2.2.2.2.2.2.2.2.1 (by decide) (fun c13 => ?_) (fun c13 => ?_)
            · have hf := (if_pos c13).symm.trans hf
              exact hb65 _ _ _ _ hf
            · have hf := (if_neg c13).symm.trans hf
              refine wm_iload_n 3 C dX9_tells_g2.2.2.2.2.2.2.2.2.1 rfl ?_
              refine wm_bipush (v := 8) C dX9_tells_g2.2.2.2.2.2.2.2.2.2.1 (by decide) ?_
              refine wm_icmp_ne (tgt := 84) C dX9_tells_g2.2.2.2.2.2.2.2.2.2.2.1 (by decide) (fun c14 => ?_) (fun c14 => ?_)
              · have hf := (if_neg c14).symm.trans hf
                refine wm_iload_n 3 C dX9_tells_g3.2.2.2.2.2.2.2.2.2.2.1 rfl ?_
                refine wm_iconst (v := 1) C dX9_tells_g3.2.2.2.2.2.2.2.2.2.2.2 (by decide) ?_
                refine wm_icmp_ne (tgt := 93) C dX9_tells_g4.1 (by decide) (fun c15 => ?_) (fun c15 => ?_)
                · have hf := (if_neg c15).symm.trans hf
                  refine wm_iload_n 3 C dX9_tells_g4.2.2.2.1 rfl ?_
                  refine wm_iconst (v := 2) C dX9_tells_g4.2.2.2.2.1 (by decide) ?_
                  refine wm_icmp_ne (tgt := 102) C dX9_tells_g4.2.2.2.2.2.1 (by decide) (fun c16 => ?_) (fun c16 => ?_)
                  · have hf := (if_neg c16).symm.trans hf
                    refine wm_iload_n 3 C dX9_tells_g4.2.2.2.2.2.2.2.2.1 rfl ?_
                    refine wm_iconst (v := 5) C dX9_tells_g4.2.2.2.2.2.2.2.2.2.1 (by decide) ?_
                    refine wm_icmp_ge (tgt := 111) C dX9_tells_g4.2.2.2.2.2.2.2.2.2.2.1 (by decide) (fun c17 => ?_) (fun c17 => ?_)
                    · have hf := (if_pos c17).symm.trans hf
                      refine wm_iload_n 3 C dX9_tells_g5.2.1 rfl ?_
                      refine wm_bipush (v := 7) C dX9_tells_g5.2.2.1 (by decide) ?_
                      refine wm_icmp_ge (tgt := 121) C dX9_tells_g5.2.2.2.1 (by decide) (fun c18 => ?_) (fun c18 => ?_)
                      · have hf := (if_pos c18).symm.trans hf
                        refine wm_bipush (v := 6) C dX9_tells_g5.2.2.2.2.2.2.1 (by decide) ?_
                        exact hb123 _ _ _ _ _ hf
                      · have hf := (if_neg c18).symm.trans hf
                        refine wm_iconst (v := 2) C dX9_tells_g5.2.2.2.2.1 (by decide) ?_
                        refine wm_goto (tgt := 123) C dX9_tells_g5.2.2.2.2.2.1 (by decide) ?_
                        exact hb123 _ _ _ _ _ hf
                    · have hf := (if_neg c17).symm.trans hf
                      refine wm_iconst (v := 0) C dX9_tells_g4.2.2.2.2.2.2.2.2.2.2.2 (by decide) ?_
                      refine wm_goto (tgt := 123) C dX9_tells_g5.1 (by decide) ?_
                      exact hb123 _ _ _ _ _ hf
                  · have hf := (if_pos c16).symm.trans hf
                    refine wm_iconst (v := 3) C dX9_tells_g4.2.2.2.2.2.2.1 (by decide) ?_
                    refine wm_goto (tgt := 123) C dX9_tells_g4.2.2.2.2.2.2.2.1 (by decide) ?_
                    exact hb123 _ _ _ _ _ hf
                · have hf := (if_pos c15).symm.trans hf
                  refine wm_iconst (v := 5) C dX9_tells_g4.2.1 (by decide) ?_
                  refine wm_goto (tgt := 123) C dX9_tells_g4.2.2.1 (by decide) ?_
                  exact hb123 _ _ _ _ _ hf
              · have hf := (if_pos c14).symm.trans hf
                exact hb65 _ _ _ _ hf
          · have hf := (if_neg c12).symm.trans hf
            refine wm_bipush (v := (-2)) C dX9_tells_g2.2.2.2.2.1 (by decide) ?_
            exact wm_iret C hrt hf dX9_tells_g2.2.2.2.2.2.1
        · have hf := (if_pos c11).symm.trans hf
          refine wm_bipush (v := (-11)) C dX9_tells_g1.2.2.2.2.2.2.2.2.1 (by decide) ?_
          exact wm_iret C hrt hf dX9_tells_g1.2.2.2.2.2.2.2.2.2.1
      · have hf := (if_pos c9).symm.trans hf
        refine wm_bipush (v := (-2)) C dX9_tells_g1.2.1 (by decide) ?_
        exact wm_iret C hrt hf dX9_tells_g1.2.2.1
set_option maxHeartbeats 4000000 in
set_option maxRecDepth 100000 in
theorem c_X9_sheet {l : Launch} {D : va_G} {cA : Nat → ClassId} {A : Nat → Nat} {Pl : List Nat} (hPl : ∀ q, 100 ≤ q → q < 118 → q ∈ Pl) (v1 : Int32) (v2 : Int32) (v3 : Int32) (M : Mem) (out : (Int32 × Mem)) (ho : f_X9_sheet v1 v2 v3 M = some out) : CtI l D cA A Pl yX9_sheet cX9_sheet 5 3 .int [.ref (A 100), .int v1, .int v2, .int v3] M out := by
  refine ct_I (by decide) (Nat.le_of_ble_eq_true rfl) (fun p e s m args below meth c C hrt => ?_)
  have hl77 : ∀ (n : Nat), ∀ (v1 : Int32) (v2 : Int32) (v3 : Int32) (v4 : Int32) (M : Mem), f_X9_sheet_l77 n v1 v2 v3 v4 M = some out → WM p l e (RM 3) s m args below meth c 0 0 (MQ below (QI D cA A Pl out) args s 0 0 (FA A Pl)) D cA A Pl (FA A Pl) 5 M 77 [(0, .ref (A 100)), (1, .int v1), (2, .int v2), (3, .int v3), (4, .int v4)] [] := by
    intro n
    induction n with
    | zero => intro v1 v2 v3 v4 M hf; rw [f_X9_sheet_l77] at hf; cases hf
    | succ n hr =>
      intro v1 v2 v3 v4 M hf
      rw [f_X9_sheet_l77] at hf
      refine wm_iload 4 C dX9_sheet_g3.2.2.2.2.2.2.2.1 rfl ?_
      refine wm_iload_n 3 C dX9_sheet_g3.2.2.2.2.2.2.2.2.1 rfl ?_
      refine wm_icmp_ge (tgt := 106) C dX9_sheet_g3.2.2.2.2.2.2.2.2.2.1 (by decide) (fun c15 => ?_) (fun c15 => ?_)
      · have hf := (if_pos c15).symm.trans hf
        refine wm_iconst (v := 1) C dX9_sheet_g4.2.2.2.2.2.2.2.2.2.2.2 (by decide) ?_
        exact wm_iret C hrt hf dX9_sheet_g5
      · have hf := (if_neg c15).symm.trans hf
        refine wm_iload_n 2 C dX9_sheet_g3.2.2.2.2.2.2.2.2.2.2.1 rfl ?_
        refine wm_if_lt (tgt := 106) C dX9_sheet_g3.2.2.2.2.2.2.2.2.2.2.2 (by decide) (fun c16 => ?_) (fun c16 => ?_)
        · have hf := (if_pos c16).symm.trans hf
          refine wm_iconst (v := 1) C dX9_sheet_g4.2.2.2.2.2.2.2.2.2.2.2 (by decide) ?_
          exact wm_iret C hrt hf dX9_sheet_g5
        · have hf := (if_neg c16).symm.trans hf
          refine wm_aload_n 0 C dX9_sheet_g4.1 rfl ?_
          refine wm_get (ci := 8) (k := 48) (v := .ref (A 117)) C (hPl 100 (by decide) (by decide)) rfl rfl (by decide) wt_X9_66 iwX9 rfl dX9_sheet_g4.2.1 ?_
          refine wm_bipush (v := 40) C dX9_sheet_g4.2.2.1 (by decide) ?_
          refine wm_iload_n 1 C dX9_sheet_g4.2.2.2.1 rfl ?_
          refine wm_imul C dX9_sheet_g4.2.2.2.2.1 ?_
          refine wm_iload 4 C dX9_sheet_g4.2.2.2.2.2.1 rfl ?_
          refine wm_iadd C dX9_sheet_g4.2.2.2.2.2.2.1 ?_
          refine wm_iconst (v := 0) C dX9_sheet_g4.2.2.2.2.2.2.2.1 (by decide) ?_
          obtain ⟨h17, hf⟩ := ckd hf
          refine wm_iast (n := 160) (j := (((40 * v1) + v4)).toNatClampNeg) (x := 0) C (hPl 117 (by decide) (by decide)) rfl rfl rfl h17 rfl dX9_sheet_g4.2.2.2.2.2.2.2.2.1 ?_
          refine wm_iinc (lv1 := [(4, .int (v4 + 1)), (0, .ref (A 100)), (1, .int v1), (2, .int v2), (3, .int v3)]) (v := (v4 + 1)) 4 C dX9_sheet_g4.2.2.2.2.2.2.2.2.2.1 rfl (by first | rfl | decide) (by decide) rfl ?_
          refine wm_goto (tgt := 77) C dX9_sheet_g4.2.2.2.2.2.2.2.2.2.2.1 (by decide) ?_
          refine wm_pick [1, 2, 3, 4, 0] rfl ?_
          exact hr _ _ _ _ _ hf
  have hb59 : ∀ (v1 : Int32) (v2 : Int32) (v3 : Int32) (s1 : Int32) (s2 : Int32) (M : Mem), f_X9_sheet_b59 v1 v2 v3 s1 s2 M = some out → WM p l e (RM 3) s m args below meth c 0 0 (MQ below (QI D cA A Pl out) args s 0 0 (FA A Pl)) D cA A Pl (FA A Pl) 5 M 59 [(0, .ref (A 100)), (1, .int v1), (2, .int v2), (3, .int v3)] [.int s2, .int s1, .ref (A 114)] := by
    intro v1 v2 v3 s1 s2 M hf
    unfold f_X9_sheet_b59 at hf
    obtain ⟨h12, hf⟩ := ckd hf
    obtain ⟨h13, hf⟩ := ckd hf
    refine wm_zast (n := 4) (j := (s1).toNatClampNeg) (x := s2) C (hPl 114 (by decide) (by decide)) rfl rfl rfl h12 rfl h13 dX9_sheet_g2.2.2.2.2.2.2.1 ?_
    refine wm_aload_n 0 C dX9_sheet_g2.2.2.2.2.2.2.2.1 rfl ?_
    refine wm_get (ci := 8) (k := 46) (v := .ref (A 115)) C (hPl 100 (by decide) (by decide)) rfl rfl (by decide) wt_X9_60 iwX9 (by first | rfl | simp [fld, mu, upd, mcp]) dX9_sheet_g2.2.2.2.2.2.2.2.2.1 ?_
    refine wm_iload_n 1 C dX9_sheet_g2.2.2.2.2.2.2.2.2.2.1 rfl ?_
    refine wm_iload_n 2 C dX9_sheet_g2.2.2.2.2.2.2.2.2.2.2.1 rfl ?_
    obtain ⟨h14, hf⟩ := ckd hf
    refine wm_iast (n := 4) (j := (v1).toNatClampNeg) (x := v2) C (hPl 115 (by decide) (by decide)) rfl rfl rfl h14 rfl dX9_sheet_g2.2.2.2.2.2.2.2.2.2.2.2 ?_
    refine wm_aload_n 0 C dX9_sheet_g3.1 rfl ?_
    refine wm_get (ci := 8) (k := 47) (v := .ref (A 116)) C (hPl 100 (by decide) (by decide)) rfl rfl (by decide) wt_X9_63 iwX9 (by first | rfl | simp [fld, mu, upd, mcp]) dX9_sheet_g3.2.1 ?_
    refine wm_iload_n 1 C dX9_sheet_g3.2.2.1 rfl ?_
    refine wm_iload_n 3 C dX9_sheet_g3.2.2.2.1 rfl ?_
    refine wm_iast (n := 4) (j := (v1).toNatClampNeg) (x := v3) C (hPl 116 (by decide) (by decide)) rfl rfl rfl h14 rfl dX9_sheet_g3.2.2.2.2.1 ?_
    refine wm_iconst (v := 0) C dX9_sheet_g3.2.2.2.2.2.1 (by decide) ?_
    refine wm_istore (lv1 := [(4, .int 0), (0, .ref (A 100)), (1, .int v1), (2, .int v2), (3, .int v3)]) C dX9_sheet_g3.2.2.2.2.2.2.1 (by decide) rfl ?_
    refine wm_pick [1, 2, 3, 4, 0] rfl ?_
    exact (hl77 FU) _ _ _ _ _ hf
  have hb45 : ∀ (v1 : Int32) (v2 : Int32) (v3 : Int32) (M : Mem), f_X9_sheet_b45 v1 v2 v3 M = some out → WM p l e (RM 3) s m args below meth c 0 0 (MQ below (QI D cA A Pl out) args s 0 0 (FA A Pl)) D cA A Pl (FA A Pl) 5 M 45 [(0, .ref (A 100)), (1, .int v1), (2, .int v2), (3, .int v3)] [] := by
    intro v1 v2 v3 M hf
    unfold f_X9_sheet_b45 at hf
    refine wm_aload_n 0 C dX9_sheet_g1.2.2.2.2.2.2.2.2.2.2.1 rfl ?_
    refine wm_get (ci := 8) (k := 45) (v := .ref (A 114)) C (hPl 100 (by decide) (by decide)) rfl rfl (by decide) wt_X9_56 iwX9 rfl dX9_sheet_g1.2.2.2.2.2.2.2.2.2.2.2 ?_
    refine wm_iload_n 1 C dX9_sheet_g2.1 rfl ?_
    refine wm_iload_n 2 C dX9_sheet_g2.2.1 rfl ?_
    refine wm_if_lt (tgt := 58) C dX9_sheet_g2.2.2.1 (by decide) (fun c9 => ?_) (fun c9 => ?_)
    · have hf := (if_pos c9).symm.trans hf
      refine wm_iconst (v := 0) C dX9_sheet_g2.2.2.2.2.2.1 (by decide) ?_
      exact hb59 _ _ _ _ _ _ hf
    · have hf := (if_neg c9).symm.trans hf
      refine wm_iconst (v := 1) C dX9_sheet_g2.2.2.2.1 (by decide) ?_
      refine wm_goto (tgt := 59) C dX9_sheet_g2.2.2.2.2.1 (by decide) ?_
      exact hb59 _ _ _ _ _ _ hf
  have hb34 : ∀ (v1 : Int32) (v2 : Int32) (v3 : Int32) (M : Mem), f_X9_sheet_b34 v1 v2 v3 M = some out → WM p l e (RM 3) s m args below meth c 0 0 (MQ below (QI D cA A Pl out) args s 0 0 (FA A Pl)) D cA A Pl (FA A Pl) 5 M 34 [(0, .ref (A 100)), (1, .int v1), (2, .int v2), (3, .int v3)] [] := by
    intro v1 v2 v3 M hf
    unfold f_X9_sheet_b34 at hf
    refine wm_iload_n 2 C dX9_sheet_g1.2.2.2.2.1 rfl ?_
    refine wm_if_lt (tgt := 45) C dX9_sheet_g1.2.2.2.2.2.1 (by decide) (fun c10 => ?_) (fun c10 => ?_)
    · have hf := (if_pos c10).symm.trans hf
      exact hb45 _ _ _ _ hf
    · have hf := (if_neg c10).symm.trans hf
      refine wm_iload_n 3 C dX9_sheet_g1.2.2.2.2.2.2.1 rfl ?_
      refine wm_if_ge (tgt := 45) C dX9_sheet_g1.2.2.2.2.2.2.2.1 (by decide) (fun c11 => ?_) (fun c11 => ?_)
      · have hf := (if_pos c11).symm.trans hf
        exact hb45 _ _ _ _ hf
      · have hf := (if_neg c11).symm.trans hf
        refine wm_bipush (v := (-14)) C dX9_sheet_g1.2.2.2.2.2.2.2.2.1 (by decide) ?_
        exact wm_iret C hrt hf dX9_sheet_g1.2.2.2.2.2.2.2.2.2.1
  have hf := ho
  unfold f_X9_sheet at hf
  refine wm_iload_n 1 C dX9_sheet_g0.1 rfl ?_
  obtain ⟨o1, ho2, hf⟩ := bnd hf
  refine wm_callSi (As := [.int v1]) C (c_X9_isSheet hPl _ _ _ ho2) mi_X9_isSheet wt_X9_366 rfl rfl (by decide) (by decide) (Nat.le_of_ble_eq_true rfl) dX9_sheet_g0.2.1 ?_
  refine wm_if_eq (tgt := 31) C dX9_sheet_g0.2.2.1 (by decide) (fun c3 => ?_) (fun c3 => ?_)
  · have hf := (if_pos c3).symm.trans hf
    refine wm_bipush (v := (-2)) C dX9_sheet_g1.2.2.1 (by decide) ?_
    exact wm_iret C hrt hf dX9_sheet_g1.2.2.2.1
  · have hf := (if_neg c3).symm.trans hf
    refine wm_iload_n 2 C dX9_sheet_g0.2.2.2.1 rfl ?_
    refine wm_i2l C dX9_sheet_g0.2.2.2.2.1 ?_
    refine wm_ldc2 (v := (-1)) C wt_X9_393 dX9_sheet_g0.2.2.2.2.2.1 ?_
    refine wm_ldc2 (v := 2) C wt_X9_395 dX9_sheet_g0.2.2.2.2.2.2.1 ?_
    obtain ⟨o4, ho5, hf⟩ := bnd hf
    refine wm_callSi (As := [.long ((v2 : Int32).toInt64), .long (-1), .long 2]) C (c_X9_in hPl _ _ _ _ _ ho5) mi_X9_in wt_X9_79 rfl rfl (by decide) (by decide) (Nat.le_of_ble_eq_true rfl) dX9_sheet_g0.2.2.2.2.2.2.2.1 ?_
    refine wm_if_eq (tgt := 31) C dX9_sheet_g0.2.2.2.2.2.2.2.2.1 (by decide) (fun c6 => ?_) (fun c6 => ?_)
    · have hf := (if_pos c6).symm.trans hf
      refine wm_bipush (v := (-2)) C dX9_sheet_g1.2.2.1 (by decide) ?_
      exact wm_iret C hrt hf dX9_sheet_g1.2.2.2.1
    · have hf := (if_neg c6).symm.trans hf
      refine wm_iload_n 2 C dX9_sheet_g0.2.2.2.2.2.2.2.2.2.1 rfl ?_
      refine wm_if_lt (tgt := 34) C dX9_sheet_g0.2.2.2.2.2.2.2.2.2.2.1 (by decide) (fun c7 => ?_) (fun c7 => ?_)
      · have hf := (if_pos c7).symm.trans hf
        exact hb34 _ _ _ _ hf
      · have hf := (if_neg c7).symm.trans hf
        refine wm_iload_n 3 C dX9_sheet_g0.2.2.2.2.2.2.2.2.2.2.2 rfl ?_
        refine wm_bipush (v := 40) C dX9_sheet_g1.1 (by decide) ?_
        refine wm_icmp_le (tgt := 34) C dX9_sheet_g1.2.1 (by decide) (fun c8 => ?_) (fun c8 => ?_)
        · have hf := (if_pos c8).symm.trans hf
          exact hb34 _ _ _ _ hf
        · have hf := (if_neg c8).symm.trans hf
          refine wm_bipush (v := (-2)) C dX9_sheet_g1.2.2.1 (by decide) ?_
          exact wm_iret C hrt hf dX9_sheet_g1.2.2.2.1
set_option maxHeartbeats 4000000 in
set_option maxRecDepth 100000 in
theorem c_X9_film {l : Launch} {D : va_G} {cA : Nat → ClassId} {A : Nat → Nat} {Pl : List Nat} (hPl : ∀ q, 100 ≤ q → q < 118 → q ∈ Pl) (v1 : Int32) (v2 : Int32) (M : Mem) (out : (Int32 × Mem)) (ho : f_X9_film v1 v2 M = some out) : CtI l D cA A Pl yX9_film cX9_film 5 114 .int [.ref (A 100), .int v1, .int v2] M out := by
  refine ct_I (by decide) (Nat.le_of_ble_eq_true rfl) (fun p e s m args below meth c C hrt => ?_)
  have hb72 : ∀ (r : Int32 → Int32 → Int32 → Int32 → Mem → Option (Int32 × Mem)) (hr : ∀ (v1 : Int32) (v2 : Int32) (v3 : Int32) (v4 : Int32) (M : Mem), r v1 v2 v3 v4 M = some out → WM p l e (RM 114) s m args below meth c 0 0 (MQ below (QI D cA A Pl out) args s 0 0 (FA A Pl)) D cA A Pl (FA A Pl) 5 M 31 [(0, .ref (A 100)), (1, .int v1), (2, .int v2), (3, .int v3), (4, .int v4)] []), ∀ (v1 : Int32) (v2 : Int32) (v4 : Int32) (s0 : Int32) (s1 : Int32) (M : Mem), f_X9_film_b72 r v1 v2 v4 s0 s1 M = some out → WM p l e (RM 114) s m args below meth c 0 0 (MQ below (QI D cA A Pl out) args s 0 0 (FA A Pl)) D cA A Pl (FA A Pl) 5 M 72 [(0, .ref (A 100)), (1, .int v1), (2, .int v2), (4, .int v4)] [.int s1, .int s0] := by
    intro r hr v1 v2 v4 s0 s1 M hf
    unfold f_X9_film_b72 at hf
    refine wm_iadd C dX9_film_g3.2.2.2.2.2.2.2.1 ?_
    refine wm_istore_n (lv1 := [(3, .int (s0 + s1)), (0, .ref (A 100)), (1, .int v1), (2, .int v2), (4, .int v4)]) C dX9_film_g3.2.2.2.2.2.2.2.2.1 (by decide) rfl ?_
    refine wm_iinc (lv1 := [(4, .int (v4 + 1)), (3, .int (s0 + s1)), (0, .ref (A 100)), (1, .int v1), (2, .int v2)]) (v := (v4 + 1)) 4 C dX9_film_g3.2.2.2.2.2.2.2.2.2.1 rfl (by first | rfl | decide) (by decide) rfl ?_
    refine wm_goto (tgt := 31) C dX9_film_g3.2.2.2.2.2.2.2.2.2.2.1 (by decide) ?_
    refine wm_pick [2, 3, 4, 1, 0] rfl ?_
    exact hr _ _ _ _ _ hf
  have hl31 : ∀ (n : Nat), ∀ (v1 : Int32) (v2 : Int32) (v3 : Int32) (v4 : Int32) (M : Mem), f_X9_film_l31 n v1 v2 v3 v4 M = some out → WM p l e (RM 114) s m args below meth c 0 0 (MQ below (QI D cA A Pl out) args s 0 0 (FA A Pl)) D cA A Pl (FA A Pl) 5 M 31 [(0, .ref (A 100)), (1, .int v1), (2, .int v2), (3, .int v3), (4, .int v4)] [] := by
    intro n
    induction n with
    | zero => intro v1 v2 v3 v4 M hf; rw [f_X9_film_l31] at hf; cases hf
    | succ n hr =>
      intro v1 v2 v3 v4 M hf
      rw [f_X9_film_l31] at hf
      refine wm_iload 4 C dX9_film_g1.2.2.2.2.2.2.2.1 rfl ?_
      refine wm_iconst (v := 2) C dX9_film_g1.2.2.2.2.2.2.2.2.1 (by decide) ?_
      refine wm_icmp_ge (tgt := 80) C dX9_film_g1.2.2.2.2.2.2.2.2.2.1 (by decide) (fun c9 => ?_) (fun c9 => ?_)
      · have hf := (if_pos c9).symm.trans hf
        refine wm_iload_n 3 C dX9_film_g3.2.2.2.2.2.2.2.2.2.2.2 rfl ?_
        exact wm_iret C hrt hf dX9_film_g4
      · have hf := (if_neg c9).symm.trans hf
        refine wm_aload_n 0 C dX9_film_g1.2.2.2.2.2.2.2.2.2.2.1 rfl ?_
        refine wm_get (ci := 8) (k := 48) (v := .ref (A 117)) C (hPl 100 (by decide) (by decide)) rfl rfl (by decide) wt_X9_66 iwX9 rfl dX9_film_g1.2.2.2.2.2.2.2.2.2.2.2 ?_
        refine wm_bipush (v := 40) C dX9_film_g2.1 (by decide) ?_
        refine wm_iload_n 1 C dX9_film_g2.2.1 rfl ?_
        refine wm_imul C dX9_film_g2.2.2.1 ?_
        refine wm_iload 4 C dX9_film_g2.2.2.2.1 rfl ?_
        refine wm_iadd C dX9_film_g2.2.2.2.2.1 ?_
        refine wm_aload_n 0 C dX9_film_g2.2.2.2.2.2.1 rfl ?_
        refine wm_iload_n 2 C dX9_film_g2.2.2.2.2.2.2.1 rfl ?_
        refine wm_iload 4 C dX9_film_g2.2.2.2.2.2.2.2.1 rfl ?_
        obtain ⟨o10, ho11, hf⟩ := bnd hf
        refine wm_callVi (As := [.int v2, .int v4]) (ci := 8) C (c_X9_worthIn hPl _ _ _ _ ho11) mi_X9_worthIn wt_X9_360 (hPl 100 (by decide) (by decide)) rfl rfl rfl rfl (by decide) (by decide) (Nat.le_of_ble_eq_true rfl) dX9_film_g2.2.2.2.2.2.2.2.2.1 ?_
        obtain ⟨h12, hf⟩ := ckd hf
        refine wm_iast (n := 160) (j := (((40 * v1) + v4)).toNatClampNeg) (x := o10.1) C (hPl 117 (by decide) (by decide)) rfl rfl rfl h12 rfl dX9_film_g2.2.2.2.2.2.2.2.2.2.1 ?_
        refine wm_iload_n 3 C dX9_film_g2.2.2.2.2.2.2.2.2.2.2.1 rfl ?_
        refine wm_aload_n 0 C dX9_film_g2.2.2.2.2.2.2.2.2.2.2.2 rfl ?_
        refine wm_iload_n 2 C dX9_film_g3.1 rfl ?_
        refine wm_iload 4 C dX9_film_g3.2.1 rfl ?_
        obtain ⟨o13, ho14, hf⟩ := bnd hf
        refine wm_callVi (As := [.int v2, .int v4]) (ci := 8) C (c_X9_isCooked hPl _ _ _ _ ho14) mi_X9_isCooked wt_X9_305 (hPl 100 (by decide) (by decide)) rfl rfl rfl rfl (by decide) (by decide) (Nat.le_of_ble_eq_true rfl) dX9_film_g3.2.2.1 ?_
        refine wm_if_eq (tgt := 71) C dX9_film_g3.2.2.2.1 (by decide) (fun c15 => ?_) (fun c15 => ?_)
        · have hf := (if_pos c15).symm.trans hf
          refine wm_iconst (v := 0) C dX9_film_g3.2.2.2.2.2.2.1 (by decide) ?_
          refine wm_pick [0, 1, 2, 4] rfl ?_
          exact (hb72 _ hr) _ _ _ _ _ _ hf
        · have hf := (if_neg c15).symm.trans hf
          refine wm_iconst (v := 1) C dX9_film_g3.2.2.2.2.1 (by decide) ?_
          refine wm_goto (tgt := 72) C dX9_film_g3.2.2.2.2.2.1 (by decide) ?_
          refine wm_pick [0, 1, 2, 4] rfl ?_
          exact (hb72 _ hr) _ _ _ _ _ _ hf
  have hf := ho
  unfold f_X9_film at hf
  refine wm_iload_n 1 C dX9_film_g0.1 rfl ?_
  obtain ⟨o1, ho2, hf⟩ := bnd hf
  refine wm_callSi (As := [.int v1]) C (c_X9_isSheet hPl _ _ _ ho2) mi_X9_isSheet wt_X9_366 rfl rfl (by decide) (by decide) (Nat.le_of_ble_eq_true rfl) dX9_film_g0.2.1 ?_
  refine wm_if_eq (tgt := 15) C dX9_film_g0.2.2.1 (by decide) (fun c3 => ?_) (fun c3 => ?_)
  · have hf := (if_pos c3).symm.trans hf
    refine wm_bipush (v := (-2)) C dX9_film_g0.2.2.2.2.2.2.2.1 (by decide) ?_
    exact wm_iret C hrt hf dX9_film_g0.2.2.2.2.2.2.2.2.1
  · have hf := (if_neg c3).symm.trans hf
    refine wm_aload_n 0 C dX9_film_g0.2.2.2.1 rfl ?_
    refine wm_iload_n 2 C dX9_film_g0.2.2.2.2.1 rfl ?_
    obtain ⟨o4, ho5, hf⟩ := bnd hf
    refine wm_callVi (As := [.int v2]) (ci := 8) C (c_X9_isDish hPl _ _ _ ho5) mi_X9_isDish wt_X9_94 (hPl 100 (by decide) (by decide)) rfl rfl rfl rfl (by decide) (by decide) (Nat.le_of_ble_eq_true rfl) dX9_film_g0.2.2.2.2.2.1 ?_
    refine wm_if_ne (tgt := 18) C dX9_film_g0.2.2.2.2.2.2.1 (by decide) (fun c6 => ?_) (fun c6 => ?_)
    · have hf := (if_neg c6).symm.trans hf
      refine wm_aload_n 0 C dX9_film_g0.2.2.2.2.2.2.2.2.2.1 rfl ?_
      refine wm_iload_n 1 C dX9_film_g0.2.2.2.2.2.2.2.2.2.2.1 rfl ?_
      refine wm_iconst (v := 2) C dX9_film_g0.2.2.2.2.2.2.2.2.2.2.2 (by decide) ?_
      refine wm_iconst (v := 2) C dX9_film_g1.1 (by decide) ?_
      obtain ⟨o7, ho8, hf⟩ := bnd hf
      refine wm_callVi (As := [.int v1, .int 2, .int 2]) (ci := 8) C (c_X9_sheet hPl _ _ _ _ _ ho8) mi_X9_sheet wt_X9_372 (hPl 100 (by decide) (by decide)) rfl rfl rfl rfl (by decide) (by decide) (Nat.le_of_ble_eq_true rfl) dX9_film_g1.2.1 ?_
      refine wm_pop C dX9_film_g1.2.2.1 rfl ?_
      refine wm_iconst (v := 0) C dX9_film_g1.2.2.2.1 (by decide) ?_
      refine wm_istore_n (lv1 := [(3, .int 0), (0, .ref (A 100)), (1, .int v1), (2, .int v2)]) C dX9_film_g1.2.2.2.2.1 (by decide) rfl ?_
      refine wm_iconst (v := 0) C dX9_film_g1.2.2.2.2.2.1 (by decide) ?_
      refine wm_istore (lv1 := [(4, .int 0), (3, .int 0), (0, .ref (A 100)), (1, .int v1), (2, .int v2)]) C dX9_film_g1.2.2.2.2.2.2.1 (by decide) rfl ?_
      refine wm_pick [2, 3, 4, 1, 0] rfl ?_
      exact (hl31 FU) _ _ _ _ _ hf
    · have hf := (if_pos c6).symm.trans hf
      refine wm_bipush (v := (-2)) C dX9_film_g0.2.2.2.2.2.2.2.1 (by decide) ?_
      exact wm_iret C hrt hf dX9_film_g0.2.2.2.2.2.2.2.2.1
set_option maxHeartbeats 4000000 in
set_option maxRecDepth 100000 in
theorem c_X9_worthDrawn {l : Launch} {D : va_G} {cA : Nat → ClassId} {A : Nat → Nat} {Pl : List Nat} (hPl : ∀ q, 100 ≤ q → q < 118 → q ∈ Pl) (v1 : Int32) (M : Mem) (out : (Int32 × Mem)) (ho : f_X9_worthDrawn v1 M = some out) : CtI l D cA A Pl yX9_worthDrawn cX9_worthDrawn 6 113 .int [.ref (A 100), .int v1] M out := by
  refine ct_I (by decide) (Nat.le_of_ble_eq_true rfl) (fun p e s m args below meth c C hrt => ?_)
  have hb84 : ∀ (r : Int32 → Int32 → Int32 → Mem → Option (Int32 × Mem)) (hr : ∀ (v2 : Int32) (v3 : Int32) (v4 : Int32) (M : Mem), r v2 v3 v4 M = some out → WM p l e (RM 113) s m args below meth c 0 0 (MQ below (QI D cA A Pl out) args s 0 0 (FA A Pl)) D cA A Pl (FA A Pl) 6 M 11 [(0, .ref (A 100)), (2, .int v2), (3, .int v3), (4, .int v4)] []) (k90 : Int32 → Mem → Option (Int32 × Mem)) (hk90 : ∀ (v3 : Int32) (M : Mem), k90 v3 M = some out → WM p l e (RM 113) s m args below meth c 0 0 (MQ below (QI D cA A Pl out) args s 0 0 (FA A Pl)) D cA A Pl (FA A Pl) 6 M 90 [(0, .ref (A 100)), (3, .int v3)] []), ∀ (v2 : Int32) (v3 : Int32) (v4 : Int32) (M : Mem), f_X9_worthDrawn_b84 r k90 v2 v3 v4 M = some out → WM p l e (RM 113) s m args below meth c 0 0 (MQ below (QI D cA A Pl out) args s 0 0 (FA A Pl)) D cA A Pl (FA A Pl) 6 M 84 [(0, .ref (A 100)), (2, .int v2), (3, .int v3), (4, .int v4)] [] := by
    intro r hr k90 hk90 v2 v3 v4 M hf
    unfold f_X9_worthDrawn_b84 at hf
    refine wm_iinc (lv1 := [(4, .int (v4 + 1)), (0, .ref (A 100)), (2, .int v2), (3, .int v3)]) (v := (v4 + 1)) 3 C dX9_worthDrawn_g4.2.1 rfl (by first | rfl | decide) (by decide) rfl ?_
    refine wm_goto (tgt := 11) C dX9_worthDrawn_g4.2.2.1 (by decide) ?_
    refine wm_pick [1, 2, 3, 0] rfl ?_
    exact hr _ _ _ _ hf
  have hl11 : ∀ (k90 : Int32 → Mem → Option (Int32 × Mem)) (hk90 : ∀ (v3 : Int32) (M : Mem), k90 v3 M = some out → WM p l e (RM 113) s m args below meth c 0 0 (MQ below (QI D cA A Pl out) args s 0 0 (FA A Pl)) D cA A Pl (FA A Pl) 6 M 90 [(0, .ref (A 100)), (3, .int v3)] []) (n : Nat), ∀ (v2 : Int32) (v3 : Int32) (v4 : Int32) (M : Mem), f_X9_worthDrawn_l11 k90 n v2 v3 v4 M = some out → WM p l e (RM 113) s m args below meth c 0 0 (MQ below (QI D cA A Pl out) args s 0 0 (FA A Pl)) D cA A Pl (FA A Pl) 6 M 11 [(0, .ref (A 100)), (2, .int v2), (3, .int v3), (4, .int v4)] [] := by
    intro k90 hk90 n
    induction n with
    | zero => intro v2 v3 v4 M hf; rw [f_X9_worthDrawn_l11] at hf; cases hf
    | succ n hr =>
      intro v2 v3 v4 M hf
      rw [f_X9_worthDrawn_l11] at hf
      refine wm_iload 3 C dX9_worthDrawn_g0.2.2.2.2.2.2.2.2.1 rfl ?_
      refine wm_aload_n 0 C dX9_worthDrawn_g0.2.2.2.2.2.2.2.2.2.1 rfl ?_
      refine wm_get (ci := 8) (k := 12) (v := .int (M 100 12)) C (hPl 100 (by decide) (by decide)) rfl rfl (by decide) wt_X9_76 iwX9 rfl dX9_worthDrawn_g0.2.2.2.2.2.2.2.2.2.2.1 ?_
      refine wm_icmp_ge (tgt := 90) C dX9_worthDrawn_g0.2.2.2.2.2.2.2.2.2.2.2 (by decide) (fun c5 => ?_) (fun c5 => ?_)
      · have hf := (if_pos c5).symm.trans hf
        refine wm_pick [0, 2] rfl ?_
        exact hk90 _ _ hf
      · have hf := (if_neg c5).symm.trans hf
        refine wm_iload_n 1 C dX9_worthDrawn_g1.1 rfl ?_
        refine wm_ldc_w (v := 1103515245) C wt_X9_375 dX9_worthDrawn_g1.2.1 ?_
        refine wm_imul C dX9_worthDrawn_g1.2.2.1 ?_
        refine wm_sipush (v := 12345) C dX9_worthDrawn_g1.2.2.2.1 (by decide) ?_
        refine wm_iadd C dX9_worthDrawn_g1.2.2.2.2.1 ?_
        refine wm_istore_n (lv1 := [(2, .int ((v2 * 1103515245) + 12345)), (0, .ref (A 100)), (3, .int v3), (4, .int v4)]) C dX9_worthDrawn_g1.2.2.2.2.2.1 (by decide) rfl ?_
        refine wm_iload_n 0 C dX9_worthDrawn_g1.2.2.2.2.2.2.1 rfl ?_
        refine wm_bipush (v := 9) C dX9_worthDrawn_g1.2.2.2.2.2.2.2.1 (by decide) ?_
        refine wm_iushr C dX9_worthDrawn_g1.2.2.2.2.2.2.2.2.1 ?_
        refine wm_iconst (v := 3) C dX9_worthDrawn_g1.2.2.2.2.2.2.2.2.2.1 (by decide) ?_
        refine wm_irem C (by decide) dX9_worthDrawn_g1.2.2.2.2.2.2.2.2.2.2.1 ?_
        refine wm_iconst (v := 1) C dX9_worthDrawn_g1.2.2.2.2.2.2.2.2.2.2.2 (by decide) ?_
        refine wm_isub C dX9_worthDrawn_g2.1 ?_
        refine wm_istore (lv1 := [(5, .int ((jrem (jushr ((v2 * 1103515245) + 12345) 9) 3) - 1)), (2, .int ((v2 * 1103515245) + 12345)), (0, .ref (A 100)), (3, .int v3), (4, .int v4)]) C dX9_worthDrawn_g2.2.1 (by decide) rfl ?_
        refine wm_iload 0 C dX9_worthDrawn_g2.2.2.1 rfl ?_
        refine wm_if_lt (tgt := 84) C dX9_worthDrawn_g2.2.2.2.1 (by decide) (fun c6 => ?_) (fun c6 => ?_)
        · have hf := (if_pos c6).symm.trans hf
          refine wm_pick [2, 1, 3, 4] rfl ?_
          exact (hb84 _ hr _ hk90) _ _ _ _ hf
        · have hf := (if_neg c6).symm.trans hf
          refine wm_aload_n 2 C dX9_worthDrawn_g2.2.2.2.2.1 rfl ?_
          refine wm_iload 4 C dX9_worthDrawn_g2.2.2.2.2.2.1 rfl ?_
          refine wm_iload 0 C dX9_worthDrawn_g2.2.2.2.2.2.2.1 rfl ?_
          obtain ⟨o7, ho8, hf⟩ := bnd hf
          refine wm_callVi (As := [.int v4, .int ((jrem (jushr ((v2 * 1103515245) + 12345) 9) 3) - 1)]) (ci := 8) C (c_X9_isCooked hPl _ _ _ _ ho8) mi_X9_isCooked wt_X9_305 (hPl 100 (by decide) (by decide)) rfl rfl rfl rfl (by decide) (by decide) (Nat.le_of_ble_eq_true rfl) dX9_worthDrawn_g2.2.2.2.2.2.2.2.1 ?_
          refine wm_if_eq (tgt := 84) C dX9_worthDrawn_g2.2.2.2.2.2.2.2.2.1 (by decide) (fun c9 => ?_) (fun c9 => ?_)
          · have hf := (if_pos c9).symm.trans hf
            refine wm_pick [2, 1, 3, 4] rfl ?_
            exact (hb84 _ hr _ hk90) _ _ _ _ hf
          · have hf := (if_neg c9).symm.trans hf
            refine wm_iload_n 3 C dX9_worthDrawn_g2.2.2.2.2.2.2.2.2.2.1 rfl ?_
            refine wm_aload_n 2 C dX9_worthDrawn_g2.2.2.2.2.2.2.2.2.2.2.1 rfl ?_
            refine wm_iload 4 C dX9_worthDrawn_g2.2.2.2.2.2.2.2.2.2.2.2 rfl ?_
            refine wm_iload 0 C dX9_worthDrawn_g3.1 rfl ?_
            obtain ⟨o10, ho11, hf⟩ := bnd hf
            refine wm_callVi (As := [.int v4, .int ((jrem (jushr ((v2 * 1103515245) + 12345) 9) 3) - 1)]) (ci := 8) C (c_X9_feedsOf hPl _ _ _ _ ho11) mi_X9_feedsOf wt_X9_285 (hPl 100 (by decide) (by decide)) rfl rfl rfl rfl (by decide) (by decide) (Nat.le_of_ble_eq_true rfl) dX9_worthDrawn_g3.2.1 ?_
            refine wm_aload_n 2 C dX9_worthDrawn_g3.2.2.1 rfl ?_
            refine wm_iload 4 C dX9_worthDrawn_g3.2.2.2.1 rfl ?_
            refine wm_iload 0 C dX9_worthDrawn_g3.2.2.2.2.1 rfl ?_
            obtain ⟨o12, ho13, hf⟩ := bnd hf
            refine wm_callVi (As := [.int v4, .int ((jrem (jushr ((v2 * 1103515245) + 12345) 9) 3) - 1)]) (ci := 8) C (c_X9_tollOf hPl _ _ _ _ ho13) mi_X9_tollOf wt_X9_270 (hPl 100 (by decide) (by decide)) rfl rfl rfl rfl (by decide) (by decide) (Nat.le_of_ble_eq_true rfl) dX9_worthDrawn_g3.2.2.2.2.2.1 ?_
            refine wm_isub C dX9_worthDrawn_g3.2.2.2.2.2.2.1 ?_
            refine wm_iadd C dX9_worthDrawn_g3.2.2.2.2.2.2.2.1 ?_
            refine wm_istore_n (lv1 := [(3, .int (v3 + (o10.1 - o12.1))), (5, .int ((jrem (jushr ((v2 * 1103515245) + 12345) 9) 3) - 1)), (2, .int ((v2 * 1103515245) + 12345)), (0, .ref (A 100)), (4, .int v4)]) C dX9_worthDrawn_g3.2.2.2.2.2.2.2.2.1 (by decide) rfl ?_
            refine wm_aload_n 3 C dX9_worthDrawn_g3.2.2.2.2.2.2.2.2.2.1 rfl ?_
            refine wm_iload 4 C dX9_worthDrawn_g3.2.2.2.2.2.2.2.2.2.2.1 rfl ?_
            refine wm_iload 1 C dX9_worthDrawn_g3.2.2.2.2.2.2.2.2.2.2.2 rfl ?_
            obtain ⟨o14, ho15, hf⟩ := bnd hf
            refine wm_callVv (As := [.int v4, .int ((jrem (jushr ((v2 * 1103515245) + 12345) 9) 3) - 1)]) (ci := 8) C (c_X9_uses hPl _ _ _ _ ho15) mi_X9_uses wt_X9_291 (hPl 100 (by decide) (by decide)) rfl rfl rfl rfl (by decide) (by decide) (Nat.le_of_ble_eq_true rfl) dX9_worthDrawn_g4.1 ?_
            refine wm_pick [3, 2, 0, 4] rfl ?_
            exact (hb84 _ hr _ hk90) _ _ _ _ hf
  have hb90 : ∀ (v3 : Int32) (M : Mem), f_X9_worthDrawn_b90 v3 M = some out → WM p l e (RM 113) s m args below meth c 0 0 (MQ below (QI D cA A Pl out) args s 0 0 (FA A Pl)) D cA A Pl (FA A Pl) 6 M 90 [(0, .ref (A 100)), (3, .int v3)] [] := by
    intro v3 M hf
    unfold f_X9_worthDrawn_b90 at hf
    refine wm_aload_n 0 C dX9_worthDrawn_g4.2.2.2.1 rfl ?_
    obtain ⟨o3, ho4, hf⟩ := bnd hf
    refine wm_callVv (As := []) (ci := 8) C (c_X9_laysBack hPl  _ _ ho4) mi_X9_laysBack wt_X9_317 (hPl 100 (by decide) (by decide)) rfl rfl rfl rfl (by decide) (by decide) (Nat.le_of_ble_eq_true rfl) dX9_worthDrawn_g4.2.2.2.2.1 ?_
    refine wm_iload_n 1 C dX9_worthDrawn_g4.2.2.2.2.2.1 rfl ?_
    exact wm_iret C hrt hf dX9_worthDrawn_g4.2.2.2.2.2.2
  have hf := ho
  unfold f_X9_worthDrawn at hf
  refine wm_aload_n 0 C dX9_worthDrawn_g0.1 rfl ?_
  obtain ⟨o1, ho2, hf⟩ := bnd hf
  refine wm_callVv (As := []) (ci := 8) C (c_X9_laysAside hPl  _ _ ho2) mi_X9_laysAside wt_X9_311 (hPl 100 (by decide) (by decide)) rfl rfl rfl rfl (by decide) (by decide) (Nat.le_of_ble_eq_true rfl) dX9_worthDrawn_g0.2.1 ?_
  refine wm_iload_n 1 C dX9_worthDrawn_g0.2.2.1 rfl ?_
  refine wm_istore_n (lv1 := [(2, .int v1), (0, .ref (A 100)), (1, .int v1)]) C dX9_worthDrawn_g0.2.2.2.1 (by decide) rfl ?_
  refine wm_iconst (v := 0) C dX9_worthDrawn_g0.2.2.2.2.1 (by decide) ?_
  refine wm_istore_n (lv1 := [(3, .int 0), (2, .int v1), (0, .ref (A 100)), (1, .int v1)]) C dX9_worthDrawn_g0.2.2.2.2.2.1 (by decide) rfl ?_
  refine wm_iconst (v := 0) C dX9_worthDrawn_g0.2.2.2.2.2.2.1 (by decide) ?_
  refine wm_istore (lv1 := [(4, .int 0), (3, .int 0), (2, .int v1), (0, .ref (A 100)), (1, .int v1)]) C dX9_worthDrawn_g0.2.2.2.2.2.2.2.1 (by decide) rfl ?_
  refine wm_pick [3, 2, 1, 0] rfl ?_
  exact (hl11 _ hb90 FU) _ _ _ _ hf
set_option maxHeartbeats 4000000 in
set_option maxRecDepth 100000 in
theorem c_X9_drawn {l : Launch} {D : va_G} {cA : Nat → ClassId} {A : Nat → Nat} {Pl : List Nat} (hPl : ∀ q, 100 ≤ q → q < 118 → q ∈ Pl) (v1 : Int32) (M : Mem) (out : (Int32 × Mem)) (ho : f_X9_drawn v1 M = some out) : CtI l D cA A Pl yX9_drawn cX9_drawn 2 114 .int [.ref (A 100), .int v1] M out := by
  refine ct_I (by decide) (Nat.le_of_ble_eq_true rfl) (fun p e s m args below meth c C hrt => ?_)
  have hf := ho
  unfold f_X9_drawn at hf
  refine wm_aload_n 0 C dX9_drawn_g0.1 rfl ?_
  refine wm_iload_n 1 C dX9_drawn_g0.2.1 rfl ?_
  obtain ⟨o1, ho2, hf⟩ := bnd hf
  refine wm_callVi (As := [.int v1]) (ci := 8) C (c_X9_worthDrawn hPl _ _ _ ho2) mi_X9_worthDrawn wt_X9_376 (hPl 100 (by decide) (by decide)) rfl rfl rfl rfl (by decide) (by decide) (Nat.le_of_ble_eq_true rfl) dX9_drawn_g0.2.2.1 ?_
  exact wm_iret C hrt hf dX9_drawn_g0.2.2.2
set_option maxHeartbeats 4000000 in
set_option maxRecDepth 100000 in
theorem c_X9_chance {l : Launch} {D : va_G} {cA : Nat → ClassId} {A : Nat → Nat} {Pl : List Nat} (hPl : ∀ q, 100 ≤ q → q < 118 → q ∈ Pl) (v1 : Int32) (v2 : Int32) (v3 : Int32) (v4 : Int32) (M : Mem) (out : (Int64 × Mem)) (ho : f_X9_chance v1 v2 v3 v4 M = some out) : CtL l D cA A Pl yX9_chance cX9_chance 8 114 [.ref (A 100), .int v1, .int v2, .int v3, .int v4] M out := by
  refine ct_L (by decide) (Nat.le_of_ble_eq_true rfl) (fun p e s m args below meth c C hrt => ?_)
  have hb72 : ∀ (r : Int32 → Int32 → Int32 → Int32 → Int64 → Int32 → Mem → Option (Int64 × Mem)) (hr : ∀ (v1 : Int32) (v2 : Int32) (v3 : Int32) (v4 : Int32) (w5 : Int64) (v7 : Int32) (M : Mem), r v1 v2 v3 v4 w5 v7 M = some out → WM p l e (RM 114) s m args below meth c 0 0 (MQ below (QL D cA A Pl out) args s 0 0 (FA A Pl)) D cA A Pl (FA A Pl) 8 M 47 [(0, .ref (A 100)), (1, .int v1), (2, .int v2), (3, .int v3), (4, .int v4), (5, .long w5), (7, .int v7)] []) (k81 : Int32 → Int32 → Int64 → Mem → Option (Int64 × Mem)) (hk81 : ∀ (v2 : Int32) (v4 : Int32) (w5 : Int64) (M : Mem), k81 v2 v4 w5 M = some out → WM p l e (RM 114) s m args below meth c 0 0 (MQ below (QL D cA A Pl out) args s 0 0 (FA A Pl)) D cA A Pl (FA A Pl) 8 M 81 [(2, .int v2), (4, .int v4), (5, .long w5)] []), ∀ (v1 : Int32) (v2 : Int32) (v3 : Int32) (v4 : Int32) (v7 : Int32) (s0 : Int64) (s1 : Int64) (M : Mem), f_X9_chance_b72 r k81 v1 v2 v3 v4 v7 s0 s1 M = some out → WM p l e (RM 114) s m args below meth c 0 0 (MQ below (QL D cA A Pl out) args s 0 0 (FA A Pl)) D cA A Pl (FA A Pl) 8 M 72 [(0, .ref (A 100)), (1, .int v1), (2, .int v2), (3, .int v3), (4, .int v4), (7, .int v7)] [.long s1, .long s0] := by
    intro r hr k81 hk81 v1 v2 v3 v4 v7 s0 s1 M hf
    unfold f_X9_chance_b72 at hf
    refine wm_ladd C dX9_chance_g3.2.2.1 ?_
    refine wm_lstore (lv1 := [(5, .long (s0 + s1)), (0, .ref (A 100)), (1, .int v1), (2, .int v2), (3, .int v3), (4, .int v4), (7, .int v7)]) C dX9_chance_g3.2.2.2.1 (by decide) rfl ?_
    refine wm_iinc (lv1 := [(7, .int (v7 + 1)), (5, .long (s0 + s1)), (0, .ref (A 100)), (1, .int v1), (2, .int v2), (3, .int v3), (4, .int v4)]) (v := (v7 + 1)) 6 C dX9_chance_g3.2.2.2.2.1 rfl (by first | rfl | decide) (by decide) rfl ?_
    refine wm_goto (tgt := 47) C dX9_chance_g3.2.2.2.2.2.1 (by decide) ?_
    refine wm_pick [2, 3, 4, 5, 6, 1, 0] rfl ?_
    exact hr _ _ _ _ _ _ _ hf
  have hl47 : ∀ (k81 : Int32 → Int32 → Int64 → Mem → Option (Int64 × Mem)) (hk81 : ∀ (v2 : Int32) (v4 : Int32) (w5 : Int64) (M : Mem), k81 v2 v4 w5 M = some out → WM p l e (RM 114) s m args below meth c 0 0 (MQ below (QL D cA A Pl out) args s 0 0 (FA A Pl)) D cA A Pl (FA A Pl) 8 M 81 [(2, .int v2), (4, .int v4), (5, .long w5)] []) (n : Nat), ∀ (v1 : Int32) (v2 : Int32) (v3 : Int32) (v4 : Int32) (w5 : Int64) (v7 : Int32) (M : Mem), f_X9_chance_l47 k81 n v1 v2 v3 v4 w5 v7 M = some out → WM p l e (RM 114) s m args below meth c 0 0 (MQ below (QL D cA A Pl out) args s 0 0 (FA A Pl)) D cA A Pl (FA A Pl) 8 M 47 [(0, .ref (A 100)), (1, .int v1), (2, .int v2), (3, .int v3), (4, .int v4), (5, .long w5), (7, .int v7)] [] := by
    intro k81 hk81 n
    induction n with
    | zero => intro v1 v2 v3 v4 w5 v7 M hf; rw [f_X9_chance_l47] at hf; cases hf
    | succ n hr =>
      intro v1 v2 v3 v4 w5 v7 M hf
      rw [f_X9_chance_l47] at hf
      refine wm_iload 6 C dX9_chance_g2.1 rfl ?_
      refine wm_iload_n 2 C dX9_chance_g2.2.1 rfl ?_
      refine wm_icmp_ge (tgt := 81) C dX9_chance_g2.2.2.1 (by decide) (fun c12 => ?_) (fun c12 => ?_)
      · have hf := (if_pos c12).symm.trans hf
        refine wm_pick [2, 4, 5] rfl ?_
        exact hk81 _ _ _ _ hf
      · have hf := (if_neg c12).symm.trans hf
        refine wm_lload 5 C dX9_chance_g2.2.2.2.1 rfl ?_
        refine wm_aload_n 0 C dX9_chance_g2.2.2.2.2.1 rfl ?_
        refine wm_iload_n 1 C dX9_chance_g2.2.2.2.2.2.1 rfl ?_
        refine wm_iload 6 C dX9_chance_g2.2.2.2.2.2.2.1 rfl ?_
        refine wm_iadd C dX9_chance_g2.2.2.2.2.2.2.2.1 ?_
        obtain ⟨o13, ho14, hf⟩ := bnd hf
        refine wm_callVi (As := [.int (v1 + v7)]) (ci := 8) C (c_X9_worthDrawn hPl _ _ _ ho14) mi_X9_worthDrawn wt_X9_376 (hPl 100 (by decide) (by decide)) rfl rfl rfl rfl (by decide) (by decide) (Nat.le_of_ble_eq_true rfl) dX9_chance_g2.2.2.2.2.2.2.2.2.1 ?_
        refine wm_iload_n 3 C dX9_chance_g2.2.2.2.2.2.2.2.2.2.1 rfl ?_
        refine wm_icmp_lt (tgt := 71) C dX9_chance_g2.2.2.2.2.2.2.2.2.2.2.1 (by decide) (fun c15 => ?_) (fun c15 => ?_)
        · have hf := (if_pos c15).symm.trans hf
          refine wm_lconst (v := 0) C dX9_chance_g3.2.1 (by decide) ?_
          refine wm_pick [0, 1, 2, 3, 4, 6] rfl ?_
          exact (hb72 _ hr _ hk81) _ _ _ _ _ _ _ _ hf
        · have hf := (if_neg c15).symm.trans hf
          refine wm_lconst (v := 1) C dX9_chance_g2.2.2.2.2.2.2.2.2.2.2.2 (by decide) ?_
          refine wm_goto (tgt := 72) C dX9_chance_g3.1 (by decide) ?_
          refine wm_pick [0, 1, 2, 3, 4, 6] rfl ?_
          exact (hb72 _ hr _ hk81) _ _ _ _ _ _ _ _ hf
  have hb81 : ∀ (v2 : Int32) (v4 : Int32) (w5 : Int64) (M : Mem), f_X9_chance_b81 v2 v4 w5 M = some out → WM p l e (RM 114) s m args below meth c 0 0 (MQ below (QL D cA A Pl out) args s 0 0 (FA A Pl)) D cA A Pl (FA A Pl) 8 M 81 [(2, .int v2), (4, .int v4), (5, .long w5)] [] := by
    intro v2 v4 w5 M hf
    unfold f_X9_chance_b81 at hf
    refine wm_lload 2 C dX9_chance_g3.2.2.2.2.2.2.1 rfl ?_
    refine wm_iload_n 0 C dX9_chance_g3.2.2.2.2.2.2.2.1 rfl ?_
    refine wm_i2l C dX9_chance_g3.2.2.2.2.2.2.2.2.1 ?_
    refine wm_iload 1 C dX9_chance_g3.2.2.2.2.2.2.2.2.2.1 rfl ?_
    obtain ⟨o10, ho11, hf⟩ := bnd hf
    refine wm_callSl (As := [.long w5, .long ((v2 : Int32).toInt64), .int v4]) C (c_X9_lowest hPl _ _ _ _ _ ho11) mi_X9_lowest wt_X9_356 rfl rfl (by decide) (by decide) (Nat.le_of_ble_eq_true rfl) dX9_chance_g3.2.2.2.2.2.2.2.2.2.2.1 ?_
    exact wm_lret C hrt hf dX9_chance_g3.2.2.2.2.2.2.2.2.2.2.2
  have hf := ho
  unfold f_X9_chance at hf
  refine wm_iload_n 2 C dX9_chance_g0.1 rfl ?_
  refine wm_i2l C dX9_chance_g0.2.1 ?_
  refine wm_lconst (v := 1) C dX9_chance_g0.2.2.1 (by decide) ?_
  refine wm_ldc2 (v := 20) C wt_X9_379 dX9_chance_g0.2.2.2.1 ?_
  obtain ⟨o1, ho2, hf⟩ := bnd hf
  refine wm_callSi (As := [.long ((v2 : Int32).toInt64), .long 1, .long 20]) C (c_X9_in hPl _ _ _ _ _ ho2) mi_X9_in wt_X9_79 rfl rfl (by decide) (by decide) (Nat.le_of_ble_eq_true rfl) dX9_chance_g0.2.2.2.2.1 ?_
  refine wm_if_eq (tgt := 37) C dX9_chance_g0.2.2.2.2.2.1 (by decide) (fun c3 => ?_) (fun c3 => ?_)
  · have hf := (if_pos c3).symm.trans hf
    refine wm_ldc2 (v := (-4611686018427387904)) C wt_X9_354 dX9_chance_g1.2.2.2.2.2.2.1 ?_
    exact wm_lret C hrt hf dX9_chance_g1.2.2.2.2.2.2.2.1
  · have hf := (if_neg c3).symm.trans hf
    refine wm_iload_n 3 C dX9_chance_g0.2.2.2.2.2.2.1 rfl ?_
    refine wm_i2l C dX9_chance_g0.2.2.2.2.2.2.2.1 ?_
    refine wm_ldc2 (v := (-9999)) C wt_X9_381 dX9_chance_g0.2.2.2.2.2.2.2.2.1 ?_
    refine wm_ldc2 (v := 9999) C wt_X9_383 dX9_chance_g0.2.2.2.2.2.2.2.2.2.1 ?_
    obtain ⟨o4, ho5, hf⟩ := bnd hf
    refine wm_callSi (As := [.long ((v3 : Int32).toInt64), .long (-9999), .long 9999]) C (c_X9_in hPl _ _ _ _ _ ho5) mi_X9_in wt_X9_79 rfl rfl (by decide) (by decide) (Nat.le_of_ble_eq_true rfl) dX9_chance_g0.2.2.2.2.2.2.2.2.2.2.1 ?_
    refine wm_if_eq (tgt := 37) C dX9_chance_g0.2.2.2.2.2.2.2.2.2.2.2 (by decide) (fun c6 => ?_) (fun c6 => ?_)
    · have hf := (if_pos c6).symm.trans hf
      refine wm_ldc2 (v := (-4611686018427387904)) C wt_X9_354 dX9_chance_g1.2.2.2.2.2.2.1 ?_
      exact wm_lret C hrt hf dX9_chance_g1.2.2.2.2.2.2.2.1
    · have hf := (if_neg c6).symm.trans hf
      refine wm_iload 4 C dX9_chance_g1.1 rfl ?_
      refine wm_i2l C dX9_chance_g1.2.1 ?_
      refine wm_lconst (v := 0) C dX9_chance_g1.2.2.1 (by decide) ?_
      refine wm_lconst (v := 1) C dX9_chance_g1.2.2.2.1 (by decide) ?_
      obtain ⟨o7, ho8, hf⟩ := bnd hf
      refine wm_callSi (As := [.long ((v4 : Int32).toInt64), .long 0, .long 1]) C (c_X9_in hPl _ _ _ _ _ ho8) mi_X9_in wt_X9_79 rfl rfl (by decide) (by decide) (Nat.le_of_ble_eq_true rfl) dX9_chance_g1.2.2.2.2.1 ?_
      refine wm_if_ne (tgt := 41) C dX9_chance_g1.2.2.2.2.2.1 (by decide) (fun c9 => ?_) (fun c9 => ?_)
      · have hf := (if_neg c9).symm.trans hf
        refine wm_lconst (v := 0) C dX9_chance_g1.2.2.2.2.2.2.2.2.1 (by decide) ?_
        refine wm_lstore (lv1 := [(5, .long 0), (0, .ref (A 100)), (1, .int v1), (2, .int v2), (3, .int v3), (4, .int v4)]) C dX9_chance_g1.2.2.2.2.2.2.2.2.2.1 (by decide) rfl ?_
        refine wm_iconst (v := 0) C dX9_chance_g1.2.2.2.2.2.2.2.2.2.2.1 (by decide) ?_
        refine wm_istore (lv1 := [(7, .int 0), (5, .long 0), (0, .ref (A 100)), (1, .int v1), (2, .int v2), (3, .int v3), (4, .int v4)]) C dX9_chance_g1.2.2.2.2.2.2.2.2.2.2.2 (by decide) rfl ?_
        refine wm_pick [2, 3, 4, 5, 6, 1, 0] rfl ?_
        exact (hl47 _ hb81 FU) _ _ _ _ _ _ _ hf
      · have hf := (if_pos c9).symm.trans hf
        refine wm_ldc2 (v := (-4611686018427387904)) C wt_X9_354 dX9_chance_g1.2.2.2.2.2.2.1 ?_
        exact wm_lret C hrt hf dX9_chance_g1.2.2.2.2.2.2.2.1
set_option maxHeartbeats 4000000 in
set_option maxRecDepth 100000 in
theorem c_X9_image {l : Launch} {D : va_G} {cA : Nat → ClassId} {A : Nat → Nat} {Pl : List Nat} (hPl : ∀ q, 100 ≤ q → q < 118 → q ∈ Pl) (M : Mem) (out : (Int32 × Mem)) (ho : f_X9_image M = some out) : CtI l D cA A Pl yX9_image cX9_image 2 1 .int [.ref (A 100)] M out := by
  refine ct_I (by decide) (Nat.le_of_ble_eq_true rfl) (fun p e s m args below meth c C hrt => ?_)
  have hl2 : ∀ (k26 : Mem → Option (Int32 × Mem)) (hk26 : ∀  (M : Mem), k26  M = some out → WM p l e (RM 1) s m args below meth c 0 0 (MQ below (QI D cA A Pl out) args s 0 0 (FA A Pl)) D cA A Pl (FA A Pl) 2 M 26 [(0, .ref (A 100))] []) (n : Nat), ∀ (v1 : Int32) (M : Mem), f_X9_image_l2 k26 n v1 M = some out → WM p l e (RM 1) s m args below meth c 0 0 (MQ below (QI D cA A Pl out) args s 0 0 (FA A Pl)) D cA A Pl (FA A Pl) 2 M 2 [(0, .ref (A 100)), (1, .int v1)] [] := by
    intro k26 hk26 n
    induction n with
    | zero => intro v1 M hf; rw [f_X9_image_l2] at hf; cases hf
    | succ n hr =>
      intro v1 M hf
      rw [f_X9_image_l2] at hf
      refine wm_iload_n 1 C dX9_image_g0.2.2.1 rfl ?_
      refine wm_bipush (v := 12) C dX9_image_g0.2.2.2.1 (by decide) ?_
      refine wm_icmp_ge (tgt := 26) C dX9_image_g0.2.2.2.2.1 (by decide) (fun c1 => ?_) (fun c1 => ?_)
      · have hf := (if_pos c1).symm.trans hf
        refine wm_pick [0] rfl ?_
        exact hk26 _ hf
      · have hf := (if_neg c1).symm.trans hf
        refine wm_aload_n 0 C dX9_image_g0.2.2.2.2.2.1 rfl ?_
        refine wm_get (ci := 8) (k := 39) (v := .ref (A 111)) C (hPl 100 (by decide) (by decide)) rfl rfl (by decide) wt_X9_44 iwX9 rfl dX9_image_g0.2.2.2.2.2.2.1 ?_
        refine wm_iload_n 1 C dX9_image_g0.2.2.2.2.2.2.2.1 rfl ?_
        refine wm_aload_n 0 C dX9_image_g0.2.2.2.2.2.2.2.2.1 rfl ?_
        refine wm_get (ci := 8) (k := 8) (v := .ref (A 104)) C (hPl 100 (by decide) (by decide)) rfl rfl (by decide) wt_X9_23 iwX9 rfl dX9_image_g0.2.2.2.2.2.2.2.2.2.1 ?_
        refine wm_iload_n 1 C dX9_image_g0.2.2.2.2.2.2.2.2.2.2.1 rfl ?_
        obtain ⟨h2, hf⟩ := ckd hf
        refine wm_iald (n := 12) (j := (v1).toNatClampNeg) (v := (M 104 (v1).toNatClampNeg)) C (hPl 104 (by decide) (by decide)) rfl rfl rfl h2 rfl rfl dX9_image_g0.2.2.2.2.2.2.2.2.2.2.2 ?_
        refine wm_iast (n := 12) (j := (v1).toNatClampNeg) (x := (M 104 (v1).toNatClampNeg)) C (hPl 111 (by decide) (by decide)) rfl rfl rfl h2 rfl dX9_image_g1.1 ?_
        refine wm_iinc (lv1 := [(1, .int (v1 + 1)), (0, .ref (A 100))]) (v := (v1 + 1)) 1 C dX9_image_g1.2.1 rfl (by first | rfl | decide) (by decide) rfl ?_
        refine wm_goto (tgt := 2) C dX9_image_g1.2.2.1 (by decide) ?_
        refine wm_pick [1, 0] rfl ?_
        exact hr _ _ hf
  have hl28 : ∀ (k52 : Mem → Option (Int32 × Mem)) (hk52 : ∀  (M : Mem), k52  M = some out → WM p l e (RM 1) s m args below meth c 0 0 (MQ below (QI D cA A Pl out) args s 0 0 (FA A Pl)) D cA A Pl (FA A Pl) 2 M 52 [(0, .ref (A 100))] []) (n : Nat), ∀ (v1 : Int32) (M : Mem), f_X9_image_l28 k52 n v1 M = some out → WM p l e (RM 1) s m args below meth c 0 0 (MQ below (QI D cA A Pl out) args s 0 0 (FA A Pl)) D cA A Pl (FA A Pl) 2 M 28 [(0, .ref (A 100)), (1, .int v1)] [] := by
    intro k52 hk52 n
    induction n with
    | zero => intro v1 M hf; rw [f_X9_image_l28] at hf; cases hf
    | succ n hr =>
      intro v1 M hf
      rw [f_X9_image_l28] at hf
      refine wm_iload_n 1 C dX9_image_g1.2.2.2.2.2.1 rfl ?_
      refine wm_bipush (v := 18) C dX9_image_g1.2.2.2.2.2.2.1 (by decide) ?_
      refine wm_icmp_ge (tgt := 52) C dX9_image_g1.2.2.2.2.2.2.2.1 (by decide) (fun c3 => ?_) (fun c3 => ?_)
      · have hf := (if_pos c3).symm.trans hf
        refine wm_pick [0] rfl ?_
        exact hk52 _ hf
      · have hf := (if_neg c3).symm.trans hf
        refine wm_aload_n 0 C dX9_image_g1.2.2.2.2.2.2.2.2.1 rfl ?_
        refine wm_get (ci := 8) (k := 41) (v := .ref (A 113)) C (hPl 100 (by decide) (by decide)) rfl rfl (by decide) wt_X9_50 iwX9 rfl dX9_image_g1.2.2.2.2.2.2.2.2.2.1 ?_
        refine wm_iload_n 1 C dX9_image_g1.2.2.2.2.2.2.2.2.2.2.1 rfl ?_
        refine wm_aload_n 0 C dX9_image_g1.2.2.2.2.2.2.2.2.2.2.2 rfl ?_
        refine wm_get (ci := 8) (k := 11) (v := .ref (A 107)) C (hPl 100 (by decide) (by decide)) rfl rfl (by decide) wt_X9_32 iwX9 rfl dX9_image_g2.1 ?_
        refine wm_iload_n 1 C dX9_image_g2.2.1 rfl ?_
        obtain ⟨h4, hf⟩ := ckd hf
        refine wm_iald (n := 18) (j := (v1).toNatClampNeg) (v := (M 107 (v1).toNatClampNeg)) C (hPl 107 (by decide) (by decide)) rfl rfl rfl h4 rfl rfl dX9_image_g2.2.2.1 ?_
        refine wm_iast (n := 18) (j := (v1).toNatClampNeg) (x := (M 107 (v1).toNatClampNeg)) C (hPl 113 (by decide) (by decide)) rfl rfl rfl h4 rfl dX9_image_g2.2.2.2.1 ?_
        refine wm_iinc (lv1 := [(1, .int (v1 + 1)), (0, .ref (A 100))]) (v := (v1 + 1)) 1 C dX9_image_g2.2.2.2.2.1 rfl (by first | rfl | decide) (by decide) rfl ?_
        refine wm_goto (tgt := 28) C dX9_image_g2.2.2.2.2.2.1 (by decide) ?_
        refine wm_pick [1, 0] rfl ?_
        exact hr _ _ hf
  have hb52 : ∀  (M : Mem), f_X9_image_b52  M = some out → WM p l e (RM 1) s m args below meth c 0 0 (MQ below (QI D cA A Pl out) args s 0 0 (FA A Pl)) D cA A Pl (FA A Pl) 2 M 52 [(0, .ref (A 100))] [] := by
    intro  M hf
    unfold f_X9_image_b52 at hf
    refine wm_aload_n 0 C dX9_image_g2.2.2.2.2.2.2.1 rfl ?_
    refine wm_get (ci := 8) (k := 40) (v := .ref (A 112)) C (hPl 100 (by decide) (by decide)) rfl rfl (by decide) wt_X9_47 iwX9 rfl dX9_image_g2.2.2.2.2.2.2.2.1 ?_
    refine wm_iconst (v := 0) C dX9_image_g2.2.2.2.2.2.2.2.2.1 (by decide) ?_
    refine wm_aload_n 0 C dX9_image_g2.2.2.2.2.2.2.2.2.2.1 rfl ?_
    refine wm_get (ci := 8) (k := 9) (v := .ref (A 105)) C (hPl 100 (by decide) (by decide)) rfl rfl (by decide) wt_X9_26 iwX9 rfl dX9_image_g2.2.2.2.2.2.2.2.2.2.2.1 ?_
    refine wm_iconst (v := 0) C dX9_image_g2.2.2.2.2.2.2.2.2.2.2.2 (by decide) ?_
    refine wm_iald (n := 2) (j := 0) (v := (M 105 0)) C (hPl 105 (by decide) (by decide)) rfl rfl rfl (by decide) (by decide) rfl dX9_image_g3.1 ?_
    refine wm_iast (n := 2) (j := 0) (x := (M 105 0)) C (hPl 112 (by decide) (by decide)) rfl rfl rfl (by decide) (by decide) dX9_image_g3.2.1 ?_
    refine wm_aload_n 0 C dX9_image_g3.2.2.1 rfl ?_
    refine wm_get (ci := 8) (k := 40) (v := .ref (A 112)) C (hPl 100 (by decide) (by decide)) rfl rfl (by decide) wt_X9_47 iwX9 (by first | rfl | simp [fld, mu, upd, mcp]) dX9_image_g3.2.2.2.1 ?_
    refine wm_iconst (v := 1) C dX9_image_g3.2.2.2.2.1 (by decide) ?_
    refine wm_aload_n 0 C dX9_image_g3.2.2.2.2.2.1 rfl ?_
    refine wm_get (ci := 8) (k := 9) (v := .ref (A 105)) C (hPl 100 (by decide) (by decide)) rfl rfl (by decide) wt_X9_26 iwX9 (by first | rfl | simp [fld, mu, upd, mcp]) dX9_image_g3.2.2.2.2.2.2.1 ?_
    refine wm_iconst (v := 1) C dX9_image_g3.2.2.2.2.2.2.2.1 (by decide) ?_
    refine wm_iald (n := 2) (j := 1) (v := (M 105 1)) C (hPl 105 (by decide) (by decide)) rfl rfl rfl (by decide) (by decide) (by first | rfl | simp [mu, upd, mcp]) dX9_image_g3.2.2.2.2.2.2.2.2.1 ?_
    refine wm_iast (n := 2) (j := 1) (x := (M 105 1)) C (hPl 112 (by decide) (by decide)) rfl rfl rfl (by decide) (by decide) dX9_image_g3.2.2.2.2.2.2.2.2.2.1 ?_
    refine wm_aload_n 0 C dX9_image_g3.2.2.2.2.2.2.2.2.2.2.1 rfl ?_
    refine wm_aload_n 0 C dX9_image_g3.2.2.2.2.2.2.2.2.2.2.2 rfl ?_
    refine wm_get (ci := 8) (k := 12) (v := .int (M 100 12)) C (hPl 100 (by decide) (by decide)) rfl rfl (by decide) wt_X9_76 iwX9 (by first | rfl | simp [fld, mu, upd, mcp]) dX9_image_g4.1 ?_
    refine wm_put (ci := 8) (k := 42) (x := (M 100 12)) C (hPl 100 (by decide) (by decide)) rfl rfl (by decide) wt_X9_53 iwX9 tyX9_ok nmX9 rfl rfl rfl rfl (fun _ => rfl) (Nat.le_of_ble_eq_true rfl) dX9_image_g4.2.1 ?_
    refine wm_aload_n 0 C dX9_image_g4.2.2.1 rfl ?_
    refine wm_aload_n 0 C dX9_image_g4.2.2.2.1 rfl ?_
    refine wm_get (ci := 8) (k := 7) (v := .int (M 100 7)) C (hPl 100 (by decide) (by decide)) rfl rfl (by decide) wt_X9_116 iwX9 (by first | rfl | simp [fld, mu, upd, mcp]) dX9_image_g4.2.2.2.2.1 ?_
    refine wm_put (ci := 8) (k := 43) (x := (M 100 7)) C (hPl 100 (by decide) (by decide)) rfl rfl (by decide) wt_X9_385 iwX9 tyX9_ok nmX9 rfl rfl rfl rfl (fun _ => rfl) (Nat.le_of_ble_eq_true rfl) dX9_image_g4.2.2.2.2.2.1 ?_
    refine wm_aload_n 0 C dX9_image_g4.2.2.2.2.2.2.1 rfl ?_
    refine wm_aload_n 0 C dX9_image_g4.2.2.2.2.2.2.2.1 rfl ?_
    refine wm_get (ci := 8) (k := 4) (v := .int (M 100 4)) C (hPl 100 (by decide) (by decide)) rfl rfl (by decide) wt_X9_119 iwX9 (by first | rfl | simp [fld, mu, upd, mcp]) dX9_image_g4.2.2.2.2.2.2.2.2.1 ?_
    refine wm_put (ci := 8) (k := 44) (x := (M 100 4)) C (hPl 100 (by decide) (by decide)) rfl rfl (by decide) wt_X9_388 iwX9 tyX9_ok nmX9 rfl rfl rfl rfl (fun _ => rfl) (Nat.le_of_ble_eq_true rfl) dX9_image_g4.2.2.2.2.2.2.2.2.2.1 ?_
    refine wm_aload_n 0 C dX9_image_g4.2.2.2.2.2.2.2.2.2.2.1 rfl ?_
    refine wm_get (ci := 8) (k := 12) (v := .int (M 100 12)) C (hPl 100 (by decide) (by decide)) rfl rfl (by decide) wt_X9_76 iwX9 (by first | rfl | simp [fld, mu, upd, mcp]) dX9_image_g4.2.2.2.2.2.2.2.2.2.2.2 ?_
    exact wm_iret C hrt hf dX9_image_g5
  have hb26 : ∀  (M : Mem), f_X9_image_b26  M = some out → WM p l e (RM 1) s m args below meth c 0 0 (MQ below (QI D cA A Pl out) args s 0 0 (FA A Pl)) D cA A Pl (FA A Pl) 2 M 26 [(0, .ref (A 100))] [] := by
    intro  M hf
    unfold f_X9_image_b26 at hf
    refine wm_iconst (v := 0) C dX9_image_g1.2.2.2.1 (by decide) ?_
    refine wm_istore_n (lv1 := [(1, .int 0), (0, .ref (A 100))]) C dX9_image_g1.2.2.2.2.1 (by decide) rfl ?_
    refine wm_pick [1, 0] rfl ?_
    exact (hl28 _ hb52 FU) _ _ hf
  have hf := ho
  unfold f_X9_image at hf
  refine wm_iconst (v := 0) C dX9_image_g0.1 (by decide) ?_
  refine wm_istore_n (lv1 := [(1, .int 0), (0, .ref (A 100))]) C dX9_image_g0.2.1 (by decide) rfl ?_
  refine wm_pick [1, 0] rfl ?_
  exact (hl2 _ hb26 FU) _ _ hf
set_option maxHeartbeats 4000000 in
set_option maxRecDepth 100000 in
theorem c_X9_back {l : Launch} {D : va_G} {cA : Nat → ClassId} {A : Nat → Nat} {Pl : List Nat} (hPl : ∀ q, 100 ≤ q → q < 118 → q ∈ Pl) (M : Mem) (out : (Int32 × Mem)) (ho : f_X9_back M = some out) : CtI l D cA A Pl yX9_back cX9_back 2 1 .int [.ref (A 100)] M out := by
  refine ct_I (by decide) (Nat.le_of_ble_eq_true rfl) (fun p e s m args below meth c C hrt => ?_)
  have hl13 : ∀ (k37 : Mem → Option (Int32 × Mem)) (hk37 : ∀  (M : Mem), k37  M = some out → WM p l e (RM 1) s m args below meth c 0 0 (MQ below (QI D cA A Pl out) args s 0 0 (FA A Pl)) D cA A Pl (FA A Pl) 2 M 37 [(0, .ref (A 100))] []) (n : Nat), ∀ (v1 : Int32) (M : Mem), f_X9_back_l13 k37 n v1 M = some out → WM p l e (RM 1) s m args below meth c 0 0 (MQ below (QI D cA A Pl out) args s 0 0 (FA A Pl)) D cA A Pl (FA A Pl) 2 M 13 [(0, .ref (A 100)), (1, .int v1)] [] := by
    intro k37 hk37 n
    induction n with
    | zero => intro v1 M hf; rw [f_X9_back_l13] at hf; cases hf
    | succ n hr =>
      intro v1 M hf
      rw [f_X9_back_l13] at hf
      refine wm_iload_n 1 C dX9_back_g0.2.2.2.2.2.2.2.2.1 rfl ?_
      refine wm_bipush (v := 12) C dX9_back_g0.2.2.2.2.2.2.2.2.2.1 (by decide) ?_
      refine wm_icmp_ge (tgt := 37) C dX9_back_g0.2.2.2.2.2.2.2.2.2.2.1 (by decide) (fun c2 => ?_) (fun c2 => ?_)
      · have hf := (if_pos c2).symm.trans hf
        refine wm_pick [0] rfl ?_
        exact hk37 _ hf
      · have hf := (if_neg c2).symm.trans hf
        refine wm_aload_n 0 C dX9_back_g0.2.2.2.2.2.2.2.2.2.2.2 rfl ?_
        refine wm_get (ci := 8) (k := 8) (v := .ref (A 104)) C (hPl 100 (by decide) (by decide)) rfl rfl (by decide) wt_X9_23 iwX9 rfl dX9_back_g1.1 ?_
        refine wm_iload_n 1 C dX9_back_g1.2.1 rfl ?_
        refine wm_aload_n 0 C dX9_back_g1.2.2.1 rfl ?_
        refine wm_get (ci := 8) (k := 39) (v := .ref (A 111)) C (hPl 100 (by decide) (by decide)) rfl rfl (by decide) wt_X9_44 iwX9 rfl dX9_back_g1.2.2.2.1 ?_
        refine wm_iload_n 1 C dX9_back_g1.2.2.2.2.1 rfl ?_
        obtain ⟨h3, hf⟩ := ckd hf
        refine wm_iald (n := 12) (j := (v1).toNatClampNeg) (v := (M 111 (v1).toNatClampNeg)) C (hPl 111 (by decide) (by decide)) rfl rfl rfl h3 rfl rfl dX9_back_g1.2.2.2.2.2.1 ?_
        refine wm_iast (n := 12) (j := (v1).toNatClampNeg) (x := (M 111 (v1).toNatClampNeg)) C (hPl 104 (by decide) (by decide)) rfl rfl rfl h3 rfl dX9_back_g1.2.2.2.2.2.2.1 ?_
        refine wm_iinc (lv1 := [(1, .int (v1 + 1)), (0, .ref (A 100))]) (v := (v1 + 1)) 1 C dX9_back_g1.2.2.2.2.2.2.2.1 rfl (by first | rfl | decide) (by decide) rfl ?_
        refine wm_goto (tgt := 13) C dX9_back_g1.2.2.2.2.2.2.2.2.1 (by decide) ?_
        refine wm_pick [1, 0] rfl ?_
        exact hr _ _ hf
  have hl39 : ∀ (k63 : Mem → Option (Int32 × Mem)) (hk63 : ∀  (M : Mem), k63  M = some out → WM p l e (RM 1) s m args below meth c 0 0 (MQ below (QI D cA A Pl out) args s 0 0 (FA A Pl)) D cA A Pl (FA A Pl) 2 M 63 [(0, .ref (A 100))] []) (n : Nat), ∀ (v1 : Int32) (M : Mem), f_X9_back_l39 k63 n v1 M = some out → WM p l e (RM 1) s m args below meth c 0 0 (MQ below (QI D cA A Pl out) args s 0 0 (FA A Pl)) D cA A Pl (FA A Pl) 2 M 39 [(0, .ref (A 100)), (1, .int v1)] [] := by
    intro k63 hk63 n
    induction n with
    | zero => intro v1 M hf; rw [f_X9_back_l39] at hf; cases hf
    | succ n hr =>
      intro v1 M hf
      rw [f_X9_back_l39] at hf
      refine wm_iload_n 1 C dX9_back_g1.2.2.2.2.2.2.2.2.2.2.2 rfl ?_
      refine wm_bipush (v := 18) C dX9_back_g2.1 (by decide) ?_
      refine wm_icmp_ge (tgt := 63) C dX9_back_g2.2.1 (by decide) (fun c4 => ?_) (fun c4 => ?_)
      · have hf := (if_pos c4).symm.trans hf
        refine wm_pick [0] rfl ?_
        exact hk63 _ hf
      · have hf := (if_neg c4).symm.trans hf
        refine wm_aload_n 0 C dX9_back_g2.2.2.1 rfl ?_
        refine wm_get (ci := 8) (k := 11) (v := .ref (A 107)) C (hPl 100 (by decide) (by decide)) rfl rfl (by decide) wt_X9_32 iwX9 rfl dX9_back_g2.2.2.2.1 ?_
        refine wm_iload_n 1 C dX9_back_g2.2.2.2.2.1 rfl ?_
        refine wm_aload_n 0 C dX9_back_g2.2.2.2.2.2.1 rfl ?_
        refine wm_get (ci := 8) (k := 41) (v := .ref (A 113)) C (hPl 100 (by decide) (by decide)) rfl rfl (by decide) wt_X9_50 iwX9 rfl dX9_back_g2.2.2.2.2.2.2.1 ?_
        refine wm_iload_n 1 C dX9_back_g2.2.2.2.2.2.2.2.1 rfl ?_
        obtain ⟨h5, hf⟩ := ckd hf
        refine wm_iald (n := 18) (j := (v1).toNatClampNeg) (v := (M 113 (v1).toNatClampNeg)) C (hPl 113 (by decide) (by decide)) rfl rfl rfl h5 rfl rfl dX9_back_g2.2.2.2.2.2.2.2.2.1 ?_
        refine wm_iast (n := 18) (j := (v1).toNatClampNeg) (x := (M 113 (v1).toNatClampNeg)) C (hPl 107 (by decide) (by decide)) rfl rfl rfl h5 rfl dX9_back_g2.2.2.2.2.2.2.2.2.2.1 ?_
        refine wm_iinc (lv1 := [(1, .int (v1 + 1)), (0, .ref (A 100))]) (v := (v1 + 1)) 1 C dX9_back_g2.2.2.2.2.2.2.2.2.2.2.1 rfl (by first | rfl | decide) (by decide) rfl ?_
        refine wm_goto (tgt := 39) C dX9_back_g2.2.2.2.2.2.2.2.2.2.2.2 (by decide) ?_
        refine wm_pick [1, 0] rfl ?_
        exact hr _ _ hf
  have hb63 : ∀  (M : Mem), f_X9_back_b63  M = some out → WM p l e (RM 1) s m args below meth c 0 0 (MQ below (QI D cA A Pl out) args s 0 0 (FA A Pl)) D cA A Pl (FA A Pl) 2 M 63 [(0, .ref (A 100))] [] := by
    intro  M hf
    unfold f_X9_back_b63 at hf
    refine wm_aload_n 0 C dX9_back_g3.1 rfl ?_
    refine wm_get (ci := 8) (k := 9) (v := .ref (A 105)) C (hPl 100 (by decide) (by decide)) rfl rfl (by decide) wt_X9_26 iwX9 rfl dX9_back_g3.2.1 ?_
    refine wm_iconst (v := 0) C dX9_back_g3.2.2.1 (by decide) ?_
    refine wm_aload_n 0 C dX9_back_g3.2.2.2.1 rfl ?_
    refine wm_get (ci := 8) (k := 40) (v := .ref (A 112)) C (hPl 100 (by decide) (by decide)) rfl rfl (by decide) wt_X9_47 iwX9 rfl dX9_back_g3.2.2.2.2.1 ?_
    refine wm_iconst (v := 0) C dX9_back_g3.2.2.2.2.2.1 (by decide) ?_
    refine wm_iald (n := 2) (j := 0) (v := (M 112 0)) C (hPl 112 (by decide) (by decide)) rfl rfl rfl (by decide) (by decide) rfl dX9_back_g3.2.2.2.2.2.2.1 ?_
    refine wm_iast (n := 2) (j := 0) (x := (M 112 0)) C (hPl 105 (by decide) (by decide)) rfl rfl rfl (by decide) (by decide) dX9_back_g3.2.2.2.2.2.2.2.1 ?_
    refine wm_aload_n 0 C dX9_back_g3.2.2.2.2.2.2.2.2.1 rfl ?_
    refine wm_get (ci := 8) (k := 9) (v := .ref (A 105)) C (hPl 100 (by decide) (by decide)) rfl rfl (by decide) wt_X9_26 iwX9 (by first | rfl | simp [fld, mu, upd, mcp]) dX9_back_g3.2.2.2.2.2.2.2.2.2.1 ?_
    refine wm_iconst (v := 1) C dX9_back_g3.2.2.2.2.2.2.2.2.2.2.1 (by decide) ?_
    refine wm_aload_n 0 C dX9_back_g3.2.2.2.2.2.2.2.2.2.2.2 rfl ?_
    refine wm_get (ci := 8) (k := 40) (v := .ref (A 112)) C (hPl 100 (by decide) (by decide)) rfl rfl (by decide) wt_X9_47 iwX9 (by first | rfl | simp [fld, mu, upd, mcp]) dX9_back_g4.1 ?_
    refine wm_iconst (v := 1) C dX9_back_g4.2.1 (by decide) ?_
    refine wm_iald (n := 2) (j := 1) (v := (M 112 1)) C (hPl 112 (by decide) (by decide)) rfl rfl rfl (by decide) (by decide) (by first | rfl | simp [mu, upd, mcp]) dX9_back_g4.2.2.1 ?_
    refine wm_iast (n := 2) (j := 1) (x := (M 112 1)) C (hPl 105 (by decide) (by decide)) rfl rfl rfl (by decide) (by decide) dX9_back_g4.2.2.2.1 ?_
    refine wm_aload_n 0 C dX9_back_g4.2.2.2.2.1 rfl ?_
    refine wm_aload_n 0 C dX9_back_g4.2.2.2.2.2.1 rfl ?_
    refine wm_get (ci := 8) (k := 42) (v := .int (M 100 42)) C (hPl 100 (by decide) (by decide)) rfl rfl (by decide) wt_X9_53 iwX9 (by first | rfl | simp [fld, mu, upd, mcp]) dX9_back_g4.2.2.2.2.2.2.1 ?_
    refine wm_put (ci := 8) (k := 12) (x := (M 100 42)) C (hPl 100 (by decide) (by decide)) rfl rfl (by decide) wt_X9_76 iwX9 tyX9_ok nmX9 rfl rfl rfl rfl (fun _ => rfl) (Nat.le_of_ble_eq_true rfl) dX9_back_g4.2.2.2.2.2.2.2.1 ?_
    refine wm_aload_n 0 C dX9_back_g4.2.2.2.2.2.2.2.2.1 rfl ?_
    refine wm_aload_n 0 C dX9_back_g4.2.2.2.2.2.2.2.2.2.1 rfl ?_
    refine wm_get (ci := 8) (k := 43) (v := .int (M 100 43)) C (hPl 100 (by decide) (by decide)) rfl rfl (by decide) wt_X9_385 iwX9 (by first | rfl | simp [fld, mu, upd, mcp]) dX9_back_g4.2.2.2.2.2.2.2.2.2.2.1 ?_
    refine wm_put (ci := 8) (k := 7) (x := (M 100 43)) C (hPl 100 (by decide) (by decide)) rfl rfl (by decide) wt_X9_116 iwX9 tyX9_ok nmX9 rfl rfl rfl rfl (fun _ => rfl) (Nat.le_of_ble_eq_true rfl) dX9_back_g4.2.2.2.2.2.2.2.2.2.2.2 ?_
    refine wm_aload_n 0 C dX9_back_g5.1 rfl ?_
    refine wm_aload_n 0 C dX9_back_g5.2.1 rfl ?_
    refine wm_get (ci := 8) (k := 44) (v := .int (M 100 44)) C (hPl 100 (by decide) (by decide)) rfl rfl (by decide) wt_X9_388 iwX9 (by first | rfl | simp [fld, mu, upd, mcp]) dX9_back_g5.2.2.1 ?_
    refine wm_put (ci := 8) (k := 4) (x := (M 100 44)) C (hPl 100 (by decide) (by decide)) rfl rfl (by decide) wt_X9_119 iwX9 tyX9_ok nmX9 rfl rfl rfl rfl (fun _ => rfl) (Nat.le_of_ble_eq_true rfl) dX9_back_g5.2.2.2.1 ?_
    refine wm_aload_n 0 C dX9_back_g5.2.2.2.2.1 rfl ?_
    refine wm_get (ci := 8) (k := 12) (v := .int (M 100 42)) C (hPl 100 (by decide) (by decide)) rfl rfl (by decide) wt_X9_76 iwX9 (by first | rfl | simp [fld, mu, upd, mcp]) dX9_back_g5.2.2.2.2.2.1 ?_
    exact wm_iret C hrt hf dX9_back_g5.2.2.2.2.2.2
  have hb37 : ∀  (M : Mem), f_X9_back_b37  M = some out → WM p l e (RM 1) s m args below meth c 0 0 (MQ below (QI D cA A Pl out) args s 0 0 (FA A Pl)) D cA A Pl (FA A Pl) 2 M 37 [(0, .ref (A 100))] [] := by
    intro  M hf
    unfold f_X9_back_b37 at hf
    refine wm_iconst (v := 0) C dX9_back_g1.2.2.2.2.2.2.2.2.2.1 (by decide) ?_
    refine wm_istore_n (lv1 := [(1, .int 0), (0, .ref (A 100))]) C dX9_back_g1.2.2.2.2.2.2.2.2.2.2.1 (by decide) rfl ?_
    refine wm_pick [1, 0] rfl ?_
    exact (hl39 _ hb63 FU) _ _ hf
  have hf := ho
  unfold f_X9_back at hf
  refine wm_aload_n 0 C dX9_back_g0.1 rfl ?_
  refine wm_get (ci := 8) (k := 42) (v := .int (M 100 42)) C (hPl 100 (by decide) (by decide)) rfl rfl (by decide) wt_X9_53 iwX9 rfl dX9_back_g0.2.1 ?_
  refine wm_iconst (v := (-1)) C dX9_back_g0.2.2.1 (by decide) ?_
  refine wm_icmp_ne (tgt := 11) C dX9_back_g0.2.2.2.1 (by decide) (fun c1 => ?_) (fun c1 => ?_)
  · have hf := (if_neg c1).symm.trans hf
    refine wm_iconst (v := 0) C dX9_back_g0.2.2.2.2.2.2.1 (by decide) ?_
    refine wm_istore_n (lv1 := [(1, .int 0), (0, .ref (A 100))]) C dX9_back_g0.2.2.2.2.2.2.2.1 (by decide) rfl ?_
    refine wm_pick [1, 0] rfl ?_
    exact (hl13 _ hb37 FU) _ _ hf
  · have hf := (if_pos c1).symm.trans hf
    refine wm_bipush (v := (-3)) C dX9_back_g0.2.2.2.2.1 (by decide) ?_
    exact wm_iret C hrt hf dX9_back_g0.2.2.2.2.2.1
set_option maxHeartbeats 4000000 in
set_option maxRecDepth 100000 in
theorem c_X9_count {l : Launch} {D : va_G} {cA : Nat → ClassId} {A : Nat → Nat} {Pl : List Nat} (hPl : ∀ q, 100 ≤ q → q < 118 → q ∈ Pl) (v1 : Int32) (M : Mem) (out : (Int32 × Mem)) (ho : f_X9_count v1 M = some out) : CtI l D cA A Pl yX9_count cX9_count 2 2 .int [.ref (A 100), .int v1] M out := by
  refine ct_I (by decide) (Nat.le_of_ble_eq_true rfl) (fun p e s m args below meth c C hrt => ?_)
  have hf := ho
  unfold f_X9_count at hf
  refine wm_iload_n 1 C dX9_count_g0.1 rfl ?_
  refine wm_i2l C dX9_count_g0.2.1 ?_
  refine wm_lconst (v := 0) C dX9_count_g0.2.2.1 (by decide) ?_
  refine wm_ldc2 (v := 5) C wt_X9_83 dX9_count_g0.2.2.2.1 ?_
  obtain ⟨o1, ho2, hf⟩ := bnd hf
  refine wm_callSi (As := [.long ((v1 : Int32).toInt64), .long 0, .long 5]) C (c_X9_in hPl _ _ _ _ _ ho2) mi_X9_in wt_X9_79 rfl rfl (by decide) (by decide) (Nat.le_of_ble_eq_true rfl) dX9_count_g0.2.2.2.2.1 ?_
  refine wm_if_ne (tgt := 15) C dX9_count_g0.2.2.2.2.2.1 (by decide) (fun c3 => ?_) (fun c3 => ?_)
  · have hf := (if_neg c3).symm.trans hf
    refine wm_iload_n 1 C dX9_count_g0.2.2.2.2.2.2.2.2.1 rfl ?_
    refine wm_if_ne (tgt := 26) C dX9_count_g0.2.2.2.2.2.2.2.2.2.1 (by decide) (fun c4 => ?_) (fun c4 => ?_)
    · have hf := (if_neg c4).symm.trans hf
      refine wm_iload_n 1 C dX9_count_g1.2.1 rfl ?_
      refine wm_iconst (v := 1) C dX9_count_g1.2.2.1 (by decide) ?_
      refine wm_icmp_ne (tgt := 45) C dX9_count_g1.2.2.2.1 (by decide) (fun c5 => ?_) (fun c5 => ?_)
      · have hf := (if_neg c5).symm.trans hf
        refine wm_iload_n 1 C dX9_count_g2.1 rfl ?_
        refine wm_iconst (v := 2) C dX9_count_g2.2.1 (by decide) ?_
        refine wm_icmp_ne (tgt := 57) C dX9_count_g2.2.2.1 (by decide) (fun c6 => ?_) (fun c6 => ?_)
        · have hf := (if_neg c6).symm.trans hf
          refine wm_iload_n 1 C dX9_count_g2.2.2.2.2.2.2.1 rfl ?_
          refine wm_iconst (v := 3) C dX9_count_g2.2.2.2.2.2.2.2.1 (by decide) ?_
          refine wm_icmp_ne (tgt := 69) C dX9_count_g2.2.2.2.2.2.2.2.2.1 (by decide) (fun c7 => ?_) (fun c7 => ?_)
          · have hf := (if_neg c7).symm.trans hf
            refine wm_iload_n 1 C dX9_count_g3.1 rfl ?_
            refine wm_iconst (v := 4) C dX9_count_g3.2.1 (by decide) ?_
            refine wm_icmp_ne (tgt := 81) C dX9_count_g3.2.2.1 (by decide) (fun c8 => ?_) (fun c8 => ?_)
            · have hf := (if_neg c8).symm.trans hf
              refine wm_aload_n 0 C dX9_count_g3.2.2.2.2.2.2.1 rfl ?_
              refine wm_get (ci := 8) (k := 4) (v := .int (o1.2 100 4)) C (hPl 100 (by decide) (by decide)) rfl rfl (by decide) wt_X9_119 iwX9 rfl dX9_count_g3.2.2.2.2.2.2.2.1 ?_
              exact wm_iret C hrt hf dX9_count_g3.2.2.2.2.2.2.2.2
            · have hf := (if_pos c8).symm.trans hf
              refine wm_aload_n 0 C dX9_count_g3.2.2.2.1 rfl ?_
              refine wm_get (ci := 8) (k := 6) (v := .int (o1.2 100 6)) C (hPl 100 (by decide) (by decide)) rfl rfl (by decide) wt_X9_139 iwX9 rfl dX9_count_g3.2.2.2.2.1 ?_
              refine wm_goto (tgt := 85) C dX9_count_g3.2.2.2.2.2.1 (by decide) ?_
              exact wm_iret C hrt hf dX9_count_g3.2.2.2.2.2.2.2.2
          · have hf := (if_pos c7).symm.trans hf
            refine wm_aload_n 0 C dX9_count_g2.2.2.2.2.2.2.2.2.2.1 rfl ?_
            refine wm_get (ci := 8) (k := 3) (v := .int (o1.2 100 3)) C (hPl 100 (by decide) (by decide)) rfl rfl (by decide) wt_X9_73 iwX9 rfl dX9_count_g2.2.2.2.2.2.2.2.2.2.2.1 ?_
            refine wm_goto (tgt := 85) C dX9_count_g2.2.2.2.2.2.2.2.2.2.2.2 (by decide) ?_
            exact wm_iret C hrt hf dX9_count_g3.2.2.2.2.2.2.2.2
        · have hf := (if_pos c6).symm.trans hf
          refine wm_aload_n 0 C dX9_count_g2.2.2.2.1 rfl ?_
          refine wm_get (ci := 8) (k := 7) (v := .int (o1.2 100 7)) C (hPl 100 (by decide) (by decide)) rfl rfl (by decide) wt_X9_116 iwX9 rfl dX9_count_g2.2.2.2.2.1 ?_
          refine wm_goto (tgt := 85) C dX9_count_g2.2.2.2.2.2.1 (by decide) ?_
          exact wm_iret C hrt hf dX9_count_g3.2.2.2.2.2.2.2.2
      · have hf := (if_pos c5).symm.trans hf
        refine wm_aload_n 0 C dX9_count_g1.2.2.2.2.1 rfl ?_
        refine wm_iconst (v := 0) C dX9_count_g1.2.2.2.2.2.1 (by decide) ?_
        obtain ⟨o9, ho10, hf⟩ := bnd hf
        refine wm_callVi (As := [.int 0]) (ci := 8) C (c_X9_storeOf hPl _ _ _ ho10) mi_X9_storeOf wt_X9_131 (hPl 100 (by decide) (by decide)) rfl rfl rfl rfl (by decide) (by decide) (Nat.le_of_ble_eq_true rfl) dX9_count_g1.2.2.2.2.2.2.1 ?_
        refine wm_aload_n 0 C dX9_count_g1.2.2.2.2.2.2.2.1 rfl ?_
        refine wm_iconst (v := 1) C dX9_count_g1.2.2.2.2.2.2.2.2.1 (by decide) ?_
        obtain ⟨o11, ho12, hf⟩ := bnd hf
        refine wm_callVi (As := [.int 1]) (ci := 8) C (c_X9_storeOf hPl _ _ _ ho12) mi_X9_storeOf wt_X9_131 (hPl 100 (by decide) (by decide)) rfl rfl rfl rfl (by decide) (by decide) (Nat.le_of_ble_eq_true rfl) dX9_count_g1.2.2.2.2.2.2.2.2.2.1 ?_
        refine wm_iadd C dX9_count_g1.2.2.2.2.2.2.2.2.2.2.1 ?_
        refine wm_goto (tgt := 85) C dX9_count_g1.2.2.2.2.2.2.2.2.2.2.2 (by decide) ?_
        exact wm_iret C hrt hf dX9_count_g3.2.2.2.2.2.2.2.2
    · have hf := (if_pos c4).symm.trans hf
      refine wm_aload_n 0 C dX9_count_g0.2.2.2.2.2.2.2.2.2.2.1 rfl ?_
      refine wm_get (ci := 8) (k := 12) (v := .int (o1.2 100 12)) C (hPl 100 (by decide) (by decide)) rfl rfl (by decide) wt_X9_76 iwX9 rfl dX9_count_g0.2.2.2.2.2.2.2.2.2.2.2 ?_
      refine wm_goto (tgt := 85) C dX9_count_g1.1 (by decide) ?_
      exact wm_iret C hrt hf dX9_count_g3.2.2.2.2.2.2.2.2
  · have hf := (if_pos c3).symm.trans hf
    refine wm_bipush (v := (-2)) C dX9_count_g0.2.2.2.2.2.2.1 (by decide) ?_
    exact wm_iret C hrt hf dX9_count_g0.2.2.2.2.2.2.2.1
set_option maxHeartbeats 4000000 in
set_option maxRecDepth 100000 in
theorem c_X9_cell {l : Launch} {D : va_G} {cA : Nat → ClassId} {A : Nat → Nat} {Pl : List Nat} (hPl : ∀ q, 100 ≤ q → q < 118 → q ∈ Pl) (v1 : Int32) (v2 : Int32) (v3 : Int32) (M : Mem) (out : (Int32 × Mem)) (ho : f_X9_cell v1 v2 v3 M = some out) : CtI l D cA A Pl yX9_cell cX9_cell 4 3 .int [.ref (A 100), .int v1, .int v2, .int v3] M out := by
  refine ct_I (by decide) (Nat.le_of_ble_eq_true rfl) (fun p e s m args below meth c C hrt => ?_)
  have hf := ho
  unfold f_X9_cell at hf
  refine wm_iload_n 1 C dX9_cell_g0.1 rfl ?_
  obtain ⟨o1, ho2, hf⟩ := bnd hf
  refine wm_callSi (As := [.int v1]) C (c_X9_isSheet hPl _ _ _ ho2) mi_X9_isSheet wt_X9_366 rfl rfl (by decide) (by decide) (Nat.le_of_ble_eq_true rfl) dX9_cell_g0.2.1 ?_
  refine wm_if_ne (tgt := 10) C dX9_cell_g0.2.2.1 (by decide) (fun c3 => ?_) (fun c3 => ?_)
  · have hf := (if_neg c3).symm.trans hf
    refine wm_aload_n 0 C dX9_cell_g0.2.2.2.2.2.1 rfl ?_
    refine wm_get (ci := 8) (k := 45) (v := .ref (A 114)) C (hPl 100 (by decide) (by decide)) rfl rfl (by decide) wt_X9_56 iwX9 rfl dX9_cell_g0.2.2.2.2.2.2.1 ?_
    refine wm_iload_n 1 C dX9_cell_g0.2.2.2.2.2.2.2.1 rfl ?_
    obtain ⟨h4, hf⟩ := ckd hf
    refine wm_zald (n := 4) (j := (v1).toNatClampNeg) (v := (o1.2 114 (v1).toNatClampNeg)) C (hPl 114 (by decide) (by decide)) rfl rfl rfl h4 rfl rfl dX9_cell_g0.2.2.2.2.2.2.2.2.1 ?_
    refine wm_if_ne (tgt := 22) C dX9_cell_g0.2.2.2.2.2.2.2.2.2.1 (by decide) (fun c5 => ?_) (fun c5 => ?_)
    · have hf := (if_neg c5).symm.trans hf
      refine wm_iload_n 2 C dX9_cell_g1.1 rfl ?_
      refine wm_i2l C dX9_cell_g1.2.1 ?_
      refine wm_lconst (v := 0) C dX9_cell_g1.2.2.1 (by decide) ?_
      refine wm_aload_n 0 C dX9_cell_g1.2.2.2.1 rfl ?_
      refine wm_get (ci := 8) (k := 47) (v := .ref (A 116)) C (hPl 100 (by decide) (by decide)) rfl rfl (by decide) wt_X9_63 iwX9 rfl dX9_cell_g1.2.2.2.2.1 ?_
      refine wm_iload_n 1 C dX9_cell_g1.2.2.2.2.2.1 rfl ?_
      refine wm_iald (n := 4) (j := (v1).toNatClampNeg) (v := (o1.2 116 (v1).toNatClampNeg)) C (hPl 116 (by decide) (by decide)) rfl rfl rfl h4 rfl rfl dX9_cell_g1.2.2.2.2.2.2.1 ?_
      refine wm_iconst (v := 1) C dX9_cell_g1.2.2.2.2.2.2.2.1 (by decide) ?_
      refine wm_isub C dX9_cell_g1.2.2.2.2.2.2.2.2.1 ?_
      refine wm_i2l C dX9_cell_g1.2.2.2.2.2.2.2.2.2.1 ?_
      obtain ⟨o6, ho7, hf⟩ := bnd hf
      refine wm_callSi (As := [.long ((v2 : Int32).toInt64), .long 0, .long ((((o1.2 116 (v1).toNatClampNeg) - 1) : Int32).toInt64)]) C (c_X9_in hPl _ _ _ _ _ ho7) mi_X9_in wt_X9_79 rfl rfl (by decide) (by decide) (Nat.le_of_ble_eq_true rfl) dX9_cell_g1.2.2.2.2.2.2.2.2.2.2.1 ?_
      refine wm_if_ne (tgt := 43) C dX9_cell_g1.2.2.2.2.2.2.2.2.2.2.2 (by decide) (fun c8 => ?_) (fun c8 => ?_)
      · have hf := (if_neg c8).symm.trans hf
        refine wm_aload_n 0 C dX9_cell_g2.2.2.1 rfl ?_
        refine wm_get (ci := 8) (k := 48) (v := .ref (A 117)) C (hPl 100 (by decide) (by decide)) rfl rfl (by decide) wt_X9_66 iwX9 rfl dX9_cell_g2.2.2.2.1 ?_
        refine wm_bipush (v := 40) C dX9_cell_g2.2.2.2.2.1 (by decide) ?_
        refine wm_iload_n 1 C dX9_cell_g2.2.2.2.2.2.1 rfl ?_
        refine wm_imul C dX9_cell_g2.2.2.2.2.2.2.1 ?_
        refine wm_iload_n 2 C dX9_cell_g2.2.2.2.2.2.2.2.1 rfl ?_
        refine wm_iadd C dX9_cell_g2.2.2.2.2.2.2.2.2.1 ?_
        refine wm_aload_n 0 C dX9_cell_g2.2.2.2.2.2.2.2.2.2.1 rfl ?_
        refine wm_get (ci := 8) (k := 46) (v := .ref (A 115)) C (hPl 100 (by decide) (by decide)) rfl rfl (by decide) wt_X9_60 iwX9 rfl dX9_cell_g2.2.2.2.2.2.2.2.2.2.2.1 ?_
        refine wm_iload_n 1 C dX9_cell_g2.2.2.2.2.2.2.2.2.2.2.2 rfl ?_
        refine wm_iald (n := 4) (j := (v1).toNatClampNeg) (v := (o6.2 115 (v1).toNatClampNeg)) C (hPl 115 (by decide) (by decide)) rfl rfl rfl h4 rfl rfl dX9_cell_g3.1 ?_
        refine wm_if_ne (tgt := 67) C dX9_cell_g3.2.1 (by decide) (fun c9 => ?_) (fun c9 => ?_)
        · have hf := (if_neg c9).symm.trans hf
          refine wm_aload_n 0 C dX9_cell_g3.2.2.2.2.2.1 rfl ?_
          refine wm_get (ci := 8) (k := 46) (v := .ref (A 115)) C (hPl 100 (by decide) (by decide)) rfl rfl (by decide) wt_X9_60 iwX9 rfl dX9_cell_g3.2.2.2.2.2.2.1 ?_
          refine wm_iload_n 1 C dX9_cell_g3.2.2.2.2.2.2.2.1 rfl ?_
          refine wm_iald (n := 4) (j := (v1).toNatClampNeg) (v := (o6.2 115 (v1).toNatClampNeg)) C (hPl 115 (by decide) (by decide)) rfl rfl rfl h4 rfl rfl dX9_cell_g3.2.2.2.2.2.2.2.2.1 ?_
          refine wm_iconst (v := 1) C dX9_cell_g3.2.2.2.2.2.2.2.2.2.1 (by decide) ?_
          refine wm_icmp_ne (tgt := 82) C dX9_cell_g3.2.2.2.2.2.2.2.2.2.2.1 (by decide) (fun c10 => ?_) (fun c10 => ?_)
          · have hf := (if_neg c10).symm.trans hf
            refine wm_iload_n 3 C dX9_cell_g4.2.2.1 rfl ?_
            obtain ⟨h11, hf⟩ := ckd hf
            refine wm_iast (n := 160) (j := (((40 * v1) + v2)).toNatClampNeg) (x := v3) C (hPl 117 (by decide) (by decide)) rfl rfl rfl h11 rfl dX9_cell_g4.2.2.2.1 ?_
            refine wm_iconst (v := 1) C dX9_cell_g4.2.2.2.2.1 (by decide) ?_
            exact wm_iret C hrt hf dX9_cell_g4.2.2.2.2.2
          · have hf := (if_pos c10).symm.trans hf
            refine wm_iload_n 3 C dX9_cell_g3.2.2.2.2.2.2.2.2.2.2.2 rfl ?_
            refine wm_i2s C dX9_cell_g4.1 ?_
            refine wm_goto (tgt := 83) C dX9_cell_g4.2.1 (by decide) ?_
            obtain ⟨h12, hf⟩ := ckd hf
            refine wm_iast (n := 160) (j := (((40 * v1) + v2)).toNatClampNeg) (x := ((v3).toInt16.toInt32)) C (hPl 117 (by decide) (by decide)) rfl rfl rfl h12 rfl dX9_cell_g4.2.2.2.1 ?_
            refine wm_iconst (v := 1) C dX9_cell_g4.2.2.2.2.1 (by decide) ?_
            exact wm_iret C hrt hf dX9_cell_g4.2.2.2.2.2
        · have hf := (if_pos c9).symm.trans hf
          refine wm_iload_n 3 C dX9_cell_g3.2.2.1 rfl ?_
          refine wm_i2b C dX9_cell_g3.2.2.2.1 ?_
          refine wm_goto (tgt := 83) C dX9_cell_g3.2.2.2.2.1 (by decide) ?_
          obtain ⟨h13, hf⟩ := ckd hf
          refine wm_iast (n := 160) (j := (((40 * v1) + v2)).toNatClampNeg) (x := ((v3).toInt8.toInt32)) C (hPl 117 (by decide) (by decide)) rfl rfl rfl h13 rfl dX9_cell_g4.2.2.2.1 ?_
          refine wm_iconst (v := 1) C dX9_cell_g4.2.2.2.2.1 (by decide) ?_
          exact wm_iret C hrt hf dX9_cell_g4.2.2.2.2.2
      · have hf := (if_pos c8).symm.trans hf
        refine wm_bipush (v := (-12)) C dX9_cell_g2.1 (by decide) ?_
        exact wm_iret C hrt hf dX9_cell_g2.2.1
    · have hf := (if_pos c5).symm.trans hf
      refine wm_bipush (v := (-11)) C dX9_cell_g0.2.2.2.2.2.2.2.2.2.2.1 (by decide) ?_
      exact wm_iret C hrt hf dX9_cell_g0.2.2.2.2.2.2.2.2.2.2.2
  · have hf := (if_pos c3).symm.trans hf
    refine wm_bipush (v := (-2)) C dX9_cell_g0.2.2.2.1 (by decide) ?_
    exact wm_iret C hrt hf dX9_cell_g0.2.2.2.2.1
set_option maxHeartbeats 4000000 in
set_option maxRecDepth 100000 in
theorem c_X9_copy {l : Launch} {D : va_G} {cA : Nat → ClassId} {A : Nat → Nat} {Pl : List Nat} (hPl : ∀ q, 100 ≤ q → q < 118 → q ∈ Pl) (v1 : Int32) (v2 : Int32) (v3 : Int32) (v4 : Int32) (v5 : Int32) (M : Mem) (out : (Int32 × Mem)) (ho : f_X9_copy v1 v2 v3 v4 v5 M = some out) : CtI l D cA A Pl yX9_copy cX9_copy 9 3 .int [.ref (A 100), .int v1, .int v2, .int v3, .int v4, .int v5] M out := by
  refine ct_I (by decide) (Nat.le_of_ble_eq_true rfl) (fun p e s m args below meth c C hrt => ?_)
  have hb145 : ∀ (r : Int32 → Int32 → Int32 → Int32 → Int32 → Int32 → Int32 → Mem → Option (Int32 × Mem)) (hr : ∀ (v1 : Int32) (v2 : Int32) (v3 : Int32) (v4 : Int32) (v5 : Int32) (v6 : Int32) (v7 : Int32) (M : Mem), r v1 v2 v3 v4 v5 v6 v7 M = some out → WM p l e (RM 3) s m args below meth c 0 0 (MQ below (QI D cA A Pl out) args s 0 0 (FA A Pl)) D cA A Pl (FA A Pl) 9 M 121 [(0, .ref (A 100)), (1, .int v1), (2, .int v2), (3, .int v3), (4, .int v4), (5, .int v5), (6, .int v6), (7, .int v7)] []), ∀ (v1 : Int32) (v2 : Int32) (v3 : Int32) (v4 : Int32) (v5 : Int32) (v6 : Int32) (v7 : Int32) (s0 : Int32) (M : Mem), f_X9_copy_b145 r v1 v2 v3 v4 v5 v6 v7 s0 M = some out → WM p l e (RM 3) s m args below meth c 0 0 (MQ below (QI D cA A Pl out) args s 0 0 (FA A Pl)) D cA A Pl (FA A Pl) 9 M 145 [(0, .ref (A 100)), (1, .int v1), (2, .int v2), (3, .int v3), (4, .int v4), (5, .int v5), (6, .int v6), (7, .int v7)] [.int s0] := by
    intro r hr v1 v2 v3 v4 v5 v6 v7 s0 M hf
    unfold f_X9_copy_b145 at hf
    refine wm_istore (lv1 := [(8, .int s0), (0, .ref (A 100)), (1, .int v1), (2, .int v2), (3, .int v3), (4, .int v4), (5, .int v5), (6, .int v6), (7, .int v7)]) C dX9_copy_g6.2.2.2.2.2.2.2.1 (by decide) rfl ?_
    refine wm_aload_n 1 C dX9_copy_g6.2.2.2.2.2.2.2.2.1 rfl ?_
    refine wm_get (ci := 8) (k := 48) (v := .ref (A 117)) C (hPl 100 (by decide) (by decide)) rfl rfl (by decide) wt_X9_66 iwX9 rfl dX9_copy_g6.2.2.2.2.2.2.2.2.2.1 ?_
    refine wm_bipush (v := 40) C dX9_copy_g6.2.2.2.2.2.2.2.2.2.2.1 (by decide) ?_
    refine wm_iload_n 4 C dX9_copy_g6.2.2.2.2.2.2.2.2.2.2.2 rfl ?_
    refine wm_imul C dX9_copy_g7.1 ?_
    refine wm_iload 5 C dX9_copy_g7.2.1 rfl ?_
    refine wm_iadd C dX9_copy_g7.2.2.1 ?_
    refine wm_iload 0 C dX9_copy_g7.2.2.2.1 rfl ?_
    refine wm_iadd C dX9_copy_g7.2.2.2.2.1 ?_
    refine wm_aload_n 1 C dX9_copy_g7.2.2.2.2.2.1 rfl ?_
    refine wm_get (ci := 8) (k := 48) (v := .ref (A 117)) C (hPl 100 (by decide) (by decide)) rfl rfl (by decide) wt_X9_66 iwX9 rfl dX9_copy_g7.2.2.2.2.2.2.1 ?_
    refine wm_bipush (v := 40) C dX9_copy_g7.2.2.2.2.2.2.2.1 (by decide) ?_
    refine wm_iload_n 2 C dX9_copy_g7.2.2.2.2.2.2.2.2.1 rfl ?_
    refine wm_imul C dX9_copy_g7.2.2.2.2.2.2.2.2.2.1 ?_
    refine wm_iload_n 3 C dX9_copy_g7.2.2.2.2.2.2.2.2.2.2.1 rfl ?_
    refine wm_iadd C dX9_copy_g7.2.2.2.2.2.2.2.2.2.2.2 ?_
    refine wm_iload 0 C dX9_copy_g8.1 rfl ?_
    refine wm_iadd C dX9_copy_g8.2.1 ?_
    obtain ⟨h21, hf⟩ := ckd hf
    refine wm_iald (n := 160) (j := ((((40 * v1) + v2) + s0)).toNatClampNeg) (v := (M 117 ((((40 * v1) + v2) + s0)).toNatClampNeg)) C (hPl 117 (by decide) (by decide)) rfl rfl rfl h21 rfl rfl dX9_copy_g8.2.2.1 ?_
    obtain ⟨h22, hf⟩ := ckd hf
    refine wm_iast (n := 160) (j := ((((40 * v3) + v4) + s0)).toNatClampNeg) (x := (M 117 ((((40 * v1) + v2) + s0)).toNatClampNeg)) C (hPl 117 (by decide) (by decide)) rfl rfl rfl h22 rfl dX9_copy_g8.2.2.2.1 ?_
    refine wm_iinc (lv1 := [(7, .int (v7 + 1)), (8, .int s0), (0, .ref (A 100)), (1, .int v1), (2, .int v2), (3, .int v3), (4, .int v4), (5, .int v5), (6, .int v6)]) (v := (v7 + 1)) 8 C dX9_copy_g8.2.2.2.2.1 rfl (by first | rfl | decide) (by decide) rfl ?_
    refine wm_goto (tgt := 121) C dX9_copy_g8.2.2.2.2.2.1 (by decide) ?_
    refine wm_pick [2, 3, 4, 5, 6, 7, 8, 0] rfl ?_
    exact hr _ _ _ _ _ _ _ _ hf
  have hl121 : ∀ (n : Nat), ∀ (v1 : Int32) (v2 : Int32) (v3 : Int32) (v4 : Int32) (v5 : Int32) (v6 : Int32) (v7 : Int32) (M : Mem), f_X9_copy_l121 n v1 v2 v3 v4 v5 v6 v7 M = some out → WM p l e (RM 3) s m args below meth c 0 0 (MQ below (QI D cA A Pl out) args s 0 0 (FA A Pl)) D cA A Pl (FA A Pl) 9 M 121 [(0, .ref (A 100)), (1, .int v1), (2, .int v2), (3, .int v3), (4, .int v4), (5, .int v5), (6, .int v6), (7, .int v7)] [] := by
    intro n
    induction n with
    | zero => intro v1 v2 v3 v4 v5 v6 v7 M hf; rw [f_X9_copy_l121] at hf; cases hf
    | succ n hr =>
      intro v1 v2 v3 v4 v5 v6 v7 M hf
      rw [f_X9_copy_l121] at hf
      refine wm_iload 7 C dX9_copy_g5.2.2.2.2.2.2.2.1 rfl ?_
      refine wm_iload 5 C dX9_copy_g5.2.2.2.2.2.2.2.2.1 rfl ?_
      refine wm_icmp_ge (tgt := 182) C dX9_copy_g5.2.2.2.2.2.2.2.2.2.1 (by decide) (fun c19 => ?_) (fun c19 => ?_)
      · have hf := (if_pos c19).symm.trans hf
        refine wm_iload 5 C dX9_copy_g8.2.2.2.2.2.2.1 rfl ?_
        exact wm_iret C hrt hf dX9_copy_g8.2.2.2.2.2.2.2
      · have hf := (if_neg c19).symm.trans hf
        refine wm_iload 6 C dX9_copy_g5.2.2.2.2.2.2.2.2.2.2.1 rfl ?_
        refine wm_if_eq (tgt := 143) C dX9_copy_g5.2.2.2.2.2.2.2.2.2.2.2 (by decide) (fun c20 => ?_) (fun c20 => ?_)
        · have hf := (if_pos c20).symm.trans hf
          refine wm_iload 7 C dX9_copy_g6.2.2.2.2.2.2.1 rfl ?_
          exact (hb145 _ hr) _ _ _ _ _ _ _ _ _ hf
        · have hf := (if_neg c20).symm.trans hf
          refine wm_iload 5 C dX9_copy_g6.1 rfl ?_
          refine wm_iconst (v := 1) C dX9_copy_g6.2.1 (by decide) ?_
          refine wm_isub C dX9_copy_g6.2.2.1 ?_
          refine wm_iload 7 C dX9_copy_g6.2.2.2.1 rfl ?_
          refine wm_isub C dX9_copy_g6.2.2.2.2.1 ?_
          refine wm_goto (tgt := 145) C dX9_copy_g6.2.2.2.2.2.1 (by decide) ?_
          exact (hb145 _ hr) _ _ _ _ _ _ _ _ _ hf
  have hb116 : ∀ (v1 : Int32) (v2 : Int32) (v3 : Int32) (v4 : Int32) (v5 : Int32) (s0 : Int32) (M : Mem), f_X9_copy_b116 v1 v2 v3 v4 v5 s0 M = some out → WM p l e (RM 3) s m args below meth c 0 0 (MQ below (QI D cA A Pl out) args s 0 0 (FA A Pl)) D cA A Pl (FA A Pl) 9 M 116 [(0, .ref (A 100)), (1, .int v1), (2, .int v2), (3, .int v3), (4, .int v4), (5, .int v5)] [.int s0] := by
    intro v1 v2 v3 v4 v5 s0 M hf
    unfold f_X9_copy_b116 at hf
    refine wm_istore (lv1 := [(6, .int s0), (0, .ref (A 100)), (1, .int v1), (2, .int v2), (3, .int v3), (4, .int v4), (5, .int v5)]) C dX9_copy_g5.2.2.2.2.1 (by decide) rfl ?_
    refine wm_iconst (v := 0) C dX9_copy_g5.2.2.2.2.2.1 (by decide) ?_
    refine wm_istore (lv1 := [(7, .int 0), (6, .int s0), (0, .ref (A 100)), (1, .int v1), (2, .int v2), (3, .int v3), (4, .int v4), (5, .int v5)]) C dX9_copy_g5.2.2.2.2.2.2.1 (by decide) rfl ?_
    refine wm_pick [2, 3, 4, 5, 6, 7, 1, 0] rfl ?_
    exact (hl121 FU) _ _ _ _ _ _ _ _ hf
  have hb115 : ∀ (v1 : Int32) (v2 : Int32) (v3 : Int32) (v4 : Int32) (v5 : Int32) (M : Mem), f_X9_copy_b115 v1 v2 v3 v4 v5 M = some out → WM p l e (RM 3) s m args below meth c 0 0 (MQ below (QI D cA A Pl out) args s 0 0 (FA A Pl)) D cA A Pl (FA A Pl) 9 M 115 [(0, .ref (A 100)), (1, .int v1), (2, .int v2), (3, .int v3), (4, .int v4), (5, .int v5)] [] := by
    intro v1 v2 v3 v4 v5 M hf
    unfold f_X9_copy_b115 at hf
    refine wm_iconst (v := 0) C dX9_copy_g5.2.2.2.1 (by decide) ?_
    exact hb116 _ _ _ _ _ _ _ hf
  have hf := ho
  unfold f_X9_copy at hf
  refine wm_iload_n 1 C dX9_copy_g0.1 rfl ?_
  obtain ⟨o1, ho2, hf⟩ := bnd hf
  refine wm_callSi (As := [.int v1]) C (c_X9_isSheet hPl _ _ _ ho2) mi_X9_isSheet wt_X9_366 rfl rfl (by decide) (by decide) (Nat.le_of_ble_eq_true rfl) dX9_copy_g0.2.1 ?_
  refine wm_if_eq (tgt := 14) C dX9_copy_g0.2.2.1 (by decide) (fun c3 => ?_) (fun c3 => ?_)
  · have hf := (if_pos c3).symm.trans hf
    refine wm_bipush (v := (-2)) C dX9_copy_g0.2.2.2.2.2.2.1 (by decide) ?_
    exact wm_iret C hrt hf dX9_copy_g0.2.2.2.2.2.2.2.1
  · have hf := (if_neg c3).symm.trans hf
    refine wm_iload_n 3 C dX9_copy_g0.2.2.2.1 rfl ?_
    obtain ⟨o4, ho5, hf⟩ := bnd hf
    refine wm_callSi (As := [.int v3]) C (c_X9_isSheet hPl _ _ _ ho5) mi_X9_isSheet wt_X9_366 rfl rfl (by decide) (by decide) (Nat.le_of_ble_eq_true rfl) dX9_copy_g0.2.2.2.2.1 ?_
    refine wm_if_ne (tgt := 17) C dX9_copy_g0.2.2.2.2.2.1 (by decide) (fun c6 => ?_) (fun c6 => ?_)
    · have hf := (if_neg c6).symm.trans hf
      refine wm_aload_n 0 C dX9_copy_g0.2.2.2.2.2.2.2.2.1 rfl ?_
      refine wm_get (ci := 8) (k := 45) (v := .ref (A 114)) C (hPl 100 (by decide) (by decide)) rfl rfl (by decide) wt_X9_56 iwX9 rfl dX9_copy_g0.2.2.2.2.2.2.2.2.2.1 ?_
      refine wm_iload_n 1 C dX9_copy_g0.2.2.2.2.2.2.2.2.2.2.1 rfl ?_
      obtain ⟨h7, hf⟩ := ckd hf
      refine wm_zald (n := 4) (j := (v1).toNatClampNeg) (v := (o4.2 114 (v1).toNatClampNeg)) C (hPl 114 (by decide) (by decide)) rfl rfl rfl h7 rfl rfl dX9_copy_g0.2.2.2.2.2.2.2.2.2.2.2 ?_
      refine wm_if_eq (tgt := 35) C dX9_copy_g1.1 (by decide) (fun c8 => ?_) (fun c8 => ?_)
      · have hf := (if_pos c8).symm.trans hf
        refine wm_bipush (v := (-11)) C dX9_copy_g1.2.2.2.2.2.2.1 (by decide) ?_
        exact wm_iret C hrt hf dX9_copy_g1.2.2.2.2.2.2.2.1
      · have hf := (if_neg c8).symm.trans hf
        refine wm_aload_n 0 C dX9_copy_g1.2.1 rfl ?_
        refine wm_get (ci := 8) (k := 45) (v := .ref (A 114)) C (hPl 100 (by decide) (by decide)) rfl rfl (by decide) wt_X9_56 iwX9 rfl dX9_copy_g1.2.2.1 ?_
        refine wm_iload_n 3 C dX9_copy_g1.2.2.2.1 rfl ?_
        obtain ⟨h9, hf⟩ := ckd hf
        refine wm_zald (n := 4) (j := (v3).toNatClampNeg) (v := (o4.2 114 (v3).toNatClampNeg)) C (hPl 114 (by decide) (by decide)) rfl rfl rfl h9 rfl rfl dX9_copy_g1.2.2.2.2.1 ?_
        refine wm_if_ne (tgt := 38) C dX9_copy_g1.2.2.2.2.2.1 (by decide) (fun c10 => ?_) (fun c10 => ?_)
        · have hf := (if_neg c10).symm.trans hf
          refine wm_aload_n 0 C dX9_copy_g1.2.2.2.2.2.2.2.2.1 rfl ?_
          refine wm_get (ci := 8) (k := 46) (v := .ref (A 115)) C (hPl 100 (by decide) (by decide)) rfl rfl (by decide) wt_X9_60 iwX9 rfl dX9_copy_g1.2.2.2.2.2.2.2.2.2.1 ?_
          refine wm_iload_n 1 C dX9_copy_g1.2.2.2.2.2.2.2.2.2.2.1 rfl ?_
          refine wm_iald (n := 4) (j := (v1).toNatClampNeg) (v := (o4.2 115 (v1).toNatClampNeg)) C (hPl 115 (by decide) (by decide)) rfl rfl rfl h7 rfl rfl dX9_copy_g1.2.2.2.2.2.2.2.2.2.2.2 ?_
          refine wm_aload_n 0 C dX9_copy_g2.1 rfl ?_
          refine wm_get (ci := 8) (k := 46) (v := .ref (A 115)) C (hPl 100 (by decide) (by decide)) rfl rfl (by decide) wt_X9_60 iwX9 rfl dX9_copy_g2.2.1 ?_
          refine wm_iload_n 3 C dX9_copy_g2.2.2.1 rfl ?_
          refine wm_iald (n := 4) (j := (v3).toNatClampNeg) (v := (o4.2 115 (v3).toNatClampNeg)) C (hPl 115 (by decide) (by decide)) rfl rfl rfl h9 rfl rfl dX9_copy_g2.2.2.2.1 ?_
          refine wm_icmp_eq (tgt := 56) C dX9_copy_g2.2.2.2.2.1 (by decide) (fun c11 => ?_) (fun c11 => ?_)
          · have hf := (if_pos c11).symm.trans hf
            refine wm_iload 5 C dX9_copy_g2.2.2.2.2.2.2.2.1 rfl ?_
            refine wm_if_lt (tgt := 97) C dX9_copy_g2.2.2.2.2.2.2.2.2.1 (by decide) (fun c12 => ?_) (fun c12 => ?_)
            · have hf := (if_pos c12).symm.trans hf
              refine wm_bipush (v := (-12)) C dX9_copy_g4.2.2.2.2.2.1 (by decide) ?_
              exact wm_iret C hrt hf dX9_copy_g4.2.2.2.2.2.2.1
            · have hf := (if_neg c12).symm.trans hf
              refine wm_iload_n 2 C dX9_copy_g2.2.2.2.2.2.2.2.2.2.1 rfl ?_
              refine wm_if_lt (tgt := 97) C dX9_copy_g2.2.2.2.2.2.2.2.2.2.2.1 (by decide) (fun c13 => ?_) (fun c13 => ?_)
              · have hf := (if_pos c13).symm.trans hf
                refine wm_bipush (v := (-12)) C dX9_copy_g4.2.2.2.2.2.1 (by decide) ?_
                exact wm_iret C hrt hf dX9_copy_g4.2.2.2.2.2.2.1
              · have hf := (if_neg c13).symm.trans hf
                refine wm_iload 4 C dX9_copy_g2.2.2.2.2.2.2.2.2.2.2.2 rfl ?_
                refine wm_if_lt (tgt := 97) C dX9_copy_g3.1 (by decide) (fun c14 => ?_) (fun c14 => ?_)
                · have hf := (if_pos c14).symm.trans hf
                  refine wm_bipush (v := (-12)) C dX9_copy_g4.2.2.2.2.2.1 (by decide) ?_
                  exact wm_iret C hrt hf dX9_copy_g4.2.2.2.2.2.2.1
                · have hf := (if_neg c14).symm.trans hf
                  refine wm_iload_n 2 C dX9_copy_g3.2.1 rfl ?_
                  refine wm_aload_n 0 C dX9_copy_g3.2.2.1 rfl ?_
                  refine wm_get (ci := 8) (k := 47) (v := .ref (A 116)) C (hPl 100 (by decide) (by decide)) rfl rfl (by decide) wt_X9_63 iwX9 rfl dX9_copy_g3.2.2.2.1 ?_
                  refine wm_iload_n 1 C dX9_copy_g3.2.2.2.2.1 rfl ?_
                  refine wm_iald (n := 4) (j := (v1).toNatClampNeg) (v := (o4.2 116 (v1).toNatClampNeg)) C (hPl 116 (by decide) (by decide)) rfl rfl rfl h7 rfl rfl dX9_copy_g3.2.2.2.2.2.1 ?_
                  refine wm_iload 5 C dX9_copy_g3.2.2.2.2.2.2.1 rfl ?_
                  refine wm_isub C dX9_copy_g3.2.2.2.2.2.2.2.1 ?_
                  refine wm_icmp_gt (tgt := 97) C dX9_copy_g3.2.2.2.2.2.2.2.2.1 (by decide) (fun c15 => ?_) (fun c15 => ?_)
                  · have hf := (if_pos c15).symm.trans hf
                    refine wm_bipush (v := (-12)) C dX9_copy_g4.2.2.2.2.2.1 (by decide) ?_
                    exact wm_iret C hrt hf dX9_copy_g4.2.2.2.2.2.2.1
                  · have hf := (if_neg c15).symm.trans hf
                    refine wm_iload 4 C dX9_copy_g3.2.2.2.2.2.2.2.2.2.1 rfl ?_
                    refine wm_aload_n 0 C dX9_copy_g3.2.2.2.2.2.2.2.2.2.2.1 rfl ?_
                    refine wm_get (ci := 8) (k := 47) (v := .ref (A 116)) C (hPl 100 (by decide) (by decide)) rfl rfl (by decide) wt_X9_63 iwX9 rfl dX9_copy_g3.2.2.2.2.2.2.2.2.2.2.2 ?_
                    refine wm_iload_n 3 C dX9_copy_g4.1 rfl ?_
                    refine wm_iald (n := 4) (j := (v3).toNatClampNeg) (v := (o4.2 116 (v3).toNatClampNeg)) C (hPl 116 (by decide) (by decide)) rfl rfl rfl h9 rfl rfl dX9_copy_g4.2.1 ?_
                    refine wm_iload 5 C dX9_copy_g4.2.2.1 rfl ?_
                    refine wm_isub C dX9_copy_g4.2.2.2.1 ?_
                    refine wm_icmp_le (tgt := 100) C dX9_copy_g4.2.2.2.2.1 (by decide) (fun c16 => ?_) (fun c16 => ?_)
                    · have hf := (if_pos c16).symm.trans hf
                      refine wm_iload_n 1 C dX9_copy_g4.2.2.2.2.2.2.2.1 rfl ?_
                      refine wm_iload_n 3 C dX9_copy_g4.2.2.2.2.2.2.2.2.1 rfl ?_
                      refine wm_icmp_ne (tgt := 115) C dX9_copy_g4.2.2.2.2.2.2.2.2.2.1 (by decide) (fun c17 => ?_) (fun c17 => ?_)
                      · have hf := (if_neg c17).symm.trans hf
                        exact hb115 _ _ _ _ _ _ hf
                      · have hf := (if_pos c17).symm.trans hf
                        refine wm_iload_n 2 C dX9_copy_g4.2.2.2.2.2.2.2.2.2.2.1 rfl ?_
                        refine wm_iload 4 C dX9_copy_g4.2.2.2.2.2.2.2.2.2.2.2 rfl ?_
                        refine wm_icmp_ge (tgt := 115) C dX9_copy_g5.1 (by decide) (fun c18 => ?_) (fun c18 => ?_)
                        · have hf := (if_pos c18).symm.trans hf
                          exact hb115 _ _ _ _ _ _ hf
                        · have hf := (if_neg c18).symm.trans hf
                          refine wm_iconst (v := 1) C dX9_copy_g5.2.1 (by decide) ?_
                          refine wm_goto (tgt := 116) C dX9_copy_g5.2.2.1 (by decide) ?_
                          exact hb116 _ _ _ _ _ _ _ hf
                    · have hf := (if_neg c16).symm.trans hf
                      refine wm_bipush (v := (-12)) C dX9_copy_g4.2.2.2.2.2.1 (by decide) ?_
                      exact wm_iret C hrt hf dX9_copy_g4.2.2.2.2.2.2.1
          · have hf := (if_neg c11).symm.trans hf
            refine wm_bipush (v := (-13)) C dX9_copy_g2.2.2.2.2.2.1 (by decide) ?_
            exact wm_iret C hrt hf dX9_copy_g2.2.2.2.2.2.2.1
        · have hf := (if_pos c10).symm.trans hf
          refine wm_bipush (v := (-11)) C dX9_copy_g1.2.2.2.2.2.2.1 (by decide) ?_
          exact wm_iret C hrt hf dX9_copy_g1.2.2.2.2.2.2.2.1
    · have hf := (if_pos c6).symm.trans hf
      refine wm_bipush (v := (-2)) C dX9_copy_g0.2.2.2.2.2.2.1 (by decide) ?_
      exact wm_iret C hrt hf dX9_copy_g0.2.2.2.2.2.2.2.1
set_option maxHeartbeats 4000000 in
set_option maxRecDepth 100000 in
theorem c_X9_dishes {l : Launch} {D : va_G} {cA : Nat → ClassId} {A : Nat → Nat} {Pl : List Nat} (hPl : ∀ q, 100 ≤ q → q < 118 → q ∈ Pl) (v1 : Int32) (v2 : Int32) (v3 : Int32) (v4 : Int32) (M : Mem) (out : (Int32 × Mem)) (ho : f_X9_dishes v1 v2 v3 v4 M = some out) : CtI l D cA A Pl yX9_dishes cX9_dishes 8 3 .int [.ref (A 100), .int v1, .int v2, .int v3, .int v4] M out := by
  refine ct_I (by decide) (Nat.le_of_ble_eq_true rfl) (fun p e s m args below meth c C hrt => ?_)
  have hb158 : ∀ (r : Int32 → Int32 → Int32 → Int32 → Int32 → Mem → Option (Int32 × Mem)) (hr : ∀ (v1 : Int32) (v3 : Int32) (v4 : Int32) (v5 : Int32) (v6 : Int32) (M : Mem), r v1 v3 v4 v5 v6 M = some out → WM p l e (RM 3) s m args below meth c 0 0 (MQ below (QI D cA A Pl out) args s 0 0 (FA A Pl)) D cA A Pl (FA A Pl) 8 M 75 [(0, .ref (A 100)), (1, .int v1), (3, .int v3), (4, .int v4), (5, .int v5), (6, .int v6)] []), ∀ (v1 : Int32) (v3 : Int32) (v4 : Int32) (v6 : Int32) (s0 : Int32) (s1 : Int32) (M : Mem), f_X9_dishes_b158 r v1 v3 v4 v6 s0 s1 M = some out → WM p l e (RM 3) s m args below meth c 0 0 (MQ below (QI D cA A Pl out) args s 0 0 (FA A Pl)) D cA A Pl (FA A Pl) 8 M 158 [(0, .ref (A 100)), (1, .int v1), (3, .int v3), (4, .int v4), (6, .int v6)] [.int s1, .int s0] := by
    intro r hr v1 v3 v4 v6 s0 s1 M hf
    unfold f_X9_dishes_b158 at hf
    refine wm_iadd C dX9_dishes_g7.2.2.2.2.2.2.2.2.2.1 ?_
    refine wm_istore (lv1 := [(5, .int (s0 + s1)), (0, .ref (A 100)), (1, .int v1), (3, .int v3), (4, .int v4), (6, .int v6)]) C dX9_dishes_g7.2.2.2.2.2.2.2.2.2.2.1 (by decide) rfl ?_
    refine wm_iinc (lv1 := [(6, .int (v6 + 1)), (5, .int (s0 + s1)), (0, .ref (A 100)), (1, .int v1), (3, .int v3), (4, .int v4)]) (v := (v6 + 1)) 5 C dX9_dishes_g7.2.2.2.2.2.2.2.2.2.2.2 rfl (by first | rfl | decide) (by decide) rfl ?_
    refine wm_goto (tgt := 75) C dX9_dishes_g8.1 (by decide) ?_
    refine wm_pick [2, 3, 4, 5, 1, 0] rfl ?_
    exact hr _ _ _ _ _ _ hf
  have hl75 : ∀ (n : Nat), ∀ (v1 : Int32) (v3 : Int32) (v4 : Int32) (v5 : Int32) (v6 : Int32) (M : Mem), f_X9_dishes_l75 n v1 v3 v4 v5 v6 M = some out → WM p l e (RM 3) s m args below meth c 0 0 (MQ below (QI D cA A Pl out) args s 0 0 (FA A Pl)) D cA A Pl (FA A Pl) 8 M 75 [(0, .ref (A 100)), (1, .int v1), (3, .int v3), (4, .int v4), (5, .int v5), (6, .int v6)] [] := by
    intro n
    induction n with
    | zero => intro v1 v3 v4 v5 v6 M hf; rw [f_X9_dishes_l75] at hf; cases hf
    | succ n hr =>
      intro v1 v3 v4 v5 v6 M hf
      rw [f_X9_dishes_l75] at hf
      refine wm_iload 5 C dX9_dishes_g3.2.2.2.2.2.1 rfl ?_
      refine wm_iload 3 C dX9_dishes_g3.2.2.2.2.2.2.1 rfl ?_
      refine wm_icmp_ge (tgt := 167) C dX9_dishes_g3.2.2.2.2.2.2.2.1 (by decide) (fun c15 => ?_) (fun c15 => ?_)
      · have hf := (if_pos c15).symm.trans hf
        refine wm_iload 4 C dX9_dishes_g8.2.1 rfl ?_
        exact wm_iret C hrt hf dX9_dishes_g8.2.2
      · have hf := (if_neg c15).symm.trans hf
        refine wm_iload_n 2 C dX9_dishes_g3.2.2.2.2.2.2.2.2.1 rfl ?_
        refine wm_if_lt (tgt := 103) C dX9_dishes_g3.2.2.2.2.2.2.2.2.2.1 (by decide) (fun c16 => ?_) (fun c16 => ?_)
        · have hf := (if_pos c16).symm.trans hf
          refine wm_bipush (v := (-12)) C dX9_dishes_g4.2.2.2.2.2.2.2.2.2.2.1 (by decide) ?_
          exact wm_iret C hrt hf dX9_dishes_g4.2.2.2.2.2.2.2.2.2.2.2
        · have hf := (if_neg c16).symm.trans hf
          refine wm_iload_n 2 C dX9_dishes_g3.2.2.2.2.2.2.2.2.2.2.1 rfl ?_
          refine wm_aload_n 0 C dX9_dishes_g3.2.2.2.2.2.2.2.2.2.2.2 rfl ?_
          refine wm_get (ci := 8) (k := 47) (v := .ref (A 116)) C (hPl 100 (by decide) (by decide)) rfl rfl (by decide) wt_X9_63 iwX9 rfl dX9_dishes_g4.1 ?_
          refine wm_iload_n 1 C dX9_dishes_g4.2.1 rfl ?_
          obtain ⟨h17, hf⟩ := ckd hf
          refine wm_iald (n := 4) (j := (v1).toNatClampNeg) (v := (M 116 (v1).toNatClampNeg)) C (hPl 116 (by decide) (by decide)) rfl rfl rfl h17 rfl rfl dX9_dishes_g4.2.2.1 ?_
          refine wm_iconst (v := 3) C dX9_dishes_g4.2.2.2.1 (by decide) ?_
          refine wm_iload 5 C dX9_dishes_g4.2.2.2.2.1 rfl ?_
          refine wm_imul C dX9_dishes_g4.2.2.2.2.2.1 ?_
          refine wm_isub C dX9_dishes_g4.2.2.2.2.2.2.1 ?_
          refine wm_iconst (v := 3) C dX9_dishes_g4.2.2.2.2.2.2.2.1 (by decide) ?_
          refine wm_isub C dX9_dishes_g4.2.2.2.2.2.2.2.2.1 ?_
          refine wm_icmp_le (tgt := 106) C dX9_dishes_g4.2.2.2.2.2.2.2.2.2.1 (by decide) (fun c18 => ?_) (fun c18 => ?_)
          · have hf := (if_pos c18).symm.trans hf
            refine wm_bipush (v := 40) C dX9_dishes_g5.1 (by decide) ?_
            refine wm_iload_n 1 C dX9_dishes_g5.2.1 rfl ?_
            refine wm_imul C dX9_dishes_g5.2.2.1 ?_
            refine wm_iload_n 2 C dX9_dishes_g5.2.2.2.1 rfl ?_
            refine wm_iadd C dX9_dishes_g5.2.2.2.2.1 ?_
            refine wm_iconst (v := 3) C dX9_dishes_g5.2.2.2.2.2.1 (by decide) ?_
            refine wm_iload 5 C dX9_dishes_g5.2.2.2.2.2.2.1 rfl ?_
            refine wm_imul C dX9_dishes_g5.2.2.2.2.2.2.2.1 ?_
            refine wm_iadd C dX9_dishes_g5.2.2.2.2.2.2.2.2.1 ?_
            refine wm_istore (lv1 := [(7, .int (((40 * v1) + v3) + (3 * v6))), (0, .ref (A 100)), (1, .int v1), (3, .int v3), (4, .int v4), (5, .int v5), (6, .int v6)]) C dX9_dishes_g5.2.2.2.2.2.2.2.2.2.1 (by decide) rfl ?_
            refine wm_iload 5 C dX9_dishes_g5.2.2.2.2.2.2.2.2.2.2.1 rfl ?_
            refine wm_aload_n 1 C dX9_dishes_g5.2.2.2.2.2.2.2.2.2.2.2 rfl ?_
            refine wm_aload_n 1 C dX9_dishes_g6.1 rfl ?_
            refine wm_get (ci := 8) (k := 48) (v := .ref (A 117)) C (hPl 100 (by decide) (by decide)) rfl rfl (by decide) wt_X9_66 iwX9 rfl dX9_dishes_g6.2.1 ?_
            refine wm_iload 0 C dX9_dishes_g6.2.2.1 rfl ?_
            obtain ⟨h19, hf⟩ := ckd hf
            refine wm_iald (n := 160) (j := ((((40 * v1) + v3) + (3 * v6))).toNatClampNeg) (v := (M 117 ((((40 * v1) + v3) + (3 * v6))).toNatClampNeg)) C (hPl 117 (by decide) (by decide)) rfl rfl rfl h19 rfl rfl dX9_dishes_g6.2.2.2.1 ?_
            refine wm_aload_n 1 C dX9_dishes_g6.2.2.2.2.1 rfl ?_
            refine wm_get (ci := 8) (k := 48) (v := .ref (A 117)) C (hPl 100 (by decide) (by decide)) rfl rfl (by decide) wt_X9_66 iwX9 rfl dX9_dishes_g6.2.2.2.2.2.1 ?_
            refine wm_iload 0 C dX9_dishes_g6.2.2.2.2.2.2.1 rfl ?_
            refine wm_iconst (v := 1) C dX9_dishes_g6.2.2.2.2.2.2.2.1 (by decide) ?_
            refine wm_iadd C dX9_dishes_g6.2.2.2.2.2.2.2.2.1 ?_
            obtain ⟨h20, hf⟩ := ckd hf
            refine wm_iald (n := 160) (j := (((((40 * v1) + v3) + (3 * v6)) + 1)).toNatClampNeg) (v := (M 117 (((((40 * v1) + v3) + (3 * v6)) + 1)).toNatClampNeg)) C (hPl 117 (by decide) (by decide)) rfl rfl rfl h20 rfl rfl dX9_dishes_g6.2.2.2.2.2.2.2.2.2.1 ?_
            refine wm_aload_n 1 C dX9_dishes_g6.2.2.2.2.2.2.2.2.2.2.1 rfl ?_
            refine wm_get (ci := 8) (k := 48) (v := .ref (A 117)) C (hPl 100 (by decide) (by decide)) rfl rfl (by decide) wt_X9_66 iwX9 rfl dX9_dishes_g6.2.2.2.2.2.2.2.2.2.2.2 ?_
            refine wm_iload 0 C dX9_dishes_g7.1 rfl ?_
            refine wm_iconst (v := 2) C dX9_dishes_g7.2.1 (by decide) ?_
            refine wm_iadd C dX9_dishes_g7.2.2.1 ?_
            obtain ⟨h21, hf⟩ := ckd hf
            refine wm_iald (n := 160) (j := (((((40 * v1) + v3) + (3 * v6)) + 2)).toNatClampNeg) (v := (M 117 (((((40 * v1) + v3) + (3 * v6)) + 2)).toNatClampNeg)) C (hPl 117 (by decide) (by decide)) rfl rfl rfl h21 rfl rfl dX9_dishes_g7.2.2.2.1 ?_
            obtain ⟨o22, ho23, hf⟩ := bnd hf
            refine wm_callVi (As := [.int (M 117 ((((40 * v1) + v3) + (3 * v6))).toNatClampNeg), .int (M 117 (((((40 * v1) + v3) + (3 * v6)) + 1)).toNatClampNeg), .int (M 117 (((((40 * v1) + v3) + (3 * v6)) + 2)).toNatClampNeg)]) (ci := 8) C (c_X9_dish hPl _ _ _ _ _ ho23) mi_X9_dish wt_X9_397 (hPl 100 (by decide) (by decide)) rfl rfl rfl rfl (by decide) (by decide) (Nat.le_of_ble_eq_true rfl) dX9_dishes_g7.2.2.2.2.1 ?_
            refine wm_if_lt (tgt := 157) C dX9_dishes_g7.2.2.2.2.2.1 (by decide) (fun c24 => ?_) (fun c24 => ?_)
            · have hf := (if_pos c24).symm.trans hf
              refine wm_iconst (v := 0) C dX9_dishes_g7.2.2.2.2.2.2.2.2.1 (by decide) ?_
              refine wm_pick [1, 2, 3, 4, 6] rfl ?_
              exact (hb158 _ hr) _ _ _ _ _ _ _ hf
            · have hf := (if_neg c24).symm.trans hf
              refine wm_iconst (v := 1) C dX9_dishes_g7.2.2.2.2.2.2.1 (by decide) ?_
              refine wm_goto (tgt := 158) C dX9_dishes_g7.2.2.2.2.2.2.2.1 (by decide) ?_
              refine wm_pick [1, 2, 3, 4, 6] rfl ?_
              exact (hb158 _ hr) _ _ _ _ _ _ _ hf
          · have hf := (if_neg c18).symm.trans hf
            refine wm_bipush (v := (-12)) C dX9_dishes_g4.2.2.2.2.2.2.2.2.2.2.1 (by decide) ?_
            exact wm_iret C hrt hf dX9_dishes_g4.2.2.2.2.2.2.2.2.2.2.2
  have hb57 : ∀ (v1 : Int32) (v3 : Int32) (v4 : Int32) (M : Mem), f_X9_dishes_b57 v1 v3 v4 M = some out → WM p l e (RM 3) s m args below meth c 0 0 (MQ below (QI D cA A Pl out) args s 0 0 (FA A Pl)) D cA A Pl (FA A Pl) 8 M 57 [(0, .ref (A 100)), (1, .int v1), (3, .int v3), (4, .int v4)] [] := by
    intro v1 v3 v4 M hf
    unfold f_X9_dishes_b57 at hf
    refine wm_aload_n 0 C dX9_dishes_g2.2.2.2.2.2.2.1 rfl ?_
    refine wm_get (ci := 8) (k := 45) (v := .ref (A 114)) C (hPl 100 (by decide) (by decide)) rfl rfl (by decide) wt_X9_56 iwX9 rfl dX9_dishes_g2.2.2.2.2.2.2.2.1 ?_
    refine wm_iload_n 1 C dX9_dishes_g2.2.2.2.2.2.2.2.2.1 rfl ?_
    obtain ⟨h13, hf⟩ := ckd hf
    refine wm_zald (n := 4) (j := (v1).toNatClampNeg) (v := (M 114 (v1).toNatClampNeg)) C (hPl 114 (by decide) (by decide)) rfl rfl rfl h13 rfl rfl dX9_dishes_g2.2.2.2.2.2.2.2.2.2.1 ?_
    refine wm_if_ne (tgt := 69) C dX9_dishes_g2.2.2.2.2.2.2.2.2.2.2.1 (by decide) (fun c14 => ?_) (fun c14 => ?_)
    · have hf := (if_neg c14).symm.trans hf
      refine wm_iconst (v := 0) C dX9_dishes_g3.2.1 (by decide) ?_
      refine wm_istore (lv1 := [(5, .int 0), (0, .ref (A 100)), (1, .int v1), (3, .int v3), (4, .int v4)]) C dX9_dishes_g3.2.2.1 (by decide) rfl ?_
      refine wm_iconst (v := 0) C dX9_dishes_g3.2.2.2.1 (by decide) ?_
      refine wm_istore (lv1 := [(6, .int 0), (5, .int 0), (0, .ref (A 100)), (1, .int v1), (3, .int v3), (4, .int v4)]) C dX9_dishes_g3.2.2.2.2.1 (by decide) rfl ?_
      refine wm_pick [2, 3, 4, 5, 1, 0] rfl ?_
      exact (hl75 FU) _ _ _ _ _ _ hf
    · have hf := (if_pos c14).symm.trans hf
      refine wm_bipush (v := (-11)) C dX9_dishes_g2.2.2.2.2.2.2.2.2.2.2.2 (by decide) ?_
      exact wm_iret C hrt hf dX9_dishes_g3.1
  have hf := ho
  unfold f_X9_dishes at hf
  refine wm_iload_n 1 C dX9_dishes_g0.1 rfl ?_
  obtain ⟨o1, ho2, hf⟩ := bnd hf
  refine wm_callSi (As := [.int v1]) C (c_X9_isSheet hPl _ _ _ ho2) mi_X9_isSheet wt_X9_366 rfl rfl (by decide) (by decide) (Nat.le_of_ble_eq_true rfl) dX9_dishes_g0.2.1 ?_
  refine wm_if_eq (tgt := 32) C dX9_dishes_g0.2.2.1 (by decide) (fun c3 => ?_) (fun c3 => ?_)
  · have hf := (if_pos c3).symm.trans hf
    refine wm_bipush (v := (-2)) C dX9_dishes_g1.2.2.2.1 (by decide) ?_
    exact wm_iret C hrt hf dX9_dishes_g1.2.2.2.2.1
  · have hf := (if_neg c3).symm.trans hf
    refine wm_iload_n 2 C dX9_dishes_g0.2.2.2.1 rfl ?_
    refine wm_i2l C dX9_dishes_g0.2.2.2.2.1 ?_
    refine wm_lconst (v := 0) C dX9_dishes_g0.2.2.2.2.2.1 (by decide) ?_
    refine wm_ldc2 (v := 2) C wt_X9_395 dX9_dishes_g0.2.2.2.2.2.2.1 ?_
    obtain ⟨o4, ho5, hf⟩ := bnd hf
    refine wm_callSi (As := [.long ((v2 : Int32).toInt64), .long 0, .long 2]) C (c_X9_in hPl _ _ _ _ _ ho5) mi_X9_in wt_X9_79 rfl rfl (by decide) (by decide) (Nat.le_of_ble_eq_true rfl) dX9_dishes_g0.2.2.2.2.2.2.2.1 ?_
    refine wm_if_eq (tgt := 32) C dX9_dishes_g0.2.2.2.2.2.2.2.2.1 (by decide) (fun c6 => ?_) (fun c6 => ?_)
    · have hf := (if_pos c6).symm.trans hf
      refine wm_bipush (v := (-2)) C dX9_dishes_g1.2.2.2.1 (by decide) ?_
      exact wm_iret C hrt hf dX9_dishes_g1.2.2.2.2.1
    · have hf := (if_neg c6).symm.trans hf
      refine wm_iload 4 C dX9_dishes_g0.2.2.2.2.2.2.2.2.2.1 rfl ?_
      refine wm_i2l C dX9_dishes_g0.2.2.2.2.2.2.2.2.2.2.1 ?_
      refine wm_lconst (v := 0) C dX9_dishes_g0.2.2.2.2.2.2.2.2.2.2.2 (by decide) ?_
      refine wm_ldc2 (v := 6) C wt_X9_277 dX9_dishes_g1.1 ?_
      obtain ⟨o7, ho8, hf⟩ := bnd hf
      refine wm_callSi (As := [.long ((v4 : Int32).toInt64), .long 0, .long 6]) C (c_X9_in hPl _ _ _ _ _ ho8) mi_X9_in wt_X9_79 rfl rfl (by decide) (by decide) (Nat.le_of_ble_eq_true rfl) dX9_dishes_g1.2.1 ?_
      refine wm_if_ne (tgt := 35) C dX9_dishes_g1.2.2.1 (by decide) (fun c9 => ?_) (fun c9 => ?_)
      · have hf := (if_neg c9).symm.trans hf
        refine wm_aload_n 0 C dX9_dishes_g1.2.2.2.2.2.1 rfl ?_
        refine wm_get (ci := 8) (k := 45) (v := .ref (A 114)) C (hPl 100 (by decide) (by decide)) rfl rfl (by decide) wt_X9_56 iwX9 rfl dX9_dishes_g1.2.2.2.2.2.2.1 ?_
        refine wm_iload_n 1 C dX9_dishes_g1.2.2.2.2.2.2.2.1 rfl ?_
        obtain ⟨h10, hf⟩ := ckd hf
        refine wm_zald (n := 4) (j := (v1).toNatClampNeg) (v := (o7.2 114 (v1).toNatClampNeg)) C (hPl 114 (by decide) (by decide)) rfl rfl rfl h10 rfl rfl dX9_dishes_g1.2.2.2.2.2.2.2.2.1 ?_
        refine wm_if_eq (tgt := 57) C dX9_dishes_g1.2.2.2.2.2.2.2.2.2.1 (by decide) (fun c11 => ?_) (fun c11 => ?_)
        · have hf := (if_pos c11).symm.trans hf
          refine wm_pick [0, 1, 3, 4] rfl ?_
          exact hb57 _ _ _ _ hf
        · have hf := (if_neg c11).symm.trans hf
          refine wm_aload_n 0 C dX9_dishes_g1.2.2.2.2.2.2.2.2.2.2.1 rfl ?_
          refine wm_get (ci := 8) (k := 46) (v := .ref (A 115)) C (hPl 100 (by decide) (by decide)) rfl rfl (by decide) wt_X9_60 iwX9 rfl dX9_dishes_g1.2.2.2.2.2.2.2.2.2.2.2 ?_
          refine wm_iload_n 1 C dX9_dishes_g2.1 rfl ?_
          refine wm_iald (n := 4) (j := (v1).toNatClampNeg) (v := (o7.2 115 (v1).toNatClampNeg)) C (hPl 115 (by decide) (by decide)) rfl rfl rfl h10 rfl rfl dX9_dishes_g2.2.1 ?_
          refine wm_iload_n 2 C dX9_dishes_g2.2.2.1 rfl ?_
          refine wm_icmp_eq (tgt := 57) C dX9_dishes_g2.2.2.2.1 (by decide) (fun c12 => ?_) (fun c12 => ?_)
          · have hf := (if_pos c12).symm.trans hf
            refine wm_pick [0, 1, 3, 4] rfl ?_
            exact hb57 _ _ _ _ hf
          · have hf := (if_neg c12).symm.trans hf
            refine wm_bipush (v := (-13)) C dX9_dishes_g2.2.2.2.2.1 (by decide) ?_
            exact wm_iret C hrt hf dX9_dishes_g2.2.2.2.2.2.1
      · have hf := (if_pos c9).symm.trans hf
        refine wm_bipush (v := (-2)) C dX9_dishes_g1.2.2.2.1 (by decide) ?_
        exact wm_iret C hrt hf dX9_dishes_g1.2.2.2.2.1
set_option maxHeartbeats 4000000 in
set_option maxRecDepth 100000 in
theorem c_X9_over {l : Launch} {D : va_G} {cA : Nat → ClassId} {A : Nat → Nat} {Pl : List Nat} (hPl : ∀ q, 100 ≤ q → q < 118 → q ∈ Pl) (v0 : Int32) (M : Mem) (out : (Int32 × Mem)) (ho : f_X9_over v0 M = some out) : CtI l D cA A Pl yX9_over cX9_over 1 1 .int [.int v0] M out := by
  refine ct_I (by decide) (Nat.le_of_ble_eq_true rfl) (fun p e s m args below meth c C hrt => ?_)
  have hf := ho
  unfold f_X9_over at hf
  refine wm_iload_n 0 C dX9_over_g0.1 rfl ?_
  refine wm_if_ne (tgt := 8) C dX9_over_g0.2.1 (by decide) (fun c1 => ?_) (fun c1 => ?_)
  · have hf := (if_neg c1).symm.trans hf
    refine wm_iload_n 0 C dX9_over_g0.2.2.2.2.1 rfl ?_
    refine wm_iconst (v := 3) C dX9_over_g0.2.2.2.2.2.1 (by decide) ?_
    refine wm_icmp_ne (tgt := 17) C dX9_over_g0.2.2.2.2.2.2.1 (by decide) (fun c2 => ?_) (fun c2 => ?_)
    · have hf := (if_neg c2).symm.trans hf
      refine wm_iload_n 0 C dX9_over_g0.2.2.2.2.2.2.2.2.2.1 rfl ?_
      refine wm_iconst (v := 4) C dX9_over_g0.2.2.2.2.2.2.2.2.2.2.1 (by decide) ?_
      refine wm_icmp_ne (tgt := 26) C dX9_over_g0.2.2.2.2.2.2.2.2.2.2.2 (by decide) (fun c3 => ?_) (fun c3 => ?_)
      · have hf := (if_neg c3).symm.trans hf
        refine wm_iconst (v := 0) C dX9_over_g1.2.2.1 (by decide) ?_
        exact wm_iret C hrt hf dX9_over_g1.2.2.2
      · have hf := (if_pos c3).symm.trans hf
        refine wm_iconst (v := 2) C dX9_over_g1.1 (by decide) ?_
        refine wm_goto (tgt := 27) C dX9_over_g1.2.1 (by decide) ?_
        exact wm_iret C hrt hf dX9_over_g1.2.2.2
    · have hf := (if_pos c2).symm.trans hf
      refine wm_iconst (v := 1) C dX9_over_g0.2.2.2.2.2.2.2.1 (by decide) ?_
      refine wm_goto (tgt := 27) C dX9_over_g0.2.2.2.2.2.2.2.2.1 (by decide) ?_
      exact wm_iret C hrt hf dX9_over_g1.2.2.2
  · have hf := (if_pos c1).symm.trans hf
    refine wm_iconst (v := (-1)) C dX9_over_g0.2.2.1 (by decide) ?_
    refine wm_goto (tgt := 27) C dX9_over_g0.2.2.2.1 (by decide) ?_
    exact wm_iret C hrt hf dX9_over_g1.2.2.2
set_option maxHeartbeats 4000000 in
set_option maxRecDepth 100000 in
theorem c_X9_taken {l : Launch} {D : va_G} {cA : Nat → ClassId} {A : Nat → Nat} {Pl : List Nat} (hPl : ∀ q, 100 ≤ q → q < 118 → q ∈ Pl) (v1 : Int32) (v2 : Int32) (M : Mem) (out : (Int32 × Mem)) (ho : f_X9_taken v1 v2 M = some out) : CtI l D cA A Pl yX9_taken cX9_taken 4 3 .int [.ref (A 100), .int v1, .int v2] M out := by
  refine ct_I (by decide) (Nat.le_of_ble_eq_true rfl) (fun p e s m args below meth c C hrt => ?_)
  have hl33 : ∀ (k51 : Int32 → Int32 → Int32 → Mem → Option (Int32 × Mem)) (hk51 : ∀ (v1 : Int32) (v2 : Int32) (v3 : Int32) (M : Mem), k51 v1 v2 v3 M = some out → WM p l e (RM 3) s m args below meth c 0 0 (MQ below (QI D cA A Pl out) args s 0 0 (FA A Pl)) D cA A Pl (FA A Pl) 4 M 51 [(0, .ref (A 100)), (1, .int v1), (2, .int v2), (3, .int v3)] []) (n : Nat), ∀ (v1 : Int32) (v2 : Int32) (v3 : Int32) (M : Mem), f_X9_taken_l33 k51 n v1 v2 v3 M = some out → WM p l e (RM 3) s m args below meth c 0 0 (MQ below (QI D cA A Pl out) args s 0 0 (FA A Pl)) D cA A Pl (FA A Pl) 4 M 33 [(0, .ref (A 100)), (1, .int v1), (2, .int v2), (3, .int v3)] [] := by
    intro k51 hk51 n
    induction n with
    | zero => intro v1 v2 v3 M hf; rw [f_X9_taken_l33] at hf; cases hf
    | succ n hr =>
      intro v1 v2 v3 M hf
      rw [f_X9_taken_l33] at hf
      refine wm_iload_n 3 C dX9_taken_g1.2.2.2.2.2.2.2.1 rfl ?_
      refine wm_iconst (v := (-1)) C dX9_taken_g1.2.2.2.2.2.2.2.2.1 (by decide) ?_
      refine wm_icmp_eq (tgt := 51) C dX9_taken_g1.2.2.2.2.2.2.2.2.2.1 (by decide) (fun c8 => ?_) (fun c8 => ?_)
      · have hf := (if_pos c8).symm.trans hf
        exact hk51 _ _ _ _ hf
      · have hf := (if_neg c8).symm.trans hf
        refine wm_iload_n 3 C dX9_taken_g1.2.2.2.2.2.2.2.2.2.2.1 rfl ?_
        refine wm_iload_n 2 C dX9_taken_g1.2.2.2.2.2.2.2.2.2.2.2 rfl ?_
        refine wm_icmp_eq (tgt := 51) C dX9_taken_g2.1 (by decide) (fun c9 => ?_) (fun c9 => ?_)
        · have hf := (if_pos c9).symm.trans hf
          exact hk51 _ _ _ _ hf
        · have hf := (if_neg c9).symm.trans hf
          refine wm_iload_n 3 C dX9_taken_g2.2.1 rfl ?_
          obtain ⟨o10, ho11, hf⟩ := bnd hf
          refine wm_callSi (As := [.int v3]) C (c_X9_over hPl _ _ _ ho11) mi_X9_over wt_X9_400 rfl rfl (by decide) (by decide) (Nat.le_of_ble_eq_true rfl) dX9_taken_g2.2.2.1 ?_
          refine wm_istore_n (lv1 := [(3, .int o10.1), (0, .ref (A 100)), (1, .int v1), (2, .int v2)]) C dX9_taken_g2.2.2.2.1 (by decide) rfl ?_
          refine wm_goto (tgt := 33) C dX9_taken_g2.2.2.2.2.1 (by decide) ?_
          refine wm_pick [1, 2, 3, 0] rfl ?_
          exact hr _ _ _ _ hf
  have hb51 : ∀ (v1 : Int32) (v2 : Int32) (v3 : Int32) (M : Mem), f_X9_taken_b51 v1 v2 v3 M = some out → WM p l e (RM 3) s m args below meth c 0 0 (MQ below (QI D cA A Pl out) args s 0 0 (FA A Pl)) D cA A Pl (FA A Pl) 4 M 51 [(0, .ref (A 100)), (1, .int v1), (2, .int v2), (3, .int v3)] [] := by
    intro v1 v2 v3 M hf
    unfold f_X9_taken_b51 at hf
    refine wm_iload_n 3 C dX9_taken_g2.2.2.2.2.2.1 rfl ?_
    refine wm_iload_n 2 C dX9_taken_g2.2.2.2.2.2.2.1 rfl ?_
    refine wm_icmp_ne (tgt := 67) C dX9_taken_g2.2.2.2.2.2.2.2.1 (by decide) (fun c12 => ?_) (fun c12 => ?_)
    · have hf := (if_neg c12).symm.trans hf
      refine wm_bipush (v := (-13)) C dX9_taken_g3.2.2.2.1 (by decide) ?_
      exact wm_iret C hrt hf dX9_taken_g3.2.2.2.2
    · have hf := (if_pos c12).symm.trans hf
      refine wm_aload_n 0 C dX9_taken_g2.2.2.2.2.2.2.2.2.1 rfl ?_
      refine wm_get (ci := 8) (k := 11) (v := .ref (A 107)) C (hPl 100 (by decide) (by decide)) rfl rfl (by decide) wt_X9_32 iwX9 rfl dX9_taken_g2.2.2.2.2.2.2.2.2.2.1 ?_
      refine wm_iconst (v := 3) C dX9_taken_g2.2.2.2.2.2.2.2.2.2.2.1 (by decide) ?_
      refine wm_iload_n 1 C dX9_taken_g2.2.2.2.2.2.2.2.2.2.2.2 rfl ?_
      refine wm_imul C dX9_taken_g3.1 ?_
      obtain ⟨h13, hf⟩ := ckd hf
      refine wm_iald (n := 18) (j := ((3 * v1)).toNatClampNeg) (v := (M 107 ((3 * v1)).toNatClampNeg)) C (hPl 107 (by decide) (by decide)) rfl rfl rfl h13 rfl rfl dX9_taken_g3.2.1 ?_
      refine wm_goto (tgt := 69) C dX9_taken_g3.2.2.1 (by decide) ?_
      exact wm_iret C hrt hf dX9_taken_g3.2.2.2.2
  have hf := ho
  unfold f_X9_taken at hf
  refine wm_iload_n 2 C dX9_taken_g0.1 rfl ?_
  refine wm_i2l C dX9_taken_g0.2.1 ?_
  refine wm_lconst (v := 0) C dX9_taken_g0.2.2.1 (by decide) ?_
  refine wm_ldc2 (v := 5) C wt_X9_83 dX9_taken_g0.2.2.2.1 ?_
  obtain ⟨o1, ho2, hf⟩ := bnd hf
  refine wm_callSi (As := [.long ((v2 : Int32).toInt64), .long 0, .long 5]) C (c_X9_in hPl _ _ _ _ _ ho2) mi_X9_in wt_X9_79 rfl rfl (by decide) (by decide) (Nat.le_of_ble_eq_true rfl) dX9_taken_g0.2.2.2.2.1 ?_
  refine wm_if_ne (tgt := 15) C dX9_taken_g0.2.2.2.2.2.1 (by decide) (fun c3 => ?_) (fun c3 => ?_)
  · have hf := (if_neg c3).symm.trans hf
    refine wm_aload_n 0 C dX9_taken_g0.2.2.2.2.2.2.2.2.1 rfl ?_
    refine wm_iload_n 1 C dX9_taken_g0.2.2.2.2.2.2.2.2.2.1 rfl ?_
    obtain ⟨o4, ho5, hf⟩ := bnd hf
    refine wm_callVi (As := [.int v1]) (ci := 8) C (c_X9_isDish hPl _ _ _ ho5) mi_X9_isDish wt_X9_94 (hPl 100 (by decide) (by decide)) rfl rfl rfl rfl (by decide) (by decide) (Nat.le_of_ble_eq_true rfl) dX9_taken_g0.2.2.2.2.2.2.2.2.2.2.1 ?_
    refine wm_if_ne (tgt := 26) C dX9_taken_g0.2.2.2.2.2.2.2.2.2.2.2 (by decide) (fun c6 => ?_) (fun c6 => ?_)
    · have hf := (if_neg c6).symm.trans hf
      refine wm_aload_n 0 C dX9_taken_g1.2.2.1 rfl ?_
      refine wm_get (ci := 8) (k := 10) (v := .ref (A 106)) C (hPl 100 (by decide) (by decide)) rfl rfl (by decide) wt_X9_29 iwX9 rfl dX9_taken_g1.2.2.2.1 ?_
      refine wm_iload_n 1 C dX9_taken_g1.2.2.2.2.1 rfl ?_
      obtain ⟨h7, hf⟩ := ckd hf
      refine wm_iald (n := 6) (j := (v1).toNatClampNeg) (v := (o4.2 106 (v1).toNatClampNeg)) C (hPl 106 (by decide) (by decide)) rfl rfl rfl h7 rfl rfl dX9_taken_g1.2.2.2.2.2.1 ?_
      refine wm_istore_n (lv1 := [(3, .int (o4.2 106 (v1).toNatClampNeg)), (0, .ref (A 100)), (1, .int v1), (2, .int v2)]) C dX9_taken_g1.2.2.2.2.2.2.1 (by decide) rfl ?_
      refine wm_pick [1, 2, 3, 0] rfl ?_
      exact (hl33 _ hb51 FU) _ _ _ _ hf
    · have hf := (if_pos c6).symm.trans hf
      refine wm_bipush (v := (-11)) C dX9_taken_g1.1 (by decide) ?_
      exact wm_iret C hrt hf dX9_taken_g1.2.1
  · have hf := (if_pos c3).symm.trans hf
    refine wm_bipush (v := (-2)) C dX9_taken_g0.2.2.2.2.2.2.1 (by decide) ?_
    exact wm_iret C hrt hf dX9_taken_g0.2.2.2.2.2.2.2.1
