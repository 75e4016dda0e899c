/-! WALKS: the class -/
set_option maxHeartbeats 4000000 in
set_option maxRecDepth 100000 in
theorem c_X8_isPlace {l : Launch} {D : va_G} {cA : Nat → ClassId} {A : Nat → Nat} {Pl : List Nat} (hPl : ∀ q, 0 ≤ q → q < 63 → q ∈ Pl) (v0 : Int32) (M : Mem) (out : (Int32 × Mem)) (ho : f_X8_isPlace v0 M = some out) : CtI l D cA A Pl yX8_isPlace cX8_isPlace 1 1 .boolean [.int v0] M out := by
  refine ct_I (by decide) (Nat.le_of_ble_eq_true rfl) (fun p e s m args below meth c C hrt => ?_)
  have hf := ho
  unfold f_X8_isPlace at hf
  refine wm_iload_n 0 C dX8_isPlace_g0.1 rfl ?_
  refine wm_if_lt (tgt := 25) C dX8_isPlace_g0.2.1 (by decide) (fun c1 => ?_) (fun c1 => ?_)
  · have hf := (if_pos c1).symm.trans hf
    refine wm_iconst (v := 0) C dX8_isPlace_g1.2.2.1 (by decide) ?_
    exact wm_zret C hrt rfl hf dX8_isPlace_g1.2.2.2
  · have hf := (if_neg c1).symm.trans hf
    refine wm_iload_n 0 C dX8_isPlace_g0.2.2.1 rfl ?_
    refine wm_bipush (v := 10) C dX8_isPlace_g0.2.2.2.1 (by decide) ?_
    refine wm_idiv C (by decide) dX8_isPlace_g0.2.2.2.2.1 ?_
    refine wm_iconst (v := 2) C dX8_isPlace_g0.2.2.2.2.2.1 (by decide) ?_
    refine wm_icmp_ge (tgt := 25) C dX8_isPlace_g0.2.2.2.2.2.2.1 (by decide) (fun c2 => ?_) (fun c2 => ?_)
    · have hf := (if_pos c2).symm.trans hf
      refine wm_iconst (v := 0) C dX8_isPlace_g1.2.2.1 (by decide) ?_
      exact wm_zret C hrt rfl hf dX8_isPlace_g1.2.2.2
    · have hf := (if_neg c2).symm.trans hf
      refine wm_iload_n 0 C dX8_isPlace_g0.2.2.2.2.2.2.2.1 rfl ?_
      refine wm_bipush (v := 10) C dX8_isPlace_g0.2.2.2.2.2.2.2.2.1 (by decide) ?_
      refine wm_irem C (by decide) dX8_isPlace_g0.2.2.2.2.2.2.2.2.2.1 ?_
      refine wm_bipush (v := 6) C dX8_isPlace_g0.2.2.2.2.2.2.2.2.2.2.1 (by decide) ?_
      refine wm_icmp_ge (tgt := 25) C dX8_isPlace_g0.2.2.2.2.2.2.2.2.2.2.2 (by decide) (fun c3 => ?_) (fun c3 => ?_)
      · have hf := (if_pos c3).symm.trans hf
        refine wm_iconst (v := 0) C dX8_isPlace_g1.2.2.1 (by decide) ?_
        exact wm_zret C hrt rfl hf dX8_isPlace_g1.2.2.2
      · have hf := (if_neg c3).symm.trans hf
        refine wm_iconst (v := 1) C dX8_isPlace_g1.1 (by decide) ?_
        refine wm_goto (tgt := 26) C dX8_isPlace_g1.2.1 (by decide) ?_
        exact wm_zret C hrt rfl hf dX8_isPlace_g1.2.2.2
set_option maxHeartbeats 4000000 in
set_option maxRecDepth 100000 in
theorem c_X8_placeOf {l : Launch} {D : va_G} {cA : Nat → ClassId} {A : Nat → Nat} {Pl : List Nat} (hPl : ∀ q, 0 ≤ q → q < 63 → q ∈ Pl) (v0 : Int32) (M : Mem) (out : (Int32 × Mem)) (ho : f_X8_placeOf v0 M = some out) : CtI l D cA A Pl yX8_placeOf cX8_placeOf 1 1 .int [.int v0] M out := by
  refine ct_I (by decide) (Nat.le_of_ble_eq_true rfl) (fun p e s m args below meth c C hrt => ?_)
  have hf := ho
  unfold f_X8_placeOf at hf
  refine wm_iload_n 0 C dX8_placeOf_g0.1 rfl ?_
  refine wm_bipush (v := 10) C dX8_placeOf_g0.2.1 (by decide) ?_
  refine wm_idiv C (by decide) dX8_placeOf_g0.2.2.1 ?_
  refine wm_bipush (v := 6) C dX8_placeOf_g0.2.2.2.1 (by decide) ?_
  refine wm_imul C dX8_placeOf_g0.2.2.2.2.1 ?_
  refine wm_iload_n 0 C dX8_placeOf_g0.2.2.2.2.2.1 rfl ?_
  refine wm_bipush (v := 10) C dX8_placeOf_g0.2.2.2.2.2.2.1 (by decide) ?_
  refine wm_irem C (by decide) dX8_placeOf_g0.2.2.2.2.2.2.2.1 ?_
  refine wm_iadd C dX8_placeOf_g0.2.2.2.2.2.2.2.2.1 ?_
  exact wm_iret C hrt hf dX8_placeOf_g0.2.2.2.2.2.2.2.2.2
set_option maxHeartbeats 4000000 in
set_option maxRecDepth 100000 in
theorem c_X8_isKitchen {l : Launch} {D : va_G} {cA : Nat → ClassId} {A : Nat → Nat} {Pl : List Nat} (hPl : ∀ q, 0 ≤ q → q < 63 → q ∈ Pl) (v0 : Int32) (M : Mem) (out : (Int32 × Mem)) (ho : f_X8_isKitchen v0 M = some out) : CtI l D cA A Pl yX8_isKitchen cX8_isKitchen 1 1 .boolean [.int v0] M out := by
  refine ct_I (by decide) (Nat.le_of_ble_eq_true rfl) (fun p e s m args below meth c C hrt => ?_)
  have hf := ho
  unfold f_X8_isKitchen at hf
  refine wm_iload_n 0 C dX8_isKitchen_g0.1 rfl ?_
  refine wm_if_lt (tgt := 13) C dX8_isKitchen_g0.2.1 (by decide) (fun c1 => ?_) (fun c1 => ?_)
  · have hf := (if_pos c1).symm.trans hf
    refine wm_iconst (v := 0) C dX8_isKitchen_g0.2.2.2.2.2.2.2.1 (by decide) ?_
    exact wm_zret C hrt rfl hf dX8_isKitchen_g0.2.2.2.2.2.2.2.2
  · have hf := (if_neg c1).symm.trans hf
    refine wm_iload_n 0 C dX8_isKitchen_g0.2.2.1 rfl ?_
    refine wm_iconst (v := 2) C dX8_isKitchen_g0.2.2.2.1 (by decide) ?_
    refine wm_icmp_ge (tgt := 13) C dX8_isKitchen_g0.2.2.2.2.1 (by decide) (fun c2 => ?_) (fun c2 => ?_)
    · have hf := (if_pos c2).symm.trans hf
      refine wm_iconst (v := 0) C dX8_isKitchen_g0.2.2.2.2.2.2.2.1 (by decide) ?_
      exact wm_zret C hrt rfl hf dX8_isKitchen_g0.2.2.2.2.2.2.2.2
    · have hf := (if_neg c2).symm.trans hf
      refine wm_iconst (v := 1) C dX8_isKitchen_g0.2.2.2.2.2.1 (by decide) ?_
      refine wm_goto (tgt := 14) C dX8_isKitchen_g0.2.2.2.2.2.2.1 (by decide) ?_
      exact wm_zret C hrt rfl hf dX8_isKitchen_g0.2.2.2.2.2.2.2.2
set_option maxHeartbeats 4000000 in
set_option maxRecDepth 100000 in
theorem c_X1_storeOf {l : Launch} {D : va_G} {cA : Nat → ClassId} {A : Nat → Nat} {Pl : List Nat} (hPl : ∀ q, 0 ≤ q → q < 63 → q ∈ Pl) (v1 : Int32) (M : Mem) (out : (Int32 × Mem)) (ho : f_X1_storeOf v1 M = some out) : CtI l D cA A Pl yX1_storeOf cX1_storeOf 4 1 .int [.ref (A 1), .int v1] M out := by
  refine ct_I (by decide) (Nat.le_of_ble_eq_true rfl) (fun p e s m args below meth c C hrt => ?_)
  have hl4 : ∀ (n : Nat), ∀ (v1 : Int32) (v2 : Int32) (v3 : Int32) (M : Mem), f_X1_storeOf_l4 n v1 v2 v3 M = some out → WM p l e (RM 1) s m args below meth c 0 0 (MQ below (QI D cA A Pl out) args s 0 0 (FA A Pl)) D cA A Pl (FA A Pl) 4 M 4 [(0, .ref (A 1)), (1, .int v1), (2, .int v2), (3, .int v3)] [] := by
    intro n
    induction n with
    | zero => intro v1 v2 v3 M hf; rw [f_X1_storeOf_l4] at hf; cases hf
    | succ n hr =>
      intro v1 v2 v3 M hf
      rw [f_X1_storeOf_l4] at hf
      refine wm_iload_n 3 C dX1_storeOf_g0.2.2.2.2.1 rfl ?_
      refine wm_bipush (v := 6) C dX1_storeOf_g0.2.2.2.2.2.1 (by decide) ?_
      refine wm_icmp_ge (tgt := 30) C dX1_storeOf_g0.2.2.2.2.2.2.1 (by decide) (fun c1 => ?_) (fun c1 => ?_)
      · have hf := (if_pos c1).symm.trans hf
        refine wm_iload_n 2 C dX1_storeOf_g1.2.2.2.2.2.2.2.2.1 rfl ?_
        exact wm_iret C hrt hf dX1_storeOf_g1.2.2.2.2.2.2.2.2.2
      · have hf := (if_neg c1).symm.trans hf
        refine wm_iload_n 2 C dX1_storeOf_g0.2.2.2.2.2.2.2.1 rfl ?_
        refine wm_aload_n 0 C dX1_storeOf_g0.2.2.2.2.2.2.2.2.1 rfl ?_
        refine wm_get (ci := 1) (k := 0) (v := .ref (A 2)) C (hPl 1 (by decide) (by decide)) rfl rfl (by decide) wt_X1_9 iwX1 rfl dX1_storeOf_g0.2.2.2.2.2.2.2.2.2.1 ?_
        refine wm_iload_n 1 C dX1_storeOf_g0.2.2.2.2.2.2.2.2.2.2.1 rfl ?_
        refine wm_bipush (v := 6) C dX1_storeOf_g0.2.2.2.2.2.2.2.2.2.2.2 (by decide) ?_
        refine wm_imul C dX1_storeOf_g1.1 ?_
        refine wm_iload_n 3 C dX1_storeOf_g1.2.1 rfl ?_
        refine wm_iadd C dX1_storeOf_g1.2.2.1 ?_
        obtain ⟨h2, hf⟩ := ckd hf
        refine wm_iald (n := 12) (j := (((v1 * 6) + v3)).toNatClampNeg) (v := (M 2 (((v1 * 6) + v3)).toNatClampNeg)) C (hPl 2 (by decide) (by decide)) rfl rfl rfl h2 rfl rfl dX1_storeOf_g1.2.2.2.1 ?_
        refine wm_iadd C dX1_storeOf_g1.2.2.2.2.1 ?_
        refine wm_istore_n (lv1 := [(2, .int (v2 + (M 2 (((v1 * 6) + v3)).toNatClampNeg))), (0, .ref (A 1)), (1, .int v1), (3, .int v3)]) C dX1_storeOf_g1.2.2.2.2.2.1 (by decide) rfl ?_
        refine wm_iinc (lv1 := [(3, .int (v3 + 1)), (2, .int (v2 + (M 2 (((v1 * 6) + v3)).toNatClampNeg))), (0, .ref (A 1)), (1, .int v1)]) (v := (v3 + 1)) 3 C dX1_storeOf_g1.2.2.2.2.2.2.1 rfl (by first | rfl | decide) (by decide) rfl ?_
        refine wm_goto (tgt := 4) C dX1_storeOf_g1.2.2.2.2.2.2.2.1 (by decide) ?_
        refine wm_pick [2, 3, 1, 0] rfl ?_
        exact hr _ _ _ _ hf
  have hf := ho
  unfold f_X1_storeOf at hf
  refine wm_iconst (v := 0) C dX1_storeOf_g0.1 (by decide) ?_
  refine wm_istore_n (lv1 := [(2, .int 0), (0, .ref (A 1)), (1, .int v1)]) C dX1_storeOf_g0.2.1 (by decide) rfl ?_
  refine wm_iconst (v := 0) C dX1_storeOf_g0.2.2.1 (by decide) ?_
  refine wm_istore_n (lv1 := [(3, .int 0), (2, .int 0), (0, .ref (A 1)), (1, .int v1)]) C dX1_storeOf_g0.2.2.2.1 (by decide) rfl ?_
  refine wm_pick [2, 3, 1, 0] rfl ?_
  exact (hl4 FU) _ _ _ _ hf
set_option maxHeartbeats 4000000 in
set_option maxRecDepth 100000 in
theorem c_X8_toldOfKitchen {l : Launch} {D : va_G} {cA : Nat → ClassId} {A : Nat → Nat} {Pl : List Nat} (hPl : ∀ q, 0 ≤ q → q < 63 → q ∈ Pl) (v1 : Int32) (v2 : Int32) (M : Mem) (out : (Int32 × Mem)) (ho : f_X8_toldOfKitchen v1 v2 M = some out) : CtI l D cA A Pl yX8_toldOfKitchen cX8_toldOfKitchen 3 2 .int [.ref (A 0), .int v1, .int v2] M out := by
  refine ct_I (by decide) (Nat.le_of_ble_eq_true rfl) (fun p e s m args below meth c C hrt => ?_)
  have hf := ho
  unfold f_X8_toldOfKitchen at hf
  refine wm_iload_n 2 C dX8_toldOfKitchen_g0.1 rfl ?_
  refine wm_iconst (v := 2) C dX8_toldOfKitchen_g0.2.1 (by decide) ?_
  refine wm_icmp_ne (tgt := 17) C dX8_toldOfKitchen_g0.2.2.1 (by decide) (fun c1 => ?_) (fun c1 => ?_)
  · have hf := (if_neg c1).symm.trans hf
    refine wm_aload_n 0 C dX8_toldOfKitchen_g0.2.2.2.2.2.2.2.2.2.1 rfl ?_
    refine wm_get (ci := 7) (k := 0) (v := .ref (A 1)) C (hPl 0 (by decide) (by decide)) rfl rfl (by decide) wt_X8_10 iwX8 rfl dX8_toldOfKitchen_g0.2.2.2.2.2.2.2.2.2.2.1 ?_
    refine wm_iload_n 1 C dX8_toldOfKitchen_g0.2.2.2.2.2.2.2.2.2.2.2 rfl ?_
    obtain ⟨o2, ho3, hf⟩ := bnd hf
    refine wm_callVi (As := [.int v1]) (ci := 1) C (c_X1_storeOf hPl _ _ _ ho3) mi_X1_storeOf wt_X8_280 (hPl 1 (by decide) (by decide)) rfl rfl rfl rfl (by decide) (by decide) (Nat.le_of_ble_eq_true rfl) dX8_toldOfKitchen_g1.1 ?_
    exact wm_iret C hrt hf dX8_toldOfKitchen_g1.2
  · have hf := (if_pos c1).symm.trans hf
    refine wm_aload_n 0 C dX8_toldOfKitchen_g0.2.2.2.1 rfl ?_
    refine wm_get (ci := 7) (k := 0) (v := .ref (A 1)) C (hPl 0 (by decide) (by decide)) rfl rfl (by decide) wt_X8_10 iwX8 rfl dX8_toldOfKitchen_g0.2.2.2.2.1 ?_
    refine wm_get (ci := 1) (k := 1) (v := .ref (A 3)) C (hPl 1 (by decide) (by decide)) rfl rfl (by decide) wt_X8_111 iwX1 rfl dX8_toldOfKitchen_g0.2.2.2.2.2.1 ?_
    refine wm_iload_n 1 C dX8_toldOfKitchen_g0.2.2.2.2.2.2.1 rfl ?_
    obtain ⟨h4, hf⟩ := ckd hf
    refine wm_iald (n := 2) (j := (v1).toNatClampNeg) (v := (M 3 (v1).toNatClampNeg)) C (hPl 3 (by decide) (by decide)) rfl rfl rfl h4 rfl rfl dX8_toldOfKitchen_g0.2.2.2.2.2.2.2.1 ?_
    refine wm_goto (tgt := 25) C dX8_toldOfKitchen_g0.2.2.2.2.2.2.2.2.1 (by decide) ?_
    exact wm_iret C hrt hf dX8_toldOfKitchen_g1.2
set_option maxHeartbeats 4000000 in
set_option maxRecDepth 100000 in
theorem c_X1_hasDish {l : Launch} {D : va_G} {cA : Nat → ClassId} {A : Nat → Nat} {Pl : List Nat} (hPl : ∀ q, 0 ≤ q → q < 63 → q ∈ Pl) (v1 : Int32) (M : Mem) (out : (Int32 × Mem)) (ho : f_X1_hasDish v1 M = some out) : CtI l D cA A Pl yX1_hasDish cX1_hasDish 2 1 .boolean [.ref (A 1), .int v1] M out := by
  refine ct_I (by decide) (Nat.le_of_ble_eq_true rfl) (fun p e s m args below meth c C hrt => ?_)
  have hf := ho
  unfold f_X1_hasDish at hf
  refine wm_iload_n 1 C dX1_hasDish_g0.1 rfl ?_
  refine wm_if_lt (tgt := 16) C dX1_hasDish_g0.2.1 (by decide) (fun c1 => ?_) (fun c1 => ?_)
  · have hf := (if_pos c1).symm.trans hf
    refine wm_iconst (v := 0) C dX1_hasDish_g0.2.2.2.2.2.2.2.2.1 (by decide) ?_
    exact wm_zret C hrt rfl hf dX1_hasDish_g0.2.2.2.2.2.2.2.2.2
  · have hf := (if_neg c1).symm.trans hf
    refine wm_iload_n 1 C dX1_hasDish_g0.2.2.1 rfl ?_
    refine wm_aload_n 0 C dX1_hasDish_g0.2.2.2.1 rfl ?_
    refine wm_get (ci := 1) (k := 6) (v := .int (M 1 6)) C (hPl 1 (by decide) (by decide)) rfl rfl (by decide) wt_X1_30 iwX1 rfl dX1_hasDish_g0.2.2.2.2.1 ?_
    refine wm_icmp_ge (tgt := 16) C dX1_hasDish_g0.2.2.2.2.2.1 (by decide) (fun c2 => ?_) (fun c2 => ?_)
    · have hf := (if_pos c2).symm.trans hf
      refine wm_iconst (v := 0) C dX1_hasDish_g0.2.2.2.2.2.2.2.2.1 (by decide) ?_
      exact wm_zret C hrt rfl hf dX1_hasDish_g0.2.2.2.2.2.2.2.2.2
    · have hf := (if_neg c2).symm.trans hf
      refine wm_iconst (v := 1) C dX1_hasDish_g0.2.2.2.2.2.2.1 (by decide) ?_
      refine wm_goto (tgt := 17) C dX1_hasDish_g0.2.2.2.2.2.2.2.1 (by decide) ?_
      exact wm_zret C hrt rfl hf dX1_hasDish_g0.2.2.2.2.2.2.2.2.2
set_option maxHeartbeats 4000000 in
set_option maxRecDepth 100000 in
theorem c_X1_needsOf {l : Launch} {D : va_G} {cA : Nat → ClassId} {A : Nat → Nat} {Pl : List Nat} (hPl : ∀ q, 0 ≤ q → q < 63 → q ∈ Pl) (v1 : Int32) (v2 : Int32) (M : Mem) (out : (Int32 × Mem)) (ho : f_X1_needsOf v1 v2 M = some out) : CtI l D cA A Pl yX1_needsOf cX1_needsOf 3 1 .int [.ref (A 1), .int v1, .int v2] M out := by
  refine ct_I (by decide) (Nat.le_of_ble_eq_true rfl) (fun p e s m args below meth c C hrt => ?_)
  have hf := ho
  unfold f_X1_needsOf at hf
  refine wm_aload_n 0 C dX1_needsOf_g0.1 rfl ?_
  refine wm_get (ci := 1) (k := 4) (v := .ref (A 6)) C (hPl 1 (by decide) (by decide)) rfl rfl (by decide) wt_X1_24 iwX1 rfl dX1_needsOf_g0.2.1 ?_
  refine wm_iload_n 1 C dX1_needsOf_g0.2.2.1 rfl ?_
  obtain ⟨h1, hf⟩ := ckd hf
  refine wm_iald (n := 6) (j := (v1).toNatClampNeg) (v := (M 6 (v1).toNatClampNeg)) C (hPl 6 (by decide) (by decide)) rfl rfl rfl h1 rfl rfl dX1_needsOf_g0.2.2.2.1 ?_
  refine wm_getsNX1_40 C rfl dX1_needsOf_g0.2.2.2.2.1 ?_
  refine wm_iload_n 2 C dX1_needsOf_g0.2.2.2.2.2.1 rfl ?_
  obtain ⟨h2, hf⟩ := ckd hf
  refine wm_tld2000 (v := (stv 2000 (v2).toNatClampNeg)) C h2 rfl dX1_needsOf_g0.2.2.2.2.2.2.1 ?_
  obtain ⟨h3, hf⟩ := ckd hf
  refine wm_idiv C (nz0 h3) dX1_needsOf_g0.2.2.2.2.2.2.2.1 ?_
  refine wm_bipush (v := 10) C dX1_needsOf_g0.2.2.2.2.2.2.2.2.1 (by decide) ?_
  refine wm_irem C (by decide) dX1_needsOf_g0.2.2.2.2.2.2.2.2.2.1 ?_
  exact wm_iret C hrt hf dX1_needsOf_g0.2.2.2.2.2.2.2.2.2.2
set_option maxHeartbeats 4000000 in
set_option maxRecDepth 100000 in
theorem c_X1_needsTogether {l : Launch} {D : va_G} {cA : Nat → ClassId} {A : Nat → Nat} {Pl : List Nat} (hPl : ∀ q, 0 ≤ q → q < 63 → q ∈ Pl) (v1 : Int32) (M : Mem) (out : (Int32 × Mem)) (ho : f_X1_needsTogether v1 M = some out) : CtI l D cA A Pl yX1_needsTogether cX1_needsTogether 4 2 .int [.ref (A 1), .int v1] M out := by
  refine ct_I (by decide) (Nat.le_of_ble_eq_true rfl) (fun p e s m args below meth c C hrt => ?_)
  have hl4 : ∀ (n : Nat), ∀ (v1 : Int32) (v2 : Int32) (v3 : Int32) (M : Mem), f_X1_needsTogether_l4 n v1 v2 v3 M = some out → WM p l e (RM 2) s m args below meth c 0 0 (MQ below (QI D cA A Pl out) args s 0 0 (FA A Pl)) D cA A Pl (FA A Pl) 4 M 4 [(0, .ref (A 1)), (1, .int v1), (2, .int v2), (3, .int v3)] [] := by
    intro n
    induction n with
    | zero => intro v1 v2 v3 M hf; rw [f_X1_needsTogether_l4] at hf; cases hf
    | succ n hr =>
      intro v1 v2 v3 M hf
      rw [f_X1_needsTogether_l4] at hf
      refine wm_iload_n 3 C dX1_needsTogether_g0.2.2.2.2.1 rfl ?_
      refine wm_bipush (v := 6) C dX1_needsTogether_g0.2.2.2.2.2.1 (by decide) ?_
      refine wm_icmp_ge (tgt := 25) C dX1_needsTogether_g0.2.2.2.2.2.2.1 (by decide) (fun c1 => ?_) (fun c1 => ?_)
      · have hf := (if_pos c1).symm.trans hf
        refine wm_iload_n 2 C dX1_needsTogether_g1.2.2.2.2.1 rfl ?_
        exact wm_iret C hrt hf dX1_needsTogether_g1.2.2.2.2.2
      · have hf := (if_neg c1).symm.trans hf
        refine wm_iload_n 2 C dX1_needsTogether_g0.2.2.2.2.2.2.2.1 rfl ?_
        refine wm_aload_n 0 C dX1_needsTogether_g0.2.2.2.2.2.2.2.2.1 rfl ?_
        refine wm_iload_n 1 C dX1_needsTogether_g0.2.2.2.2.2.2.2.2.2.1 rfl ?_
        refine wm_iload_n 3 C dX1_needsTogether_g0.2.2.2.2.2.2.2.2.2.2.1 rfl ?_
        obtain ⟨o2, ho3, hf⟩ := bnd hf
        refine wm_callVi (As := [.int v1, .int v3]) (ci := 1) C (c_X1_needsOf hPl _ _ _ _ ho3) mi_X1_needsOf wt_X1_43 (hPl 1 (by decide) (by decide)) rfl rfl rfl rfl (by decide) (by decide) (Nat.le_of_ble_eq_true rfl) dX1_needsTogether_g0.2.2.2.2.2.2.2.2.2.2.2 ?_
        refine wm_iadd C dX1_needsTogether_g1.1 ?_
        refine wm_istore_n (lv1 := [(2, .int (v2 + o2.1)), (0, .ref (A 1)), (1, .int v1), (3, .int v3)]) C dX1_needsTogether_g1.2.1 (by decide) rfl ?_
        refine wm_iinc (lv1 := [(3, .int (v3 + 1)), (2, .int (v2 + o2.1)), (0, .ref (A 1)), (1, .int v1)]) (v := (v3 + 1)) 3 C dX1_needsTogether_g1.2.2.1 rfl (by first | rfl | decide) (by decide) rfl ?_
        refine wm_goto (tgt := 4) C dX1_needsTogether_g1.2.2.2.1 (by decide) ?_
        refine wm_pick [2, 3, 1, 0] rfl ?_
        exact hr _ _ _ _ hf
  have hf := ho
  unfold f_X1_needsTogether at hf
  refine wm_iconst (v := 0) C dX1_needsTogether_g0.1 (by decide) ?_
  refine wm_istore_n (lv1 := [(2, .int 0), (0, .ref (A 1)), (1, .int v1)]) C dX1_needsTogether_g0.2.1 (by decide) rfl ?_
  refine wm_iconst (v := 0) C dX1_needsTogether_g0.2.2.1 (by decide) ?_
  refine wm_istore_n (lv1 := [(3, .int 0), (2, .int 0), (0, .ref (A 1)), (1, .int v1)]) C dX1_needsTogether_g0.2.2.2.1 (by decide) rfl ?_
  refine wm_pick [2, 3, 1, 0] rfl ?_
  exact (hl4 FU) _ _ _ _ hf
set_option maxHeartbeats 4000000 in
set_option maxRecDepth 100000 in
theorem c_X8_toldOfDish {l : Launch} {D : va_G} {cA : Nat → ClassId} {A : Nat → Nat} {Pl : List Nat} (hPl : ∀ q, 0 ≤ q → q < 63 → q ∈ Pl) (v1 : Int32) (v2 : Int32) (M : Mem) (out : (Int32 × Mem)) (ho : f_X8_toldOfDish v1 v2 M = some out) : CtI l D cA A Pl yX8_toldOfDish cX8_toldOfDish 3 3 .int [.ref (A 0), .int v1, .int v2] M out := by
  refine ct_I (by decide) (Nat.le_of_ble_eq_true rfl) (fun p e s m args below meth c C hrt => ?_)
  have hf := ho
  unfold f_X8_toldOfDish at hf
  refine wm_iload_n 2 C dX8_toldOfDish_g0.1 rfl ?_
  by_cases c1 : v2 = 3
  · have hf := (if_pos c1).symm.trans hf
    refine wm_tswI (tgt := 36) (off := 35) C dX8_toldOfDish_g0.2.1 c1 (by decide) (by decide) (by decide) (by decide) ?_
    refine wm_aload_n 0 C dX8_toldOfDish_g0.2.2.1 rfl ?_
    refine wm_get (ci := 7) (k := 0) (v := .ref (A 1)) C (hPl 0 (by decide) (by decide)) rfl rfl (by decide) wt_X8_10 iwX8 rfl dX8_toldOfDish_g0.2.2.2.1 ?_
    refine wm_get (ci := 1) (k := 3) (v := .ref (A 5)) C (hPl 1 (by decide) (by decide)) rfl rfl (by decide) wt_X8_114 iwX1 rfl dX8_toldOfDish_g0.2.2.2.2.1 ?_
    refine wm_iload_n 1 C dX8_toldOfDish_g0.2.2.2.2.2.1 rfl ?_
    obtain ⟨h2, hf⟩ := ckd hf
    refine wm_iald (n := 6) (j := (v1).toNatClampNeg) (v := (M 5 (v1).toNatClampNeg)) C (hPl 5 (by decide) (by decide)) rfl rfl rfl h2 rfl rfl dX8_toldOfDish_g0.2.2.2.2.2.2.1 ?_
    exact wm_iret C hrt hf dX8_toldOfDish_g0.2.2.2.2.2.2.2.1
  · have hf := (if_neg c1).symm.trans hf
    by_cases c3 : v2 = 4
    · have hf := (if_pos c3).symm.trans hf
      refine wm_tswI (tgt := 46) (off := 45) C dX8_toldOfDish_g0.2.1 c3 (by decide) (by decide) (by decide) (by decide) ?_
      refine wm_aload_n 0 C dX8_toldOfDish_g0.2.2.2.2.2.2.2.2.1 rfl ?_
      refine wm_get (ci := 7) (k := 0) (v := .ref (A 1)) C (hPl 0 (by decide) (by decide)) rfl rfl (by decide) wt_X8_10 iwX8 rfl dX8_toldOfDish_g0.2.2.2.2.2.2.2.2.2.1 ?_
      refine wm_get (ci := 1) (k := 4) (v := .ref (A 6)) C (hPl 1 (by decide) (by decide)) rfl rfl (by decide) wt_X8_117 iwX1 rfl dX8_toldOfDish_g0.2.2.2.2.2.2.2.2.2.2.1 ?_
      refine wm_iload_n 1 C dX8_toldOfDish_g0.2.2.2.2.2.2.2.2.2.2.2 rfl ?_
      obtain ⟨h4, hf⟩ := ckd hf
      refine wm_iald (n := 6) (j := (v1).toNatClampNeg) (v := (M 6 (v1).toNatClampNeg)) C (hPl 6 (by decide) (by decide)) rfl rfl rfl h4 rfl rfl dX8_toldOfDish_g1.1 ?_
      exact wm_iret C hrt hf dX8_toldOfDish_g1.2.1
    · have hf := (if_neg c3).symm.trans hf
      by_cases c5 : v2 = 5
      · have hf := (if_pos c5).symm.trans hf
        refine wm_tswI (tgt := 56) (off := 55) C dX8_toldOfDish_g0.2.1 c5 (by decide) (by decide) (by decide) (by decide) ?_
        refine wm_aload_n 0 C dX8_toldOfDish_g1.2.2.1 rfl ?_
        refine wm_get (ci := 7) (k := 0) (v := .ref (A 1)) C (hPl 0 (by decide) (by decide)) rfl rfl (by decide) wt_X8_10 iwX8 rfl dX8_toldOfDish_g1.2.2.2.1 ?_
        refine wm_get (ci := 1) (k := 2) (v := .ref (A 4)) C (hPl 1 (by decide) (by decide)) rfl rfl (by decide) wt_X8_299 iwX1 rfl dX8_toldOfDish_g1.2.2.2.2.1 ?_
        refine wm_iload_n 1 C dX8_toldOfDish_g1.2.2.2.2.2.1 rfl ?_
        obtain ⟨h6, hf⟩ := ckd hf
        refine wm_iald (n := 6) (j := (v1).toNatClampNeg) (v := (M 4 (v1).toNatClampNeg)) C (hPl 4 (by decide) (by decide)) rfl rfl rfl h6 rfl rfl dX8_toldOfDish_g1.2.2.2.2.2.2.1 ?_
        exact wm_iret C hrt hf dX8_toldOfDish_g1.2.2.2.2.2.2.2.1
      · have hf := (if_neg c5).symm.trans hf
        by_cases c7 : v2 = 6
        · have hf := (if_pos c7).symm.trans hf
          refine wm_tswI (tgt := 66) (off := 65) C dX8_toldOfDish_g0.2.1 c7 (by decide) (by decide) (by decide) (by decide) ?_
          refine wm_aload_n 0 C dX8_toldOfDish_g1.2.2.2.2.2.2.2.2.1 rfl ?_
          refine wm_get (ci := 7) (k := 0) (v := .ref (A 1)) C (hPl 0 (by decide) (by decide)) rfl rfl (by decide) wt_X8_10 iwX8 rfl dX8_toldOfDish_g1.2.2.2.2.2.2.2.2.2.1 ?_
          refine wm_get (ci := 1) (k := 5) (v := .ref (A 7)) C (hPl 1 (by decide) (by decide)) rfl rfl (by decide) wt_X8_307 iwX1 rfl dX8_toldOfDish_g1.2.2.2.2.2.2.2.2.2.2.1 ?_
          refine wm_iload_n 1 C dX8_toldOfDish_g1.2.2.2.2.2.2.2.2.2.2.2 rfl ?_
          obtain ⟨h8, hf⟩ := ckd hf
          refine wm_iald (n := 6) (j := (v1).toNatClampNeg) (v := (M 7 (v1).toNatClampNeg)) C (hPl 7 (by decide) (by decide)) rfl rfl rfl h8 rfl rfl dX8_toldOfDish_g2.1 ?_
          exact wm_iret C hrt hf dX8_toldOfDish_g2.2.1
        · have hf := (if_neg c7).symm.trans hf
          by_cases c9 : v2 = 7
          · have hf := (if_pos c9).symm.trans hf
            refine wm_tswI (tgt := 76) (off := 75) C dX8_toldOfDish_g0.2.1 c9 (by decide) (by decide) (by decide) (by decide) ?_
            refine wm_aload_n 0 C dX8_toldOfDish_g2.2.2.1 rfl ?_
            refine wm_get (ci := 7) (k := 0) (v := .ref (A 1)) C (hPl 0 (by decide) (by decide)) rfl rfl (by decide) wt_X8_10 iwX8 rfl dX8_toldOfDish_g2.2.2.2.1 ?_
            refine wm_iload_n 1 C dX8_toldOfDish_g2.2.2.2.2.1 rfl ?_
            obtain ⟨o10, ho11, hf⟩ := bnd hf
            refine wm_callVi (As := [.int v1]) (ci := 1) C (c_X1_needsTogether hPl _ _ _ ho11) mi_X1_needsTogether wt_X8_310 (hPl 1 (by decide) (by decide)) rfl rfl rfl rfl (by decide) (by decide) (Nat.le_of_ble_eq_true rfl) dX8_toldOfDish_g2.2.2.2.2.2.1 ?_
            exact wm_iret C hrt hf dX8_toldOfDish_g2.2.2.2.2.2.2.1
          · have hf := (if_neg c9).symm.trans hf
            have nc1 : ¬ (v2).toInt = 3 := lv_neT c1 (by decide)
            have nc3 : ¬ (v2).toInt = 4 := lv_neT c3 (by decide)
            have nc5 : ¬ (v2).toInt = 5 := lv_neT c5 (by decide)
            have nc7 : ¬ (v2).toInt = 6 := lv_neT c7 (by decide)
            have nc9 : ¬ (v2).toInt = 7 := lv_neT c9 (by decide)
            refine wm_tswO (tgt := 85) C dX8_toldOfDish_g0.2.1 (by omega) (by decide) ?_
            refine wm_sipush (v := (-1000)) C dX8_toldOfDish_g2.2.2.2.2.2.2.2.1 (by decide) ?_
            exact wm_iret C hrt hf dX8_toldOfDish_g2.2.2.2.2.2.2.2.2
set_option maxHeartbeats 4000000 in
set_option maxRecDepth 100000 in
theorem c_X8_told {l : Launch} {D : va_G} {cA : Nat → ClassId} {A : Nat → Nat} {Pl : List Nat} (hPl : ∀ q, 0 ≤ q → q < 63 → q ∈ Pl) (v1 : Int32) (v2 : Int32) (M : Mem) (out : (Int32 × Mem)) (ho : f_X8_told v1 v2 M = some out) : CtI l D cA A Pl yX8_told cX8_told 3 4 .int [.ref (A 0), .int v1, .int v2] M out := by
  refine ct_I (by decide) (Nat.le_of_ble_eq_true rfl) (fun p e s m args below meth c C hrt => ?_)
  have hb54 : ∀ (v1 : Int32) (v2 : Int32) (M : Mem), f_X8_told_b54 v1 v2 M = some out → WM p l e (RM 4) s m args below meth c 0 0 (MQ below (QI D cA A Pl out) args s 0 0 (FA A Pl)) D cA A Pl (FA A Pl) 3 M 54 [(0, .ref (A 0)), (1, .int v1), (2, .int v2)] [] := by
    intro v1 v2 M hf
    unfold f_X8_told_b54 at hf
    refine wm_iload_n 1 C dX8_told_g2.2.2.2.1 rfl ?_
    obtain ⟨o16, ho17, hf⟩ := bnd hf
    refine wm_callSi (As := [.int v1]) C (c_X8_isKitchen hPl _ _ _ ho17) mi_X8_isKitchen wt_X8_128 rfl rfl (by decide) (by decide) (Nat.le_of_ble_eq_true rfl) dX8_told_g2.2.2.2.2.1 ?_
    refine wm_if_eq (tgt := 70) C dX8_told_g2.2.2.2.2.2.1 (by decide) (fun c18 => ?_) (fun c18 => ?_)
    · have hf := (if_pos c18).symm.trans hf
      refine wm_sipush (v := (-1000)) C dX8_told_g2.2.2.2.2.2.2.2.2.2.2.2 (by decide) ?_
      exact wm_iret C hrt hf dX8_told_g3.1
    · have hf := (if_neg c18).symm.trans hf
      refine wm_aload_n 0 C dX8_told_g2.2.2.2.2.2.2.1 rfl ?_
      refine wm_iload_n 1 C dX8_told_g2.2.2.2.2.2.2.2.1 rfl ?_
      refine wm_iload_n 2 C dX8_told_g2.2.2.2.2.2.2.2.2.1 rfl ?_
      obtain ⟨o19, ho20, hf⟩ := bnd hf
      refine wm_callVi (As := [.int v1, .int v2]) (ci := 7) C (c_X8_toldOfKitchen hPl _ _ _ _ ho20) mi_X8_toldOfKitchen wt_X8_131 (hPl 0 (by decide) (by decide)) rfl rfl rfl rfl (by decide) (by decide) (Nat.le_of_ble_eq_true rfl) dX8_told_g2.2.2.2.2.2.2.2.2.2.1 ?_
      refine wm_goto (tgt := 73) C dX8_told_g2.2.2.2.2.2.2.2.2.2.2.1 (by decide) ?_
      exact wm_iret C hrt hf dX8_told_g3.1
  have hf := ho
  unfold f_X8_told at hf
  refine wm_iload_n 2 C dX8_told_g0.1 rfl ?_
  refine wm_if_ne (tgt := 12) C dX8_told_g0.2.1 (by decide) (fun c1 => ?_) (fun c1 => ?_)
  · have hf := (if_neg c1).symm.trans hf
    refine wm_iload_n 2 C dX8_told_g0.2.2.2.2.2.2.1 rfl ?_
    refine wm_iconst (v := 1) C dX8_told_g0.2.2.2.2.2.2.2.1 (by decide) ?_
    refine wm_icmp_ne (tgt := 43) C dX8_told_g0.2.2.2.2.2.2.2.2.1 (by decide) (fun c2 => ?_) (fun c2 => ?_)
    · have hf := (if_neg c2).symm.trans hf
      refine wm_iload_n 2 C dX8_told_g1.2.2.2.2.2.2.2.2.2.1 rfl ?_
      refine wm_iconst (v := 2) C dX8_told_g1.2.2.2.2.2.2.2.2.2.2.1 (by decide) ?_
      refine wm_icmp_eq (tgt := 54) C dX8_told_g1.2.2.2.2.2.2.2.2.2.2.2 (by decide) (fun c3 => ?_) (fun c3 => ?_)
      · have hf := (if_pos c3).symm.trans hf
        exact hb54 _ _ _ hf
      · have hf := (if_neg c3).symm.trans hf
        refine wm_iload_n 2 C dX8_told_g2.1 rfl ?_
        refine wm_bipush (v := 8) C dX8_told_g2.2.1 (by decide) ?_
        refine wm_icmp_ne (tgt := 74) C dX8_told_g2.2.2.1 (by decide) (fun c4 => ?_) (fun c4 => ?_)
        · have hf := (if_neg c4).symm.trans hf
          refine wm_aload_n 0 C dX8_told_g3.2.1 rfl ?_
          refine wm_get (ci := 7) (k := 0) (v := .ref (A 1)) C (hPl 0 (by decide) (by decide)) rfl rfl (by decide) wt_X8_10 iwX8 rfl dX8_told_g3.2.2.1 ?_
          refine wm_iload_n 1 C dX8_told_g3.2.2.2.1 rfl ?_
          obtain ⟨o5, ho6, hf⟩ := bnd hf
          refine wm_callVi (As := [.int v1]) (ci := 1) C (c_X1_hasDish hPl _ _ _ ho6) mi_X1_hasDish wt_X8_134 (hPl 1 (by decide) (by decide)) rfl rfl rfl rfl (by decide) (by decide) (Nat.le_of_ble_eq_true rfl) dX8_told_g3.2.2.2.2.1 ?_
          refine wm_if_eq (tgt := 94) C dX8_told_g3.2.2.2.2.2.1 (by decide) (fun c7 => ?_) (fun c7 => ?_)
          · have hf := (if_pos c7).symm.trans hf
            refine wm_sipush (v := (-1000)) C dX8_told_g3.2.2.2.2.2.2.2.2.2.2.2 (by decide) ?_
            exact wm_iret C hrt hf dX8_told_g4
          · have hf := (if_neg c7).symm.trans hf
            refine wm_aload_n 0 C dX8_told_g3.2.2.2.2.2.2.1 rfl ?_
            refine wm_iload_n 1 C dX8_told_g3.2.2.2.2.2.2.2.1 rfl ?_
            refine wm_iload_n 2 C dX8_told_g3.2.2.2.2.2.2.2.2.1 rfl ?_
            obtain ⟨o8, ho9, hf⟩ := bnd hf
            refine wm_callVi (As := [.int v1, .int v2]) (ci := 7) C (c_X8_toldOfDish hPl _ _ _ _ ho9) mi_X8_toldOfDish wt_X8_137 (hPl 0 (by decide) (by decide)) rfl rfl rfl rfl (by decide) (by decide) (Nat.le_of_ble_eq_true rfl) dX8_told_g3.2.2.2.2.2.2.2.2.2.1 ?_
            refine wm_goto (tgt := 97) C dX8_told_g3.2.2.2.2.2.2.2.2.2.2.1 (by decide) ?_
            exact wm_iret C hrt hf dX8_told_g4
        · have hf := (if_pos c4).symm.trans hf
          exact hb54 _ _ _ hf
    · have hf := (if_pos c2).symm.trans hf
      refine wm_iload_n 1 C dX8_told_g0.2.2.2.2.2.2.2.2.2.1 rfl ?_
      obtain ⟨o10, ho11, hf⟩ := bnd hf
      refine wm_callSi (As := [.int v1]) C (c_X8_isPlace hPl _ _ _ ho11) mi_X8_isPlace wt_X8_125 rfl rfl (by decide) (by decide) (Nat.le_of_ble_eq_true rfl) dX8_told_g0.2.2.2.2.2.2.2.2.2.2.1 ?_
      refine wm_if_eq (tgt := 39) C dX8_told_g0.2.2.2.2.2.2.2.2.2.2.2 (by decide) (fun c12 => ?_) (fun c12 => ?_)
      · have hf := (if_pos c12).symm.trans hf
        refine wm_sipush (v := (-1000)) C dX8_told_g1.2.2.2.2.2.2.2.1 (by decide) ?_
        exact wm_iret C hrt hf dX8_told_g1.2.2.2.2.2.2.2.2.1
      · have hf := (if_neg c12).symm.trans hf
        refine wm_aload_n 0 C dX8_told_g1.1 rfl ?_
        refine wm_get (ci := 7) (k := 0) (v := .ref (A 1)) C (hPl 0 (by decide) (by decide)) rfl rfl (by decide) wt_X8_10 iwX8 rfl dX8_told_g1.2.1 ?_
        refine wm_get (ci := 1) (k := 0) (v := .ref (A 2)) C (hPl 1 (by decide) (by decide)) rfl rfl (by decide) wt_X8_104 iwX1 rfl dX8_told_g1.2.2.1 ?_
        refine wm_iload_n 1 C dX8_told_g1.2.2.2.1 rfl ?_
        obtain ⟨o13, ho14, hf⟩ := bnd hf
        refine wm_callSi (As := [.int v1]) C (c_X8_placeOf hPl _ _ _ ho14) mi_X8_placeOf wt_X8_108 rfl rfl (by decide) (by decide) (Nat.le_of_ble_eq_true rfl) dX8_told_g1.2.2.2.2.1 ?_
        obtain ⟨h15, hf⟩ := ckd hf
        refine wm_iald (n := 12) (j := (o13.1).toNatClampNeg) (v := (o13.2 2 (o13.1).toNatClampNeg)) C (hPl 2 (by decide) (by decide)) rfl rfl rfl h15 rfl rfl dX8_told_g1.2.2.2.2.2.1 ?_
        refine wm_goto (tgt := 42) C dX8_told_g1.2.2.2.2.2.2.1 (by decide) ?_
        exact wm_iret C hrt hf dX8_told_g1.2.2.2.2.2.2.2.2.1
  · have hf := (if_pos c1).symm.trans hf
    refine wm_aload_n 0 C dX8_told_g0.2.2.1 rfl ?_
    refine wm_get (ci := 7) (k := 0) (v := .ref (A 1)) C (hPl 0 (by decide) (by decide)) rfl rfl (by decide) wt_X8_10 iwX8 rfl dX8_told_g0.2.2.2.1 ?_
    refine wm_get (ci := 1) (k := 7) (v := .int (M 1 7)) C (hPl 1 (by decide) (by decide)) rfl rfl (by decide) wt_X8_101 iwX1 rfl dX8_told_g0.2.2.2.2.1 ?_
    exact wm_iret C hrt hf dX8_told_g0.2.2.2.2.2.1
set_option maxHeartbeats 4000000 in
set_option maxRecDepth 100000 in
theorem c_X8_mostOf {l : Launch} {D : va_G} {cA : Nat → ClassId} {A : Nat → Nat} {Pl : List Nat} (hPl : ∀ q, 0 ≤ q → q < 63 → q ∈ Pl) (v0 : Int32) (M : Mem) (out : (Int32 × Mem)) (ho : f_X8_mostOf v0 M = some out) : CtI l D cA A Pl yX8_mostOf cX8_mostOf 1 1 .int [.int v0] M out := by
  refine ct_I (by decide) (Nat.le_of_ble_eq_true rfl) (fun p e s m args below meth c C hrt => ?_)
  have hf := ho
  unfold f_X8_mostOf at hf
  refine wm_iload_n 0 C dX8_mostOf_g0.1 rfl ?_
  by_cases c1 : v0 = 0
  · have hf := (if_pos c1).symm.trans hf
    refine wm_tswI (tgt := 32) (off := 31) C dX8_mostOf_g0.2.1 c1 (by decide) (by decide) (by decide) (by decide) ?_
    refine wm_sipush (v := 999) C dX8_mostOf_g0.2.2.1 (by decide) ?_
    exact wm_iret C hrt hf dX8_mostOf_g0.2.2.2.1
  · have hf := (if_neg c1).symm.trans hf
    by_cases c2 : v0 = 1
    · have hf := (if_pos c2).symm.trans hf
      refine wm_tswI (tgt := 36) (off := 35) C dX8_mostOf_g0.2.1 c2 (by decide) (by decide) (by decide) (by decide) ?_
      refine wm_bipush (v := 99) C dX8_mostOf_g0.2.2.2.2.1 (by decide) ?_
      exact wm_iret C hrt hf dX8_mostOf_g0.2.2.2.2.2.1
    · have hf := (if_neg c2).symm.trans hf
      by_cases c3 : v0 = 2
      · have hf := (if_pos c3).symm.trans hf
        refine wm_tswI (tgt := 39) (off := 38) C dX8_mostOf_g0.2.1 c3 (by decide) (by decide) (by decide) (by decide) ?_
        refine wm_bipush (v := 99) C dX8_mostOf_g0.2.2.2.2.2.2.1 (by decide) ?_
        exact wm_iret C hrt hf dX8_mostOf_g0.2.2.2.2.2.2.2.1
      · have hf := (if_neg c3).symm.trans hf
        by_cases c4 : v0 = 3
        · have hf := (if_pos c4).symm.trans hf
          refine wm_tswI (tgt := 42) (off := 41) C dX8_mostOf_g0.2.1 c4 (by decide) (by decide) (by decide) (by decide) ?_
          refine wm_bipush (v := 9) C dX8_mostOf_g0.2.2.2.2.2.2.2.2.1 (by decide) ?_
          exact wm_iret C hrt hf dX8_mostOf_g0.2.2.2.2.2.2.2.2.2.1
        · have hf := (if_neg c4).symm.trans hf
          have nc1 : ¬ (v0).toInt = 0 := lv_neT c1 (by decide)
          have nc2 : ¬ (v0).toInt = 1 := lv_neT c2 (by decide)
          have nc3 : ¬ (v0).toInt = 2 := lv_neT c3 (by decide)
          have nc4 : ¬ (v0).toInt = 3 := lv_neT c4 (by decide)
          refine wm_tswO (tgt := 45) C dX8_mostOf_g0.2.1 (by omega) (by decide) ?_
          refine wm_ldc (v := 999999) C wt_X8_120 dX8_mostOf_g0.2.2.2.2.2.2.2.2.2.2.1 ?_
          exact wm_iret C hrt hf dX8_mostOf_g0.2.2.2.2.2.2.2.2.2.2.2
set_option maxHeartbeats 4000000 in
set_option maxRecDepth 100000 in
theorem c_X8_set {l : Launch} {D : va_G} {cA : Nat → ClassId} {A : Nat → Nat} {Pl : List Nat} (hPl : ∀ q, 0 ≤ q → q < 63 → q ∈ Pl) (v1 : Int32) (v2 : Int32) (v3 : Int32) (M : Mem) (out : (Int32 × Mem)) (ho : f_X8_set v1 v2 v3 M = some out) : CtI l D cA A Pl yX8_set cX8_set 5 5 .int [.ref (A 0), .int v1, .int v2, .int v3] M out := by
  refine ct_I (by decide) (Nat.le_of_ble_eq_true rfl) (fun p e s m args below meth c C hrt => ?_)
  have hf := ho
  unfold f_X8_set at hf
  refine wm_aload_n 0 C dX8_set_g0.1 rfl ?_
  refine wm_iload_n 2 C dX8_set_g0.2.1 rfl ?_
  refine wm_iload_n 1 C dX8_set_g0.2.2.1 rfl ?_
  obtain ⟨o1, ho2, hf⟩ := bnd hf
  refine wm_callVi (As := [.int v2, .int v1]) (ci := 7) C (c_X8_told hPl _ _ _ _ ho2) mi_X8_told wt_X8_93 (hPl 0 (by decide) (by decide)) rfl rfl rfl rfl (by decide) (by decide) (Nat.le_of_ble_eq_true rfl) dX8_set_g0.2.2.2.1 ?_
  refine wm_istore (lv1 := [(4, .int o1.1), (0, .ref (A 0)), (1, .int v1), (2, .int v2), (3, .int v3)]) C dX8_set_g0.2.2.2.2.1 (by decide) rfl ?_
  refine wm_iload_n 2 C dX8_set_g0.2.2.2.2.2.1 rfl ?_
  refine wm_if_lt (tgt := 37) C dX8_set_g0.2.2.2.2.2.2.1 (by decide) (fun c3 => ?_) (fun c3 => ?_)
  · have hf := (if_pos c3).symm.trans hf
    refine wm_sipush (v := (-1000)) C dX8_set_g1.2.2.2.2.2.2.2.1 (by decide) ?_
    exact wm_iret C hrt hf dX8_set_g1.2.2.2.2.2.2.2.2.1
  · have hf := (if_neg c3).symm.trans hf
    refine wm_iload_n 2 C dX8_set_g0.2.2.2.2.2.2.2.1 rfl ?_
    refine wm_iconst (v := 4) C dX8_set_g0.2.2.2.2.2.2.2.2.1 (by decide) ?_
    refine wm_icmp_gt (tgt := 37) C dX8_set_g0.2.2.2.2.2.2.2.2.2.1 (by decide) (fun c4 => ?_) (fun c4 => ?_)
    · have hf := (if_pos c4).symm.trans hf
      refine wm_sipush (v := (-1000)) C dX8_set_g1.2.2.2.2.2.2.2.1 (by decide) ?_
      exact wm_iret C hrt hf dX8_set_g1.2.2.2.2.2.2.2.2.1
    · have hf := (if_neg c4).symm.trans hf
      refine wm_iload 0 C dX8_set_g0.2.2.2.2.2.2.2.2.2.2.1 rfl ?_
      refine wm_sipush (v := (-1000)) C dX8_set_g0.2.2.2.2.2.2.2.2.2.2.2 (by decide) ?_
      refine wm_icmp_eq (tgt := 37) C dX8_set_g1.1 (by decide) (fun c5 => ?_) (fun c5 => ?_)
      · have hf := (if_pos c5).symm.trans hf
        refine wm_sipush (v := (-1000)) C dX8_set_g1.2.2.2.2.2.2.2.1 (by decide) ?_
        exact wm_iret C hrt hf dX8_set_g1.2.2.2.2.2.2.2.2.1
      · have hf := (if_neg c5).symm.trans hf
        refine wm_iload_n 4 C dX8_set_g1.2.1 rfl ?_
        refine wm_if_lt (tgt := 37) C dX8_set_g1.2.2.1 (by decide) (fun c6 => ?_) (fun c6 => ?_)
        · have hf := (if_pos c6).symm.trans hf
          refine wm_sipush (v := (-1000)) C dX8_set_g1.2.2.2.2.2.2.2.1 (by decide) ?_
          exact wm_iret C hrt hf dX8_set_g1.2.2.2.2.2.2.2.2.1
        · have hf := (if_neg c6).symm.trans hf
          refine wm_iload_n 4 C dX8_set_g1.2.2.2.1 rfl ?_
          refine wm_iload_n 2 C dX8_set_g1.2.2.2.2.1 rfl ?_
          obtain ⟨o7, ho8, hf⟩ := bnd hf
          refine wm_callSi (As := [.int v1]) C (c_X8_mostOf hPl _ _ _ ho8) mi_X8_mostOf wt_X8_97 rfl rfl (by decide) (by decide) (Nat.le_of_ble_eq_true rfl) dX8_set_g1.2.2.2.2.2.1 ?_
          refine wm_icmp_le (tgt := 41) C dX8_set_g1.2.2.2.2.2.2.1 (by decide) (fun c9 => ?_) (fun c9 => ?_)
          · have hf := (if_pos c9).symm.trans hf
            refine wm_iload_n 2 C dX8_set_g1.2.2.2.2.2.2.2.2.2.1 rfl ?_
            by_cases c10 : v1 = 0
            · have hf := (if_pos c10).symm.trans hf
              refine wm_tswI (tgt := 72) (off := 30) C dX8_set_g1.2.2.2.2.2.2.2.2.2.2.1 c10 (by decide) (by decide) (by decide) (by decide) ?_
              refine wm_aload_n 1 C dX8_set_g1.2.2.2.2.2.2.2.2.2.2.2 rfl ?_
              refine wm_get (ci := 7) (k := 0) (v := .ref (A 1)) C (hPl 0 (by decide) (by decide)) rfl rfl (by decide) wt_X8_10 iwX8 rfl dX8_set_g2.1 ?_
              refine wm_iload_n 4 C dX8_set_g2.2.1 rfl ?_
              refine wm_put (ci := 1) (k := 7) (x := v3) C (hPl 1 (by decide) (by decide)) rfl rfl (by decide) wt_X8_101 iwX1 tyX1_ok nmX1 rfl rfl rfl rfl (fun _ => rfl) (Nat.le_of_ble_eq_true rfl) dX8_set_g2.2.2.1 ?_
              refine wm_goto (tgt := 135) C dX8_set_g2.2.2.2.1 (by decide) ?_
              refine wm_iload 0 C dX8_set_g4.2.2.2.2.2.2.2.2.1 rfl ?_
              exact wm_iret C hrt hf dX8_set_g4.2.2.2.2.2.2.2.2.2
            · have hf := (if_neg c10).symm.trans hf
              by_cases c11 : v1 = 1
              · have hf := (if_pos c11).symm.trans hf
                refine wm_tswI (tgt := 83) (off := 41) C dX8_set_g1.2.2.2.2.2.2.2.2.2.2.1 c11 (by decide) (by decide) (by decide) (by decide) ?_
                refine wm_aload_n 1 C dX8_set_g2.2.2.2.2.1 rfl ?_
                refine wm_get (ci := 7) (k := 0) (v := .ref (A 1)) C (hPl 0 (by decide) (by decide)) rfl rfl (by decide) wt_X8_10 iwX8 rfl dX8_set_g2.2.2.2.2.2.1 ?_
                refine wm_get (ci := 1) (k := 0) (v := .ref (A 2)) C (hPl 1 (by decide) (by decide)) rfl rfl (by decide) wt_X8_104 iwX1 rfl dX8_set_g2.2.2.2.2.2.2.1 ?_
                refine wm_iload_n 3 C dX8_set_g2.2.2.2.2.2.2.2.1 rfl ?_
                obtain ⟨o12, ho13, hf⟩ := bnd hf
                refine wm_callSi (As := [.int v2]) C (c_X8_placeOf hPl _ _ _ ho13) mi_X8_placeOf wt_X8_108 rfl rfl (by decide) (by decide) (Nat.le_of_ble_eq_true rfl) dX8_set_g2.2.2.2.2.2.2.2.2.1 ?_
                refine wm_iload_n 4 C dX8_set_g2.2.2.2.2.2.2.2.2.2.1 rfl ?_
                obtain ⟨h14, hf⟩ := ckd hf
                refine wm_iast (n := 12) (j := (o12.1).toNatClampNeg) (x := v3) C (hPl 2 (by decide) (by decide)) rfl rfl rfl h14 rfl dX8_set_g2.2.2.2.2.2.2.2.2.2.2.1 ?_
                refine wm_goto (tgt := 135) C dX8_set_g2.2.2.2.2.2.2.2.2.2.2.2 (by decide) ?_
                refine wm_iload 0 C dX8_set_g4.2.2.2.2.2.2.2.2.1 rfl ?_
                exact wm_iret C hrt hf dX8_set_g4.2.2.2.2.2.2.2.2.2
              · have hf := (if_neg c11).symm.trans hf
                by_cases c15 : v1 = 2
                · have hf := (if_pos c15).symm.trans hf
                  refine wm_tswI (tgt := 99) (off := 57) C dX8_set_g1.2.2.2.2.2.2.2.2.2.2.1 c15 (by decide) (by decide) (by decide) (by decide) ?_
                  refine wm_aload_n 1 C dX8_set_g3.1 rfl ?_
                  refine wm_get (ci := 7) (k := 0) (v := .ref (A 1)) C (hPl 0 (by decide) (by decide)) rfl rfl (by decide) wt_X8_10 iwX8 rfl dX8_set_g3.2.1 ?_
                  refine wm_get (ci := 1) (k := 1) (v := .ref (A 3)) C (hPl 1 (by decide) (by decide)) rfl rfl (by decide) wt_X8_111 iwX1 rfl dX8_set_g3.2.2.1 ?_
                  refine wm_iload_n 3 C dX8_set_g3.2.2.2.1 rfl ?_
                  refine wm_iload_n 4 C dX8_set_g3.2.2.2.2.1 rfl ?_
                  obtain ⟨h16, hf⟩ := ckd hf
                  refine wm_iast (n := 2) (j := (v2).toNatClampNeg) (x := v3) C (hPl 3 (by decide) (by decide)) rfl rfl rfl h16 rfl dX8_set_g3.2.2.2.2.2.1 ?_
                  refine wm_goto (tgt := 135) C dX8_set_g3.2.2.2.2.2.2.1 (by decide) ?_
                  refine wm_iload 0 C dX8_set_g4.2.2.2.2.2.2.2.2.1 rfl ?_
                  exact wm_iret C hrt hf dX8_set_g4.2.2.2.2.2.2.2.2.2
                · have hf := (if_neg c15).symm.trans hf
                  by_cases c17 : v1 = 3
                  · have hf := (if_pos c17).symm.trans hf
                    refine wm_tswI (tgt := 112) (off := 70) C dX8_set_g1.2.2.2.2.2.2.2.2.2.2.1 c17 (by decide) (by decide) (by decide) (by decide) ?_
                    refine wm_aload_n 1 C dX8_set_g3.2.2.2.2.2.2.2.1 rfl ?_
                    refine wm_get (ci := 7) (k := 0) (v := .ref (A 1)) C (hPl 0 (by decide) (by decide)) rfl rfl (by decide) wt_X8_10 iwX8 rfl dX8_set_g3.2.2.2.2.2.2.2.2.1 ?_
                    refine wm_get (ci := 1) (k := 3) (v := .ref (A 5)) C (hPl 1 (by decide) (by decide)) rfl rfl (by decide) wt_X8_114 iwX1 rfl dX8_set_g3.2.2.2.2.2.2.2.2.2.1 ?_
                    refine wm_iload_n 3 C dX8_set_g3.2.2.2.2.2.2.2.2.2.2.1 rfl ?_
                    refine wm_iload_n 4 C dX8_set_g3.2.2.2.2.2.2.2.2.2.2.2 rfl ?_
                    obtain ⟨h18, hf⟩ := ckd hf
                    refine wm_iast (n := 6) (j := (v2).toNatClampNeg) (x := v3) C (hPl 5 (by decide) (by decide)) rfl rfl rfl h18 rfl dX8_set_g4.1 ?_
                    refine wm_goto (tgt := 135) C dX8_set_g4.2.1 (by decide) ?_
                    refine wm_iload 0 C dX8_set_g4.2.2.2.2.2.2.2.2.1 rfl ?_
                    exact wm_iret C hrt hf dX8_set_g4.2.2.2.2.2.2.2.2.2
                  · have hf := (if_neg c17).symm.trans hf
                    have nc10 : ¬ (v1).toInt = 0 := lv_neT c10 (by decide)
                    have nc11 : ¬ (v1).toInt = 1 := lv_neT c11 (by decide)
                    have nc15 : ¬ (v1).toInt = 2 := lv_neT c15 (by decide)
                    have nc17 : ¬ (v1).toInt = 3 := lv_neT c17 (by decide)
                    refine wm_tswO (tgt := 125) C dX8_set_g1.2.2.2.2.2.2.2.2.2.2.1 (by omega) (by decide) ?_
                    refine wm_aload_n 1 C dX8_set_g4.2.2.1 rfl ?_
                    refine wm_get (ci := 7) (k := 0) (v := .ref (A 1)) C (hPl 0 (by decide) (by decide)) rfl rfl (by decide) wt_X8_10 iwX8 rfl dX8_set_g4.2.2.2.1 ?_
                    refine wm_get (ci := 1) (k := 4) (v := .ref (A 6)) C (hPl 1 (by decide) (by decide)) rfl rfl (by decide) wt_X8_117 iwX1 rfl dX8_set_g4.2.2.2.2.1 ?_
                    refine wm_iload_n 3 C dX8_set_g4.2.2.2.2.2.1 rfl ?_
                    refine wm_iload_n 4 C dX8_set_g4.2.2.2.2.2.2.1 rfl ?_
                    obtain ⟨h19, hf⟩ := ckd hf
                    refine wm_iast (n := 6) (j := (v2).toNatClampNeg) (x := v3) C (hPl 6 (by decide) (by decide)) rfl rfl rfl h19 rfl dX8_set_g4.2.2.2.2.2.2.2.1 ?_
                    refine wm_iload 0 C dX8_set_g4.2.2.2.2.2.2.2.2.1 rfl ?_
                    exact wm_iret C hrt hf dX8_set_g4.2.2.2.2.2.2.2.2.2
          · have hf := (if_neg c9).symm.trans hf
            refine wm_sipush (v := (-1000)) C dX8_set_g1.2.2.2.2.2.2.2.1 (by decide) ?_
            exact wm_iret C hrt hf dX8_set_g1.2.2.2.2.2.2.2.2.1
set_option maxHeartbeats 4000000 in
set_option maxRecDepth 100000 in
theorem c_X1_addDish {l : Launch} {D : va_G} {cA : Nat → ClassId} {A : Nat → Nat} {Pl : List Nat} (hPl : ∀ q, 0 ≤ q → q < 63 → q ∈ Pl) (v1 : Int32) (v2 : Int32) (v3 : Int32) (M : Mem) (out : (Int32 × Mem)) (ho : f_X1_addDish v1 v2 v3 M = some out) : CtI l D cA A Pl yX1_addDish cX1_addDish 4 1 .int [.ref (A 1), .int v1, .int v2, .int v3] M out := by
  refine ct_I (by decide) (Nat.le_of_ble_eq_true rfl) (fun p e s m args below meth c C hrt => ?_)
  have hf := ho
  unfold f_X1_addDish at hf
  refine wm_aload_n 0 C dX1_addDish_g0.1 rfl ?_
  refine wm_get (ci := 1) (k := 6) (v := .int (M 1 6)) C (hPl 1 (by decide) (by decide)) rfl rfl (by decide) wt_X1_30 iwX1 rfl dX1_addDish_g0.2.1 ?_
  refine wm_bipush (v := 6) C dX1_addDish_g0.2.2.1 (by decide) ?_
  refine wm_icmp_lt (tgt := 12) C dX1_addDish_g0.2.2.2.1 (by decide) (fun c1 => ?_) (fun c1 => ?_)
  · have hf := (if_pos c1).symm.trans hf
    refine wm_aload_n 0 C dX1_addDish_g0.2.2.2.2.2.2.1 rfl ?_
    refine wm_get (ci := 1) (k := 2) (v := .ref (A 4)) C (hPl 1 (by decide) (by decide)) rfl rfl (by decide) wt_X1_18 iwX1 rfl dX1_addDish_g0.2.2.2.2.2.2.2.1 ?_
    refine wm_aload_n 0 C dX1_addDish_g0.2.2.2.2.2.2.2.2.1 rfl ?_
    refine wm_get (ci := 1) (k := 6) (v := .int (M 1 6)) C (hPl 1 (by decide) (by decide)) rfl rfl (by decide) wt_X1_30 iwX1 rfl dX1_addDish_g0.2.2.2.2.2.2.2.2.2.1 ?_
    refine wm_iload_n 1 C dX1_addDish_g0.2.2.2.2.2.2.2.2.2.2.1 rfl ?_
    obtain ⟨h2, hf⟩ := ckd hf
    refine wm_iast (n := 6) (j := ((M 1 6)).toNatClampNeg) (x := v1) C (hPl 4 (by decide) (by decide)) rfl rfl rfl h2 rfl dX1_addDish_g0.2.2.2.2.2.2.2.2.2.2.2 ?_
    refine wm_aload_n 0 C dX1_addDish_g1.1 rfl ?_
    refine wm_get (ci := 1) (k := 3) (v := .ref (A 5)) C (hPl 1 (by decide) (by decide)) rfl rfl (by decide) wt_X1_21 iwX1 (by first | rfl | simp [fld, mu, upd, mcp]) dX1_addDish_g1.2.1 ?_
    refine wm_aload_n 0 C dX1_addDish_g1.2.2.1 rfl ?_
    refine wm_get (ci := 1) (k := 6) (v := .int (M 1 6)) C (hPl 1 (by decide) (by decide)) rfl rfl (by decide) wt_X1_30 iwX1 (by first | rfl | simp [fld, mu, upd, mcp]) dX1_addDish_g1.2.2.2.1 ?_
    refine wm_iload_n 2 C dX1_addDish_g1.2.2.2.2.1 rfl ?_
    refine wm_iast (n := 6) (j := ((M 1 6)).toNatClampNeg) (x := v2) C (hPl 5 (by decide) (by decide)) rfl rfl rfl h2 rfl dX1_addDish_g1.2.2.2.2.2.1 ?_
    refine wm_aload_n 0 C dX1_addDish_g1.2.2.2.2.2.2.1 rfl ?_
    refine wm_get (ci := 1) (k := 4) (v := .ref (A 6)) C (hPl 1 (by decide) (by decide)) rfl rfl (by decide) wt_X1_24 iwX1 (by first | rfl | simp [fld, mu, upd, mcp]) dX1_addDish_g1.2.2.2.2.2.2.2.1 ?_
    refine wm_aload_n 0 C dX1_addDish_g1.2.2.2.2.2.2.2.2.1 rfl ?_
    refine wm_get (ci := 1) (k := 6) (v := .int (M 1 6)) C (hPl 1 (by decide) (by decide)) rfl rfl (by decide) wt_X1_30 iwX1 (by first | rfl | simp [fld, mu, upd, mcp]) dX1_addDish_g1.2.2.2.2.2.2.2.2.2.1 ?_
    refine wm_iload_n 3 C dX1_addDish_g1.2.2.2.2.2.2.2.2.2.2.1 rfl ?_
    refine wm_iast (n := 6) (j := ((M 1 6)).toNatClampNeg) (x := v3) C (hPl 6 (by decide) (by decide)) rfl rfl rfl h2 rfl dX1_addDish_g1.2.2.2.2.2.2.2.2.2.2.2 ?_
    refine wm_aload_n 0 C dX1_addDish_g2.1 rfl ?_
    refine wm_get (ci := 1) (k := 5) (v := .ref (A 7)) C (hPl 1 (by decide) (by decide)) rfl rfl (by decide) wt_X1_27 iwX1 (by first | rfl | simp [fld, mu, upd, mcp]) dX1_addDish_g2.2.1 ?_
    refine wm_aload_n 0 C dX1_addDish_g2.2.2.1 rfl ?_
    refine wm_get (ci := 1) (k := 6) (v := .int (M 1 6)) C (hPl 1 (by decide) (by decide)) rfl rfl (by decide) wt_X1_30 iwX1 (by first | rfl | simp [fld, mu, upd, mcp]) dX1_addDish_g2.2.2.2.1 ?_
    refine wm_iconst (v := 0) C dX1_addDish_g2.2.2.2.2.1 (by decide) ?_
    refine wm_iast (n := 6) (j := ((M 1 6)).toNatClampNeg) (x := 0) C (hPl 7 (by decide) (by decide)) rfl rfl rfl h2 rfl dX1_addDish_g2.2.2.2.2.2.1 ?_
    refine wm_aload_n 0 C dX1_addDish_g2.2.2.2.2.2.2.1 rfl ?_
    refine wm_dup C dX1_addDish_g2.2.2.2.2.2.2.2.1 rfl ?_
    refine wm_get (ci := 1) (k := 6) (v := .int (M 1 6)) C (hPl 1 (by decide) (by decide)) rfl rfl (by decide) wt_X1_30 iwX1 (by first | rfl | simp [fld, mu, upd, mcp]) dX1_addDish_g2.2.2.2.2.2.2.2.2.1 ?_
    refine wm_iconst (v := 1) C dX1_addDish_g2.2.2.2.2.2.2.2.2.2.1 (by decide) ?_
    refine wm_iadd C dX1_addDish_g2.2.2.2.2.2.2.2.2.2.2.1 ?_
    refine wm_put (ci := 1) (k := 6) (x := ((M 1 6) + 1)) C (hPl 1 (by decide) (by decide)) rfl rfl (by decide) wt_X1_30 iwX1 tyX1_ok nmX1 rfl rfl rfl rfl (fun _ => rfl) (Nat.le_of_ble_eq_true rfl) dX1_addDish_g2.2.2.2.2.2.2.2.2.2.2.2 ?_
    refine wm_aload_n 0 C dX1_addDish_g3.1 rfl ?_
    refine wm_get (ci := 1) (k := 6) (v := .int ((M 1 6) + 1)) C (hPl 1 (by decide) (by decide)) rfl rfl (by decide) wt_X1_30 iwX1 (by first | rfl | simp [fld, mu, upd, mcp]) dX1_addDish_g3.2.1 ?_
    refine wm_iconst (v := 1) C dX1_addDish_g3.2.2.1 (by decide) ?_
    refine wm_isub C dX1_addDish_g3.2.2.2.1 ?_
    exact wm_iret C hrt hf dX1_addDish_g3.2.2.2.2
  · have hf := (if_neg c1).symm.trans hf
    refine wm_bipush (v := (-4)) C dX1_addDish_g0.2.2.2.2.1 (by decide) ?_
    exact wm_iret C hrt hf dX1_addDish_g0.2.2.2.2.2.1
set_option maxHeartbeats 4000000 in
set_option maxRecDepth 100000 in
theorem c_X8_dish {l : Launch} {D : va_G} {cA : Nat → ClassId} {A : Nat → Nat} {Pl : List Nat} (hPl : ∀ q, 0 ≤ q → q < 63 → q ∈ Pl) (v1 : Int32) (v2 : Int32) (v3 : Int32) (M : Mem) (out : (Int32 × Mem)) (ho : f_X8_dish v1 v2 v3 M = some out) : CtI l D cA A Pl yX8_dish cX8_dish 4 2 .int [.ref (A 0), .int v1, .int v2, .int v3] M out := by
  refine ct_I (by decide) (Nat.le_of_ble_eq_true rfl) (fun p e s m args below meth c C hrt => ?_)
  have hf := ho
  unfold f_X8_dish at hf
  refine wm_iload_n 1 C dX8_dish_g0.1 rfl ?_
  refine wm_if_lt (tgt := 30) C dX8_dish_g0.2.1 (by decide) (fun c1 => ?_) (fun c1 => ?_)
  · have hf := (if_pos c1).symm.trans hf
    refine wm_bipush (v := (-2)) C dX8_dish_g1.2.2.2.1 (by decide) ?_
    exact wm_iret C hrt hf dX8_dish_g1.2.2.2.2.1
  · have hf := (if_neg c1).symm.trans hf
    refine wm_iload_n 1 C dX8_dish_g0.2.2.1 rfl ?_
    refine wm_bipush (v := 6) C dX8_dish_g0.2.2.2.1 (by decide) ?_
    refine wm_icmp_ge (tgt := 30) C dX8_dish_g0.2.2.2.2.1 (by decide) (fun c2 => ?_) (fun c2 => ?_)
    · have hf := (if_pos c2).symm.trans hf
      refine wm_bipush (v := (-2)) C dX8_dish_g1.2.2.2.1 (by decide) ?_
      exact wm_iret C hrt hf dX8_dish_g1.2.2.2.2.1
    · have hf := (if_neg c2).symm.trans hf
      refine wm_iload_n 2 C dX8_dish_g0.2.2.2.2.2.1 rfl ?_
      refine wm_if_lt (tgt := 30) C dX8_dish_g0.2.2.2.2.2.2.1 (by decide) (fun c3 => ?_) (fun c3 => ?_)
      · have hf := (if_pos c3).symm.trans hf
        refine wm_bipush (v := (-2)) C dX8_dish_g1.2.2.2.1 (by decide) ?_
        exact wm_iret C hrt hf dX8_dish_g1.2.2.2.2.1
      · have hf := (if_neg c3).symm.trans hf
        refine wm_iload_n 2 C dX8_dish_g0.2.2.2.2.2.2.2.1 rfl ?_
        refine wm_bipush (v := 9) C dX8_dish_g0.2.2.2.2.2.2.2.2.1 (by decide) ?_
        refine wm_icmp_gt (tgt := 30) C dX8_dish_g0.2.2.2.2.2.2.2.2.2.1 (by decide) (fun c4 => ?_) (fun c4 => ?_)
        · have hf := (if_pos c4).symm.trans hf
          refine wm_bipush (v := (-2)) C dX8_dish_g1.2.2.2.1 (by decide) ?_
          exact wm_iret C hrt hf dX8_dish_g1.2.2.2.2.1
        · have hf := (if_neg c4).symm.trans hf
          refine wm_iload_n 3 C dX8_dish_g0.2.2.2.2.2.2.2.2.2.2.1 rfl ?_
          refine wm_if_lt (tgt := 30) C dX8_dish_g0.2.2.2.2.2.2.2.2.2.2.2 (by decide) (fun c5 => ?_) (fun c5 => ?_)
          · have hf := (if_pos c5).symm.trans hf
            refine wm_bipush (v := (-2)) C dX8_dish_g1.2.2.2.1 (by decide) ?_
            exact wm_iret C hrt hf dX8_dish_g1.2.2.2.2.1
          · have hf := (if_neg c5).symm.trans hf
            refine wm_iload_n 3 C dX8_dish_g1.1 rfl ?_
            refine wm_ldc (v := 999999) C wt_X8_120 dX8_dish_g1.2.1 ?_
            refine wm_icmp_le (tgt := 33) C dX8_dish_g1.2.2.1 (by decide) (fun c6 => ?_) (fun c6 => ?_)
            · have hf := (if_pos c6).symm.trans hf
              refine wm_aload_n 0 C dX8_dish_g1.2.2.2.2.2.1 rfl ?_
              refine wm_get (ci := 7) (k := 0) (v := .ref (A 1)) C (hPl 0 (by decide) (by decide)) rfl rfl (by decide) wt_X8_10 iwX8 rfl dX8_dish_g1.2.2.2.2.2.2.1 ?_
              refine wm_iload_n 1 C dX8_dish_g1.2.2.2.2.2.2.2.1 rfl ?_
              refine wm_iload_n 2 C dX8_dish_g1.2.2.2.2.2.2.2.2.1 rfl ?_
              refine wm_iload_n 3 C dX8_dish_g1.2.2.2.2.2.2.2.2.2.1 rfl ?_
              obtain ⟨o7, ho8, hf⟩ := bnd hf
              refine wm_callVi (As := [.int v1, .int v2, .int v3]) (ci := 1) C (c_X1_addDish hPl _ _ _ _ _ ho8) mi_X1_addDish wt_X8_121 (hPl 1 (by decide) (by decide)) rfl rfl rfl rfl (by decide) (by decide) (Nat.le_of_ble_eq_true rfl) dX8_dish_g1.2.2.2.2.2.2.2.2.2.2.1 ?_
              exact wm_iret C hrt hf dX8_dish_g1.2.2.2.2.2.2.2.2.2.2.2
            · have hf := (if_neg c6).symm.trans hf
              refine wm_bipush (v := (-2)) C dX8_dish_g1.2.2.2.1 (by decide) ?_
              exact wm_iret C hrt hf dX8_dish_g1.2.2.2.2.1
set_option maxHeartbeats 4000000 in
set_option maxRecDepth 100000 in
theorem c_X0_ruleBy {l : Launch} {D : va_G} {cA : Nat → ClassId} {A : Nat → Nat} {Pl : List Nat} (hPl : ∀ q, 0 ≤ q → q < 63 → q ∈ Pl) (v1 : Int32) (M : Mem) (out : Mem) (ho : f_X0_ruleBy v1 M = some out) : CtV l D cA A Pl yX0_ruleBy cX0_ruleBy 2 1 [.ref (A 36), .int v1] M out := by
  refine ct_V (by decide) (Nat.le_of_ble_eq_true rfl) (fun p e s m args below meth c C hrt => ?_)
  have hf := ho
  unfold f_X0_ruleBy at hf
  refine wm_iload_n 1 C dX0_ruleBy_g0.1 rfl ?_
  refine wm_if_lt (tgt := 23) C dX0_ruleBy_g0.2.1 (by decide) (fun c1 => ?_) (fun c1 => ?_)
  · have hf := (if_pos c1).symm.trans hf
    exact wm_vret C hrt hf dX0_ruleBy_g1.2
  · have hf := (if_neg c1).symm.trans hf
    refine wm_iload_n 1 C dX0_ruleBy_g0.2.2.1 rfl ?_
    refine wm_aload_n 0 C dX0_ruleBy_g0.2.2.2.1 rfl ?_
    refine wm_get (ci := 0) (k := 0) (v := .ref (A 15)) C (hPl 36 (by decide) (by decide)) rfl rfl (by decide) wt_X0_59 iwX0 rfl dX0_ruleBy_g0.2.2.2.2.1 ?_
    refine wm_alen15 C (hPl 15 (by decide) (by decide)) dX0_ruleBy_g0.2.2.2.2.2.1 ?_
    refine wm_icmp_ge (tgt := 23) C dX0_ruleBy_g0.2.2.2.2.2.2.1 (by decide) (fun c2 => ?_) (fun c2 => ?_)
    · have hf := (if_pos c2).symm.trans hf
      exact wm_vret C hrt hf dX0_ruleBy_g1.2
    · have hf := (if_neg c2).symm.trans hf
      refine wm_aload_n 0 C dX0_ruleBy_g0.2.2.2.2.2.2.2.1 rfl ?_
      refine wm_aload_n 0 C dX0_ruleBy_g0.2.2.2.2.2.2.2.2.1 rfl ?_
      refine wm_get (ci := 0) (k := 0) (v := .ref (A 15)) C (hPl 36 (by decide) (by decide)) rfl rfl (by decide) wt_X0_59 iwX0 rfl dX0_ruleBy_g0.2.2.2.2.2.2.2.2.2.1 ?_
      refine wm_iload_n 1 C dX0_ruleBy_g0.2.2.2.2.2.2.2.2.2.2.1 rfl ?_
      obtain ⟨h3, hf⟩ := ckd hf
      refine wm_aald15 (j := (v1).toNatClampNeg) C (hPl 15 (by decide) (by decide)) h3 rfl dX0_ruleBy_g0.2.2.2.2.2.2.2.2.2.2.2 ?_
      obtain ⟨h4, hf⟩ := ckd hf
      refine wm_rswap (rsw (of_decide_eq_true h4)) ?_
      refine wm_put (ci := 0) (k := 1) (x := (Int32.ofNat (16 + 3 * (v1).toNatClampNeg))) C (hPl 36 (by decide) (by decide)) rfl rfl (by decide) wt_X0_63 iwX0 tyX0_ok nmX0 rfl rfl rfl rfl (fun _ => rfl) (Nat.le_of_ble_eq_true rfl) dX0_ruleBy_g1.1 ?_
      exact wm_vret C hrt hf dX0_ruleBy_g1.2
set_option maxHeartbeats 4000000 in
set_option maxRecDepth 100000 in
theorem c_X0_takeUp {l : Launch} {D : va_G} {cA : Nat → ClassId} {A : Nat → Nat} {Pl : List Nat} (hPl : ∀ q, 0 ≤ q → q < 63 → q ∈ Pl) (v2 : Int32) (M : Mem) (out : Mem) (ho : f_X0_takeUp v2 M = some out) : CtV l D cA A Pl yX0_takeUp cX0_takeUp 4 3 [.ref (A 36), .ref (A 1), .int v2] M out := by
  refine ct_V (by decide) (Nat.le_of_ble_eq_true rfl) (fun p e s m args below meth c C hrt => ?_)
  have hl30 : ∀ (k53 : Int32 → Mem → Option Mem) (hk53 : ∀ (v2 : Int32) (M : Mem), k53 v2 M = some out → WM p l e (RM 3) s m args below meth c 0 0 (MQ below (QV D cA A Pl out) args s 0 0 (FA A Pl)) D cA A Pl (FA A Pl) 4 M 53 [(0, .ref (A 36)), (1, .ref (A 1)), (2, .int v2)] []) (n : Nat), ∀ (v2 : Int32) (v3 : Int32) (M : Mem), f_X0_takeUp_l30 k53 n v2 v3 M = some out → WM p l e (RM 3) s m args below meth c 0 0 (MQ below (QV D cA A Pl out) args s 0 0 (FA A Pl)) D cA A Pl (FA A Pl) 4 M 30 [(0, .ref (A 36)), (1, .ref (A 1)), (2, .int v2), (3, .int v3)] [] := by
    intro k53 hk53 n
    induction n with
    | zero => intro v2 v3 M hf; rw [f_X0_takeUp_l30] at hf; cases hf
    | succ n hr =>
      intro v2 v3 M hf
      rw [f_X0_takeUp_l30] at hf
      refine wm_iload_n 3 C dX0_takeUp_g1.2.2.2.2.2.2.1 rfl ?_
      refine wm_iconst (v := 2) C dX0_takeUp_g1.2.2.2.2.2.2.2.1 (by decide) ?_
      refine wm_icmp_ge (tgt := 53) C dX0_takeUp_g1.2.2.2.2.2.2.2.2.1 (by decide) (fun c6 => ?_) (fun c6 => ?_)
      · have hf := (if_pos c6).symm.trans hf
        refine wm_pick [0, 1, 2] rfl ?_
        exact hk53 _ _ hf
      · have hf := (if_neg c6).symm.trans hf
        refine wm_aload_n 0 C dX0_takeUp_g1.2.2.2.2.2.2.2.2.2.1 rfl ?_
        refine wm_get (ci := 0) (k := 5) (v := .ref (A 37)) C (hPl 36 (by decide) (by decide)) rfl rfl (by decide) wt_X0_21 iwX0 rfl dX0_takeUp_g1.2.2.2.2.2.2.2.2.2.2.1 ?_
        refine wm_iload_n 3 C dX0_takeUp_g1.2.2.2.2.2.2.2.2.2.2.2 rfl ?_
        refine wm_aload_n 1 C dX0_takeUp_g2.1 rfl ?_
        refine wm_get (ci := 1) (k := 1) (v := .ref (A 3)) C (hPl 1 (by decide) (by decide)) rfl rfl (by decide) wt_X0_76 iwX1 rfl dX0_takeUp_g2.2.1 ?_
        refine wm_iload_n 3 C dX0_takeUp_g2.2.2.1 rfl ?_
        obtain ⟨h7, hf⟩ := ckd hf
        refine wm_iald (n := 2) (j := (v3).toNatClampNeg) (v := (M 3 (v3).toNatClampNeg)) C (hPl 3 (by decide) (by decide)) rfl rfl rfl h7 rfl rfl dX0_takeUp_g2.2.2.2.1 ?_
        refine wm_iast (n := 2) (j := (v3).toNatClampNeg) (x := (M 3 (v3).toNatClampNeg)) C (hPl 37 (by decide) (by decide)) rfl rfl rfl h7 rfl dX0_takeUp_g2.2.2.2.2.1 ?_
        refine wm_iinc (lv1 := [(3, .int (v3 + 1)), (0, .ref (A 36)), (1, .ref (A 1)), (2, .int v2)]) (v := (v3 + 1)) 3 C dX0_takeUp_g2.2.2.2.2.2.1 rfl (by first | rfl | decide) (by decide) rfl ?_
        refine wm_goto (tgt := 30) C dX0_takeUp_g2.2.2.2.2.2.2.1 (by decide) ?_
        refine wm_pick [1, 2, 3, 0] rfl ?_
        exact hr _ _ _ hf
  have hl55 : ∀ (k79 : Int32 → Mem → Option Mem) (hk79 : ∀ (v2 : Int32) (M : Mem), k79 v2 M = some out → WM p l e (RM 3) s m args below meth c 0 0 (MQ below (QV D cA A Pl out) args s 0 0 (FA A Pl)) D cA A Pl (FA A Pl) 4 M 79 [(0, .ref (A 36)), (1, .ref (A 1)), (2, .int v2)] []) (n : Nat), ∀ (v2 : Int32) (v3 : Int32) (M : Mem), f_X0_takeUp_l55 k79 n v2 v3 M = some out → WM p l e (RM 3) s m args below meth c 0 0 (MQ below (QV D cA A Pl out) args s 0 0 (FA A Pl)) D cA A Pl (FA A Pl) 4 M 55 [(0, .ref (A 36)), (1, .ref (A 1)), (2, .int v2), (3, .int v3)] [] := by
    intro k79 hk79 n
    induction n with
    | zero => intro v2 v3 M hf; rw [f_X0_takeUp_l55] at hf; cases hf
    | succ n hr =>
      intro v2 v3 M hf
      rw [f_X0_takeUp_l55] at hf
      refine wm_iload_n 3 C dX0_takeUp_g2.2.2.2.2.2.2.2.2.2.1 rfl ?_
      refine wm_bipush (v := 6) C dX0_takeUp_g2.2.2.2.2.2.2.2.2.2.2.1 (by decide) ?_
      refine wm_icmp_ge (tgt := 79) C dX0_takeUp_g2.2.2.2.2.2.2.2.2.2.2.2 (by decide) (fun c2 => ?_) (fun c2 => ?_)
      · have hf := (if_pos c2).symm.trans hf
        refine wm_pick [0, 1, 2] rfl ?_
        exact hk79 _ _ hf
      · have hf := (if_neg c2).symm.trans hf
        refine wm_aload_n 0 C dX0_takeUp_g3.1 rfl ?_
        refine wm_get (ci := 0) (k := 6) (v := .ref (A 38)) C (hPl 36 (by decide) (by decide)) rfl rfl (by decide) wt_X0_25 iwX0 rfl dX0_takeUp_g3.2.1 ?_
        refine wm_iload_n 3 C dX0_takeUp_g3.2.2.1 rfl ?_
        refine wm_aload_n 1 C dX0_takeUp_g3.2.2.2.1 rfl ?_
        refine wm_iload_n 2 C dX0_takeUp_g3.2.2.2.2.1 rfl ?_
        refine wm_iload_n 3 C dX0_takeUp_g3.2.2.2.2.2.1 rfl ?_
        obtain ⟨o3, ho4, hf⟩ := bnd hf
        refine wm_callVi (As := [.int v2, .int v3]) (ci := 1) C (c_X1_needsOf hPl _ _ _ _ ho4) mi_X1_needsOf wt_X0_77 (hPl 1 (by decide) (by decide)) rfl rfl rfl rfl (by decide) (by decide) (Nat.le_of_ble_eq_true rfl) dX0_takeUp_g3.2.2.2.2.2.2.1 ?_
        obtain ⟨h5, hf⟩ := ckd hf
        refine wm_iast (n := 6) (j := (v3).toNatClampNeg) (x := o3.1) C (hPl 38 (by decide) (by decide)) rfl rfl rfl h5 rfl dX0_takeUp_g3.2.2.2.2.2.2.2.1 ?_
        refine wm_iinc (lv1 := [(3, .int (v3 + 1)), (0, .ref (A 36)), (1, .ref (A 1)), (2, .int v2)]) (v := (v3 + 1)) 3 C dX0_takeUp_g3.2.2.2.2.2.2.2.2.1 rfl (by first | rfl | decide) (by decide) rfl ?_
        refine wm_goto (tgt := 55) C dX0_takeUp_g3.2.2.2.2.2.2.2.2.2.1 (by decide) ?_
        refine wm_pick [1, 2, 3, 0] rfl ?_
        exact hr _ _ _ hf
  have hb79 : ∀ (v2 : Int32) (M : Mem), f_X0_takeUp_b79 v2 M = some out → WM p l e (RM 3) s m args below meth c 0 0 (MQ below (QV D cA A Pl out) args s 0 0 (FA A Pl)) D cA A Pl (FA A Pl) 4 M 79 [(0, .ref (A 36)), (1, .ref (A 1)), (2, .int v2)] [] := by
    intro v2 M hf
    unfold f_X0_takeUp_b79 at hf
    refine wm_aload_n 0 C dX0_takeUp_g3.2.2.2.2.2.2.2.2.2.2.1 rfl ?_
    refine wm_aload_n 1 C dX0_takeUp_g3.2.2.2.2.2.2.2.2.2.2.2 rfl ?_
    refine wm_iload_n 2 C dX0_takeUp_g4.1 rfl ?_
    obtain ⟨o8, ho9, hf⟩ := bnd hf
    refine wm_callVi (As := [.int v2]) (ci := 1) C (c_X1_needsTogether hPl _ _ _ ho9) mi_X1_needsTogether wt_X0_81 (hPl 1 (by decide) (by decide)) rfl rfl rfl rfl (by decide) (by decide) (Nat.le_of_ble_eq_true rfl) dX0_takeUp_g4.2.1 ?_
    refine wm_put (ci := 0) (k := 7) (x := o8.1) C (hPl 36 (by decide) (by decide)) rfl rfl (by decide) wt_X0_28 iwX0 tyX0_ok nmX0 rfl rfl rfl rfl (fun _ => rfl) (Nat.le_of_ble_eq_true rfl) dX0_takeUp_g4.2.2.1 ?_
    refine wm_aload_n 0 C dX0_takeUp_g4.2.2.2.1 rfl ?_
    refine wm_aload_n 1 C dX0_takeUp_g4.2.2.2.2.1 rfl ?_
    refine wm_get (ci := 1) (k := 8) (v := .int (o8.2 1 8)) C (hPl 1 (by decide) (by decide)) rfl rfl (by decide) wt_X0_84 iwX1 (by first | rfl | simp [fld, mu, upd, mcp]) dX0_takeUp_g4.2.2.2.2.2.1 ?_
    obtain ⟨o10, ho11, hf⟩ := bnd hf
    refine wm_callVv (As := [.int (o8.2 1 8)]) (ci := 0) C (c_X0_ruleBy hPl _ _ _ ho11) mi_X0_ruleBy wt_X0_86 (hPl 36 (by decide) (by decide)) rfl rfl rfl rfl (by decide) (by decide) (Nat.le_of_ble_eq_true rfl) dX0_takeUp_g4.2.2.2.2.2.2.1 ?_
    exact wm_vret C hrt hf dX0_takeUp_g4.2.2.2.2.2.2.2
  have hb53 : ∀ (v2 : Int32) (M : Mem), f_X0_takeUp_b53 v2 M = some out → WM p l e (RM 3) s m args below meth c 0 0 (MQ below (QV D cA A Pl out) args s 0 0 (FA A Pl)) D cA A Pl (FA A Pl) 4 M 53 [(0, .ref (A 36)), (1, .ref (A 1)), (2, .int v2)] [] := by
    intro v2 M hf
    unfold f_X0_takeUp_b53 at hf
    refine wm_iconst (v := 0) C dX0_takeUp_g2.2.2.2.2.2.2.2.1 (by decide) ?_
    refine wm_istore_n (lv1 := [(3, .int 0), (0, .ref (A 36)), (1, .ref (A 1)), (2, .int v2)]) C dX0_takeUp_g2.2.2.2.2.2.2.2.2.1 (by decide) rfl ?_
    refine wm_pick [1, 2, 3, 0] rfl ?_
    exact (hl55 _ hb79 FU) _ _ _ hf
  have hf := ho
  unfold f_X0_takeUp at hf
  refine wm_aload_n 0 C dX0_takeUp_g0.1 rfl ?_
  refine wm_aload_n 1 C dX0_takeUp_g0.2.1 rfl ?_
  refine wm_get (ci := 1) (k := 2) (v := .ref (A 4)) C (hPl 1 (by decide) (by decide)) rfl rfl (by decide) wt_X0_67 iwX1 rfl dX0_takeUp_g0.2.2.1 ?_
  refine wm_iload_n 2 C dX0_takeUp_g0.2.2.2.1 rfl ?_
  obtain ⟨h1, hf⟩ := ckd hf
  refine wm_iald (n := 6) (j := (v2).toNatClampNeg) (v := (M 4 (v2).toNatClampNeg)) C (hPl 4 (by decide) (by decide)) rfl rfl rfl h1 rfl rfl dX0_takeUp_g0.2.2.2.2.1 ?_
  refine wm_put (ci := 0) (k := 2) (x := (M 4 (v2).toNatClampNeg)) C (hPl 36 (by decide) (by decide)) rfl rfl (by decide) wt_X0_9 iwX0 tyX0_ok nmX0 rfl rfl rfl rfl (fun _ => rfl) (Nat.le_of_ble_eq_true rfl) dX0_takeUp_g0.2.2.2.2.2.1 ?_
  refine wm_aload_n 0 C dX0_takeUp_g0.2.2.2.2.2.2.1 rfl ?_
  refine wm_aload_n 1 C dX0_takeUp_g0.2.2.2.2.2.2.2.1 rfl ?_
  refine wm_get (ci := 1) (k := 3) (v := .ref (A 5)) C (hPl 1 (by decide) (by decide)) rfl rfl (by decide) wt_X0_72 iwX1 (by first | rfl | simp [fld, mu, upd, mcp]) dX0_takeUp_g0.2.2.2.2.2.2.2.2.1 ?_
  refine wm_iload_n 2 C dX0_takeUp_g0.2.2.2.2.2.2.2.2.2.1 rfl ?_
  refine wm_iald (n := 6) (j := (v2).toNatClampNeg) (v := (M 5 (v2).toNatClampNeg)) C (hPl 5 (by decide) (by decide)) rfl rfl rfl h1 rfl (by first | rfl | simp [mu, upd, mcp]) dX0_takeUp_g0.2.2.2.2.2.2.2.2.2.2.1 ?_
  refine wm_put (ci := 0) (k := 3) (x := (M 5 (v2).toNatClampNeg)) C (hPl 36 (by decide) (by decide)) rfl rfl (by decide) wt_X0_15 iwX0 tyX0_ok nmX0 rfl rfl rfl rfl (fun _ => rfl) (Nat.le_of_ble_eq_true rfl) dX0_takeUp_g0.2.2.2.2.2.2.2.2.2.2.2 ?_
  refine wm_aload_n 0 C dX0_takeUp_g1.1 rfl ?_
  refine wm_aload_n 1 C dX0_takeUp_g1.2.1 rfl ?_
  refine wm_get (ci := 1) (k := 7) (v := .int (M 1 7)) C (hPl 1 (by decide) (by decide)) rfl rfl (by decide) wt_X0_75 iwX1 (by first | rfl | simp [fld, mu, upd, mcp]) dX0_takeUp_g1.2.2.1 ?_
  refine wm_put (ci := 0) (k := 4) (x := (M 1 7)) C (hPl 36 (by decide) (by decide)) rfl rfl (by decide) wt_X0_18 iwX0 tyX0_ok nmX0 rfl rfl rfl rfl (fun _ => rfl) (Nat.le_of_ble_eq_true rfl) dX0_takeUp_g1.2.2.2.1 ?_
  refine wm_iconst (v := 0) C dX0_takeUp_g1.2.2.2.2.1 (by decide) ?_
  refine wm_istore_n (lv1 := [(3, .int 0), (0, .ref (A 36)), (1, .ref (A 1)), (2, .int v2)]) C dX0_takeUp_g1.2.2.2.2.2.1 (by decide) rfl ?_
  refine wm_pick [1, 2, 3, 0] rfl ?_
  exact (hl30 _ hb53 FU) _ _ _ hf
set_option maxHeartbeats 4000000 in
set_option maxRecDepth 100000 in
theorem c_X0_cross {l : Launch} {D : va_G} {cA : Nat → ClassId} {A : Nat → Nat} {Pl : List Nat} (hPl : ∀ q, 0 ≤ q → q < 63 → q ∈ Pl) (v1 : Int32) (q2 : Nat) (M : Mem) (out : Mem) (ho : f_X0_cross v1 q2 M = some out) : CtV l D cA A Pl yX0_cross cX0_cross 6 1 [.ref (A 36), .int v1, .ref (A q2)] M out := by
  refine ct_V (by decide) (Nat.le_of_ble_eq_true rfl) (fun p e s m args below meth c C hrt => ?_)
  have hb104 : ∀ (r : Nat → Int32 → Int32 → Int32 → Mem → Option Mem) (hr : ∀ (q2 : Nat) (v3 : Int32) (v4 : Int32) (v5 : Int32) (M : Mem), r q2 v3 v4 v5 M = some out → WM p l e (RM 1) s m args below meth c 0 0 (MQ below (QV D cA A Pl out) args s 0 0 (FA A Pl)) D cA A Pl (FA A Pl) 6 M 26 [(0, .ref (A 36)), (2, .ref (A q2)), (3, .int v3), (4, .int v4), (5, .int v5)] []), ∀ (q2 : Nat) (v3 : Int32) (v4 : Int32) (v5 : Int32) (s1 : Int32) (M : Mem), f_X0_cross_b104 r q2 v3 v4 v5 s1 M = some out → WM p l e (RM 1) s m args below meth c 0 0 (MQ below (QV D cA A Pl out) args s 0 0 (FA A Pl)) D cA A Pl (FA A Pl) 6 M 104 [(0, .ref (A 36)), (2, .ref (A q2)), (3, .int v3), (4, .int v4), (5, .int v5)] [.int s1, .ref (A 36)] := by
    intro r hr q2 v3 v4 v5 s1 M hf
    unfold f_X0_cross_b104 at hf
    obtain ⟨h1, hf⟩ := ckd hf
    refine wm_put (ci := 0) (k := 12) (x := s1) C (hPl 36 (by decide) (by decide)) rfl rfl (by decide) wt_X0_46 iwX0 tyX0_ok nmX0 rfl rfl (zb_n h1) (zb_f h1) (fun _ => rfl) (Nat.le_of_ble_eq_true rfl) dX0_cross_g5.2.2.2.1 ?_
    refine wm_iinc (lv1 := [(5, .int (v5 + 1)), (0, .ref (A 36)), (2, .ref (A q2)), (3, .int v3), (4, .int v4)]) (v := (v5 + 1)) 4 C dX0_cross_g5.2.2.2.2.1 rfl (by first | rfl | decide) (by decide) rfl ?_
    refine wm_goto (tgt := 26) C dX0_cross_g5.2.2.2.2.2.1 (by decide) ?_
    refine wm_pick [1, 2, 3, 4, 0] rfl ?_
    exact hr _ _ _ _ _ hf
  have hb103 : ∀ (r : Nat → Int32 → Int32 → Int32 → Mem → Option Mem) (hr : ∀ (q2 : Nat) (v3 : Int32) (v4 : Int32) (v5 : Int32) (M : Mem), r q2 v3 v4 v5 M = some out → WM p l e (RM 1) s m args below meth c 0 0 (MQ below (QV D cA A Pl out) args s 0 0 (FA A Pl)) D cA A Pl (FA A Pl) 6 M 26 [(0, .ref (A 36)), (2, .ref (A q2)), (3, .int v3), (4, .int v4), (5, .int v5)] []), ∀ (q2 : Nat) (v3 : Int32) (v4 : Int32) (v5 : Int32) (M : Mem), f_X0_cross_b103 r q2 v3 v4 v5 M = some out → WM p l e (RM 1) s m args below meth c 0 0 (MQ below (QV D cA A Pl out) args s 0 0 (FA A Pl)) D cA A Pl (FA A Pl) 6 M 103 [(0, .ref (A 36)), (2, .ref (A q2)), (3, .int v3), (4, .int v4), (5, .int v5)] [.ref (A 36)] := by
    intro r hr q2 v3 v4 v5 M hf
    unfold f_X0_cross_b103 at hf
    refine wm_iconst (v := 0) C dX0_cross_g5.2.2.1 (by decide) ?_
    exact (hb104 _ hr) _ _ _ _ _ _ hf
  have hl26 : ∀ (n : Nat), ∀ (q2 : Nat) (v3 : Int32) (v4 : Int32) (v5 : Int32) (M : Mem), f_X0_cross_l26 n q2 v3 v4 v5 M = some out → WM p l e (RM 1) s m args below meth c 0 0 (MQ below (QV D cA A Pl out) args s 0 0 (FA A Pl)) D cA A Pl (FA A Pl) 6 M 26 [(0, .ref (A 36)), (2, .ref (A q2)), (3, .int v3), (4, .int v4), (5, .int v5)] [] := by
    intro n
    induction n with
    | zero => intro q2 v3 v4 v5 M hf; rw [f_X0_cross_l26] at hf; cases hf
    | succ n hr =>
      intro q2 v3 v4 v5 M hf
      rw [f_X0_cross_l26] at hf
      refine wm_iload 4 C dX0_cross_g1.2.2.2.2.2.2.1 rfl ?_
      refine wm_bipush (v := 6) C dX0_cross_g1.2.2.2.2.2.2.2.1 (by decide) ?_
      refine wm_icmp_ge (tgt := 113) C dX0_cross_g1.2.2.2.2.2.2.2.2.1 (by decide) (fun c2 => ?_) (fun c2 => ?_)
      · have hf := (if_pos c2).symm.trans hf
        exact wm_vret C hrt hf dX0_cross_g5.2.2.2.2.2.2
      · have hf := (if_neg c2).symm.trans hf
        refine wm_aload_n 0 C dX0_cross_g1.2.2.2.2.2.2.2.2.2.1 rfl ?_
        refine wm_get (ci := 0) (k := 10) (v := .ref (A 41)) C (hPl 36 (by decide) (by decide)) rfl rfl (by decide) wt_X0_39 iwX0 rfl dX0_cross_g1.2.2.2.2.2.2.2.2.2.2.1 ?_
        refine wm_iload 4 C dX0_cross_g1.2.2.2.2.2.2.2.2.2.2.2 rfl ?_
        refine wm_iconst (v := 0) C dX0_cross_g2.1 (by decide) ?_
        refine wm_aload_n 0 C dX0_cross_g2.2.1 rfl ?_
        refine wm_get (ci := 0) (k := 6) (v := .ref (A 38)) C (hPl 36 (by decide) (by decide)) rfl rfl (by decide) wt_X0_25 iwX0 rfl dX0_cross_g2.2.2.1 ?_
        refine wm_iload 4 C dX0_cross_g2.2.2.2.1 rfl ?_
        obtain ⟨h3, hf⟩ := ckd hf
        refine wm_iald (n := 6) (j := (v5).toNatClampNeg) (v := (M 38 (v5).toNatClampNeg)) C (hPl 38 (by decide) (by decide)) rfl rfl rfl h3 rfl rfl dX0_cross_g2.2.2.2.2.1 ?_
        refine wm_aload_n 1 C dX0_cross_g2.2.2.2.2.2.1 rfl ?_
        refine wm_iload_n 2 C dX0_cross_g2.2.2.2.2.2.2.1 rfl ?_
        refine wm_iload 4 C dX0_cross_g2.2.2.2.2.2.2.2.1 rfl ?_
        refine wm_iadd C dX0_cross_g2.2.2.2.2.2.2.2.2.1 ?_
        obtain ⟨h4, hf⟩ := ckd hf
        obtain ⟨h5, hf⟩ := ckd hf
        refine wm_iald (n := (ln q2)) (j := ((v3 + v5)).toNatClampNeg) (v := (M q2 ((v3 + v5)).toNatClampNeg)) C (kr10 hPl (eq_of_beq h4)) (eq_of_beq h4) rfl rfl h5 rfl rfl dX0_cross_g2.2.2.2.2.2.2.2.2.2.1 ?_
        refine wm_isub C dX0_cross_g2.2.2.2.2.2.2.2.2.2.2.1 ?_
        refine wm_max C wt_X0_90 (Nat.le_of_ble_eq_true rfl) (by decide) dX0_cross_g2.2.2.2.2.2.2.2.2.2.2.2 ?_
        refine wm_iast (n := 6) (j := (v5).toNatClampNeg) (x := (jmax 0 ((M 38 (v5).toNatClampNeg) - (M q2 ((v3 + v5)).toNatClampNeg)))) C (hPl 41 (by decide) (by decide)) rfl rfl rfl h3 rfl dX0_cross_g3.1 ?_
        refine wm_aload_n 0 C dX0_cross_g3.2.1 rfl ?_
        refine wm_dup C dX0_cross_g3.2.2.1 rfl ?_
        refine wm_get (ci := 0) (k := 13) (v := .int (M 36 13)) C (hPl 36 (by decide) (by decide)) rfl rfl (by decide) wt_X0_50 iwX0 (by first | rfl | simp [fld, mu, upd, mcp]) dX0_cross_g3.2.2.2.1 ?_
        refine wm_aload_n 0 C dX0_cross_g3.2.2.2.2.1 rfl ?_
        refine wm_get (ci := 0) (k := 10) (v := .ref (A 41)) C (hPl 36 (by decide) (by decide)) rfl rfl (by decide) wt_X0_39 iwX0 (by first | rfl | simp [fld, mu, upd, mcp]) dX0_cross_g3.2.2.2.2.2.1 ?_
        refine wm_iload 4 C dX0_cross_g3.2.2.2.2.2.2.1 rfl ?_
        refine wm_iald (n := 6) (j := (v5).toNatClampNeg) (v := (jmax 0 ((M 38 (v5).toNatClampNeg) - (M q2 ((v3 + v5)).toNatClampNeg)))) C (hPl 41 (by decide) (by decide)) rfl rfl rfl h3 rfl (by first | rfl | simp [mu, upd, mcp]) dX0_cross_g3.2.2.2.2.2.2.2.1 ?_
        refine wm_iadd C dX0_cross_g3.2.2.2.2.2.2.2.2.1 ?_
        refine wm_put (ci := 0) (k := 13) (x := ((M 36 13) + (jmax 0 ((M 38 (v5).toNatClampNeg) - (M q2 ((v3 + v5)).toNatClampNeg))))) C (hPl 36 (by decide) (by decide)) rfl rfl (by decide) wt_X0_50 iwX0 tyX0_ok nmX0 rfl rfl rfl rfl (fun _ => rfl) (Nat.le_of_ble_eq_true rfl) dX0_cross_g3.2.2.2.2.2.2.2.2.2.1 ?_
        refine wm_aload_n 0 C dX0_cross_g3.2.2.2.2.2.2.2.2.2.2.1 rfl ?_
        refine wm_aload_n 0 C dX0_cross_g3.2.2.2.2.2.2.2.2.2.2.2 rfl ?_
        refine wm_get (ci := 0) (k := 12) (v := .int (M 36 12)) C (hPl 36 (by decide) (by decide)) rfl rfl (by decide) wt_X0_46 iwX0 (by first | rfl | simp [fld, mu, upd, mcp]) dX0_cross_g4.1 ?_
        refine wm_if_eq (tgt := 103) C dX0_cross_g4.2.1 (by decide) (fun c6 => ?_) (fun c6 => ?_)
        · have hf := (if_pos c6).symm.trans hf
          exact (hb103 _ hr) _ _ _ _ _ hf
        · have hf := (if_neg c6).symm.trans hf
          refine wm_aload_n 1 C dX0_cross_g4.2.2.1 rfl ?_
          refine wm_iload 3 C dX0_cross_g4.2.2.2.1 rfl ?_
          refine wm_iload 4 C dX0_cross_g4.2.2.2.2.1 rfl ?_
          refine wm_iadd C dX0_cross_g4.2.2.2.2.2.1 ?_
          obtain ⟨h7, hf⟩ := ckd hf
          refine wm_iald (n := (ln q2)) (j := ((v4 + v5)).toNatClampNeg) (v := ((mu (mu M 41 (v5).toNatClampNeg (jmax 0 ((M 38 (v5).toNatClampNeg) - (M q2 ((v3 + v5)).toNatClampNeg)))) 36 13 ((M 36 13) + (jmax 0 ((M 38 (v5).toNatClampNeg) - (M q2 ((v3 + v5)).toNatClampNeg))))) q2 ((v4 + v5)).toNatClampNeg)) C (kr10 hPl (eq_of_beq h4)) (eq_of_beq h4) rfl rfl h7 rfl (by first | rfl | simp [mu, upd, mcp]) dX0_cross_g4.2.2.2.2.2.2.1 ?_
          refine wm_aload_n 0 C dX0_cross_g4.2.2.2.2.2.2.2.1 rfl ?_
          refine wm_get (ci := 0) (k := 10) (v := .ref (A 41)) C (hPl 36 (by decide) (by decide)) rfl rfl (by decide) wt_X0_39 iwX0 (by first | rfl | simp [fld, mu, upd, mcp]) dX0_cross_g4.2.2.2.2.2.2.2.2.1 ?_
          refine wm_iload 4 C dX0_cross_g4.2.2.2.2.2.2.2.2.2.1 rfl ?_
          refine wm_iald (n := 6) (j := (v5).toNatClampNeg) (v := (jmax 0 ((M 38 (v5).toNatClampNeg) - (M q2 ((v3 + v5)).toNatClampNeg)))) C (hPl 41 (by decide) (by decide)) rfl rfl rfl h3 rfl (by first | rfl | simp [mu, upd, mcp]) dX0_cross_g4.2.2.2.2.2.2.2.2.2.2.1 ?_
          refine wm_icmp_lt (tgt := 103) C dX0_cross_g4.2.2.2.2.2.2.2.2.2.2.2 (by decide) (fun c8 => ?_) (fun c8 => ?_)
          · have hf := (if_pos c8).symm.trans hf
            exact (hb103 _ hr) _ _ _ _ _ hf
          · have hf := (if_neg c8).symm.trans hf
            refine wm_iconst (v := 1) C dX0_cross_g5.1 (by decide) ?_
            refine wm_goto (tgt := 104) C dX0_cross_g5.2.1 (by decide) ?_
            exact (hb104 _ hr) _ _ _ _ _ _ hf
  have hf := ho
  unfold f_X0_cross at hf
  refine wm_iload_n 1 C dX0_cross_g0.1 rfl ?_
  refine wm_bipush (v := 6) C dX0_cross_g0.2.1 (by decide) ?_
  refine wm_imul C dX0_cross_g0.2.2.1 ?_
  refine wm_istore_n (lv1 := [(3, .int (v1 * 6)), (0, .ref (A 36)), (1, .int v1), (2, .ref (A q2))]) C dX0_cross_g0.2.2.2.1 (by decide) rfl ?_
  refine wm_iconst (v := 1) C dX0_cross_g0.2.2.2.2.1 (by decide) ?_
  refine wm_iload_n 2 C dX0_cross_g0.2.2.2.2.2.1 rfl ?_
  refine wm_isub C dX0_cross_g0.2.2.2.2.2.2.1 ?_
  refine wm_bipush (v := 6) C dX0_cross_g0.2.2.2.2.2.2.2.1 (by decide) ?_
  refine wm_imul C dX0_cross_g0.2.2.2.2.2.2.2.2.1 ?_
  refine wm_istore (lv1 := [(4, .int ((1 - v1) * 6)), (3, .int (v1 * 6)), (0, .ref (A 36)), (1, .int v1), (2, .ref (A q2))]) C dX0_cross_g0.2.2.2.2.2.2.2.2.2.1 (by decide) rfl ?_
  refine wm_aload_n 2 C dX0_cross_g0.2.2.2.2.2.2.2.2.2.2.1 rfl ?_
  refine wm_iconst (v := 1) C dX0_cross_g0.2.2.2.2.2.2.2.2.2.2.2 (by decide) ?_
  refine wm_put (ci := 0) (k := 12) (x := 1) C (hPl 36 (by decide) (by decide)) rfl rfl (by decide) wt_X0_46 iwX0 tyX0_ok nmX0 rfl rfl rfl rfl (fun _ => rfl) (Nat.le_of_ble_eq_true rfl) dX0_cross_g1.1 ?_
  refine wm_aload_n 2 C dX0_cross_g1.2.1 rfl ?_
  refine wm_iconst (v := 0) C dX0_cross_g1.2.2.1 (by decide) ?_
  refine wm_put (ci := 0) (k := 13) (x := 0) C (hPl 36 (by decide) (by decide)) rfl rfl (by decide) wt_X0_50 iwX0 tyX0_ok nmX0 rfl rfl rfl rfl (fun _ => rfl) (Nat.le_of_ble_eq_true rfl) dX0_cross_g1.2.2.2.1 ?_
  refine wm_iconst (v := 0) C dX0_cross_g1.2.2.2.2.1 (by decide) ?_
  refine wm_istore (lv1 := [(5, .int 0), (4, .int ((1 - v1) * 6)), (3, .int (v1 * 6)), (0, .ref (A 36)), (1, .int v1), (2, .ref (A q2))]) C dX0_cross_g1.2.2.2.2.2.1 (by decide) rfl ?_
  refine wm_pick [3, 5, 2, 1, 0] rfl ?_
  exact (hl26 FU) _ _ _ _ _ hf
set_option maxHeartbeats 4000000 in
set_option maxRecDepth 100000 in
theorem c_X7_joined {l : Launch} {D : va_G} {cA : Nat → ClassId} {A : Nat → Nat} {Pl : List Nat} (hPl : ∀ q, 0 ≤ q → q < 63 → q ∈ Pl) (v0 : Int32) (v1 : Int32) (v2 : Int32) (M : Mem) (out : (Int32 × Mem)) (ho : f_X7_joined v0 v1 v2 M = some out) : CtI l D cA A Pl yX7_joined cX7_joined 3 1 .int [.int v0, .int v1, .int v2] M out := by
  refine ct_I (by decide) (Nat.le_of_ble_eq_true rfl) (fun p e s m args below meth c C hrt => ?_)
  have hf := ho
  unfold f_X7_joined at hf
  refine wm_iload_n 0 C dX7_joined_g0.1 rfl ?_
  by_cases c1 : v0 = (-13)
  · have hf := (if_pos c1).symm.trans hf
    refine wm_tswI (tgt := 98) (off := 97) C dX7_joined_g0.2.1 c1 (by decide) (by decide) (by decide) (by decide) ?_
    refine wm_iload_n 1 C dX7_joined_g3.1 rfl ?_
    refine wm_iload_n 2 C dX7_joined_g3.2.1 rfl ?_
    refine wm_isub C dX7_joined_g3.2.2.1 ?_
    exact wm_iret C hrt hf dX7_joined_g3.2.2.2.1
  · have hf := (if_neg c1).symm.trans hf
    by_cases c2 : v0 = (-12)
    · have hf := (if_pos c2).symm.trans hf
      refine wm_tswI (tgt := 94) (off := 93) C dX7_joined_g0.2.1 c2 (by decide) (by decide) (by decide) (by decide) ?_
      refine wm_iload_n 1 C dX7_joined_g2.2.2.2.2.2.2.2.2.1 rfl ?_
      refine wm_iload_n 2 C dX7_joined_g2.2.2.2.2.2.2.2.2.2.1 rfl ?_
      refine wm_iadd C dX7_joined_g2.2.2.2.2.2.2.2.2.2.2.1 ?_
      exact wm_iret C hrt hf dX7_joined_g2.2.2.2.2.2.2.2.2.2.2.2
    · have hf := (if_neg c2).symm.trans hf
      by_cases c3 : v0 = (-11)
      · have hf := (if_pos c3).symm.trans hf
        refine wm_tswI (tgt := 83) (off := 82) C dX7_joined_g0.2.1 c3 (by decide) (by decide) (by decide) (by decide) ?_
        refine wm_iload_n 1 C dX7_joined_g2.2.1 rfl ?_
        refine wm_iload_n 2 C dX7_joined_g2.2.2.1 rfl ?_
        refine wm_icmp_ne (tgt := 92) C dX7_joined_g2.2.2.2.1 (by decide) (fun c4 => ?_) (fun c4 => ?_)
        · have hf := (if_neg c4).symm.trans hf
          refine wm_iconst (v := 0) C dX7_joined_g2.2.2.2.2.2.2.1 (by decide) ?_
          exact wm_iret C hrt hf dX7_joined_g2.2.2.2.2.2.2.2.1
        · have hf := (if_pos c4).symm.trans hf
          refine wm_iconst (v := 1) C dX7_joined_g2.2.2.2.2.1 (by decide) ?_
          refine wm_goto (tgt := 93) C dX7_joined_g2.2.2.2.2.2.1 (by decide) ?_
          exact wm_iret C hrt hf dX7_joined_g2.2.2.2.2.2.2.2.1
      · have hf := (if_neg c3).symm.trans hf
        by_cases c5 : v0 = (-10)
        · have hf := (if_pos c5).symm.trans hf
          refine wm_tswI (tgt := 72) (off := 71) C dX7_joined_g0.2.1 c5 (by decide) (by decide) (by decide) (by decide) ?_
          refine wm_iload_n 1 C dX7_joined_g1.2.2.2.2.2.2.1 rfl ?_
          refine wm_iload_n 2 C dX7_joined_g1.2.2.2.2.2.2.2.1 rfl ?_
          refine wm_icmp_ge (tgt := 81) C dX7_joined_g1.2.2.2.2.2.2.2.2.1 (by decide) (fun c6 => ?_) (fun c6 => ?_)
          · have hf := (if_pos c6).symm.trans hf
            refine wm_iconst (v := 0) C dX7_joined_g1.2.2.2.2.2.2.2.2.2.2.2 (by decide) ?_
            exact wm_iret C hrt hf dX7_joined_g2.1
          · have hf := (if_neg c6).symm.trans hf
            refine wm_iconst (v := 1) C dX7_joined_g1.2.2.2.2.2.2.2.2.2.1 (by decide) ?_
            refine wm_goto (tgt := 82) C dX7_joined_g1.2.2.2.2.2.2.2.2.2.2.1 (by decide) ?_
            exact wm_iret C hrt hf dX7_joined_g2.1
        · have hf := (if_neg c5).symm.trans hf
          by_cases c7 : v0 = (-9)
          · have hf := (if_pos c7).symm.trans hf
            refine wm_tswI (tgt := 102) (off := 101) C dX7_joined_g0.2.1 c7 (by decide) (by decide) (by decide) (by decide) ?_
            refine wm_iload_n 1 C dX7_joined_g3.2.2.2.2.1 rfl ?_
            refine wm_iload_n 2 C dX7_joined_g3.2.2.2.2.2.1 rfl ?_
            refine wm_imul C dX7_joined_g3.2.2.2.2.2.2.1 ?_
            exact wm_iret C hrt hf dX7_joined_g3.2.2.2.2.2.2.2
          · have hf := (if_neg c7).symm.trans hf
            by_cases c8 : v0 = (-8)
            · have hf := (if_pos c8).symm.trans hf
              refine wm_tswI (tgt := 58) (off := 57) C dX7_joined_g0.2.1 c8 (by decide) (by decide) (by decide) (by decide) ?_
              refine wm_iload_n 1 C dX7_joined_g0.2.2.2.2.2.2.2.2.2.2.1 rfl ?_
              refine wm_if_eq (tgt := 70) C dX7_joined_g0.2.2.2.2.2.2.2.2.2.2.2 (by decide) (fun c9 => ?_) (fun c9 => ?_)
              · have hf := (if_pos c9).symm.trans hf
                refine wm_iconst (v := 0) C dX7_joined_g1.2.2.2.2.1 (by decide) ?_
                exact wm_iret C hrt hf dX7_joined_g1.2.2.2.2.2.1
              · have hf := (if_neg c9).symm.trans hf
                refine wm_iload_n 2 C dX7_joined_g1.1 rfl ?_
                refine wm_if_eq (tgt := 70) C dX7_joined_g1.2.1 (by decide) (fun c10 => ?_) (fun c10 => ?_)
                · have hf := (if_pos c10).symm.trans hf
                  refine wm_iconst (v := 0) C dX7_joined_g1.2.2.2.2.1 (by decide) ?_
                  exact wm_iret C hrt hf dX7_joined_g1.2.2.2.2.2.1
                · have hf := (if_neg c10).symm.trans hf
                  refine wm_iconst (v := 1) C dX7_joined_g1.2.2.1 (by decide) ?_
                  refine wm_goto (tgt := 71) C dX7_joined_g1.2.2.2.1 (by decide) ?_
                  exact wm_iret C hrt hf dX7_joined_g1.2.2.2.2.2.1
            · have hf := (if_neg c8).symm.trans hf
              by_cases c11 : v0 = (-7)
              · have hf := (if_pos c11).symm.trans hf
                refine wm_tswI (tgt := 44) (off := 43) C dX7_joined_g0.2.1 c11 (by decide) (by decide) (by decide) (by decide) ?_
                refine wm_iload_n 1 C dX7_joined_g0.2.2.1 rfl ?_
                refine wm_if_ne (tgt := 52) C dX7_joined_g0.2.2.2.1 (by decide) (fun c12 => ?_) (fun c12 => ?_)
                · have hf := (if_neg c12).symm.trans hf
                  refine wm_iconst (v := 1) C dX7_joined_g0.2.2.2.2.2.2.1 (by decide) ?_
                  refine wm_goto (tgt := 57) C dX7_joined_g0.2.2.2.2.2.2.2.1 (by decide) ?_
                  exact wm_iret C hrt hf dX7_joined_g0.2.2.2.2.2.2.2.2.2.1
                · have hf := (if_pos c12).symm.trans hf
                  refine wm_iload_n 2 C dX7_joined_g0.2.2.2.2.1 rfl ?_
                  refine wm_if_eq (tgt := 56) C dX7_joined_g0.2.2.2.2.2.1 (by decide) (fun c13 => ?_) (fun c13 => ?_)
                  · have hf := (if_pos c13).symm.trans hf
                    refine wm_iconst (v := 0) C dX7_joined_g0.2.2.2.2.2.2.2.2.1 (by decide) ?_
                    exact wm_iret C hrt hf dX7_joined_g0.2.2.2.2.2.2.2.2.2.1
                  · have hf := (if_neg c13).symm.trans hf
                    refine wm_iconst (v := 1) C dX7_joined_g0.2.2.2.2.2.2.1 (by decide) ?_
                    refine wm_goto (tgt := 57) C dX7_joined_g0.2.2.2.2.2.2.2.1 (by decide) ?_
                    exact wm_iret C hrt hf dX7_joined_g0.2.2.2.2.2.2.2.2.2.1
              · have hf := (if_neg c11).symm.trans hf
                have nc1 : ¬ (v0).toInt = (-13) := lv_neT c1 (by decide)
                have nc2 : ¬ (v0).toInt = (-12) := lv_neT c2 (by decide)
                have nc3 : ¬ (v0).toInt = (-11) := lv_neT c3 (by decide)
                have nc5 : ¬ (v0).toInt = (-10) := lv_neT c5 (by decide)
                have nc7 : ¬ (v0).toInt = (-9) := lv_neT c7 (by decide)
                have nc8 : ¬ (v0).toInt = (-8) := lv_neT c8 (by decide)
                have nc11 : ¬ (v0).toInt = (-7) := lv_neT c11 (by decide)
                refine wm_tswO (tgt := 102) C dX7_joined_g0.2.1 (by omega) (by decide) ?_
                refine wm_iload_n 1 C dX7_joined_g3.2.2.2.2.1 rfl ?_
                refine wm_iload_n 2 C dX7_joined_g3.2.2.2.2.2.1 rfl ?_
                refine wm_imul C dX7_joined_g3.2.2.2.2.2.2.1 ?_
                exact wm_iret C hrt hf dX7_joined_g3.2.2.2.2.2.2.2
set_option maxHeartbeats 4000000 in
set_option maxRecDepth 100000 in
theorem c_X7_value {l : Launch} {D : va_G} {cA : Nat → ClassId} {A : Nat → Nat} {Pl : List Nat} (hPl : ∀ q, 0 ≤ q → q < 63 → q ∈ Pl) (q0 : Nat) (v1 : Int32) (M : Mem) (out : (Int32 × Mem)) (ho : f_X7_value q0 v1 M = some out) : CtI l D cA A Pl yX7_value cX7_value 8 2 .int [.ref (A q0), .int v1, .ref (A 39), .ref (A 40)] M out := by
  refine ct_I (by decide) (Nat.le_of_ble_eq_true rfl) (fun p e s m args below meth c C hrt => ?_)
  have hb171 : ∀ (r : Nat → Int32 → Int32 → Int32 → Mem → Option (Int32 × Mem)) (hr : ∀ (q0 : Nat) (v1 : Int32) (v4 : Int32) (v5 : Int32) (M : Mem), r q0 v1 v4 v5 M = some out → WM p l e (RM 2) s m args below meth c 0 0 (MQ below (QI D cA A Pl out) args s 0 0 (FA A Pl)) D cA A Pl (FA A Pl) 8 M 21 [(0, .ref (A q0)), (1, .int v1), (2, .ref (A 39)), (3, .ref (A 40)), (4, .int v4), (5, .int v5)] []) (k177 : Int32 → Mem → Option (Int32 × Mem)) (hk177 : ∀ (v4 : Int32) (M : Mem), k177 v4 M = some out → WM p l e (RM 2) s m args below meth c 0 0 (MQ below (QI D cA A Pl out) args s 0 0 (FA A Pl)) D cA A Pl (FA A Pl) 8 M 177 [(3, .ref (A 40)), (4, .int v4)] []), ∀ (q0 : Nat) (v1 : Int32) (v4 : Int32) (v5 : Int32) (M : Mem), f_X7_value_b171 r k177 q0 v1 v4 v5 M = some out → WM p l e (RM 2) s m args below meth c 0 0 (MQ below (QI D cA A Pl out) args s 0 0 (FA A Pl)) D cA A Pl (FA A Pl) 8 M 171 [(0, .ref (A q0)), (1, .int v1), (2, .ref (A 39)), (3, .ref (A 40)), (4, .int v4), (5, .int v5)] [] := by
    intro r hr k177 hk177 q0 v1 v4 v5 M hf
    unfold f_X7_value_b171 at hf
    refine wm_iinc (lv1 := [(5, .int (v5 + 1)), (0, .ref (A q0)), (1, .int v1), (2, .ref (A 39)), (3, .ref (A 40)), (4, .int v4)]) (v := (v5 + 1)) 5 C dX7_value_g8.1 rfl (by first | rfl | decide) (by decide) rfl ?_
    refine wm_goto (tgt := 21) C dX7_value_g8.2.1 (by decide) ?_
    refine wm_pick [1, 2, 3, 4, 5, 0] rfl ?_
    exact hr _ _ _ _ _ hf
  have hb74 : ∀ (r : Nat → Int32 → Int32 → Int32 → Mem → Option (Int32 × Mem)) (hr : ∀ (q0 : Nat) (v1 : Int32) (v4 : Int32) (v5 : Int32) (M : Mem), r q0 v1 v4 v5 M = some out → WM p l e (RM 2) s m args below meth c 0 0 (MQ below (QI D cA A Pl out) args s 0 0 (FA A Pl)) D cA A Pl (FA A Pl) 8 M 21 [(0, .ref (A q0)), (1, .int v1), (2, .ref (A 39)), (3, .ref (A 40)), (4, .int v4), (5, .int v5)] []) (k177 : Int32 → Mem → Option (Int32 × Mem)) (hk177 : ∀ (v4 : Int32) (M : Mem), k177 v4 M = some out → WM p l e (RM 2) s m args below meth c 0 0 (MQ below (QI D cA A Pl out) args s 0 0 (FA A Pl)) D cA A Pl (FA A Pl) 8 M 177 [(3, .ref (A 40)), (4, .int v4)] []), ∀ (q0 : Nat) (v1 : Int32) (v4 : Int32) (v5 : Int32) (s1 : Int32) (s2 : Int32) (M : Mem), f_X7_value_b74 r k177 q0 v1 v4 v5 s1 s2 M = some out → WM p l e (RM 2) s m args below meth c 0 0 (MQ below (QI D cA A Pl out) args s 0 0 (FA A Pl)) D cA A Pl (FA A Pl) 8 M 74 [(0, .ref (A q0)), (1, .int v1), (2, .ref (A 39)), (3, .ref (A 40)), (4, .int v4), (5, .int v5)] [.int s2, .int s1, .ref (A 40)] := by
    intro r hr k177 hk177 q0 v1 v4 v5 s1 s2 M hf
    unfold f_X7_value_b74 at hf
    obtain ⟨h6, hf⟩ := ckd hf
    refine wm_iast (n := 160) (j := (s1).toNatClampNeg) (x := s2) C (hPl 40 (by decide) (by decide)) rfl rfl rfl h6 rfl dX7_value_g3.2.2.2.2.2.2.1 ?_
    refine wm_iinc (lv1 := [(4, .int (v4 + 1)), (0, .ref (A q0)), (1, .int v1), (2, .ref (A 39)), (3, .ref (A 40)), (5, .int v5)]) (v := (v4 + 1)) 4 C dX7_value_g3.2.2.2.2.2.2.2.1 rfl (by first | rfl | decide) (by decide) rfl ?_
    refine wm_goto (tgt := 171) C dX7_value_g3.2.2.2.2.2.2.2.2.1 (by decide) ?_
    refine wm_pick [1, 2, 3, 4, 0, 5] rfl ?_
    exact (hb171 _ hr _ hk177) _ _ _ _ _ hf
  have hb137 : ∀ (r : Nat → Int32 → Int32 → Int32 → Mem → Option (Int32 × Mem)) (hr : ∀ (q0 : Nat) (v1 : Int32) (v4 : Int32) (v5 : Int32) (M : Mem), r q0 v1 v4 v5 M = some out → WM p l e (RM 2) s m args below meth c 0 0 (MQ below (QI D cA A Pl out) args s 0 0 (FA A Pl)) D cA A Pl (FA A Pl) 8 M 21 [(0, .ref (A q0)), (1, .int v1), (2, .ref (A 39)), (3, .ref (A 40)), (4, .int v4), (5, .int v5)] []) (k177 : Int32 → Mem → Option (Int32 × Mem)) (hk177 : ∀ (v4 : Int32) (M : Mem), k177 v4 M = some out → WM p l e (RM 2) s m args below meth c 0 0 (MQ below (QI D cA A Pl out) args s 0 0 (FA A Pl)) D cA A Pl (FA A Pl) 8 M 177 [(3, .ref (A 40)), (4, .int v4)] []), ∀ (q0 : Nat) (v1 : Int32) (v4 : Int32) (v5 : Int32) (s1 : Int32) (s2 : Int32) (M : Mem), f_X7_value_b137 r k177 q0 v1 v4 v5 s1 s2 M = some out → WM p l e (RM 2) s m args below meth c 0 0 (MQ below (QI D cA A Pl out) args s 0 0 (FA A Pl)) D cA A Pl (FA A Pl) 8 M 137 [(0, .ref (A q0)), (1, .int v1), (2, .ref (A 39)), (3, .ref (A 40)), (4, .int v4), (5, .int v5)] [.int s2, .int s1, .ref (A 40)] := by
    intro r hr k177 hk177 q0 v1 v4 v5 s1 s2 M hf
    unfold f_X7_value_b137 at hf
    obtain ⟨h5, hf⟩ := ckd hf
    refine wm_iast (n := 160) (j := (s1).toNatClampNeg) (x := s2) C (hPl 40 (by decide) (by decide)) rfl rfl rfl h5 rfl dX7_value_g6.2.2.2.1 ?_
    refine wm_goto (tgt := 171) C dX7_value_g6.2.2.2.2.1 (by decide) ?_
    exact (hb171 _ hr _ hk177) _ _ _ _ _ hf
  have hb95 : ∀ (r : Nat → Int32 → Int32 → Int32 → Mem → Option (Int32 × Mem)) (hr : ∀ (q0 : Nat) (v1 : Int32) (v4 : Int32) (v5 : Int32) (M : Mem), r q0 v1 v4 v5 M = some out → WM p l e (RM 2) s m args below meth c 0 0 (MQ below (QI D cA A Pl out) args s 0 0 (FA A Pl)) D cA A Pl (FA A Pl) 8 M 21 [(0, .ref (A q0)), (1, .int v1), (2, .ref (A 39)), (3, .ref (A 40)), (4, .int v4), (5, .int v5)] []) (k177 : Int32 → Mem → Option (Int32 × Mem)) (hk177 : ∀ (v4 : Int32) (M : Mem), k177 v4 M = some out → WM p l e (RM 2) s m args below meth c 0 0 (MQ below (QI D cA A Pl out) args s 0 0 (FA A Pl)) D cA A Pl (FA A Pl) 8 M 177 [(3, .ref (A 40)), (4, .int v4)] []), ∀ (q0 : Nat) (v1 : Int32) (v4 : Int32) (v5 : Int32) (v6 : Int32) (M : Mem), f_X7_value_b95 r k177 q0 v1 v4 v5 v6 M = some out → WM p l e (RM 2) s m args below meth c 0 0 (MQ below (QI D cA A Pl out) args s 0 0 (FA A Pl)) D cA A Pl (FA A Pl) 8 M 95 [(0, .ref (A q0)), (1, .int v1), (2, .ref (A 39)), (3, .ref (A 40)), (4, .int v4), (5, .int v5), (6, .int v6)] [] := by
    intro r hr k177 hk177 q0 v1 v4 v5 v6 M hf
    unfold f_X7_value_b95 at hf
    refine wm_iload 4 C dX7_value_g4.2.2.2.1 rfl ?_
    refine wm_iconst (v := 1) C dX7_value_g4.2.2.2.2.1 (by decide) ?_
    refine wm_icmp_lt (tgt := 171) C dX7_value_g4.2.2.2.2.2.1 (by decide) (fun c26 => ?_) (fun c26 => ?_)
    · have hf := (if_pos c26).symm.trans hf
      refine wm_pick [0, 1, 2, 3, 4, 5] rfl ?_
      exact (hb171 _ hr _ hk177) _ _ _ _ _ hf
    · have hf := (if_neg c26).symm.trans hf
      refine wm_aload_n 3 C dX7_value_g4.2.2.2.2.2.2.1 rfl ?_
      refine wm_iload 4 C dX7_value_g4.2.2.2.2.2.2.2.1 rfl ?_
      refine wm_iconst (v := 1) C dX7_value_g4.2.2.2.2.2.2.2.2.1 (by decide) ?_
      refine wm_isub C dX7_value_g4.2.2.2.2.2.2.2.2.2.1 ?_
      obtain ⟨h27, hf⟩ := ckd hf
      refine wm_iald (n := 160) (j := ((v4 - 1)).toNatClampNeg) (v := (M 40 ((v4 - 1)).toNatClampNeg)) C (hPl 40 (by decide) (by decide)) rfl rfl rfl h27 rfl rfl dX7_value_g4.2.2.2.2.2.2.2.2.2.2.1 ?_
      refine wm_istore (lv1 := [(7, .int (M 40 ((v4 - 1)).toNatClampNeg)), (0, .ref (A q0)), (1, .int v1), (2, .ref (A 39)), (3, .ref (A 40)), (4, .int v4), (5, .int v5), (6, .int v6)]) C dX7_value_g4.2.2.2.2.2.2.2.2.2.2.2 (by decide) rfl ?_
      refine wm_aload_n 4 C dX7_value_g5.1 rfl ?_
      refine wm_iload 5 C dX7_value_g5.2.1 rfl ?_
      refine wm_iconst (v := 1) C dX7_value_g5.2.2.1 (by decide) ?_
      refine wm_isub C dX7_value_g5.2.2.2.1 ?_
      refine wm_iload 7 C dX7_value_g5.2.2.2.2.1 rfl ?_
      refine wm_bipush (v := (-15)) C dX7_value_g5.2.2.2.2.2.1 (by decide) ?_
      refine wm_icmp_ne (tgt := 127) C dX7_value_g5.2.2.2.2.2.2.1 (by decide) (fun c28 => ?_) (fun c28 => ?_)
      · have hf := (if_neg c28).symm.trans hf
        refine wm_iload 0 C dX7_value_g5.2.2.2.2.2.2.2.2.2.2.1 rfl ?_
        refine wm_if_ne (tgt := 136) C dX7_value_g5.2.2.2.2.2.2.2.2.2.2.2 (by decide) (fun c29 => ?_) (fun c29 => ?_)
        · have hf := (if_neg c29).symm.trans hf
          refine wm_iconst (v := 0) C dX7_value_g6.2.2.1 (by decide) ?_
          refine wm_pick [1, 2, 3, 4, 5, 6] rfl ?_
          exact (hb137 _ hr _ hk177) _ _ _ _ _ _ _ hf
        · have hf := (if_pos c29).symm.trans hf
          refine wm_iconst (v := 1) C dX7_value_g6.1 (by decide) ?_
          refine wm_goto (tgt := 137) C dX7_value_g6.2.1 (by decide) ?_
          refine wm_pick [1, 2, 3, 4, 5, 6] rfl ?_
          exact (hb137 _ hr _ hk177) _ _ _ _ _ _ _ hf
      · have hf := (if_pos c28).symm.trans hf
        refine wm_iload 0 C dX7_value_g5.2.2.2.2.2.2.2.1 rfl ?_
        refine wm_ineg C dX7_value_g5.2.2.2.2.2.2.2.2.1 ?_
        refine wm_goto (tgt := 137) C dX7_value_g5.2.2.2.2.2.2.2.2.2.1 (by decide) ?_
        refine wm_pick [1, 2, 3, 4, 5, 6] rfl ?_
        exact (hb137 _ hr _ hk177) _ _ _ _ _ _ _ hf
  have hl21 : ∀ (k177 : Int32 → Mem → Option (Int32 × Mem)) (hk177 : ∀ (v4 : Int32) (M : Mem), k177 v4 M = some out → WM p l e (RM 2) s m args below meth c 0 0 (MQ below (QI D cA A Pl out) args s 0 0 (FA A Pl)) D cA A Pl (FA A Pl) 8 M 177 [(3, .ref (A 40)), (4, .int v4)] []) (n : Nat), ∀ (q0 : Nat) (v1 : Int32) (v4 : Int32) (v5 : Int32) (M : Mem), f_X7_value_l21 k177 n q0 v1 v4 v5 M = some out → WM p l e (RM 2) s m args below meth c 0 0 (MQ below (QI D cA A Pl out) args s 0 0 (FA A Pl)) D cA A Pl (FA A Pl) 8 M 21 [(0, .ref (A q0)), (1, .int v1), (2, .ref (A 39)), (3, .ref (A 40)), (4, .int v4), (5, .int v5)] [] := by
    intro k177 hk177 n
    induction n with
    | zero => intro q0 v1 v4 v5 M hf; rw [f_X7_value_l21] at hf; cases hf
    | succ n hr =>
      intro q0 v1 v4 v5 M hf
      rw [f_X7_value_l21] at hf
      refine wm_iload 5 C dX7_value_g1.2.1 rfl ?_
      refine wm_aload_n 0 C dX7_value_g1.2.2.1 rfl ?_
      obtain ⟨h9, hf⟩ := ckd hf
      refine wm_get (ci := 6) (k := 1) (v := .ref (A (q0 + 2))) C (kr6 hPl (eq_of_beq h9)) (eq_of_beq h9) rfl (by decide) wt_X7_15 iwX7 rfl dX7_value_g1.2.2.2.1 ?_
      refine wm_iload_n 1 C dX7_value_g1.2.2.2.2.1 rfl ?_
      obtain ⟨h10, hf⟩ := ckd hf
      obtain ⟨h11, hf⟩ := ckd hf
      refine wm_iald (n := (ln (q0 + 2))) (j := (v1).toNatClampNeg) (v := (M (q0 + 2) (v1).toNatClampNeg)) C (kr30 hPl (eq_of_beq h10)) (eq_of_beq h10) rfl rfl h11 rfl rfl dX7_value_g1.2.2.2.2.2.1 ?_
      refine wm_icmp_ge (tgt := 177) C dX7_value_g1.2.2.2.2.2.2.1 (by decide) (fun c12 => ?_) (fun c12 => ?_)
      · have hf := (if_pos c12).symm.trans hf
        refine wm_pick [3, 4] rfl ?_
        exact hk177 _ _ hf
      · have hf := (if_neg c12).symm.trans hf
        refine wm_aload_n 0 C dX7_value_g1.2.2.2.2.2.2.2.1 rfl ?_
        refine wm_get (ci := 6) (k := 0) (v := .ref (A (q0 + 1))) C (kr6 hPl (eq_of_beq h9)) (eq_of_beq h9) rfl (by decide) wt_X7_9 iwX7 rfl dX7_value_g1.2.2.2.2.2.2.2.2.1 ?_
        refine wm_iload 5 C dX7_value_g1.2.2.2.2.2.2.2.2.2.1 rfl ?_
        obtain ⟨h13, hf⟩ := ckd hf
        obtain ⟨h14, hf⟩ := ckd hf
        refine wm_iald (n := (ln (q0 + 1))) (j := (v5).toNatClampNeg) (v := (M (q0 + 1) (v5).toNatClampNeg)) C (kr30 hPl (eq_of_beq h13)) (eq_of_beq h13) rfl rfl h14 rfl rfl dX7_value_g1.2.2.2.2.2.2.2.2.2.2.1 ?_
        refine wm_istore (lv1 := [(6, .int (M (q0 + 1) (v5).toNatClampNeg)), (0, .ref (A q0)), (1, .int v1), (2, .ref (A 39)), (3, .ref (A 40)), (4, .int v4), (5, .int v5)]) C dX7_value_g1.2.2.2.2.2.2.2.2.2.2.2 (by decide) rfl ?_
        refine wm_iload 0 C dX7_value_g2.1 rfl ?_
        refine wm_bipush (v := (-6)) C dX7_value_g2.2.1 (by decide) ?_
        refine wm_icmp_lt (tgt := 81) C dX7_value_g2.2.2.1 (by decide) (fun c15 => ?_) (fun c15 => ?_)
        · have hf := (if_pos c15).symm.trans hf
          refine wm_iload 0 C dX7_value_g3.2.2.2.2.2.2.2.2.2.1 rfl ?_
          refine wm_bipush (v := (-9)) C dX7_value_g3.2.2.2.2.2.2.2.2.2.2.1 (by decide) ?_
          refine wm_icmp_eq (tgt := 95) C dX7_value_g3.2.2.2.2.2.2.2.2.2.2.2 (by decide) (fun c16 => ?_) (fun c16 => ?_)
          · have hf := (if_pos c16).symm.trans hf
            refine wm_pick [1, 2, 3, 4, 5, 6, 0] rfl ?_
            exact (hb95 _ hr _ hk177) _ _ _ _ _ _ hf
          · have hf := (if_neg c16).symm.trans hf
            refine wm_iload 0 C dX7_value_g4.1 rfl ?_
            refine wm_bipush (v := (-15)) C dX7_value_g4.2.1 (by decide) ?_
            refine wm_icmp_ne (tgt := 141) C dX7_value_g4.2.2.1 (by decide) (fun c17 => ?_) (fun c17 => ?_)
            · have hf := (if_neg c17).symm.trans hf
              refine wm_iload 5 C dX7_value_g6.2.2.2.2.2.1 rfl ?_
              refine wm_iconst (v := 2) C dX7_value_g6.2.2.2.2.2.2.1 (by decide) ?_
              refine wm_icmp_lt (tgt := 171) C dX7_value_g6.2.2.2.2.2.2.2.1 (by decide) (fun c18 => ?_) (fun c18 => ?_)
              · have hf := (if_pos c18).symm.trans hf
                refine wm_pick [1, 2, 3, 4, 5, 6] rfl ?_
                exact (hb171 _ hr _ hk177) _ _ _ _ _ hf
              · have hf := (if_neg c18).symm.trans hf
                refine wm_iinc (lv1 := [(4, .int (v4 + (-1))), (6, .int (M (q0 + 1) (v5).toNatClampNeg)), (0, .ref (A q0)), (1, .int v1), (2, .ref (A 39)), (3, .ref (A 40)), (5, .int v5)]) (v := (v4 + (-1))) 5 C dX7_value_g6.2.2.2.2.2.2.2.2.1 rfl (by first | rfl | decide) (by decide) rfl ?_
                refine wm_aload_n 5 C dX7_value_g6.2.2.2.2.2.2.2.2.2.1 rfl ?_
                refine wm_iload 0 C dX7_value_g6.2.2.2.2.2.2.2.2.2.2.1 rfl ?_
                refine wm_iconst (v := 1) C dX7_value_g6.2.2.2.2.2.2.2.2.2.2.2 (by decide) ?_
                refine wm_isub C dX7_value_g7.1 ?_
                refine wm_iload 1 C dX7_value_g7.2.1 rfl ?_
                refine wm_aload_n 5 C dX7_value_g7.2.2.1 rfl ?_
                refine wm_iload 0 C dX7_value_g7.2.2.2.1 rfl ?_
                refine wm_iconst (v := 1) C dX7_value_g7.2.2.2.2.1 (by decide) ?_
                refine wm_isub C dX7_value_g7.2.2.2.2.2.1 ?_
                obtain ⟨h19, hf⟩ := ckd hf
                refine wm_iald (n := 160) (j := (((v4 + (-1)) - 1)).toNatClampNeg) (v := (M 40 (((v4 + (-1)) - 1)).toNatClampNeg)) C (hPl 40 (by decide) (by decide)) rfl rfl rfl h19 rfl rfl dX7_value_g7.2.2.2.2.2.2.1 ?_
                refine wm_aload_n 5 C dX7_value_g7.2.2.2.2.2.2.2.1 rfl ?_
                refine wm_iload 0 C dX7_value_g7.2.2.2.2.2.2.2.2.1 rfl ?_
                obtain ⟨h20, hf⟩ := ckd hf
                refine wm_iald (n := 160) (j := ((v4 + (-1))).toNatClampNeg) (v := (M 40 ((v4 + (-1))).toNatClampNeg)) C (hPl 40 (by decide) (by decide)) rfl rfl rfl h20 rfl rfl dX7_value_g7.2.2.2.2.2.2.2.2.2.1 ?_
                obtain ⟨o21, ho22, hf⟩ := bnd hf
                refine wm_callSi (As := [.int (M (q0 + 1) (v5).toNatClampNeg), .int (M 40 (((v4 + (-1)) - 1)).toNatClampNeg), .int (M 40 ((v4 + (-1))).toNatClampNeg)]) C (c_X7_joined hPl _ _ _ _ _ ho22) mi_X7_joined wt_X7_22 rfl rfl (by decide) (by decide) (Nat.le_of_ble_eq_true rfl) dX7_value_g7.2.2.2.2.2.2.2.2.2.2.1 ?_
                refine wm_iast (n := 160) (j := (((v4 + (-1)) - 1)).toNatClampNeg) (x := o21.1) C (hPl 40 (by decide) (by decide)) rfl rfl rfl h19 rfl dX7_value_g7.2.2.2.2.2.2.2.2.2.2.2 ?_
                refine wm_pick [2, 3, 4, 5, 0, 6] rfl ?_
                exact (hb171 _ hr _ hk177) _ _ _ _ _ hf
            · have hf := (if_pos c17).symm.trans hf
              refine wm_pick [1, 2, 3, 4, 5, 6, 0] rfl ?_
              exact (hb95 _ hr _ hk177) _ _ _ _ _ _ hf
        · have hf := (if_neg c15).symm.trans hf
          refine wm_iload 5 C dX7_value_g2.2.2.2.1 rfl ?_
          refine wm_aload_n 4 C dX7_value_g2.2.2.2.2.1 rfl ?_
          refine wm_alen (v := 160) C (hPl 40 (by decide) (by decide)) rfl rfl (by decide) dX7_value_g2.2.2.2.2.2.1 ?_
          refine wm_icmp_ge (tgt := 171) C dX7_value_g2.2.2.2.2.2.2.1 (by decide) (fun c23 => ?_) (fun c23 => ?_)
          · have hf := (if_pos c23).symm.trans hf
            refine wm_pick [1, 2, 3, 4, 5, 6] rfl ?_
            exact (hb171 _ hr _ hk177) _ _ _ _ _ hf
          · have hf := (if_neg c23).symm.trans hf
            refine wm_aload_n 4 C dX7_value_g2.2.2.2.2.2.2.2.1 rfl ?_
            refine wm_iload 5 C dX7_value_g2.2.2.2.2.2.2.2.2.1 rfl ?_
            refine wm_iload 0 C dX7_value_g2.2.2.2.2.2.2.2.2.2.1 rfl ?_
            refine wm_if_lt (tgt := 68) C dX7_value_g2.2.2.2.2.2.2.2.2.2.2.1 (by decide) (fun c24 => ?_) (fun c24 => ?_)
            · have hf := (if_pos c24).symm.trans hf
              refine wm_aload_n 3 C dX7_value_g3.2.1 rfl ?_
              refine wm_iconst (v := (-1)) C dX7_value_g3.2.2.1 (by decide) ?_
              refine wm_iload 0 C dX7_value_g3.2.2.2.1 rfl ?_
              refine wm_isub C dX7_value_g3.2.2.2.2.1 ?_
              obtain ⟨h25, hf⟩ := ckd hf
              refine wm_iald (n := 6) (j := (((-1) - (M (q0 + 1) (v5).toNatClampNeg))).toNatClampNeg) (v := (M 39 (((-1) - (M (q0 + 1) (v5).toNatClampNeg))).toNatClampNeg)) C (hPl 39 (by decide) (by decide)) rfl rfl rfl h25 rfl rfl dX7_value_g3.2.2.2.2.2.1 ?_
              refine wm_pick [1, 2, 3, 4, 5, 6] rfl ?_
              exact (hb74 _ hr _ hk177) _ _ _ _ _ _ _ hf
            · have hf := (if_neg c24).symm.trans hf
              refine wm_iload 0 C dX7_value_g2.2.2.2.2.2.2.2.2.2.2.2 rfl ?_
              refine wm_goto (tgt := 74) C dX7_value_g3.1 (by decide) ?_
              refine wm_pick [1, 2, 3, 4, 5, 6] rfl ?_
              exact (hb74 _ hr _ hk177) _ _ _ _ _ _ _ hf
  have hb177 : ∀ (v4 : Int32) (M : Mem), f_X7_value_b177 v4 M = some out → WM p l e (RM 2) s m args below meth c 0 0 (MQ below (QI D cA A Pl out) args s 0 0 (FA A Pl)) D cA A Pl (FA A Pl) 8 M 177 [(3, .ref (A 40)), (4, .int v4)] [] := by
    intro v4 M hf
    unfold f_X7_value_b177 at hf
    refine wm_iload 1 C dX7_value_g8.2.2.1 rfl ?_
    refine wm_if_le (tgt := 191) C dX7_value_g8.2.2.2.1 (by decide) (fun c7 => ?_) (fun c7 => ?_)
    · have hf := (if_pos c7).symm.trans hf
      refine wm_iconst (v := 0) C dX7_value_g8.2.2.2.2.2.2.2.2.2.2.1 (by decide) ?_
      exact wm_iret C hrt hf dX7_value_g8.2.2.2.2.2.2.2.2.2.2.2
    · have hf := (if_neg c7).symm.trans hf
      refine wm_aload_n 0 C dX7_value_g8.2.2.2.2.1 rfl ?_
      refine wm_iload 1 C dX7_value_g8.2.2.2.2.2.1 rfl ?_
      refine wm_iconst (v := 1) C dX7_value_g8.2.2.2.2.2.2.1 (by decide) ?_
      refine wm_isub C dX7_value_g8.2.2.2.2.2.2.2.1 ?_
      obtain ⟨h8, hf⟩ := ckd hf
      refine wm_iald (n := 160) (j := ((v4 - 1)).toNatClampNeg) (v := (M 40 ((v4 - 1)).toNatClampNeg)) C (hPl 40 (by decide) (by decide)) rfl rfl rfl h8 rfl rfl dX7_value_g8.2.2.2.2.2.2.2.2.1 ?_
      refine wm_goto (tgt := 192) C dX7_value_g8.2.2.2.2.2.2.2.2.2.1 (by decide) ?_
      exact wm_iret C hrt hf dX7_value_g8.2.2.2.2.2.2.2.2.2.2.2
  have hb19 : ∀ (q0 : Nat) (v1 : Int32) (v4 : Int32) (s0 : Int32) (M : Mem), f_X7_value_b19 q0 v1 v4 s0 M = some out → WM p l e (RM 2) s m args below meth c 0 0 (MQ below (QI D cA A Pl out) args s 0 0 (FA A Pl)) D cA A Pl (FA A Pl) 8 M 19 [(0, .ref (A q0)), (1, .int v1), (2, .ref (A 39)), (3, .ref (A 40)), (4, .int v4)] [.int s0] := by
    intro q0 v1 v4 s0 M hf
    unfold f_X7_value_b19 at hf
    refine wm_istore (lv1 := [(5, .int s0), (0, .ref (A q0)), (1, .int v1), (2, .ref (A 39)), (3, .ref (A 40)), (4, .int v4)]) C dX7_value_g1.1 (by decide) rfl ?_
    refine wm_pick [1, 2, 3, 4, 5, 0] rfl ?_
    exact (hl21 _ hb177 FU) _ _ _ _ _ hf
  have hf := ho
  unfold f_X7_value at hf
  refine wm_iconst (v := 0) C dX7_value_g0.1 (by decide) ?_
  refine wm_istore (lv1 := [(4, .int 0), (0, .ref (A q0)), (1, .int v1), (2, .ref (A 39)), (3, .ref (A 40))]) C dX7_value_g0.2.1 (by decide) rfl ?_
  refine wm_iload_n 2 C dX7_value_g0.2.2.1 rfl ?_
  refine wm_if_ne (tgt := 11) C dX7_value_g0.2.2.2.1 (by decide) (fun c1 => ?_) (fun c1 => ?_)
  · have hf := (if_neg c1).symm.trans hf
    refine wm_aload_n 1 C dX7_value_g0.2.2.2.2.2.2.1 rfl ?_
    obtain ⟨h2, hf⟩ := ckd hf
    refine wm_get (ci := 6) (k := 1) (v := .ref (A (q0 + 2))) C (kr6 hPl (eq_of_beq h2)) (eq_of_beq h2) rfl (by decide) wt_X7_15 iwX7 rfl dX7_value_g0.2.2.2.2.2.2.2.1 ?_
    refine wm_iload_n 2 C dX7_value_g0.2.2.2.2.2.2.2.2.1 rfl ?_
    refine wm_iconst (v := 1) C dX7_value_g0.2.2.2.2.2.2.2.2.2.1 (by decide) ?_
    refine wm_isub C dX7_value_g0.2.2.2.2.2.2.2.2.2.2.1 ?_
    obtain ⟨h3, hf⟩ := ckd hf
    obtain ⟨h4, hf⟩ := ckd hf
    refine wm_iald (n := (ln (q0 + 2))) (j := ((v1 - 1)).toNatClampNeg) (v := (M (q0 + 2) ((v1 - 1)).toNatClampNeg)) C (kr30 hPl (eq_of_beq h3)) (eq_of_beq h3) rfl rfl h4 rfl rfl dX7_value_g0.2.2.2.2.2.2.2.2.2.2.2 ?_
    refine wm_pick [1, 2, 3, 4, 0] rfl ?_
    exact hb19 _ _ _ _ _ hf
  · have hf := (if_pos c1).symm.trans hf
    refine wm_iconst (v := 0) C dX7_value_g0.2.2.2.2.1 (by decide) ?_
    refine wm_goto (tgt := 19) C dX7_value_g0.2.2.2.2.2.1 (by decide) ?_
    refine wm_pick [1, 2, 3, 4, 0] rfl ?_
    exact hb19 _ _ _ _ _ hf
set_option maxHeartbeats 4000000 in
set_option maxRecDepth 100000 in
theorem c_X0_ask {l : Launch} {D : va_G} {cA : Nat → ClassId} {A : Nat → Nat} {Pl : List Nat} (hPl : ∀ q, 0 ≤ q → q < 63 → q ∈ Pl) (v1 : Int32) (v2 : Int32) (v3 : Int32) (v4 : Int32) (M : Mem) (out : (Int32 × Mem)) (ho : f_X0_ask v1 v2 v3 v4 M = some out) : CtI l D cA A Pl yX0_ask cX0_ask 5 3 .int [.ref (A 36), .int v1, .int v2, .int v3, .int v4] M out := by
  refine ct_I (by decide) (Nat.le_of_ble_eq_true rfl) (fun p e s m args below meth c C hrt => ?_)
  have hf := ho
  unfold f_X0_ask at hf
  refine wm_aload_n 0 C dX0_ask_g0.1 rfl ?_
  refine wm_get (ci := 0) (k := 8) (v := .ref (A 39)) C (hPl 36 (by decide) (by decide)) rfl rfl (by decide) wt_X0_33 iwX0 rfl dX0_ask_g0.2.1 ?_
  refine wm_iconst (v := 0) C dX0_ask_g0.2.2.1 (by decide) ?_
  refine wm_iload_n 2 C dX0_ask_g0.2.2.2.1 rfl ?_
  refine wm_iast (n := 6) (j := 0) (x := v2) C (hPl 39 (by decide) (by decide)) rfl rfl rfl (by decide) (by decide) dX0_ask_g0.2.2.2.2.1 ?_
  refine wm_aload_n 0 C dX0_ask_g0.2.2.2.2.2.1 rfl ?_
  refine wm_get (ci := 0) (k := 8) (v := .ref (A 39)) C (hPl 36 (by decide) (by decide)) rfl rfl (by decide) wt_X0_33 iwX0 (by first | rfl | simp [fld, mu, upd, mcp]) dX0_ask_g0.2.2.2.2.2.2.1 ?_
  refine wm_iconst (v := 1) C dX0_ask_g0.2.2.2.2.2.2.2.1 (by decide) ?_
  refine wm_iload_n 3 C dX0_ask_g0.2.2.2.2.2.2.2.2.1 rfl ?_
  refine wm_iast (n := 6) (j := 1) (x := v3) C (hPl 39 (by decide) (by decide)) rfl rfl rfl (by decide) (by decide) dX0_ask_g0.2.2.2.2.2.2.2.2.2.1 ?_
  refine wm_aload_n 0 C dX0_ask_g0.2.2.2.2.2.2.2.2.2.2.1 rfl ?_
  refine wm_get (ci := 0) (k := 8) (v := .ref (A 39)) C (hPl 36 (by decide) (by decide)) rfl rfl (by decide) wt_X0_33 iwX0 (by first | rfl | simp [fld, mu, upd, mcp]) dX0_ask_g0.2.2.2.2.2.2.2.2.2.2.2 ?_
  refine wm_iconst (v := 2) C dX0_ask_g1.1 (by decide) ?_
  refine wm_iload 4 C dX0_ask_g1.2.1 rfl ?_
  refine wm_iast (n := 6) (j := 2) (x := v4) C (hPl 39 (by decide) (by decide)) rfl rfl rfl (by decide) (by decide) dX0_ask_g1.2.2.1 ?_
  refine wm_aload_n 0 C dX0_ask_g1.2.2.2.1 rfl ?_
  refine wm_get (ci := 0) (k := 8) (v := .ref (A 39)) C (hPl 36 (by decide) (by decide)) rfl rfl (by decide) wt_X0_33 iwX0 (by first | rfl | simp [fld, mu, upd, mcp]) dX0_ask_g1.2.2.2.2.1 ?_
  refine wm_iconst (v := 3) C dX0_ask_g1.2.2.2.2.2.1 (by decide) ?_
  refine wm_aload_n 0 C dX0_ask_g1.2.2.2.2.2.2.1 rfl ?_
  refine wm_get (ci := 0) (k := 4) (v := .int (M 36 4)) C (hPl 36 (by decide) (by decide)) rfl rfl (by decide) wt_X0_18 iwX0 (by first | rfl | simp [fld, mu, upd, mcp]) dX0_ask_g1.2.2.2.2.2.2.2.1 ?_
  refine wm_iast (n := 6) (j := 3) (x := (M 36 4)) C (hPl 39 (by decide) (by decide)) rfl rfl rfl (by decide) (by decide) dX0_ask_g1.2.2.2.2.2.2.2.2.1 ?_
  refine wm_aload_n 0 C dX0_ask_g1.2.2.2.2.2.2.2.2.2.1 rfl ?_
  refine wm_get (ci := 0) (k := 8) (v := .ref (A 39)) C (hPl 36 (by decide) (by decide)) rfl rfl (by decide) wt_X0_33 iwX0 (by first | rfl | simp [fld, mu, upd, mcp]) dX0_ask_g1.2.2.2.2.2.2.2.2.2.2.1 ?_
  refine wm_iconst (v := 4) C dX0_ask_g1.2.2.2.2.2.2.2.2.2.2.2 (by decide) ?_
  refine wm_aload_n 0 C dX0_ask_g2.1 rfl ?_
  refine wm_get (ci := 0) (k := 3) (v := .int (M 36 3)) C (hPl 36 (by decide) (by decide)) rfl rfl (by decide) wt_X0_15 iwX0 (by first | rfl | simp [fld, mu, upd, mcp]) dX0_ask_g2.2.1 ?_
  refine wm_iast (n := 6) (j := 4) (x := (M 36 3)) C (hPl 39 (by decide) (by decide)) rfl rfl rfl (by decide) (by decide) dX0_ask_g2.2.2.1 ?_
  refine wm_aload_n 0 C dX0_ask_g2.2.2.2.1 rfl ?_
  refine wm_get (ci := 0) (k := 8) (v := .ref (A 39)) C (hPl 36 (by decide) (by decide)) rfl rfl (by decide) wt_X0_33 iwX0 (by first | rfl | simp [fld, mu, upd, mcp]) dX0_ask_g2.2.2.2.2.1 ?_
  refine wm_iconst (v := 5) C dX0_ask_g2.2.2.2.2.2.1 (by decide) ?_
  refine wm_aload_n 0 C dX0_ask_g2.2.2.2.2.2.2.1 rfl ?_
  refine wm_get (ci := 0) (k := 5) (v := .ref (A 37)) C (hPl 36 (by decide) (by decide)) rfl rfl (by decide) wt_X0_21 iwX0 (by first | rfl | simp [fld, mu, upd, mcp]) dX0_ask_g2.2.2.2.2.2.2.2.1 ?_
  refine wm_iload 4 C dX0_ask_g2.2.2.2.2.2.2.2.2.1 rfl ?_
  obtain ⟨h1, hf⟩ := ckd hf
  refine wm_iald (n := 2) (j := (v4).toNatClampNeg) (v := (M 37 (v4).toNatClampNeg)) C (hPl 37 (by decide) (by decide)) rfl rfl rfl h1 rfl (by first | rfl | simp [mu, upd, mcp]) dX0_ask_g2.2.2.2.2.2.2.2.2.2.1 ?_
  refine wm_iast (n := 6) (j := 5) (x := (M 37 (v4).toNatClampNeg)) C (hPl 39 (by decide) (by decide)) rfl rfl rfl (by decide) (by decide) dX0_ask_g2.2.2.2.2.2.2.2.2.2.2.1 ?_
  refine wm_aload_n 0 C dX0_ask_g2.2.2.2.2.2.2.2.2.2.2.2 rfl ?_
  refine wm_get (ci := 0) (k := 1) (v := .ref (A ((M 36 1)).toNatClampNeg)) C (hPl 36 (by decide) (by decide)) rfl rfl (by decide) wt_X0_63 iwX0 (by first | rfl | simp [fld, mu, upd, mcp]) dX0_ask_g3.1 ?_
  refine wm_iload_n 1 C dX0_ask_g3.2.1 rfl ?_
  refine wm_aload_n 0 C dX0_ask_g3.2.2.1 rfl ?_
  refine wm_get (ci := 0) (k := 8) (v := .ref (A 39)) C (hPl 36 (by decide) (by decide)) rfl rfl (by decide) wt_X0_33 iwX0 (by first | rfl | simp [fld, mu, upd, mcp]) dX0_ask_g3.2.2.2.1 ?_
  refine wm_aload_n 0 C dX0_ask_g3.2.2.2.2.1 rfl ?_
  refine wm_get (ci := 0) (k := 9) (v := .ref (A 40)) C (hPl 36 (by decide) (by decide)) rfl rfl (by decide) wt_X0_36 iwX0 (by first | rfl | simp [fld, mu, upd, mcp]) dX0_ask_g3.2.2.2.2.2.1 ?_
  obtain ⟨o2, ho3, hf⟩ := bnd hf
  obtain ⟨h4, hf⟩ := ckd hf
  refine wm_callVi (As := [.int v1, .ref (A 39), .ref (A 40)]) (ci := 6) C (c_X7_value hPl _ _ _ _ ho3) mi_X7_value wt_X0_113 (kr6 hPl (eq_of_beq h4)) (eq_of_beq h4) rfl rfl rfl (by decide) (by decide) (Nat.le_of_ble_eq_true rfl) dX0_ask_g3.2.2.2.2.2.2.1 ?_
  exact wm_iret C hrt hf dX0_ask_g3.2.2.2.2.2.2.2
set_option maxHeartbeats 4000000 in
set_option maxRecDepth 100000 in
theorem c_X2_bounded {l : Launch} {D : va_G} {cA : Nat → ClassId} {A : Nat → Nat} {Pl : List Nat} (v0 : Int32) (M : Mem) (out : (Int32 × Mem)) (ho : f_X2_bounded v0 M = some out) : CtI l D cA A Pl yX2_bounded cX2_bounded 1 1 .int [.int v0] M out := by
  refine ct_I (by decide) (Nat.le_of_ble_eq_true rfl) (fun p e s m args below meth c C hrt => ?_)
  have hf := ho
  unfold f_X2_bounded at hf
  refine wm_iconst (v := 0) C dX2_bounded_g0.1 (by decide) ?_
  refine wm_bipush (v := 99) C dX2_bounded_g0.2.1 (by decide) ?_
  refine wm_iload_n 0 C dX2_bounded_g0.2.2.1 rfl ?_
  refine wm_min C wt_X2_9 (Nat.le_of_ble_eq_true rfl) (by decide) dX2_bounded_g0.2.2.2.1 ?_
  refine wm_max C wt_X2_15 (Nat.le_of_ble_eq_true rfl) (by decide) dX2_bounded_g0.2.2.2.2.1 ?_
  exact wm_iret C hrt hf dX2_bounded_g0.2.2.2.2.2
set_option maxHeartbeats 4000000 in
set_option maxRecDepth 100000 in
theorem c_X2_fed {l : Launch} {D : va_G} {cA : Nat → ClassId} {A : Nat → Nat} {Pl : List Nat} (v0 : Int32) (v1 : Int32) (v2 : Int32) (v3 : Int32) (v4 : Int32) (M : Mem) (out : (Int32 × Mem)) (ho : f_X2_fed v0 v1 v2 v3 v4 M = some out) : CtI l D cA A Pl yX2_fed cX2_fed 5 2 .int [.int v0, .int v1, .int v2, .int v3, .int v4] M out := by
  refine ct_I (by decide) (Nat.le_of_ble_eq_true rfl) (fun p e s m args below meth c C hrt => ?_)
  have hf := ho
  unfold f_X2_fed at hf
  refine wm_iload_n 0 C dX2_fed_g0.1 rfl ?_
  by_cases c1 : v0 = 1
  · have hf := (if_pos c1).symm.trans hf
    refine wm_tswI (tgt := 36) (off := 35) C dX2_fed_g0.2.1 c1 (by decide) (by decide) (by decide) (by decide) ?_
    refine wm_iload_n 1 C dX2_fed_g0.2.2.1 rfl ?_
    refine wm_iconst (v := 2) C dX2_fed_g0.2.2.2.1 (by decide) ?_
    refine wm_imul C dX2_fed_g0.2.2.2.2.1 ?_
    obtain ⟨o2, ho3, hf⟩ := bnd hf
    refine wm_callSi (As := [.int (v1 * 2)]) C (c_X2_bounded  _ _ _ ho3) mi_X2_bounded wt_X2_22 rfl rfl (by decide) (by decide) (Nat.le_of_ble_eq_true rfl) dX2_fed_g0.2.2.2.2.2.1 ?_
    exact wm_iret C hrt hf dX2_fed_g0.2.2.2.2.2.2.1
  · have hf := (if_neg c1).symm.trans hf
    by_cases c4 : v0 = 2
    · have hf := (if_pos c4).symm.trans hf
      refine wm_tswI (tgt := 43) (off := 42) C dX2_fed_g0.2.1 c4 (by decide) (by decide) (by decide) (by decide) ?_
      refine wm_iload_n 1 C dX2_fed_g0.2.2.2.2.2.2.2.1 rfl ?_
      refine wm_iconst (v := 2) C dX2_fed_g0.2.2.2.2.2.2.2.2.1 (by decide) ?_
      refine wm_idiv C (by decide) dX2_fed_g0.2.2.2.2.2.2.2.2.2.1 ?_
      exact wm_iret C hrt hf dX2_fed_g0.2.2.2.2.2.2.2.2.2.2.1
    · have hf := (if_neg c4).symm.trans hf
      by_cases c5 : v0 = 3
      · have hf := (if_pos c5).symm.trans hf
        refine wm_tswI (tgt := 47) (off := 46) C dX2_fed_g0.2.1 c5 (by decide) (by decide) (by decide) (by decide) ?_
        refine wm_iload_n 2 C dX2_fed_g0.2.2.2.2.2.2.2.2.2.2.2 rfl ?_
        refine wm_iconst (v := 1) C dX2_fed_g1.1 (by decide) ?_
        refine wm_icmp_ne (tgt := 57) C dX2_fed_g1.2.1 (by decide) (fun c6 => ?_) (fun c6 => ?_)
        · have hf := (if_neg c6).symm.trans hf
          refine wm_iload_n 1 C dX2_fed_g1.2.2.2.2.1 rfl ?_
          refine wm_iconst (v := 2) C dX2_fed_g1.2.2.2.2.2.1 (by decide) ?_
          refine wm_imul C dX2_fed_g1.2.2.2.2.2.2.1 ?_
          obtain ⟨o7, ho8, hf⟩ := bnd hf
          refine wm_callSi (As := [.int (v1 * 2)]) C (c_X2_bounded  _ _ _ ho8) mi_X2_bounded wt_X2_22 rfl rfl (by decide) (by decide) (Nat.le_of_ble_eq_true rfl) dX2_fed_g1.2.2.2.2.2.2.2.1 ?_
          exact wm_iret C hrt hf dX2_fed_g1.2.2.2.2.2.2.2.2.1
        · have hf := (if_pos c6).symm.trans hf
          refine wm_iload 4 C dX2_fed_g1.2.2.1 rfl ?_
          refine wm_goto (tgt := 63) C dX2_fed_g1.2.2.2.1 (by decide) ?_
          exact wm_iret C hrt hf dX2_fed_g1.2.2.2.2.2.2.2.2.1
      · have hf := (if_neg c5).symm.trans hf
        by_cases c9 : v0 = 4
        · have hf := (if_pos c9).symm.trans hf
          refine wm_tswI (tgt := 64) (off := 63) C dX2_fed_g0.2.1 c9 (by decide) (by decide) (by decide) (by decide) ?_
          refine wm_iload_n 3 C dX2_fed_g1.2.2.2.2.2.2.2.2.2.1 rfl ?_
          refine wm_iconst (v := 4) C dX2_fed_g1.2.2.2.2.2.2.2.2.2.2.1 (by decide) ?_
          refine wm_irem C (by decide) dX2_fed_g1.2.2.2.2.2.2.2.2.2.2.2 ?_
          refine wm_if_ne (tgt := 79) C dX2_fed_g2.1 (by decide) (fun c10 => ?_) (fun c10 => ?_)
          · have hf := (if_neg c10).symm.trans hf
            refine wm_iload_n 1 C dX2_fed_g2.2.2.2.2.2.2.2.1 rfl ?_
            refine wm_iconst (v := 2) C dX2_fed_g2.2.2.2.2.2.2.2.2.1 (by decide) ?_
            refine wm_idiv C (by decide) dX2_fed_g2.2.2.2.2.2.2.2.2.2.1 ?_
            exact wm_iret C hrt hf dX2_fed_g2.2.2.2.2.2.2.2.2.2.2.1
          · have hf := (if_pos c10).symm.trans hf
            refine wm_iload_n 1 C dX2_fed_g2.2.1 rfl ?_
            refine wm_iconst (v := 2) C dX2_fed_g2.2.2.1 (by decide) ?_
            refine wm_idiv C (by decide) dX2_fed_g2.2.2.2.1 ?_
            refine wm_bipush (v := 10) C dX2_fed_g2.2.2.2.2.1 (by decide) ?_
            refine wm_iadd C dX2_fed_g2.2.2.2.2.2.1 ?_
            refine wm_goto (tgt := 82) C dX2_fed_g2.2.2.2.2.2.2.1 (by decide) ?_
            exact wm_iret C hrt hf dX2_fed_g2.2.2.2.2.2.2.2.2.2.2.1
        · have hf := (if_neg c9).symm.trans hf
          by_cases c11 : v0 = 5
          · have hf := (if_pos c11).symm.trans hf
            refine wm_tswI (tgt := 83) (off := 82) C dX2_fed_g0.2.1 c11 (by decide) (by decide) (by decide) (by decide) ?_
            refine wm_iload_n 1 C dX2_fed_g2.2.2.2.2.2.2.2.2.2.2.2 rfl ?_
            refine wm_iload 4 C dX2_fed_g3.1 rfl ?_
            refine wm_iadd C dX2_fed_g3.2.1 ?_
            obtain ⟨o12, ho13, hf⟩ := bnd hf
            refine wm_callSi (As := [.int (v1 + v4)]) C (c_X2_bounded  _ _ _ ho13) mi_X2_bounded wt_X2_22 rfl rfl (by decide) (by decide) (Nat.le_of_ble_eq_true rfl) dX2_fed_g3.2.2.1 ?_
            exact wm_iret C hrt hf dX2_fed_g3.2.2.2.1
          · have hf := (if_neg c11).symm.trans hf
            have nc1 : ¬ (v0).toInt = 1 := lv_neT c1 (by decide)
            have nc4 : ¬ (v0).toInt = 2 := lv_neT c4 (by decide)
            have nc5 : ¬ (v0).toInt = 3 := lv_neT c5 (by decide)
            have nc9 : ¬ (v0).toInt = 4 := lv_neT c9 (by decide)
            have nc11 : ¬ (v0).toInt = 5 := lv_neT c11 (by decide)
            refine wm_tswO (tgt := 91) C dX2_fed_g0.2.1 (by omega) (by decide) ?_
            refine wm_iload_n 1 C dX2_fed_g3.2.2.2.2.1 rfl ?_
            exact wm_iret C hrt hf dX2_fed_g3.2.2.2.2.2
set_option maxHeartbeats 4000000 in
set_option maxRecDepth 100000 in
theorem c_X2_toll {l : Launch} {D : va_G} {cA : Nat → ClassId} {A : Nat → Nat} {Pl : List Nat} (v0 : Int32) (v1 : Int32) (v2 : Int32) (v3 : Int32) (v4 : Int32) (M : Mem) (out : (Int32 × Mem)) (ho : f_X2_toll v0 v1 v2 v3 v4 M = some out) : CtI l D cA A Pl yX2_toll cX2_toll 5 2 .int [.int v0, .int v1, .int v2, .int v3, .int v4] M out := by
  refine ct_I (by decide) (Nat.le_of_ble_eq_true rfl) (fun p e s m args below meth c C hrt => ?_)
  have hf := ho
  unfold f_X2_toll at hf
  refine wm_iload_n 0 C dX2_toll_g0.1 rfl ?_
  by_cases c1 : v0 = 1
  · have hf := (if_pos c1).symm.trans hf
    refine wm_tswI (tgt := 36) (off := 35) C dX2_toll_g0.2.1 c1 (by decide) (by decide) (by decide) (by decide) ?_
    refine wm_iconst (v := 0) C dX2_toll_g0.2.2.1 (by decide) ?_
    exact wm_iret C hrt hf dX2_toll_g0.2.2.2.1
  · have hf := (if_neg c1).symm.trans hf
    by_cases c2 : v0 = 2
    · have hf := (if_pos c2).symm.trans hf
      refine wm_tswI (tgt := 38) (off := 37) C dX2_toll_g0.2.1 c2 (by decide) (by decide) (by decide) (by decide) ?_
      refine wm_iload_n 1 C dX2_toll_g0.2.2.2.2.1 rfl ?_
      refine wm_iload_n 3 C dX2_toll_g0.2.2.2.2.2.1 rfl ?_
      refine wm_imul C dX2_toll_g0.2.2.2.2.2.2.1 ?_
      obtain ⟨o3, ho4, hf⟩ := bnd hf
      refine wm_callSi (As := [.int (v1 * v3)]) C (c_X2_bounded  _ _ _ ho4) mi_X2_bounded wt_X2_22 rfl rfl (by decide) (by decide) (Nat.le_of_ble_eq_true rfl) dX2_toll_g0.2.2.2.2.2.2.2.1 ?_
      exact wm_iret C hrt hf dX2_toll_g0.2.2.2.2.2.2.2.2.1
    · have hf := (if_neg c2).symm.trans hf
      by_cases c5 : v0 = 3
      · have hf := (if_pos c5).symm.trans hf
        refine wm_tswI (tgt := 45) (off := 44) C dX2_toll_g0.2.1 c5 (by decide) (by decide) (by decide) (by decide) ?_
        refine wm_iconst (v := 1) C dX2_toll_g0.2.2.2.2.2.2.2.2.2.1 (by decide) ?_
        exact wm_iret C hrt hf dX2_toll_g0.2.2.2.2.2.2.2.2.2.2.1
      · have hf := (if_neg c5).symm.trans hf
        by_cases c6 : v0 = 4
        · have hf := (if_pos c6).symm.trans hf
          refine wm_tswI (tgt := 47) (off := 46) C dX2_toll_g0.2.1 c6 (by decide) (by decide) (by decide) (by decide) ?_
          refine wm_iload_n 2 C dX2_toll_g0.2.2.2.2.2.2.2.2.2.2.2 rfl ?_
          refine wm_iload 4 C dX2_toll_g1.1 rfl ?_
          refine wm_bipush (v := 6) C dX2_toll_g1.2.1 (by decide) ?_
          refine wm_irem C (by decide) dX2_toll_g1.2.2.1 ?_
          refine wm_icmp_ne (tgt := 60) C dX2_toll_g1.2.2.2.1 (by decide) (fun c7 => ?_) (fun c7 => ?_)
          · have hf := (if_neg c7).symm.trans hf
            refine wm_iload_n 1 C dX2_toll_g1.2.2.2.2.2.2.1 rfl ?_
            refine wm_iload_n 3 C dX2_toll_g1.2.2.2.2.2.2.2.1 rfl ?_
            refine wm_imul C dX2_toll_g1.2.2.2.2.2.2.2.2.1 ?_
            obtain ⟨o8, ho9, hf⟩ := bnd hf
            refine wm_callSi (As := [.int (v1 * v3)]) C (c_X2_bounded  _ _ _ ho9) mi_X2_bounded wt_X2_22 rfl rfl (by decide) (by decide) (Nat.le_of_ble_eq_true rfl) dX2_toll_g1.2.2.2.2.2.2.2.2.2.1 ?_
            exact wm_iret C hrt hf dX2_toll_g1.2.2.2.2.2.2.2.2.2.2.1
          · have hf := (if_pos c7).symm.trans hf
            refine wm_iconst (v := 0) C dX2_toll_g1.2.2.2.2.1 (by decide) ?_
            refine wm_goto (tgt := 66) C dX2_toll_g1.2.2.2.2.2.1 (by decide) ?_
            exact wm_iret C hrt hf dX2_toll_g1.2.2.2.2.2.2.2.2.2.2.1
        · have hf := (if_neg c6).symm.trans hf
          by_cases c10 : v0 = 5
          · have hf := (if_pos c10).symm.trans hf
            refine wm_tswI (tgt := 67) (off := 66) C dX2_toll_g0.2.1 c10 (by decide) (by decide) (by decide) (by decide) ?_
            refine wm_bipush (v := 9) C dX2_toll_g1.2.2.2.2.2.2.2.2.2.2.2 (by decide) ?_
            exact wm_iret C hrt hf dX2_toll_g2.1
          · have hf := (if_neg c10).symm.trans hf
            have nc1 : ¬ (v0).toInt = 1 := lv_neT c1 (by decide)
            have nc2 : ¬ (v0).toInt = 2 := lv_neT c2 (by decide)
            have nc5 : ¬ (v0).toInt = 3 := lv_neT c5 (by decide)
            have nc6 : ¬ (v0).toInt = 4 := lv_neT c6 (by decide)
            have nc10 : ¬ (v0).toInt = 5 := lv_neT c10 (by decide)
            refine wm_tswO (tgt := 70) C dX2_toll_g0.2.1 (by omega) (by decide) ?_
            refine wm_iload_n 1 C dX2_toll_g2.2.1 rfl ?_
            exact wm_iret C hrt hf dX2_toll_g2.2.2
set_option maxHeartbeats 4000000 in
set_option maxRecDepth 100000 in
theorem c_X2_signs {l : Launch} {D : va_G} {cA : Nat → ClassId} {A : Nat → Nat} {Pl : List Nat} (v0 : Int32) (v1 : Int32) (v2 : Int32) (v3 : Int32) (M : Mem) (out : (Int32 × Mem)) (ho : f_X2_signs v0 v1 v2 v3 M = some out) : CtI l D cA A Pl yX2_signs cX2_signs 4 1 .boolean [.int v0, .int v1, .int v2, .int v3] M out := by
  refine ct_I (by decide) (Nat.le_of_ble_eq_true rfl) (fun p e s m args below meth c C hrt => ?_)
  have hb62 : ∀ (v2 : Int32) (M : Mem), f_X2_signs_b62 v2 M = some out → WM p l e (RM 1) s m args below meth c 0 0 (MQ below (QI D cA A Pl out) args s 0 0 (FA A Pl)) D cA A Pl (FA A Pl) 4 M 62 [(2, .int v2)] [] := by
    intro v2 M hf
    unfold f_X2_signs_b62 at hf
    refine wm_iload_n 0 C dX2_signs_g1.2.2.2.2.2.2.1 rfl ?_
    refine wm_if_eq (tgt := 70) C dX2_signs_g1.2.2.2.2.2.2.2.1 (by decide) (fun c13 => ?_) (fun c13 => ?_)
    · have hf := (if_pos c13).symm.trans hf
      refine wm_iconst (v := 0) C dX2_signs_g1.2.2.2.2.2.2.2.2.2.2.1 (by decide) ?_
      exact wm_zret C hrt rfl hf dX2_signs_g1.2.2.2.2.2.2.2.2.2.2.2
    · have hf := (if_neg c13).symm.trans hf
      refine wm_iconst (v := 1) C dX2_signs_g1.2.2.2.2.2.2.2.2.1 (by decide) ?_
      refine wm_goto (tgt := 71) C dX2_signs_g1.2.2.2.2.2.2.2.2.2.1 (by decide) ?_
      exact wm_zret C hrt rfl hf dX2_signs_g1.2.2.2.2.2.2.2.2.2.2.2
  have hf := ho
  unfold f_X2_signs at hf
  refine wm_iload_n 0 C dX2_signs_g0.1 rfl ?_
  by_cases c1 : v0 = 1
  · have hf := (if_pos c1).symm.trans hf
    refine wm_tswI (tgt := 36) (off := 35) C dX2_signs_g0.2.1 c1 (by decide) (by decide) (by decide) (by decide) ?_
    refine wm_iconst (v := 1) C dX2_signs_g0.2.2.1 (by decide) ?_
    exact wm_zret C hrt rfl hf dX2_signs_g0.2.2.2.1
  · have hf := (if_neg c1).symm.trans hf
    by_cases c2 : v0 = 2
    · have hf := (if_pos c2).symm.trans hf
      refine wm_tswI (tgt := 38) (off := 37) C dX2_signs_g0.2.1 c2 (by decide) (by decide) (by decide) (by decide) ?_
      refine wm_iload_n 1 C dX2_signs_g0.2.2.2.2.1 rfl ?_
      refine wm_if_eq (tgt := 50) C dX2_signs_g0.2.2.2.2.2.1 (by decide) (fun c3 => ?_) (fun c3 => ?_)
      · have hf := (if_pos c3).symm.trans hf
        refine wm_iconst (v := 0) C dX2_signs_g0.2.2.2.2.2.2.2.2.2.2.1 (by decide) ?_
        exact wm_zret C hrt rfl hf dX2_signs_g0.2.2.2.2.2.2.2.2.2.2.2
      · have hf := (if_neg c3).symm.trans hf
        refine wm_iload_n 3 C dX2_signs_g0.2.2.2.2.2.2.1 rfl ?_
        refine wm_if_eq (tgt := 50) C dX2_signs_g0.2.2.2.2.2.2.2.1 (by decide) (fun c4 => ?_) (fun c4 => ?_)
        · have hf := (if_pos c4).symm.trans hf
          refine wm_iconst (v := 0) C dX2_signs_g0.2.2.2.2.2.2.2.2.2.2.1 (by decide) ?_
          exact wm_zret C hrt rfl hf dX2_signs_g0.2.2.2.2.2.2.2.2.2.2.2
        · have hf := (if_neg c4).symm.trans hf
          refine wm_iconst (v := 1) C dX2_signs_g0.2.2.2.2.2.2.2.2.1 (by decide) ?_
          refine wm_goto (tgt := 51) C dX2_signs_g0.2.2.2.2.2.2.2.2.2.1 (by decide) ?_
          exact wm_zret C hrt rfl hf dX2_signs_g0.2.2.2.2.2.2.2.2.2.2.2
    · have hf := (if_neg c2).symm.trans hf
      by_cases c5 : v0 = 3
      · have hf := (if_pos c5).symm.trans hf
        refine wm_tswI (tgt := 52) (off := 51) C dX2_signs_g0.2.1 c5 (by decide) (by decide) (by decide) (by decide) ?_
        refine wm_iconst (v := 1) C dX2_signs_g1.1 (by decide) ?_
        exact wm_zret C hrt rfl hf dX2_signs_g1.2.1
      · have hf := (if_neg c5).symm.trans hf
        by_cases c6 : v0 = 4
        · have hf := (if_pos c6).symm.trans hf
          refine wm_tswI (tgt := 54) (off := 53) C dX2_signs_g0.2.1 c6 (by decide) (by decide) (by decide) (by decide) ?_
          refine wm_iload_n 1 C dX2_signs_g1.2.2.1 rfl ?_
          refine wm_if_eq (tgt := 62) C dX2_signs_g1.2.2.2.1 (by decide) (fun c7 => ?_) (fun c7 => ?_)
          · have hf := (if_pos c7).symm.trans hf
            refine wm_pick [2] rfl ?_
            exact hb62 _ _ hf
          · have hf := (if_neg c7).symm.trans hf
            refine wm_iload_n 3 C dX2_signs_g1.2.2.2.2.1 rfl ?_
            refine wm_if_ne (tgt := 66) C dX2_signs_g1.2.2.2.2.2.1 (by decide) (fun c8 => ?_) (fun c8 => ?_)
            · have hf := (if_neg c8).symm.trans hf
              refine wm_iconst (v := 1) C dX2_signs_g1.2.2.2.2.2.2.2.2.1 (by decide) ?_
              refine wm_goto (tgt := 71) C dX2_signs_g1.2.2.2.2.2.2.2.2.2.1 (by decide) ?_
              exact wm_zret C hrt rfl hf dX2_signs_g1.2.2.2.2.2.2.2.2.2.2.2
            · have hf := (if_pos c8).symm.trans hf
              refine wm_pick [2] rfl ?_
              exact hb62 _ _ hf
        · have hf := (if_neg c6).symm.trans hf
          by_cases c9 : v0 = 5
          · have hf := (if_pos c9).symm.trans hf
            refine wm_tswI (tgt := 72) (off := 71) C dX2_signs_g0.2.1 c9 (by decide) (by decide) (by decide) (by decide) ?_
            refine wm_iload_n 1 C dX2_signs_g2.1 rfl ?_
            refine wm_if_ne (tgt := 80) C dX2_signs_g2.2.1 (by decide) (fun c10 => ?_) (fun c10 => ?_)
            · have hf := (if_neg c10).symm.trans hf
              refine wm_iconst (v := 1) C dX2_signs_g2.2.2.2.2.1 (by decide) ?_
              refine wm_goto (tgt := 85) C dX2_signs_g2.2.2.2.2.2.1 (by decide) ?_
              exact wm_zret C hrt rfl hf dX2_signs_g2.2.2.2.2.2.2.2.1
            · have hf := (if_pos c10).symm.trans hf
              refine wm_iload_n 2 C dX2_signs_g2.2.2.1 rfl ?_
              refine wm_if_eq (tgt := 84) C dX2_signs_g2.2.2.2.1 (by decide) (fun c11 => ?_) (fun c11 => ?_)
              · have hf := (if_pos c11).symm.trans hf
                refine wm_iconst (v := 0) C dX2_signs_g2.2.2.2.2.2.2.1 (by decide) ?_
                exact wm_zret C hrt rfl hf dX2_signs_g2.2.2.2.2.2.2.2.1
              · have hf := (if_neg c11).symm.trans hf
                refine wm_iconst (v := 1) C dX2_signs_g2.2.2.2.2.1 (by decide) ?_
                refine wm_goto (tgt := 85) C dX2_signs_g2.2.2.2.2.2.1 (by decide) ?_
                exact wm_zret C hrt rfl hf dX2_signs_g2.2.2.2.2.2.2.2.1
          · have hf := (if_neg c9).symm.trans hf
            have nc1 : ¬ (v0).toInt = 1 := lv_neT c1 (by decide)
            have nc2 : ¬ (v0).toInt = 2 := lv_neT c2 (by decide)
            have nc5 : ¬ (v0).toInt = 3 := lv_neT c5 (by decide)
            have nc6 : ¬ (v0).toInt = 4 := lv_neT c6 (by decide)
            have nc9 : ¬ (v0).toInt = 5 := lv_neT c9 (by decide)
            refine wm_tswO (tgt := 86) C dX2_signs_g0.2.1 (by omega) (by decide) ?_
            refine wm_iload_n 1 C dX2_signs_g2.2.2.2.2.2.2.2.2.1 rfl ?_
            obtain ⟨h12, hf⟩ := ckd hf
            exact wm_zret C hrt (zb_n h12) hf dX2_signs_g2.2.2.2.2.2.2.2.2.2
set_option maxHeartbeats 4000000 in
set_option maxRecDepth 100000 in
theorem c_X0_judge {l : Launch} {D : va_G} {cA : Nat → ClassId} {A : Nat → Nat} {Pl : List Nat} (hPl : ∀ q, 0 ≤ q → q < 63 → q ∈ Pl) (v1 : Int32) (M : Mem) (out : Mem) (ho : f_X0_judge v1 M = some out) : CtV l D cA A Pl yX0_judge cX0_judge 4 4 [.ref (A 36), .int v1] M out := by
  refine ct_V (by decide) (Nat.le_of_ble_eq_true rfl) (fun p e s m args below meth c C hrt => ?_)
  have hb91 : ∀ (r : Int32 → Int32 → Mem → Option Mem) (hr : ∀ (v1 : Int32) (v2 : Int32) (M : Mem), r v1 v2 M = some out → WM p l e (RM 4) s m args below meth c 0 0 (MQ below (QV D cA A Pl out) args s 0 0 (FA A Pl)) D cA A Pl (FA A Pl) 4 M 41 [(0, .ref (A 36)), (1, .int v1), (2, .int v2)] []) (k97 : Int32 → Mem → Option Mem) (hk97 : ∀ (v1 : Int32) (M : Mem), k97 v1 M = some out → WM p l e (RM 4) s m args below meth c 0 0 (MQ below (QV D cA A Pl out) args s 0 0 (FA A Pl)) D cA A Pl (FA A Pl) 4 M 97 [(0, .ref (A 36)), (1, .int v1)] []), ∀ (v1 : Int32) (v2 : Int32) (M : Mem), f_X0_judge_b91 r k97 v1 v2 M = some out → WM p l e (RM 4) s m args below meth c 0 0 (MQ below (QV D cA A Pl out) args s 0 0 (FA A Pl)) D cA A Pl (FA A Pl) 4 M 91 [(0, .ref (A 36)), (1, .int v1), (2, .int v2)] [] := by
    intro r hr k97 hk97 v1 v2 M hf
    unfold f_X0_judge_b91 at hf
    refine wm_iinc (lv1 := [(2, .int (v2 + 1)), (0, .ref (A 36)), (1, .int v1)]) (v := (v2 + 1)) 2 C dX0_judge_g4.2.2.2.2.1 rfl (by first | rfl | decide) (by decide) rfl ?_
    refine wm_goto (tgt := 41) C dX0_judge_g4.2.2.2.2.2.1 (by decide) ?_
    refine wm_pick [1, 2, 0] rfl ?_
    exact hr _ _ _ hf
  have hl41 : ∀ (k97 : Int32 → Mem → Option Mem) (hk97 : ∀ (v1 : Int32) (M : Mem), k97 v1 M = some out → WM p l e (RM 4) s m args below meth c 0 0 (MQ below (QV D cA A Pl out) args s 0 0 (FA A Pl)) D cA A Pl (FA A Pl) 4 M 97 [(0, .ref (A 36)), (1, .int v1)] []) (n : Nat), ∀ (v1 : Int32) (v2 : Int32) (M : Mem), f_X0_judge_l41 k97 n v1 v2 M = some out → WM p l e (RM 4) s m args below meth c 0 0 (MQ below (QV D cA A Pl out) args s 0 0 (FA A Pl)) D cA A Pl (FA A Pl) 4 M 41 [(0, .ref (A 36)), (1, .int v1), (2, .int v2)] [] := by
    intro k97 hk97 n
    induction n with
    | zero => intro v1 v2 M hf; rw [f_X0_judge_l41] at hf; cases hf
    | succ n hr =>
      intro v1 v2 M hf
      rw [f_X0_judge_l41] at hf
      refine wm_iload_n 2 C dX0_judge_g1.2.2.2.2.2.2.2.2.2.2.2 rfl ?_
      refine wm_bipush (v := 6) C dX0_judge_g2.1 (by decide) ?_
      refine wm_icmp_ge (tgt := 97) C dX0_judge_g2.2.1 (by decide) (fun c16 => ?_) (fun c16 => ?_)
      · have hf := (if_pos c16).symm.trans hf
        refine wm_pick [0, 1] rfl ?_
        exact hk97 _ _ hf
      · have hf := (if_neg c16).symm.trans hf
        refine wm_aload_n 0 C dX0_judge_g2.2.2.1 rfl ?_
        refine wm_get (ci := 0) (k := 10) (v := .ref (A 41)) C (hPl 36 (by decide) (by decide)) rfl rfl (by decide) wt_X0_39 iwX0 rfl dX0_judge_g2.2.2.2.1 ?_
        refine wm_iload_n 2 C dX0_judge_g2.2.2.2.2.1 rfl ?_
        obtain ⟨h17, hf⟩ := ckd hf
        refine wm_iald (n := 6) (j := (v2).toNatClampNeg) (v := (M 41 (v2).toNatClampNeg)) C (hPl 41 (by decide) (by decide)) rfl rfl rfl h17 rfl rfl dX0_judge_g2.2.2.2.2.2.1 ?_
        refine wm_istore_n (lv1 := [(3, .int (M 41 (v2).toNatClampNeg)), (0, .ref (A 36)), (1, .int v1), (2, .int v2)]) C dX0_judge_g2.2.2.2.2.2.2.1 (by decide) rfl ?_
        refine wm_iload_n 0 C dX0_judge_g2.2.2.2.2.2.2.2.1 rfl ?_
        refine wm_if_le (tgt := 91) C dX0_judge_g2.2.2.2.2.2.2.2.2.1 (by decide) (fun c18 => ?_) (fun c18 => ?_)
        · have hf := (if_pos c18).symm.trans hf
          refine wm_pick [1, 2, 3] rfl ?_
          exact (hb91 _ hr _ hk97) _ _ _ hf
        · have hf := (if_neg c18).symm.trans hf
          refine wm_aload_n 1 C dX0_judge_g2.2.2.2.2.2.2.2.2.2.1 rfl ?_
          refine wm_dup C dX0_judge_g2.2.2.2.2.2.2.2.2.2.2.1 rfl ?_
          refine wm_get (ci := 0) (k := 14) (v := .int (M 36 14)) C (hPl 36 (by decide) (by decide)) rfl rfl (by decide) wt_X0_53 iwX0 rfl dX0_judge_g2.2.2.2.2.2.2.2.2.2.2.2 ?_
          refine wm_aload_n 1 C dX0_judge_g3.1 rfl ?_
          refine wm_get (ci := 0) (k := 2) (v := .int (M 36 2)) C (hPl 36 (by decide) (by decide)) rfl rfl (by decide) wt_X0_9 iwX0 rfl dX0_judge_g3.2.1 ?_
          refine wm_aload_n 1 C dX0_judge_g3.2.2.1 rfl ?_
          refine wm_iconst (v := 1) C dX0_judge_g3.2.2.2.1 (by decide) ?_
          refine wm_iload_n 3 C dX0_judge_g3.2.2.2.2.1 rfl ?_
          refine wm_iload_n 0 C dX0_judge_g3.2.2.2.2.2.1 rfl ?_
          refine wm_iload_n 2 C dX0_judge_g3.2.2.2.2.2.2.1 rfl ?_
          obtain ⟨o19, ho20, hf⟩ := bnd hf
          refine wm_callVi (As := [.int 1, .int v2, .int (M 41 (v2).toNatClampNeg), .int v1]) (ci := 0) C (c_X0_ask hPl _ _ _ _ _ _ ho20) mi_X0_ask wt_X0_95 (hPl 36 (by decide) (by decide)) rfl rfl rfl rfl (by decide) (by decide) (Nat.le_of_ble_eq_true rfl) dX0_judge_g3.2.2.2.2.2.2.2.1 ?_
          obtain ⟨o21, ho22, hf⟩ := bnd hf
          refine wm_callSi (As := [.int o19.1]) C (c_X2_bounded  _ _ _ ho22) mi_X2_bounded wt_X0_99 rfl rfl (by decide) (by decide) (Nat.le_of_ble_eq_true rfl) dX0_judge_g3.2.2.2.2.2.2.2.2.1 ?_
          refine wm_iload_n 3 C dX0_judge_g3.2.2.2.2.2.2.2.2.2.1 rfl ?_
          refine wm_iload_n 0 C dX0_judge_g3.2.2.2.2.2.2.2.2.2.2.1 rfl ?_
          refine wm_aload_n 1 C dX0_judge_g3.2.2.2.2.2.2.2.2.2.2.2 rfl ?_
          refine wm_get (ci := 0) (k := 3) (v := .int (o21.2 36 3)) C (hPl 36 (by decide) (by decide)) rfl rfl (by decide) wt_X0_15 iwX0 rfl dX0_judge_g4.1 ?_
          obtain ⟨o23, ho24, hf⟩ := bnd hf
          refine wm_callSi (As := [.int (M 36 2), .int o21.1, .int v2, .int (M 41 (v2).toNatClampNeg), .int (o21.2 36 3)]) C (c_X2_toll  _ _ _ _ _ _ _ ho24) mi_X2_toll wt_X0_107 rfl rfl (by decide) (by decide) (Nat.le_of_ble_eq_true rfl) dX0_judge_g4.2.1 ?_
          refine wm_iadd C dX0_judge_g4.2.2.1 ?_
          refine wm_put (ci := 0) (k := 14) (x := ((M 36 14) + o23.1)) C (hPl 36 (by decide) (by decide)) rfl rfl (by decide) wt_X0_53 iwX0 tyX0_ok nmX0 rfl rfl rfl rfl (fun _ => rfl) (Nat.le_of_ble_eq_true rfl) dX0_judge_g4.2.2.2.1 ?_
          refine wm_pick [1, 2, 3] rfl ?_
          exact (hb91 _ hr _ hk97) _ _ _ hf
  have hb160 : ∀ (r : Int32 → Int32 → Mem → Option Mem) (hr : ∀ (v1 : Int32) (v2 : Int32) (M : Mem), r v1 v2 M = some out → WM p l e (RM 4) s m args below meth c 0 0 (MQ below (QV D cA A Pl out) args s 0 0 (FA A Pl)) D cA A Pl (FA A Pl) 4 M 99 [(0, .ref (A 36)), (1, .int v1), (2, .int v2)] []), ∀ (v1 : Int32) (v2 : Int32) (s1 : Int32) (s2 : Int32) (s3 : Int32) (s4 : Int32) (s5 : Int32) (M : Mem), f_X0_judge_b160 r v1 v2 s1 s2 s3 s4 s5 M = some out → WM p l e (RM 4) s m args below meth c 0 0 (MQ below (QV D cA A Pl out) args s 0 0 (FA A Pl)) D cA A Pl (FA A Pl) 4 M 160 [(0, .ref (A 36)), (1, .int v1), (2, .int v2)] [.int s5, .int s4, .int s3, .int s2, .int s1, .ref (A 42)] := by
    intro r hr v1 v2 s1 s2 s3 s4 s5 M hf
    unfold f_X0_judge_b160 at hf
    obtain ⟨o7, ho8, hf⟩ := bnd hf
    refine wm_callSi (As := [.int s2, .int s3, .int s4, .int s5]) C (c_X2_signs  _ _ _ _ _ _ ho8) mi_X2_signs wt_X0_109 rfl rfl (by decide) (by decide) (Nat.le_of_ble_eq_true rfl) dX0_judge_g7.2.2.2.2.2.2.2.1 ?_
    obtain ⟨h9, hf⟩ := ckd hf
    obtain ⟨h10, hf⟩ := ckd hf
    refine wm_zast (n := 2) (j := (s1).toNatClampNeg) (x := o7.1) C (hPl 42 (by decide) (by decide)) rfl rfl rfl h9 rfl h10 dX0_judge_g7.2.2.2.2.2.2.2.2.1 ?_
    refine wm_iinc (lv1 := [(2, .int (v2 + 1)), (0, .ref (A 36)), (1, .int v1)]) (v := (v2 + 1)) 2 C dX0_judge_g7.2.2.2.2.2.2.2.2.2.1 rfl (by first | rfl | decide) (by decide) rfl ?_
    refine wm_goto (tgt := 99) C dX0_judge_g7.2.2.2.2.2.2.2.2.2.2.1 (by decide) ?_
    refine wm_pick [1, 2, 0] rfl ?_
    exact hr _ _ _ hf
  have hb142 : ∀ (r : Int32 → Int32 → Mem → Option Mem) (hr : ∀ (v1 : Int32) (v2 : Int32) (M : Mem), r v1 v2 M = some out → WM p l e (RM 4) s m args below meth c 0 0 (MQ below (QV D cA A Pl out) args s 0 0 (FA A Pl)) D cA A Pl (FA A Pl) 4 M 99 [(0, .ref (A 36)), (1, .int v1), (2, .int v2)] []), ∀ (v1 : Int32) (v2 : Int32) (s1 : Int32) (s2 : Int32) (s3 : Int32) (s4 : Int32) (M : Mem), f_X0_judge_b142 r v1 v2 s1 s2 s3 s4 M = some out → WM p l e (RM 4) s m args below meth c 0 0 (MQ below (QV D cA A Pl out) args s 0 0 (FA A Pl)) D cA A Pl (FA A Pl) 4 M 142 [(0, .ref (A 36)), (1, .int v1), (2, .int v2)] [.int s4, .int s3, .int s2, .int s1, .ref (A 42)] := by
    intro r hr v1 v2 s1 s2 s3 s4 M hf
    unfold f_X0_judge_b142 at hf
    refine wm_aload_n 0 C dX0_judge_g6.2.2.2.2.2.2.2.2.2.1 rfl ?_
    refine wm_get (ci := 0) (k := 14) (v := .int (M 36 14)) C (hPl 36 (by decide) (by decide)) rfl rfl (by decide) wt_X0_53 iwX0 rfl dX0_judge_g6.2.2.2.2.2.2.2.2.2.2.1 ?_
    refine wm_aload_n 0 C dX0_judge_g6.2.2.2.2.2.2.2.2.2.2.2 rfl ?_
    refine wm_get (ci := 0) (k := 5) (v := .ref (A 37)) C (hPl 36 (by decide) (by decide)) rfl rfl (by decide) wt_X0_21 iwX0 rfl dX0_judge_g7.1 ?_
    refine wm_iload_n 2 C dX0_judge_g7.2.1 rfl ?_
    obtain ⟨h25, hf⟩ := ckd hf
    refine wm_iald (n := 2) (j := (v2).toNatClampNeg) (v := (M 37 (v2).toNatClampNeg)) C (hPl 37 (by decide) (by decide)) rfl rfl rfl h25 rfl rfl dX0_judge_g7.2.2.1 ?_
    refine wm_icmp_ge (tgt := 159) C dX0_judge_g7.2.2.2.1 (by decide) (fun c26 => ?_) (fun c26 => ?_)
    · have hf := (if_pos c26).symm.trans hf
      refine wm_iconst (v := 0) C dX0_judge_g7.2.2.2.2.2.2.1 (by decide) ?_
      exact (hb160 _ hr) _ _ _ _ _ _ _ _ hf
    · have hf := (if_neg c26).symm.trans hf
      refine wm_iconst (v := 1) C dX0_judge_g7.2.2.2.2.1 (by decide) ?_
      refine wm_goto (tgt := 160) C dX0_judge_g7.2.2.2.2.2.1 (by decide) ?_
      exact (hb160 _ hr) _ _ _ _ _ _ _ _ hf
  have hb132 : ∀ (r : Int32 → Int32 → Mem → Option Mem) (hr : ∀ (v1 : Int32) (v2 : Int32) (M : Mem), r v1 v2 M = some out → WM p l e (RM 4) s m args below meth c 0 0 (MQ below (QV D cA A Pl out) args s 0 0 (FA A Pl)) D cA A Pl (FA A Pl) 4 M 99 [(0, .ref (A 36)), (1, .int v1), (2, .int v2)] []), ∀ (v1 : Int32) (v2 : Int32) (s1 : Int32) (s2 : Int32) (s3 : Int32) (M : Mem), f_X0_judge_b132 r v1 v2 s1 s2 s3 M = some out → WM p l e (RM 4) s m args below meth c 0 0 (MQ below (QV D cA A Pl out) args s 0 0 (FA A Pl)) D cA A Pl (FA A Pl) 4 M 132 [(0, .ref (A 36)), (1, .int v1), (2, .int v2)] [.int s3, .int s2, .int s1, .ref (A 42)] := by
    intro r hr v1 v2 s1 s2 s3 M hf
    unfold f_X0_judge_b132 at hf
    refine wm_iload_n 2 C dX0_judge_g6.2.2.2.1 rfl ?_
    refine wm_iload_n 1 C dX0_judge_g6.2.2.2.2.1 rfl ?_
    refine wm_icmp_ne (tgt := 141) C dX0_judge_g6.2.2.2.2.2.1 (by decide) (fun c15 => ?_) (fun c15 => ?_)
    · have hf := (if_neg c15).symm.trans hf
      refine wm_iconst (v := 0) C dX0_judge_g6.2.2.2.2.2.2.2.2.1 (by decide) ?_
      exact (hb142 _ hr) _ _ _ _ _ _ _ hf
    · have hf := (if_pos c15).symm.trans hf
      refine wm_iconst (v := 1) C dX0_judge_g6.2.2.2.2.2.2.1 (by decide) ?_
      refine wm_goto (tgt := 142) C dX0_judge_g6.2.2.2.2.2.2.2.1 (by decide) ?_
      exact (hb142 _ hr) _ _ _ _ _ _ _ hf
  have hl99 : ∀ (n : Nat), ∀ (v1 : Int32) (v2 : Int32) (M : Mem), f_X0_judge_l99 n v1 v2 M = some out → WM p l e (RM 4) s m args below meth c 0 0 (MQ below (QV D cA A Pl out) args s 0 0 (FA A Pl)) D cA A Pl (FA A Pl) 4 M 99 [(0, .ref (A 36)), (1, .int v1), (2, .int v2)] [] := by
    intro n
    induction n with
    | zero => intro v1 v2 M hf; rw [f_X0_judge_l99] at hf; cases hf
    | succ n hr =>
      intro v1 v2 M hf
      rw [f_X0_judge_l99] at hf
      refine wm_iload_n 2 C dX0_judge_g4.2.2.2.2.2.2.2.2.1 rfl ?_
      refine wm_iconst (v := 2) C dX0_judge_g4.2.2.2.2.2.2.2.2.2.1 (by decide) ?_
      refine wm_icmp_ge (tgt := 170) C dX0_judge_g4.2.2.2.2.2.2.2.2.2.2.1 (by decide) (fun c11 => ?_) (fun c11 => ?_)
      · have hf := (if_pos c11).symm.trans hf
        exact wm_vret C hrt hf dX0_judge_g7.2.2.2.2.2.2.2.2.2.2.2
      · have hf := (if_neg c11).symm.trans hf
        refine wm_aload_n 0 C dX0_judge_g4.2.2.2.2.2.2.2.2.2.2.2 rfl ?_
        refine wm_get (ci := 0) (k := 11) (v := .ref (A 42)) C (hPl 36 (by decide) (by decide)) rfl rfl (by decide) wt_X0_42 iwX0 rfl dX0_judge_g5.1 ?_
        refine wm_iload_n 2 C dX0_judge_g5.2.1 rfl ?_
        refine wm_aload_n 0 C dX0_judge_g5.2.2.1 rfl ?_
        refine wm_get (ci := 0) (k := 2) (v := .int (M 36 2)) C (hPl 36 (by decide) (by decide)) rfl rfl (by decide) wt_X0_9 iwX0 rfl dX0_judge_g5.2.2.2.1 ?_
        refine wm_aload_n 0 C dX0_judge_g5.2.2.2.2.1 rfl ?_
        refine wm_iconst (v := 2) C dX0_judge_g5.2.2.2.2.2.1 (by decide) ?_
        refine wm_iconst (v := 0) C dX0_judge_g5.2.2.2.2.2.2.1 (by decide) ?_
        refine wm_aload_n 0 C dX0_judge_g5.2.2.2.2.2.2.2.1 rfl ?_
        refine wm_get (ci := 0) (k := 14) (v := .int (M 36 14)) C (hPl 36 (by decide) (by decide)) rfl rfl (by decide) wt_X0_53 iwX0 rfl dX0_judge_g5.2.2.2.2.2.2.2.2.1 ?_
        refine wm_iload_n 2 C dX0_judge_g5.2.2.2.2.2.2.2.2.2.1 rfl ?_
        obtain ⟨o12, ho13, hf⟩ := bnd hf
        refine wm_callVi (As := [.int 2, .int 0, .int (M 36 14), .int v2]) (ci := 0) C (c_X0_ask hPl _ _ _ _ _ _ ho13) mi_X0_ask wt_X0_95 (hPl 36 (by decide) (by decide)) rfl rfl rfl rfl (by decide) (by decide) (Nat.le_of_ble_eq_true rfl) dX0_judge_g5.2.2.2.2.2.2.2.2.2.2.1 ?_
        refine wm_if_eq (tgt := 131) C dX0_judge_g5.2.2.2.2.2.2.2.2.2.2.2 (by decide) (fun c14 => ?_) (fun c14 => ?_)
        · have hf := (if_pos c14).symm.trans hf
          refine wm_iconst (v := 0) C dX0_judge_g6.2.2.1 (by decide) ?_
          exact (hb132 _ hr) _ _ _ _ _ _ hf
        · have hf := (if_neg c14).symm.trans hf
          refine wm_iconst (v := 1) C dX0_judge_g6.1 (by decide) ?_
          refine wm_goto (tgt := 132) C dX0_judge_g6.2.1 (by decide) ?_
          exact (hb132 _ hr) _ _ _ _ _ _ hf
  have hb97 : ∀ (v1 : Int32) (M : Mem), f_X0_judge_b97 v1 M = some out → WM p l e (RM 4) s m args below meth c 0 0 (MQ below (QV D cA A Pl out) args s 0 0 (FA A Pl)) D cA A Pl (FA A Pl) 4 M 97 [(0, .ref (A 36)), (1, .int v1)] [] := by
    intro v1 M hf
    unfold f_X0_judge_b97 at hf
    refine wm_iconst (v := 0) C dX0_judge_g4.2.2.2.2.2.2.1 (by decide) ?_
    refine wm_istore_n (lv1 := [(2, .int 0), (0, .ref (A 36)), (1, .int v1)]) C dX0_judge_g4.2.2.2.2.2.2.2.1 (by decide) rfl ?_
    refine wm_pick [1, 2, 0] rfl ?_
    exact (hl99 FU) _ _ _ hf
  have hf := ho
  unfold f_X0_judge at hf
  refine wm_aload_n 0 C dX0_judge_g0.1 rfl ?_
  refine wm_aload_n 0 C dX0_judge_g0.2.1 rfl ?_
  refine wm_get (ci := 0) (k := 2) (v := .int (M 36 2)) C (hPl 36 (by decide) (by decide)) rfl rfl (by decide) wt_X0_9 iwX0 rfl dX0_judge_g0.2.2.1 ?_
  refine wm_aload_n 0 C dX0_judge_g0.2.2.2.1 rfl ?_
  refine wm_iconst (v := 0) C dX0_judge_g0.2.2.2.2.1 (by decide) ?_
  refine wm_iconst (v := 0) C dX0_judge_g0.2.2.2.2.2.1 (by decide) ?_
  refine wm_aload_n 0 C dX0_judge_g0.2.2.2.2.2.2.1 rfl ?_
  refine wm_get (ci := 0) (k := 7) (v := .int (M 36 7)) C (hPl 36 (by decide) (by decide)) rfl rfl (by decide) wt_X0_28 iwX0 rfl dX0_judge_g0.2.2.2.2.2.2.2.1 ?_
  refine wm_iload_n 1 C dX0_judge_g0.2.2.2.2.2.2.2.2.1 rfl ?_
  obtain ⟨o1, ho2, hf⟩ := bnd hf
  refine wm_callVi (As := [.int 0, .int 0, .int (M 36 7), .int v1]) (ci := 0) C (c_X0_ask hPl _ _ _ _ _ _ ho2) mi_X0_ask wt_X0_95 (hPl 36 (by decide) (by decide)) rfl rfl rfl rfl (by decide) (by decide) (Nat.le_of_ble_eq_true rfl) dX0_judge_g0.2.2.2.2.2.2.2.2.2.1 ?_
  obtain ⟨o3, ho4, hf⟩ := bnd hf
  refine wm_callSi (As := [.int o1.1]) C (c_X2_bounded  _ _ _ ho4) mi_X2_bounded wt_X0_99 rfl rfl (by decide) (by decide) (Nat.le_of_ble_eq_true rfl) dX0_judge_g0.2.2.2.2.2.2.2.2.2.2.1 ?_
  refine wm_iload_n 1 C dX0_judge_g0.2.2.2.2.2.2.2.2.2.2.2 rfl ?_
  refine wm_aload_n 0 C dX0_judge_g1.1 rfl ?_
  refine wm_get (ci := 0) (k := 4) (v := .int (o3.2 36 4)) C (hPl 36 (by decide) (by decide)) rfl rfl (by decide) wt_X0_18 iwX0 rfl dX0_judge_g1.2.1 ?_
  refine wm_aload_n 0 C dX0_judge_g1.2.2.1 rfl ?_
  refine wm_get (ci := 0) (k := 3) (v := .int (o3.2 36 3)) C (hPl 36 (by decide) (by decide)) rfl rfl (by decide) wt_X0_15 iwX0 rfl dX0_judge_g1.2.2.2.1 ?_
  obtain ⟨o5, ho6, hf⟩ := bnd hf
  refine wm_callSi (As := [.int (M 36 2), .int o3.1, .int v1, .int (o3.2 36 4), .int (o3.2 36 3)]) C (c_X2_fed  _ _ _ _ _ _ _ ho6) mi_X2_fed wt_X0_104 rfl rfl (by decide) (by decide) (Nat.le_of_ble_eq_true rfl) dX0_judge_g1.2.2.2.2.1 ?_
  refine wm_put (ci := 0) (k := 15) (x := o5.1) C (hPl 36 (by decide) (by decide)) rfl rfl (by decide) wt_X0_56 iwX0 tyX0_ok nmX0 rfl rfl rfl rfl (fun _ => rfl) (Nat.le_of_ble_eq_true rfl) dX0_judge_g1.2.2.2.2.2.1 ?_
  refine wm_aload_n 0 C dX0_judge_g1.2.2.2.2.2.2.1 rfl ?_
  refine wm_iconst (v := 0) C dX0_judge_g1.2.2.2.2.2.2.2.1 (by decide) ?_
  refine wm_put (ci := 0) (k := 14) (x := 0) C (hPl 36 (by decide) (by decide)) rfl rfl (by decide) wt_X0_53 iwX0 tyX0_ok nmX0 rfl rfl rfl rfl (fun _ => rfl) (Nat.le_of_ble_eq_true rfl) dX0_judge_g1.2.2.2.2.2.2.2.2.1 ?_
  refine wm_iconst (v := 0) C dX0_judge_g1.2.2.2.2.2.2.2.2.2.1 (by decide) ?_
  refine wm_istore_n (lv1 := [(2, .int 0), (0, .ref (A 36)), (1, .int v1)]) C dX0_judge_g1.2.2.2.2.2.2.2.2.2.2.1 (by decide) rfl ?_
  refine wm_pick [1, 2, 0] rfl ?_
  exact (hl41 _ hb97 FU) _ _ _ hf
set_option maxHeartbeats 4000000 in
set_option maxRecDepth 100000 in
theorem c_X0_worth {l : Launch} {D : va_G} {cA : Nat → ClassId} {A : Nat → Nat} {Pl : List Nat} (hPl : ∀ q, 0 ≤ q → q < 63 → q ∈ Pl) (M : Mem) (out : (Int32 × Mem)) (ho : f_X0_worth M = some out) : CtI l D cA A Pl yX0_worth cX0_worth 1 1 .int [.ref (A 36)] M out := by
  refine ct_I (by decide) (Nat.le_of_ble_eq_true rfl) (fun p e s m args below meth c C hrt => ?_)
  have hf := ho
  unfold f_X0_worth at hf
  refine wm_aload_n 0 C dX0_worth_g0.1 rfl ?_
  refine wm_get (ci := 0) (k := 15) (v := .int (M 36 15)) C (hPl 36 (by decide) (by decide)) rfl rfl (by decide) wt_X0_56 iwX0 rfl dX0_worth_g0.2.1 ?_
  refine wm_aload_n 0 C dX0_worth_g0.2.2.1 rfl ?_
  refine wm_get (ci := 0) (k := 14) (v := .int (M 36 14)) C (hPl 36 (by decide) (by decide)) rfl rfl (by decide) wt_X0_53 iwX0 rfl dX0_worth_g0.2.2.2.1 ?_
  refine wm_isub C dX0_worth_g0.2.2.2.2.1 ?_
  exact wm_iret C hrt hf dX0_worth_g0.2.2.2.2.2
set_option maxHeartbeats 4000000 in
set_option maxRecDepth 100000 in
theorem c_X8_asks {l : Launch} {D : va_G} {cA : Nat → ClassId} {A : Nat → Nat} {Pl : List Nat} (hPl : ∀ q, 0 ≤ q → q < 63 → q ∈ Pl) (v1 : Int32) (v2 : Int32) (v3 : Int32) (M : Mem) (out : (Int32 × Mem)) (ho : f_X8_asks v1 v2 v3 M = some out) : CtI l D cA A Pl yX8_asks cX8_asks 4 5 .int [.ref (A 0), .int v1, .int v2, .int v3] M out := by
  refine ct_I (by decide) (Nat.le_of_ble_eq_true rfl) (fun p e s m args below meth c C hrt => ?_)
  have hf := ho
  unfold f_X8_asks at hf
  refine wm_aload_n 0 C dX8_asks_g0.1 rfl ?_
  refine wm_get (ci := 7) (k := 0) (v := .ref (A 1)) C (hPl 0 (by decide) (by decide)) rfl rfl (by decide) wt_X8_10 iwX8 rfl dX8_asks_g0.2.1 ?_
  refine wm_iload_n 1 C dX8_asks_g0.2.2.1 rfl ?_
  obtain ⟨o1, ho2, hf⟩ := bnd hf
  refine wm_callVi (As := [.int v1]) (ci := 1) C (c_X1_hasDish hPl _ _ _ ho2) mi_X1_hasDish wt_X8_134 (hPl 1 (by decide) (by decide)) rfl rfl rfl rfl (by decide) (by decide) (Nat.le_of_ble_eq_true rfl) dX8_asks_g0.2.2.2.1 ?_
  refine wm_if_eq (tgt := 18) C dX8_asks_g0.2.2.2.2.1 (by decide) (fun c3 => ?_) (fun c3 => ?_)
  · have hf := (if_pos c3).symm.trans hf
    refine wm_sipush (v := (-1000)) C dX8_asks_g0.2.2.2.2.2.2.2.2.1 (by decide) ?_
    exact wm_iret C hrt hf dX8_asks_g0.2.2.2.2.2.2.2.2.2.1
  · have hf := (if_neg c3).symm.trans hf
    refine wm_iload_n 2 C dX8_asks_g0.2.2.2.2.2.1 rfl ?_
    obtain ⟨o4, ho5, hf⟩ := bnd hf
    refine wm_callSi (As := [.int v2]) C (c_X8_isKitchen hPl _ _ _ ho5) mi_X8_isKitchen wt_X8_128 rfl rfl (by decide) (by decide) (Nat.le_of_ble_eq_true rfl) dX8_asks_g0.2.2.2.2.2.2.1 ?_
    refine wm_if_ne (tgt := 22) C dX8_asks_g0.2.2.2.2.2.2.2.1 (by decide) (fun c6 => ?_) (fun c6 => ?_)
    · have hf := (if_neg c6).symm.trans hf
      refine wm_aload_n 0 C dX8_asks_g0.2.2.2.2.2.2.2.2.2.2.1 rfl ?_
      refine wm_get (ci := 7) (k := 6) (v := .ref (A 36)) C (hPl 0 (by decide) (by decide)) rfl rfl (by decide) wt_X8_73 iwX8 rfl dX8_asks_g0.2.2.2.2.2.2.2.2.2.2.2 ?_
      refine wm_aload_n 0 C dX8_asks_g1.1 rfl ?_
      refine wm_get (ci := 7) (k := 0) (v := .ref (A 1)) C (hPl 0 (by decide) (by decide)) rfl rfl (by decide) wt_X8_10 iwX8 rfl dX8_asks_g1.2.1 ?_
      refine wm_iload_n 1 C dX8_asks_g1.2.2.1 rfl ?_
      obtain ⟨o7, ho8, hf⟩ := bnd hf
      refine wm_callVv (As := [.ref (A 1), .int v1]) (ci := 0) C (c_X0_takeUp hPl _ _ _ ho8) mi_X0_takeUp wt_X8_140 (hPl 36 (by decide) (by decide)) rfl rfl rfl rfl (by decide) (by decide) (Nat.le_of_ble_eq_true rfl) dX8_asks_g1.2.2.2.1 ?_
      refine wm_aload_n 0 C dX8_asks_g1.2.2.2.2.1 rfl ?_
      refine wm_get (ci := 7) (k := 6) (v := .ref (A 36)) C (hPl 0 (by decide) (by decide)) rfl rfl (by decide) wt_X8_73 iwX8 rfl dX8_asks_g1.2.2.2.2.2.1 ?_
      refine wm_iload_n 2 C dX8_asks_g1.2.2.2.2.2.2.1 rfl ?_
      refine wm_aload_n 0 C dX8_asks_g1.2.2.2.2.2.2.2.1 rfl ?_
      refine wm_get (ci := 7) (k := 0) (v := .ref (A 1)) C (hPl 0 (by decide) (by decide)) rfl rfl (by decide) wt_X8_10 iwX8 rfl dX8_asks_g1.2.2.2.2.2.2.2.2.1 ?_
      refine wm_get (ci := 1) (k := 0) (v := .ref (A 2)) C (hPl 1 (by decide) (by decide)) rfl rfl (by decide) wt_X8_104 iwX1 rfl dX8_asks_g1.2.2.2.2.2.2.2.2.2.1 ?_
      obtain ⟨o9, ho10, hf⟩ := bnd hf
      refine wm_callVv (As := [.int v2, .ref (A 2)]) (ci := 0) C (c_X0_cross hPl _ _ _ _ ho10) mi_X0_cross wt_X8_144 (hPl 36 (by decide) (by decide)) rfl rfl rfl rfl (by decide) (by decide) (Nat.le_of_ble_eq_true rfl) dX8_asks_g1.2.2.2.2.2.2.2.2.2.2.1 ?_
      refine wm_aload_n 0 C dX8_asks_g1.2.2.2.2.2.2.2.2.2.2.2 rfl ?_
      refine wm_get (ci := 7) (k := 6) (v := .ref (A 36)) C (hPl 0 (by decide) (by decide)) rfl rfl (by decide) wt_X8_73 iwX8 rfl dX8_asks_g2.1 ?_
      refine wm_iload_n 2 C dX8_asks_g2.2.1 rfl ?_
      obtain ⟨o11, ho12, hf⟩ := bnd hf
      refine wm_callVv (As := [.int v2]) (ci := 0) C (c_X0_judge hPl _ _ _ ho12) mi_X0_judge wt_X8_148 (hPl 36 (by decide) (by decide)) rfl rfl rfl rfl (by decide) (by decide) (Nat.le_of_ble_eq_true rfl) dX8_asks_g2.2.2.1 ?_
      refine wm_iload_n 3 C dX8_asks_g2.2.2.2.1 rfl ?_
      by_cases c13 : v3 = 0
      · have hf := (if_pos c13).symm.trans hf
        refine wm_tswI (tgt := 100) (off := 42) C dX8_asks_g2.2.2.2.2.1 c13 (by decide) (by decide) (by decide) (by decide) ?_
        refine wm_aload_n 0 C dX8_asks_g2.2.2.2.2.2.1 rfl ?_
        refine wm_get (ci := 7) (k := 6) (v := .ref (A 36)) C (hPl 0 (by decide) (by decide)) rfl rfl (by decide) wt_X8_73 iwX8 rfl dX8_asks_g2.2.2.2.2.2.2.1 ?_
        refine wm_get (ci := 0) (k := 12) (v := .int (o11 36 12)) C (hPl 36 (by decide) (by decide)) rfl rfl (by decide) wt_X8_152 iwX0 rfl dX8_asks_g2.2.2.2.2.2.2.2.1 ?_
        refine wm_if_eq (tgt := 114) C dX8_asks_g2.2.2.2.2.2.2.2.2.1 (by decide) (fun c14 => ?_) (fun c14 => ?_)
        · have hf := (if_pos c14).symm.trans hf
          refine wm_iconst (v := 0) C dX8_asks_g2.2.2.2.2.2.2.2.2.2.2.2 (by decide) ?_
          exact wm_iret C hrt hf dX8_asks_g3.1
        · have hf := (if_neg c14).symm.trans hf
          refine wm_iconst (v := 1) C dX8_asks_g2.2.2.2.2.2.2.2.2.2.1 (by decide) ?_
          refine wm_goto (tgt := 115) C dX8_asks_g2.2.2.2.2.2.2.2.2.2.2.1 (by decide) ?_
          exact wm_iret C hrt hf dX8_asks_g3.1
      · have hf := (if_neg c13).symm.trans hf
        by_cases c15 : v3 = 1
        · have hf := (if_pos c15).symm.trans hf
          refine wm_tswI (tgt := 116) (off := 58) C dX8_asks_g2.2.2.2.2.1 c15 (by decide) (by decide) (by decide) (by decide) ?_
          refine wm_aload_n 0 C dX8_asks_g3.2.1 rfl ?_
          refine wm_get (ci := 7) (k := 6) (v := .ref (A 36)) C (hPl 0 (by decide) (by decide)) rfl rfl (by decide) wt_X8_73 iwX8 rfl dX8_asks_g3.2.2.1 ?_
          refine wm_get (ci := 0) (k := 13) (v := .int (o11 36 13)) C (hPl 36 (by decide) (by decide)) rfl rfl (by decide) wt_X8_155 iwX0 rfl dX8_asks_g3.2.2.2.1 ?_
          exact wm_iret C hrt hf dX8_asks_g3.2.2.2.2.1
        · have hf := (if_neg c15).symm.trans hf
          by_cases c16 : v3 = 2
          · have hf := (if_pos c16).symm.trans hf
            refine wm_tswI (tgt := 124) (off := 66) C dX8_asks_g2.2.2.2.2.1 c16 (by decide) (by decide) (by decide) (by decide) ?_
            refine wm_aload_n 0 C dX8_asks_g3.2.2.2.2.2.1 rfl ?_
            refine wm_get (ci := 7) (k := 6) (v := .ref (A 36)) C (hPl 0 (by decide) (by decide)) rfl rfl (by decide) wt_X8_73 iwX8 rfl dX8_asks_g3.2.2.2.2.2.2.1 ?_
            refine wm_get (ci := 0) (k := 14) (v := .int (o11 36 14)) C (hPl 36 (by decide) (by decide)) rfl rfl (by decide) wt_X8_158 iwX0 rfl dX8_asks_g3.2.2.2.2.2.2.2.1 ?_
            exact wm_iret C hrt hf dX8_asks_g3.2.2.2.2.2.2.2.2.1
          · have hf := (if_neg c16).symm.trans hf
            by_cases c17 : v3 = 3
            · have hf := (if_pos c17).symm.trans hf
              refine wm_tswI (tgt := 132) (off := 74) C dX8_asks_g2.2.2.2.2.1 c17 (by decide) (by decide) (by decide) (by decide) ?_
              refine wm_aload_n 0 C dX8_asks_g3.2.2.2.2.2.2.2.2.2.1 rfl ?_
              refine wm_get (ci := 7) (k := 6) (v := .ref (A 36)) C (hPl 0 (by decide) (by decide)) rfl rfl (by decide) wt_X8_73 iwX8 rfl dX8_asks_g3.2.2.2.2.2.2.2.2.2.2.1 ?_
              refine wm_get (ci := 0) (k := 11) (v := .ref (A 42)) C (hPl 36 (by decide) (by decide)) rfl rfl (by decide) wt_X8_161 iwX0 rfl dX8_asks_g3.2.2.2.2.2.2.2.2.2.2.2 ?_
              refine wm_iconst (v := 0) C dX8_asks_g4.1 (by decide) ?_
              refine wm_zald (n := 2) (j := 0) (v := (o11 42 0)) C (hPl 42 (by decide) (by decide)) rfl rfl rfl (by decide) (by decide) rfl dX8_asks_g4.2.1 ?_
              refine wm_if_eq (tgt := 148) C dX8_asks_g4.2.2.1 (by decide) (fun c18 => ?_) (fun c18 => ?_)
              · have hf := (if_pos c18).symm.trans hf
                refine wm_iconst (v := 0) C dX8_asks_g4.2.2.2.2.2.1 (by decide) ?_
                exact wm_iret C hrt hf dX8_asks_g4.2.2.2.2.2.2.1
              · have hf := (if_neg c18).symm.trans hf
                refine wm_iconst (v := 1) C dX8_asks_g4.2.2.2.1 (by decide) ?_
                refine wm_goto (tgt := 149) C dX8_asks_g4.2.2.2.2.1 (by decide) ?_
                exact wm_iret C hrt hf dX8_asks_g4.2.2.2.2.2.2.1
            · have hf := (if_neg c17).symm.trans hf
              by_cases c19 : v3 = 4
              · have hf := (if_pos c19).symm.trans hf
                refine wm_tswI (tgt := 150) (off := 92) C dX8_asks_g2.2.2.2.2.1 c19 (by decide) (by decide) (by decide) (by decide) ?_
                refine wm_aload_n 0 C dX8_asks_g4.2.2.2.2.2.2.2.1 rfl ?_
                refine wm_get (ci := 7) (k := 6) (v := .ref (A 36)) C (hPl 0 (by decide) (by decide)) rfl rfl (by decide) wt_X8_73 iwX8 rfl dX8_asks_g4.2.2.2.2.2.2.2.2.1 ?_
                refine wm_get (ci := 0) (k := 11) (v := .ref (A 42)) C (hPl 36 (by decide) (by decide)) rfl rfl (by decide) wt_X8_161 iwX0 rfl dX8_asks_g4.2.2.2.2.2.2.2.2.2.1 ?_
                refine wm_iconst (v := 1) C dX8_asks_g4.2.2.2.2.2.2.2.2.2.2.1 (by decide) ?_
                refine wm_zald (n := 2) (j := 1) (v := (o11 42 1)) C (hPl 42 (by decide) (by decide)) rfl rfl rfl (by decide) (by decide) rfl dX8_asks_g4.2.2.2.2.2.2.2.2.2.2.2 ?_
                refine wm_if_eq (tgt := 166) C dX8_asks_g5.1 (by decide) (fun c20 => ?_) (fun c20 => ?_)
                · have hf := (if_pos c20).symm.trans hf
                  refine wm_iconst (v := 0) C dX8_asks_g5.2.2.2.1 (by decide) ?_
                  exact wm_iret C hrt hf dX8_asks_g5.2.2.2.2.1
                · have hf := (if_neg c20).symm.trans hf
                  refine wm_iconst (v := 1) C dX8_asks_g5.2.1 (by decide) ?_
                  refine wm_goto (tgt := 167) C dX8_asks_g5.2.2.1 (by decide) ?_
                  exact wm_iret C hrt hf dX8_asks_g5.2.2.2.2.1
              · have hf := (if_neg c19).symm.trans hf
                by_cases c21 : v3 = 5
                · have hf := (if_pos c21).symm.trans hf
                  refine wm_tswI (tgt := 168) (off := 110) C dX8_asks_g2.2.2.2.2.1 c21 (by decide) (by decide) (by decide) (by decide) ?_
                  refine wm_aload_n 0 C dX8_asks_g5.2.2.2.2.2.1 rfl ?_
                  refine wm_get (ci := 7) (k := 6) (v := .ref (A 36)) C (hPl 0 (by decide) (by decide)) rfl rfl (by decide) wt_X8_73 iwX8 rfl dX8_asks_g5.2.2.2.2.2.2.1 ?_
                  refine wm_get (ci := 0) (k := 15) (v := .int (o11 36 15)) C (hPl 36 (by decide) (by decide)) rfl rfl (by decide) wt_X8_165 iwX0 rfl dX8_asks_g5.2.2.2.2.2.2.2.1 ?_
                  exact wm_iret C hrt hf dX8_asks_g5.2.2.2.2.2.2.2.2.1
                · have hf := (if_neg c21).symm.trans hf
                  by_cases c22 : v3 = 6
                  · have hf := (if_pos c22).symm.trans hf
                    refine wm_tswI (tgt := 176) (off := 118) C dX8_asks_g2.2.2.2.2.1 c22 (by decide) (by decide) (by decide) (by decide) ?_
                    refine wm_aload_n 0 C dX8_asks_g5.2.2.2.2.2.2.2.2.2.1 rfl ?_
                    refine wm_get (ci := 7) (k := 6) (v := .ref (A 36)) C (hPl 0 (by decide) (by decide)) rfl rfl (by decide) wt_X8_73 iwX8 rfl dX8_asks_g5.2.2.2.2.2.2.2.2.2.2.1 ?_
                    obtain ⟨o23, ho24, hf⟩ := bnd hf
                    refine wm_callVi (As := []) (ci := 0) C (c_X0_worth hPl  _ _ ho24) mi_X0_worth wt_X8_168 (hPl 36 (by decide) (by decide)) rfl rfl rfl rfl (by decide) (by decide) (Nat.le_of_ble_eq_true rfl) dX8_asks_g5.2.2.2.2.2.2.2.2.2.2.2 ?_
                    exact wm_iret C hrt hf dX8_asks_g6.1
                  · have hf := (if_neg c22).symm.trans hf
                    have nc13 : ¬ (v3).toInt = 0 := lv_neT c13 (by decide)
                    have nc15 : ¬ (v3).toInt = 1 := lv_neT c15 (by decide)
                    have nc16 : ¬ (v3).toInt = 2 := lv_neT c16 (by decide)
                    have nc17 : ¬ (v3).toInt = 3 := lv_neT c17 (by decide)
                    have nc19 : ¬ (v3).toInt = 4 := lv_neT c19 (by decide)
                    have nc21 : ¬ (v3).toInt = 5 := lv_neT c21 (by decide)
                    have nc22 : ¬ (v3).toInt = 6 := lv_neT c22 (by decide)
                    refine wm_tswO (tgt := 184) C dX8_asks_g2.2.2.2.2.1 (by omega) (by decide) ?_
                    refine wm_sipush (v := (-1000)) C dX8_asks_g6.2.1 (by decide) ?_
                    exact wm_iret C hrt hf dX8_asks_g6.2.2
    · have hf := (if_pos c6).symm.trans hf
      refine wm_sipush (v := (-1000)) C dX8_asks_g0.2.2.2.2.2.2.2.2.1 (by decide) ?_
      exact wm_iret C hrt hf dX8_asks_g0.2.2.2.2.2.2.2.2.2.1
set_option maxHeartbeats 4000000 in
set_option maxRecDepth 100000 in
theorem c_X5_append {l : Launch} {D : va_G} {cA : Nat → ClassId} {A : Nat → Nat} {Pl : List Nat} (hPl : ∀ q, 16 ≤ q → q < 36 → q ∈ Pl) (v1 : Int32) (M : Mem) (out : (Int32 × Mem)) (ho : f_X5_append v1 M = some out) : CtI l D cA A Pl yX5_append cX5_append 2 1 .boolean [.ref (A 34), .int v1] M out := by
  refine ct_I (by decide) (Nat.le_of_ble_eq_true rfl) (fun p e s m args below meth c C hrt => ?_)
  have hf := ho
  unfold f_X5_append at hf
  refine wm_aload_n 0 C dX5_append_g0.1 rfl ?_
  refine wm_get (ci := 4) (k := 1) (v := .int (M 34 1)) C (hPl 34 (by decide) (by decide)) rfl rfl (by decide) wt_X5_15 iwX5 rfl dX5_append_g0.2.1 ?_
  refine wm_sipush (v := 160) C dX5_append_g0.2.2.1 (by decide) ?_
  refine wm_icmp_lt (tgt := 12) C dX5_append_g0.2.2.2.1 (by decide) (fun c1 => ?_) (fun c1 => ?_)
  · have hf := (if_pos c1).symm.trans hf
    refine wm_aload_n 0 C dX5_append_g0.2.2.2.2.2.2.1 rfl ?_
    refine wm_get (ci := 4) (k := 0) (v := .ref (A 35)) C (hPl 34 (by decide) (by decide)) rfl rfl (by decide) wt_X5_9 iwX5 rfl dX5_append_g0.2.2.2.2.2.2.2.1 ?_
    refine wm_aload_n 0 C dX5_append_g0.2.2.2.2.2.2.2.2.1 rfl ?_
    refine wm_get (ci := 4) (k := 1) (v := .int (M 34 1)) C (hPl 34 (by decide) (by decide)) rfl rfl (by decide) wt_X5_15 iwX5 rfl dX5_append_g0.2.2.2.2.2.2.2.2.2.1 ?_
    refine wm_iload_n 1 C dX5_append_g0.2.2.2.2.2.2.2.2.2.2.1 rfl ?_
    obtain ⟨h2, hf⟩ := ckd hf
    refine wm_iast (n := 160) (j := ((M 34 1)).toNatClampNeg) (x := v1) C (hPl 35 (by decide) (by decide)) rfl rfl rfl h2 rfl dX5_append_g0.2.2.2.2.2.2.2.2.2.2.2 ?_
    refine wm_aload_n 0 C dX5_append_g1.1 rfl ?_
    refine wm_dup C dX5_append_g1.2.1 rfl ?_
    refine wm_get (ci := 4) (k := 1) (v := .int (M 34 1)) C (hPl 34 (by decide) (by decide)) rfl rfl (by decide) wt_X5_15 iwX5 (by first | rfl | simp [fld, mu, upd, mcp]) dX5_append_g1.2.2.1 ?_
    refine wm_iconst (v := 1) C dX5_append_g1.2.2.2.1 (by decide) ?_
    refine wm_iadd C dX5_append_g1.2.2.2.2.1 ?_
    refine wm_put (ci := 4) (k := 1) (x := ((M 34 1) + 1)) C (hPl 34 (by decide) (by decide)) rfl rfl (by decide) wt_X5_15 iwX5 tyX5_ok nmX5 rfl rfl rfl rfl (fun _ => rfl) (Nat.le_of_ble_eq_true rfl) dX5_append_g1.2.2.2.2.2.1 ?_
    refine wm_iconst (v := 1) C dX5_append_g1.2.2.2.2.2.2.1 (by decide) ?_
    exact wm_zret C hrt rfl hf dX5_append_g1.2.2.2.2.2.2.2
  · have hf := (if_neg c1).symm.trans hf
    refine wm_iconst (v := 0) C dX5_append_g0.2.2.2.2.1 (by decide) ?_
    exact wm_zret C hrt rfl hf dX5_append_g0.2.2.2.2.2.1
set_option maxHeartbeats 4000000 in
set_option maxRecDepth 100000 in
theorem c_X8_feed {l : Launch} {D : va_G} {cA : Nat → ClassId} {A : Nat → Nat} {Pl : List Nat} (hPl : ∀ q, 0 ≤ q → q < 63 → q ∈ Pl) (v1 : Int32) (M : Mem) (out : (Int32 × Mem)) (ho : f_X8_feed v1 M = some out) : CtI l D cA A Pl yX8_feed cX8_feed 2 2 .int [.ref (A 0), .int v1] M out := by
  refine ct_I (by decide) (Nat.le_of_ble_eq_true rfl) (fun p e s m args below meth c C hrt => ?_)
  have hf := ho
  unfold f_X8_feed at hf
  refine wm_iload_n 1 C dX8_feed_g0.1 rfl ?_
  refine wm_if_lt (tgt := 11) C dX8_feed_g0.2.1 (by decide) (fun c1 => ?_) (fun c1 => ?_)
  · have hf := (if_pos c1).symm.trans hf
    refine wm_bipush (v := (-2)) C dX8_feed_g0.2.2.2.2.2.1 (by decide) ?_
    exact wm_iret C hrt hf dX8_feed_g0.2.2.2.2.2.2.1
  · have hf := (if_neg c1).symm.trans hf
    refine wm_iload_n 1 C dX8_feed_g0.2.2.1 rfl ?_
    refine wm_sipush (v := 255) C dX8_feed_g0.2.2.2.1 (by decide) ?_
    refine wm_icmp_le (tgt := 14) C dX8_feed_g0.2.2.2.2.1 (by decide) (fun c2 => ?_) (fun c2 => ?_)
    · have hf := (if_pos c2).symm.trans hf
      refine wm_aload_n 0 C dX8_feed_g0.2.2.2.2.2.2.2.1 rfl ?_
      refine wm_get (ci := 7) (k := 5) (v := .ref (A 34)) C (hPl 0 (by decide) (by decide)) rfl rfl (by decide) wt_X8_36 iwX8 rfl dX8_feed_g0.2.2.2.2.2.2.2.2.1 ?_
      refine wm_iload_n 1 C dX8_feed_g0.2.2.2.2.2.2.2.2.2.1 rfl ?_
      obtain ⟨o3, ho4, hf⟩ := bnd hf
      refine wm_callVi (As := [.int v1]) (ci := 4) C (c_X5_append (fun q h1 h2 => hPl q (by omega) (by omega)) _ _ _ ho4) mi_X5_append wt_X8_60 (hPl 34 (by decide) (by decide)) rfl rfl rfl rfl (by decide) (by decide) (Nat.le_of_ble_eq_true rfl) dX8_feed_g0.2.2.2.2.2.2.2.2.2.2.1 ?_
      refine wm_if_eq (tgt := 35) C dX8_feed_g0.2.2.2.2.2.2.2.2.2.2.2 (by decide) (fun c5 => ?_) (fun c5 => ?_)
      · have hf := (if_pos c5).symm.trans hf
        refine wm_bipush (v := (-4)) C dX8_feed_g1.2.2.2.2.1 (by decide) ?_
        exact wm_iret C hrt hf dX8_feed_g1.2.2.2.2.2
      · have hf := (if_neg c5).symm.trans hf
        refine wm_aload_n 0 C dX8_feed_g1.1 rfl ?_
        refine wm_get (ci := 7) (k := 5) (v := .ref (A 34)) C (hPl 0 (by decide) (by decide)) rfl rfl (by decide) wt_X8_36 iwX8 rfl dX8_feed_g1.2.1 ?_
        refine wm_get (ci := 4) (k := 1) (v := .int (o3.2 34 1)) C (hPl 34 (by decide) (by decide)) rfl rfl (by decide) wt_X8_171 iwX5 rfl dX8_feed_g1.2.2.1 ?_
        refine wm_goto (tgt := 37) C dX8_feed_g1.2.2.2.1 (by decide) ?_
        exact wm_iret C hrt hf dX8_feed_g1.2.2.2.2.2
    · have hf := (if_neg c2).symm.trans hf
      refine wm_bipush (v := (-2)) C dX8_feed_g0.2.2.2.2.2.1 (by decide) ?_
      exact wm_iret C hrt hf dX8_feed_g0.2.2.2.2.2.2.1
set_option maxHeartbeats 4000000 in
set_option maxRecDepth 100000 in
theorem c_X7_clear {l : Launch} {D : va_G} {cA : Nat → ClassId} {A : Nat → Nat} {Pl : List Nat} (hPl : ∀ q, 16 ≤ q → q < 36 → q ∈ Pl) (q0 : Nat) (M : Mem) (out : Mem) (ho : f_X7_clear q0 M = some out) : CtV l D cA A Pl yX7_clear cX7_clear 1 1 [.ref (A q0)] M out := by
  refine ct_V (by decide) (Nat.le_of_ble_eq_true rfl) (fun p e s m args below meth c C hrt => ?_)
  have hf := ho
  unfold f_X7_clear at hf
  refine wm_aload_n 0 C dX7_clear_g0.1 rfl ?_
  refine wm_iconst (v := 0) C dX7_clear_g0.2.1 (by decide) ?_
  obtain ⟨h1, hf⟩ := ckd hf
  refine wm_put (ci := 6) (k := 2) (x := 0) C (krr6 hPl (eq_of_beq h1)) (eq_of_beq h1) rfl (by decide) wt_X7_18 iwX7 tyX7_ok nmX7 rfl rfl rfl rfl (fun _ => rfl) (Nat.le_of_ble_eq_true rfl) dX7_clear_g0.2.2.1 ?_
  exact wm_vret C hrt hf dX7_clear_g0.2.2.2
set_option maxHeartbeats 4000000 in
set_option maxRecDepth 100000 in
theorem c_X5_isLetter {l : Launch} {D : va_G} {cA : Nat → ClassId} {A : Nat → Nat} {Pl : List Nat} (hPl : ∀ q, 16 ≤ q → q < 36 → q ∈ Pl) (v0 : Int32) (M : Mem) (out : (Int32 × Mem)) (ho : f_X5_isLetter v0 M = some out) : CtI l D cA A Pl yX5_isLetter cX5_isLetter 1 1 .boolean [.int v0] M out := by
  refine ct_I (by decide) (Nat.le_of_ble_eq_true rfl) (fun p e s m args below meth c C hrt => ?_)
  have hf := ho
  unfold f_X5_isLetter at hf
  refine wm_iload_n 0 C dX5_isLetter_g0.1 rfl ?_
  refine wm_bipush (v := 97) C dX5_isLetter_g0.2.1 (by decide) ?_
  refine wm_icmp_lt (tgt := 16) C dX5_isLetter_g0.2.2.1 (by decide) (fun c1 => ?_) (fun c1 => ?_)
  · have hf := (if_pos c1).symm.trans hf
    refine wm_iconst (v := 0) C dX5_isLetter_g0.2.2.2.2.2.2.2.2.1 (by decide) ?_
    exact wm_zret C hrt rfl hf dX5_isLetter_g0.2.2.2.2.2.2.2.2.2
  · have hf := (if_neg c1).symm.trans hf
    refine wm_iload_n 0 C dX5_isLetter_g0.2.2.2.1 rfl ?_
    refine wm_bipush (v := 122) C dX5_isLetter_g0.2.2.2.2.1 (by decide) ?_
    refine wm_icmp_gt (tgt := 16) C dX5_isLetter_g0.2.2.2.2.2.1 (by decide) (fun c2 => ?_) (fun c2 => ?_)
    · have hf := (if_pos c2).symm.trans hf
      refine wm_iconst (v := 0) C dX5_isLetter_g0.2.2.2.2.2.2.2.2.1 (by decide) ?_
      exact wm_zret C hrt rfl hf dX5_isLetter_g0.2.2.2.2.2.2.2.2.2
    · have hf := (if_neg c2).symm.trans hf
      refine wm_iconst (v := 1) C dX5_isLetter_g0.2.2.2.2.2.2.1 (by decide) ?_
      refine wm_goto (tgt := 17) C dX5_isLetter_g0.2.2.2.2.2.2.2.1 (by decide) ?_
      exact wm_zret C hrt rfl hf dX5_isLetter_g0.2.2.2.2.2.2.2.2.2
set_option maxHeartbeats 4000000 in
set_option maxRecDepth 100000 in
theorem c_X5_isWord {l : Launch} {D : va_G} {cA : Nat → ClassId} {A : Nat → Nat} {Pl : List Nat} (hPl : ∀ q, 16 ≤ q → q < 36 → q ∈ Pl) (q1 : Nat) (M : Mem) (out : (Int32 × Mem)) (ho : f_X5_isWord q1 M = some out) : CtI l D cA A Pl yX5_isWord cX5_isWord 3 9 .boolean [.ref (A 34), .ref (A q1)] M out := by
  refine ct_I (by decide) (Nat.le_of_ble_eq_true rfl) (fun p e s m args below meth c C hrt => ?_)
  have hl20 : ∀ (n : Nat), ∀ (q1 : Nat) (v2 : Int32) (M : Mem), f_X5_isWord_l20 n q1 v2 M = some out → WM p l e (RM 9) s m args below meth c 0 0 (MQ below (QI D cA A Pl out) args s 0 0 (FA A Pl)) D cA A Pl (FA A Pl) 3 M 20 [(0, .ref (A 34)), (1, .ref (A q1)), (2, .int v2)] [] := by
    intro n
    induction n with
    | zero => intro q1 v2 M hf; rw [f_X5_isWord_l20] at hf; cases hf
    | succ n hr =>
      intro q1 v2 M hf
      rw [f_X5_isWord_l20] at hf
      refine wm_iload_n 2 C dX5_isWord_g1.1 rfl ?_
      refine wm_aload_n 1 C dX5_isWord_g1.2.1 rfl ?_
      obtain ⟨h3, hf⟩ := ckd hf
      refine wm_slen C h3 wt_X5_122 (Nat.le_of_ble_eq_true rfl) (by decide) dX5_isWord_g1.2.2.1 ?_
      refine wm_icmp_ge (tgt := 55) C dX5_isWord_g1.2.2.2.1 (by decide) (fun c4 => ?_) (fun c4 => ?_)
      · have hf := (if_pos c4).symm.trans hf
        refine wm_iconst (v := 1) C dX5_isWord_g2.2.2.2.2.2.2.2.1 (by decide) ?_
        exact wm_zret C hrt rfl hf dX5_isWord_g2.2.2.2.2.2.2.2.2
      · have hf := (if_neg c4).symm.trans hf
        refine wm_aload_n 0 C dX5_isWord_g1.2.2.2.2.1 rfl ?_
        refine wm_get (ci := 4) (k := 0) (v := .ref (A 35)) C (hPl 34 (by decide) (by decide)) rfl rfl (by decide) wt_X5_9 iwX5 rfl dX5_isWord_g1.2.2.2.2.2.1 ?_
        refine wm_aload_n 0 C dX5_isWord_g1.2.2.2.2.2.2.1 rfl ?_
        refine wm_get (ci := 4) (k := 4) (v := .int (M 34 4)) C (hPl 34 (by decide) (by decide)) rfl rfl (by decide) wt_X5_25 iwX5 rfl dX5_isWord_g1.2.2.2.2.2.2.2.1 ?_
        refine wm_iload_n 2 C dX5_isWord_g1.2.2.2.2.2.2.2.2.1 rfl ?_
        refine wm_iadd C dX5_isWord_g1.2.2.2.2.2.2.2.2.2.1 ?_
        obtain ⟨h5, hf⟩ := ckd hf
        refine wm_iald (n := 160) (j := (((M 34 4) + v2)).toNatClampNeg) (v := (M 35 (((M 34 4) + v2)).toNatClampNeg)) C (hPl 35 (by decide) (by decide)) rfl rfl rfl h5 rfl rfl dX5_isWord_g1.2.2.2.2.2.2.2.2.2.2.1 ?_
        refine wm_aload_n 1 C dX5_isWord_g1.2.2.2.2.2.2.2.2.2.2.2 rfl ?_
        refine wm_iload_n 2 C dX5_isWord_g2.1 rfl ?_
        obtain ⟨h6, hf⟩ := ckd hf
        refine wm_schar C h3 h6 wt_X5_128 (Nat.le_of_ble_eq_true rfl) (by decide) dX5_isWord_g2.2.1 ?_
        refine wm_icmp_eq (tgt := 49) C dX5_isWord_g2.2.2.1 (by decide) (fun c7 => ?_) (fun c7 => ?_)
        · have hf := (if_pos c7).symm.trans hf
          refine wm_iinc (lv1 := [(2, .int (v2 + 1)), (0, .ref (A 34)), (1, .ref (A q1))]) (v := (v2 + 1)) 2 C dX5_isWord_g2.2.2.2.2.2.1 rfl (by first | rfl | decide) (by decide) rfl ?_
          refine wm_goto (tgt := 20) C dX5_isWord_g2.2.2.2.2.2.2.1 (by decide) ?_
          refine wm_pick [1, 2, 0] rfl ?_
          exact hr _ _ _ hf
        · have hf := (if_neg c7).symm.trans hf
          refine wm_iconst (v := 0) C dX5_isWord_g2.2.2.2.1 (by decide) ?_
          exact wm_zret C hrt rfl hf dX5_isWord_g2.2.2.2.2.1
  have hf := ho
  unfold f_X5_isWord at hf
  refine wm_aload_n 0 C dX5_isWord_g0.1 rfl ?_
  refine wm_get (ci := 4) (k := 2) (v := .int (M 34 2)) C (hPl 34 (by decide) (by decide)) rfl rfl (by decide) wt_X5_19 iwX5 rfl dX5_isWord_g0.2.1 ?_
  refine wm_aload_n 0 C dX5_isWord_g0.2.2.1 rfl ?_
  refine wm_get (ci := 4) (k := 4) (v := .int (M 34 4)) C (hPl 34 (by decide) (by decide)) rfl rfl (by decide) wt_X5_25 iwX5 rfl dX5_isWord_g0.2.2.2.1 ?_
  refine wm_isub C dX5_isWord_g0.2.2.2.2.1 ?_
  refine wm_aload_n 1 C dX5_isWord_g0.2.2.2.2.2.1 rfl ?_
  obtain ⟨h1, hf⟩ := ckd hf
  refine wm_slen C h1 wt_X5_122 (Nat.le_of_ble_eq_true rfl) (by decide) dX5_isWord_g0.2.2.2.2.2.2.1 ?_
  refine wm_icmp_eq (tgt := 18) C dX5_isWord_g0.2.2.2.2.2.2.2.1 (by decide) (fun c2 => ?_) (fun c2 => ?_)
  · have hf := (if_pos c2).symm.trans hf
    refine wm_iconst (v := 0) C dX5_isWord_g0.2.2.2.2.2.2.2.2.2.2.1 (by decide) ?_
    refine wm_istore_n (lv1 := [(2, .int 0), (0, .ref (A 34)), (1, .ref (A q1))]) C dX5_isWord_g0.2.2.2.2.2.2.2.2.2.2.2 (by decide) rfl ?_
    refine wm_pick [1, 2, 0] rfl ?_
    exact (hl20 FU) _ _ _ hf
  · have hf := (if_neg c2).symm.trans hf
    refine wm_iconst (v := 0) C dX5_isWord_g0.2.2.2.2.2.2.2.2.1 (by decide) ?_
    exact wm_zret C hrt rfl hf dX5_isWord_g0.2.2.2.2.2.2.2.2.2.1
set_option maxHeartbeats 4000000 in
set_option maxRecDepth 100000 in
theorem c_X7_nameCode {l : Launch} {D : va_G} {cA : Nat → ClassId} {A : Nat → Nat} {Pl : List Nat} (hPl : ∀ q, 16 ≤ q → q < 36 → q ∈ Pl) (v0 : Int32) (M : Mem) (out : (Int32 × Mem)) (ho : f_X7_nameCode v0 M = some out) : CtI l D cA A Pl yX7_nameCode cX7_nameCode 1 1 .int [.int v0] M out := by
  refine ct_I (by decide) (Nat.le_of_ble_eq_true rfl) (fun p e s m args below meth c C hrt => ?_)
  have hf := ho
  unfold f_X7_nameCode at hf
  refine wm_iconst (v := (-1)) C dX7_nameCode_g0.1 (by decide) ?_
  refine wm_iload_n 0 C dX7_nameCode_g0.2.1 rfl ?_
  refine wm_isub C dX7_nameCode_g0.2.2.1 ?_
  exact wm_iret C hrt hf dX7_nameCode_g0.2.2.2
set_option maxHeartbeats 4000000 in
set_option maxRecDepth 100000 in
theorem c_X5_advanceWord {l : Launch} {D : va_G} {cA : Nat → ClassId} {A : Nat → Nat} {Pl : List Nat} (hPl : ∀ q, 16 ≤ q → q < 36 → q ∈ Pl) (M : Mem) (out : Mem) (ho : f_X5_advanceWord M = some out) : CtV l D cA A Pl yX5_advanceWord cX5_advanceWord 1 10 [.ref (A 34)] M out := by
  refine ct_V (by decide) (Nat.le_of_ble_eq_true rfl) (fun p e s m args below meth c C hrt => ?_)
  have hl0 : ∀ (k39 : Mem → Option Mem) (hk39 : ∀  (M : Mem), k39  M = some out → WM p l e (RM 10) s m args below meth c 0 0 (MQ below (QV D cA A Pl out) args s 0 0 (FA A Pl)) D cA A Pl (FA A Pl) 1 M 39 [(0, .ref (A 34))] []) (n : Nat), ∀  (M : Mem), f_X5_advanceWord_l0 k39 n  M = some out → WM p l e (RM 10) s m args below meth c 0 0 (MQ below (QV D cA A Pl out) args s 0 0 (FA A Pl)) D cA A Pl (FA A Pl) 1 M 0 [(0, .ref (A 34))] [] := by
    intro k39 hk39 n
    induction n with
    | zero => intro  M hf; rw [f_X5_advanceWord_l0] at hf; cases hf
    | succ n hr =>
      intro  M hf
      rw [f_X5_advanceWord_l0] at hf
      refine wm_aload_n 0 C dX5_advanceWord_g0.1 rfl ?_
      refine wm_get (ci := 4) (k := 2) (v := .int (M 34 2)) C (hPl 34 (by decide) (by decide)) rfl rfl (by decide) wt_X5_19 iwX5 rfl dX5_advanceWord_g0.2.1 ?_
      refine wm_aload_n 0 C dX5_advanceWord_g0.2.2.1 rfl ?_
      refine wm_get (ci := 4) (k := 1) (v := .int (M 34 1)) C (hPl 34 (by decide) (by decide)) rfl rfl (by decide) wt_X5_15 iwX5 rfl dX5_advanceWord_g0.2.2.2.1 ?_
      refine wm_icmp_ge (tgt := 39) C dX5_advanceWord_g0.2.2.2.2.1 (by decide) (fun c1 => ?_) (fun c1 => ?_)
      · have hf := (if_pos c1).symm.trans hf
        exact hk39 _ hf
      · have hf := (if_neg c1).symm.trans hf
        refine wm_aload_n 0 C dX5_advanceWord_g0.2.2.2.2.2.1 rfl ?_
        refine wm_get (ci := 4) (k := 0) (v := .ref (A 35)) C (hPl 34 (by decide) (by decide)) rfl rfl (by decide) wt_X5_9 iwX5 rfl dX5_advanceWord_g0.2.2.2.2.2.2.1 ?_
        refine wm_aload_n 0 C dX5_advanceWord_g0.2.2.2.2.2.2.2.1 rfl ?_
        refine wm_get (ci := 4) (k := 2) (v := .int (M 34 2)) C (hPl 34 (by decide) (by decide)) rfl rfl (by decide) wt_X5_19 iwX5 rfl dX5_advanceWord_g0.2.2.2.2.2.2.2.2.1 ?_
        obtain ⟨h2, hf⟩ := ckd hf
        refine wm_iald (n := 160) (j := ((M 34 2)).toNatClampNeg) (v := (M 35 ((M 34 2)).toNatClampNeg)) C (hPl 35 (by decide) (by decide)) rfl rfl rfl h2 rfl rfl dX5_advanceWord_g0.2.2.2.2.2.2.2.2.2.1 ?_
        obtain ⟨o3, ho4, hf⟩ := bnd hf
        refine wm_callSi (As := [.int (M 35 ((M 34 2)).toNatClampNeg)]) C (c_X5_isLetter hPl _ _ _ ho4) mi_X5_isLetter wt_X5_74 rfl rfl (by decide) (by decide) (Nat.le_of_ble_eq_true rfl) dX5_advanceWord_g0.2.2.2.2.2.2.2.2.2.2.1 ?_
        refine wm_if_eq (tgt := 39) C dX5_advanceWord_g0.2.2.2.2.2.2.2.2.2.2.2 (by decide) (fun c5 => ?_) (fun c5 => ?_)
        · have hf := (if_pos c5).symm.trans hf
          exact hk39 _ hf
        · have hf := (if_neg c5).symm.trans hf
          refine wm_aload_n 0 C dX5_advanceWord_g1.1 rfl ?_
          refine wm_dup C dX5_advanceWord_g1.2.1 rfl ?_
          refine wm_get (ci := 4) (k := 2) (v := .int (o3.2 34 2)) C (hPl 34 (by decide) (by decide)) rfl rfl (by decide) wt_X5_19 iwX5 rfl dX5_advanceWord_g1.2.2.1 ?_
          refine wm_iconst (v := 1) C dX5_advanceWord_g1.2.2.2.1 (by decide) ?_
          refine wm_iadd C dX5_advanceWord_g1.2.2.2.2.1 ?_
          refine wm_put (ci := 4) (k := 2) (x := ((o3.2 34 2) + 1)) C (hPl 34 (by decide) (by decide)) rfl rfl (by decide) wt_X5_19 iwX5 tyX5_ok nmX5 rfl rfl rfl rfl (fun _ => rfl) (Nat.le_of_ble_eq_true rfl) dX5_advanceWord_g1.2.2.2.2.2.1 ?_
          refine wm_goto (tgt := 0) C dX5_advanceWord_g1.2.2.2.2.2.2.1 (by decide) ?_
          exact hr _ hf
  have hb39 : ∀  (M : Mem), f_X5_advanceWord_b39  M = some out → WM p l e (RM 10) s m args below meth c 0 0 (MQ below (QV D cA A Pl out) args s 0 0 (FA A Pl)) D cA A Pl (FA A Pl) 1 M 39 [(0, .ref (A 34))] [] := by
    intro  M hf
    unfold f_X5_advanceWord_b39 at hf
    refine wm_aload_n 0 C dX5_advanceWord_g1.2.2.2.2.2.2.2.1 rfl ?_
    refine wm_sipush (v := 259) C dX5_advanceWord_g1.2.2.2.2.2.2.2.2.1 (by decide) ?_
    refine wm_put (ci := 4) (k := 3) (x := 259) C (hPl 34 (by decide) (by decide)) rfl rfl (by decide) wt_X5_22 iwX5 tyX5_ok nmX5 rfl rfl rfl rfl (fun _ => rfl) (Nat.le_of_ble_eq_true rfl) dX5_advanceWord_g1.2.2.2.2.2.2.2.2.2.1 ?_
    refine wm_aload_n 0 C dX5_advanceWord_g1.2.2.2.2.2.2.2.2.2.2.1 rfl ?_
    refine wm_ldcs (q := 1000) (tx := "part") C (by decide) dX5_advanceWord_g1.2.2.2.2.2.2.2.2.2.2.2 ?_
    obtain ⟨o6, ho7, hf⟩ := bnd hf
    refine wm_callVi (As := [.ref (A 1000)]) (ci := 4) C (c_X5_isWord hPl _ _ _ ho7) mi_X5_isWord wt_X5_92 (hPl 34 (by decide) (by decide)) rfl rfl rfl rfl (by decide) (by decide) (Nat.le_of_ble_eq_true rfl) dX5_advanceWord_g2.1 ?_
    refine wm_if_eq (tgt := 66) C dX5_advanceWord_g2.2.1 (by decide) (fun c8 => ?_) (fun c8 => ?_)
    · have hf := (if_pos c8).symm.trans hf
      refine wm_aload_n 0 C dX5_advanceWord_g2.2.2.2.2.2.2.2.1 rfl ?_
      refine wm_ldcs (q := 1001) (tx := "much") C (by decide) dX5_advanceWord_g2.2.2.2.2.2.2.2.2.1 ?_
      obtain ⟨o9, ho10, hf⟩ := bnd hf
      refine wm_callVi (As := [.ref (A 1001)]) (ci := 4) C (c_X5_isWord hPl _ _ _ ho10) mi_X5_isWord wt_X5_92 (hPl 34 (by decide) (by decide)) rfl rfl rfl rfl (by decide) (by decide) (Nat.le_of_ble_eq_true rfl) dX5_advanceWord_g2.2.2.2.2.2.2.2.2.2.1 ?_
      refine wm_if_eq (tgt := 86) C dX5_advanceWord_g2.2.2.2.2.2.2.2.2.2.2.1 (by decide) (fun c11 => ?_) (fun c11 => ?_)
      · have hf := (if_pos c11).symm.trans hf
        refine wm_aload_n 0 C dX5_advanceWord_g3.2.2.2.2.1 rfl ?_
        refine wm_ldcs (q := 1002) (tx := "kitchen") C (by decide) dX5_advanceWord_g3.2.2.2.2.2.1 ?_
        obtain ⟨o12, ho13, hf⟩ := bnd hf
        refine wm_callVi (As := [.ref (A 1002)]) (ci := 4) C (c_X5_isWord hPl _ _ _ ho13) mi_X5_isWord wt_X5_92 (hPl 34 (by decide) (by decide)) rfl rfl rfl rfl (by decide) (by decide) (Nat.le_of_ble_eq_true rfl) dX5_advanceWord_g3.2.2.2.2.2.2.1 ?_
        refine wm_if_eq (tgt := 106) C dX5_advanceWord_g3.2.2.2.2.2.2.2.1 (by decide) (fun c14 => ?_) (fun c14 => ?_)
        · have hf := (if_pos c14).symm.trans hf
          refine wm_aload_n 0 C dX5_advanceWord_g4.2.1 rfl ?_
          refine wm_ldcs (q := 1003) (tx := "hour") C (by decide) dX5_advanceWord_g4.2.2.1 ?_
          obtain ⟨o15, ho16, hf⟩ := bnd hf
          refine wm_callVi (As := [.ref (A 1003)]) (ci := 4) C (c_X5_isWord hPl _ _ _ ho16) mi_X5_isWord wt_X5_92 (hPl 34 (by decide) (by decide)) rfl rfl rfl rfl (by decide) (by decide) (Nat.le_of_ble_eq_true rfl) dX5_advanceWord_g4.2.2.2.1 ?_
          refine wm_if_eq (tgt := 126) C dX5_advanceWord_g4.2.2.2.2.1 (by decide) (fun c17 => ?_) (fun c17 => ?_)
          · have hf := (if_pos c17).symm.trans hf
            refine wm_aload_n 0 C dX5_advanceWord_g4.2.2.2.2.2.2.2.2.2.2.1 rfl ?_
            refine wm_ldcs (q := 1004) (tx := "number") C (by decide) dX5_advanceWord_g4.2.2.2.2.2.2.2.2.2.2.2 ?_
            obtain ⟨o18, ho19, hf⟩ := bnd hf
            refine wm_callVi (As := [.ref (A 1004)]) (ci := 4) C (c_X5_isWord hPl _ _ _ ho19) mi_X5_isWord wt_X5_92 (hPl 34 (by decide) (by decide)) rfl rfl rfl rfl (by decide) (by decide) (Nat.le_of_ble_eq_true rfl) dX5_advanceWord_g5.1 ?_
            refine wm_if_eq (tgt := 146) C dX5_advanceWord_g5.2.1 (by decide) (fun c20 => ?_) (fun c20 => ?_)
            · have hf := (if_pos c20).symm.trans hf
              refine wm_aload_n 0 C dX5_advanceWord_g5.2.2.2.2.2.2.2.1 rfl ?_
              refine wm_ldcs (q := 1005) (tx := "pride") C (by decide) dX5_advanceWord_g5.2.2.2.2.2.2.2.2.1 ?_
              obtain ⟨o21, ho22, hf⟩ := bnd hf
              refine wm_callVi (As := [.ref (A 1005)]) (ci := 4) C (c_X5_isWord hPl _ _ _ ho22) mi_X5_isWord wt_X5_92 (hPl 34 (by decide) (by decide)) rfl rfl rfl rfl (by decide) (by decide) (Nat.le_of_ble_eq_true rfl) dX5_advanceWord_g5.2.2.2.2.2.2.2.2.2.1 ?_
              refine wm_if_eq (tgt := 166) C dX5_advanceWord_g5.2.2.2.2.2.2.2.2.2.2.1 (by decide) (fun c23 => ?_) (fun c23 => ?_)
              · have hf := (if_pos c23).symm.trans hf
                refine wm_aload_n 0 C dX5_advanceWord_g6.2.2.2.2.1 rfl ?_
                refine wm_ldcs (q := 1006) (tx := "feeds") C (by decide) dX5_advanceWord_g6.2.2.2.2.2.1 ?_
                obtain ⟨o24, ho25, hf⟩ := bnd hf
                refine wm_callVi (As := [.ref (A 1006)]) (ci := 4) C (c_X5_isWord hPl _ _ _ ho25) mi_X5_isWord wt_X5_92 (hPl 34 (by decide) (by decide)) rfl rfl rfl rfl (by decide) (by decide) (Nat.le_of_ble_eq_true rfl) dX5_advanceWord_g6.2.2.2.2.2.2.1 ?_
                refine wm_if_eq (tgt := 185) C dX5_advanceWord_g6.2.2.2.2.2.2.2.1 (by decide) (fun c26 => ?_) (fun c26 => ?_)
                · have hf := (if_pos c26).symm.trans hf
                  refine wm_aload_n 0 C dX5_advanceWord_g7.1 rfl ?_
                  refine wm_ldcs (q := 1007) (tx := "tolls") C (by decide) dX5_advanceWord_g7.2.1 ?_
                  obtain ⟨o27, ho28, hf⟩ := bnd hf
                  refine wm_callVi (As := [.ref (A 1007)]) (ci := 4) C (c_X5_isWord hPl _ _ _ ho28) mi_X5_isWord wt_X5_92 (hPl 34 (by decide) (by decide)) rfl rfl rfl rfl (by decide) (by decide) (Nat.le_of_ble_eq_true rfl) dX5_advanceWord_g7.2.2.1 ?_
                  refine wm_if_eq (tgt := 204) C dX5_advanceWord_g7.2.2.2.1 (by decide) (fun c29 => ?_) (fun c29 => ?_)
                  · have hf := (if_pos c29).symm.trans hf
                    refine wm_aload_n 0 C dX5_advanceWord_g7.2.2.2.2.2.2.2.2.1 rfl ?_
                    refine wm_ldcs (q := 1008) (tx := "signs") C (by decide) dX5_advanceWord_g7.2.2.2.2.2.2.2.2.2.1 ?_
                    obtain ⟨o30, ho31, hf⟩ := bnd hf
                    refine wm_callVi (As := [.ref (A 1008)]) (ci := 4) C (c_X5_isWord hPl _ _ _ ho31) mi_X5_isWord wt_X5_92 (hPl 34 (by decide) (by decide)) rfl rfl rfl rfl (by decide) (by decide) (Nat.le_of_ble_eq_true rfl) dX5_advanceWord_g7.2.2.2.2.2.2.2.2.2.2.1 ?_
                    refine wm_if_eq (tgt := 223) C dX5_advanceWord_g7.2.2.2.2.2.2.2.2.2.2.2 (by decide) (fun c32 => ?_) (fun c32 => ?_)
                    · have hf := (if_pos c32).symm.trans hf
                      refine wm_aload_n 0 C dX5_advanceWord_g8.2.2.2.2.1 rfl ?_
                      refine wm_ldcs (q := 1009) (tx := "or") C (by decide) dX5_advanceWord_g8.2.2.2.2.2.1 ?_
                      obtain ⟨o33, ho34, hf⟩ := bnd hf
                      refine wm_callVi (As := [.ref (A 1009)]) (ci := 4) C (c_X5_isWord hPl _ _ _ ho34) mi_X5_isWord wt_X5_92 (hPl 34 (by decide) (by decide)) rfl rfl rfl rfl (by decide) (by decide) (Nat.le_of_ble_eq_true rfl) dX5_advanceWord_g8.2.2.2.2.2.2.1 ?_
                      refine wm_if_eq (tgt := 242) C dX5_advanceWord_g8.2.2.2.2.2.2.2.1 (by decide) (fun c35 => ?_) (fun c35 => ?_)
                      · have hf := (if_pos c35).symm.trans hf
                        refine wm_aload_n 0 C dX5_advanceWord_g9.1 rfl ?_
                        refine wm_ldcs (q := 1010) (tx := "and") C (by decide) dX5_advanceWord_g9.2.1 ?_
                        obtain ⟨o36, ho37, hf⟩ := bnd hf
                        refine wm_callVi (As := [.ref (A 1010)]) (ci := 4) C (c_X5_isWord hPl _ _ _ ho37) mi_X5_isWord wt_X5_92 (hPl 34 (by decide) (by decide)) rfl rfl rfl rfl (by decide) (by decide) (Nat.le_of_ble_eq_true rfl) dX5_advanceWord_g9.2.2.1 ?_
                        refine wm_if_eq (tgt := 261) C dX5_advanceWord_g9.2.2.2.1 (by decide) (fun c38 => ?_) (fun c38 => ?_)
                        · have hf := (if_pos c38).symm.trans hf
                          refine wm_aload_n 0 C dX5_advanceWord_g9.2.2.2.2.2.2.2.2.1 rfl ?_
                          refine wm_ldcs (q := 1011) (tx := "not") C (by decide) dX5_advanceWord_g9.2.2.2.2.2.2.2.2.2.1 ?_
                          obtain ⟨o39, ho40, hf⟩ := bnd hf
                          refine wm_callVi (As := [.ref (A 1011)]) (ci := 4) C (c_X5_isWord hPl _ _ _ ho40) mi_X5_isWord wt_X5_92 (hPl 34 (by decide) (by decide)) rfl rfl rfl rfl (by decide) (by decide) (Nat.le_of_ble_eq_true rfl) dX5_advanceWord_g9.2.2.2.2.2.2.2.2.2.2.1 ?_
                          refine wm_if_eq (tgt := 280) C dX5_advanceWord_g9.2.2.2.2.2.2.2.2.2.2.2 (by decide) (fun c41 => ?_) (fun c41 => ?_)
                          · have hf := (if_pos c41).symm.trans hf
                            refine wm_aload_n 0 C dX5_advanceWord_g10.2.2.2.2.1 rfl ?_
                            refine wm_sipush (v := 257) C dX5_advanceWord_g10.2.2.2.2.2.1 (by decide) ?_
                            refine wm_put (ci := 4) (k := 3) (x := 257) C (hPl 34 (by decide) (by decide)) rfl rfl (by decide) wt_X5_22 iwX5 tyX5_ok nmX5 rfl rfl rfl rfl (fun _ => rfl) (Nat.le_of_ble_eq_true rfl) dX5_advanceWord_g10.2.2.2.2.2.2.1 ?_
                            exact wm_vret C hrt hf dX5_advanceWord_g10.2.2.2.2.2.2.2
                          · have hf := (if_neg c41).symm.trans hf
                            refine wm_aload_n 0 C dX5_advanceWord_g10.1 rfl ?_
                            refine wm_sipush (v := 265) C dX5_advanceWord_g10.2.1 (by decide) ?_
                            refine wm_put (ci := 4) (k := 3) (x := 265) C (hPl 34 (by decide) (by decide)) rfl rfl (by decide) wt_X5_22 iwX5 tyX5_ok nmX5 rfl rfl rfl rfl (fun _ => rfl) (Nat.le_of_ble_eq_true rfl) dX5_advanceWord_g10.2.2.1 ?_
                            refine wm_goto (tgt := 287) C dX5_advanceWord_g10.2.2.2.1 (by decide) ?_
                            exact wm_vret C hrt hf dX5_advanceWord_g10.2.2.2.2.2.2.2
                        · have hf := (if_neg c38).symm.trans hf
                          refine wm_aload_n 0 C dX5_advanceWord_g9.2.2.2.2.1 rfl ?_
                          refine wm_sipush (v := 264) C dX5_advanceWord_g9.2.2.2.2.2.1 (by decide) ?_
                          refine wm_put (ci := 4) (k := 3) (x := 264) C (hPl 34 (by decide) (by decide)) rfl rfl (by decide) wt_X5_22 iwX5 tyX5_ok nmX5 rfl rfl rfl rfl (fun _ => rfl) (Nat.le_of_ble_eq_true rfl) dX5_advanceWord_g9.2.2.2.2.2.2.1 ?_
                          refine wm_goto (tgt := 287) C dX5_advanceWord_g9.2.2.2.2.2.2.2.1 (by decide) ?_
                          exact wm_vret C hrt hf dX5_advanceWord_g10.2.2.2.2.2.2.2
                      · have hf := (if_neg c35).symm.trans hf
                        refine wm_aload_n 0 C dX5_advanceWord_g8.2.2.2.2.2.2.2.2.1 rfl ?_
                        refine wm_sipush (v := 263) C dX5_advanceWord_g8.2.2.2.2.2.2.2.2.2.1 (by decide) ?_
                        refine wm_put (ci := 4) (k := 3) (x := 263) C (hPl 34 (by decide) (by decide)) rfl rfl (by decide) wt_X5_22 iwX5 tyX5_ok nmX5 rfl rfl rfl rfl (fun _ => rfl) (Nat.le_of_ble_eq_true rfl) dX5_advanceWord_g8.2.2.2.2.2.2.2.2.2.2.1 ?_
                        refine wm_goto (tgt := 287) C dX5_advanceWord_g8.2.2.2.2.2.2.2.2.2.2.2 (by decide) ?_
                        exact wm_vret C hrt hf dX5_advanceWord_g10.2.2.2.2.2.2.2
                    · have hf := (if_neg c32).symm.trans hf
                      refine wm_aload_n 0 C dX5_advanceWord_g8.1 rfl ?_
                      refine wm_sipush (v := 262) C dX5_advanceWord_g8.2.1 (by decide) ?_
                      refine wm_put (ci := 4) (k := 3) (x := 262) C (hPl 34 (by decide) (by decide)) rfl rfl (by decide) wt_X5_22 iwX5 tyX5_ok nmX5 rfl rfl rfl rfl (fun _ => rfl) (Nat.le_of_ble_eq_true rfl) dX5_advanceWord_g8.2.2.1 ?_
                      refine wm_goto (tgt := 287) C dX5_advanceWord_g8.2.2.2.1 (by decide) ?_
                      exact wm_vret C hrt hf dX5_advanceWord_g10.2.2.2.2.2.2.2
                  · have hf := (if_neg c29).symm.trans hf
                    refine wm_aload_n 0 C dX5_advanceWord_g7.2.2.2.2.1 rfl ?_
                    refine wm_sipush (v := 261) C dX5_advanceWord_g7.2.2.2.2.2.1 (by decide) ?_
                    refine wm_put (ci := 4) (k := 3) (x := 261) C (hPl 34 (by decide) (by decide)) rfl rfl (by decide) wt_X5_22 iwX5 tyX5_ok nmX5 rfl rfl rfl rfl (fun _ => rfl) (Nat.le_of_ble_eq_true rfl) dX5_advanceWord_g7.2.2.2.2.2.2.1 ?_
                    refine wm_goto (tgt := 287) C dX5_advanceWord_g7.2.2.2.2.2.2.2.1 (by decide) ?_
                    exact wm_vret C hrt hf dX5_advanceWord_g10.2.2.2.2.2.2.2
                · have hf := (if_neg c26).symm.trans hf
                  refine wm_aload_n 0 C dX5_advanceWord_g6.2.2.2.2.2.2.2.2.1 rfl ?_
                  refine wm_sipush (v := 260) C dX5_advanceWord_g6.2.2.2.2.2.2.2.2.2.1 (by decide) ?_
                  refine wm_put (ci := 4) (k := 3) (x := 260) C (hPl 34 (by decide) (by decide)) rfl rfl (by decide) wt_X5_22 iwX5 tyX5_ok nmX5 rfl rfl rfl rfl (fun _ => rfl) (Nat.le_of_ble_eq_true rfl) dX5_advanceWord_g6.2.2.2.2.2.2.2.2.2.2.1 ?_
                  refine wm_goto (tgt := 287) C dX5_advanceWord_g6.2.2.2.2.2.2.2.2.2.2.2 (by decide) ?_
                  exact wm_vret C hrt hf dX5_advanceWord_g10.2.2.2.2.2.2.2
              · have hf := (if_neg c23).symm.trans hf
                refine wm_aload_n 0 C dX5_advanceWord_g5.2.2.2.2.2.2.2.2.2.2.2 rfl ?_
                refine wm_iconst (v := 5) C dX5_advanceWord_g6.1 (by decide) ?_
                obtain ⟨o42, ho43, hf⟩ := bnd hf
                refine wm_callSi (As := [.int 5]) C (c_X7_nameCode hPl _ _ _ ho43) mi_X7_nameCode wt_X5_96 rfl rfl (by decide) (by decide) (Nat.le_of_ble_eq_true rfl) dX5_advanceWord_g6.2.1 ?_
                refine wm_put (ci := 4) (k := 5) (x := o42.1) C (hPl 34 (by decide) (by decide)) rfl rfl (by decide) wt_X5_28 iwX5 tyX5_ok nmX5 rfl rfl rfl rfl (fun _ => rfl) (Nat.le_of_ble_eq_true rfl) dX5_advanceWord_g6.2.2.1 ?_
                refine wm_goto (tgt := 287) C dX5_advanceWord_g6.2.2.2.1 (by decide) ?_
                exact wm_vret C hrt hf dX5_advanceWord_g10.2.2.2.2.2.2.2
            · have hf := (if_neg c20).symm.trans hf
              refine wm_aload_n 0 C dX5_advanceWord_g5.2.2.1 rfl ?_
              refine wm_iconst (v := 4) C dX5_advanceWord_g5.2.2.2.1 (by decide) ?_
              obtain ⟨o44, ho45, hf⟩ := bnd hf
              refine wm_callSi (As := [.int 4]) C (c_X7_nameCode hPl _ _ _ ho45) mi_X7_nameCode wt_X5_96 rfl rfl (by decide) (by decide) (Nat.le_of_ble_eq_true rfl) dX5_advanceWord_g5.2.2.2.2.1 ?_
              refine wm_put (ci := 4) (k := 5) (x := o44.1) C (hPl 34 (by decide) (by decide)) rfl rfl (by decide) wt_X5_28 iwX5 tyX5_ok nmX5 rfl rfl rfl rfl (fun _ => rfl) (Nat.le_of_ble_eq_true rfl) dX5_advanceWord_g5.2.2.2.2.2.1 ?_
              refine wm_goto (tgt := 287) C dX5_advanceWord_g5.2.2.2.2.2.2.1 (by decide) ?_
              exact wm_vret C hrt hf dX5_advanceWord_g10.2.2.2.2.2.2.2
          · have hf := (if_neg c17).symm.trans hf
            refine wm_aload_n 0 C dX5_advanceWord_g4.2.2.2.2.2.1 rfl ?_
            refine wm_iconst (v := 3) C dX5_advanceWord_g4.2.2.2.2.2.2.1 (by decide) ?_
            obtain ⟨o46, ho47, hf⟩ := bnd hf
            refine wm_callSi (As := [.int 3]) C (c_X7_nameCode hPl _ _ _ ho47) mi_X7_nameCode wt_X5_96 rfl rfl (by decide) (by decide) (Nat.le_of_ble_eq_true rfl) dX5_advanceWord_g4.2.2.2.2.2.2.2.1 ?_
            refine wm_put (ci := 4) (k := 5) (x := o46.1) C (hPl 34 (by decide) (by decide)) rfl rfl (by decide) wt_X5_28 iwX5 tyX5_ok nmX5 rfl rfl rfl rfl (fun _ => rfl) (Nat.le_of_ble_eq_true rfl) dX5_advanceWord_g4.2.2.2.2.2.2.2.2.1 ?_
            refine wm_goto (tgt := 287) C dX5_advanceWord_g4.2.2.2.2.2.2.2.2.2.1 (by decide) ?_
            exact wm_vret C hrt hf dX5_advanceWord_g10.2.2.2.2.2.2.2
        · have hf := (if_neg c14).symm.trans hf
          refine wm_aload_n 0 C dX5_advanceWord_g3.2.2.2.2.2.2.2.2.1 rfl ?_
          refine wm_iconst (v := 2) C dX5_advanceWord_g3.2.2.2.2.2.2.2.2.2.1 (by decide) ?_
          obtain ⟨o48, ho49, hf⟩ := bnd hf
          refine wm_callSi (As := [.int 2]) C (c_X7_nameCode hPl _ _ _ ho49) mi_X7_nameCode wt_X5_96 rfl rfl (by decide) (by decide) (Nat.le_of_ble_eq_true rfl) dX5_advanceWord_g3.2.2.2.2.2.2.2.2.2.2.1 ?_
          refine wm_put (ci := 4) (k := 5) (x := o48.1) C (hPl 34 (by decide) (by decide)) rfl rfl (by decide) wt_X5_28 iwX5 tyX5_ok nmX5 rfl rfl rfl rfl (fun _ => rfl) (Nat.le_of_ble_eq_true rfl) dX5_advanceWord_g3.2.2.2.2.2.2.2.2.2.2.2 ?_
          refine wm_goto (tgt := 287) C dX5_advanceWord_g4.1 (by decide) ?_
          exact wm_vret C hrt hf dX5_advanceWord_g10.2.2.2.2.2.2.2
      · have hf := (if_neg c11).symm.trans hf
        refine wm_aload_n 0 C dX5_advanceWord_g2.2.2.2.2.2.2.2.2.2.2.2 rfl ?_
        refine wm_iconst (v := 1) C dX5_advanceWord_g3.1 (by decide) ?_
        obtain ⟨o50, ho51, hf⟩ := bnd hf
        refine wm_callSi (As := [.int 1]) C (c_X7_nameCode hPl _ _ _ ho51) mi_X7_nameCode wt_X5_96 rfl rfl (by decide) (by decide) (Nat.le_of_ble_eq_true rfl) dX5_advanceWord_g3.2.1 ?_
        refine wm_put (ci := 4) (k := 5) (x := o50.1) C (hPl 34 (by decide) (by decide)) rfl rfl (by decide) wt_X5_28 iwX5 tyX5_ok nmX5 rfl rfl rfl rfl (fun _ => rfl) (Nat.le_of_ble_eq_true rfl) dX5_advanceWord_g3.2.2.1 ?_
        refine wm_goto (tgt := 287) C dX5_advanceWord_g3.2.2.2.1 (by decide) ?_
        exact wm_vret C hrt hf dX5_advanceWord_g10.2.2.2.2.2.2.2
    · have hf := (if_neg c8).symm.trans hf
      refine wm_aload_n 0 C dX5_advanceWord_g2.2.2.1 rfl ?_
      refine wm_iconst (v := 0) C dX5_advanceWord_g2.2.2.2.1 (by decide) ?_
      obtain ⟨o52, ho53, hf⟩ := bnd hf
      refine wm_callSi (As := [.int 0]) C (c_X7_nameCode hPl _ _ _ ho53) mi_X7_nameCode wt_X5_96 rfl rfl (by decide) (by decide) (Nat.le_of_ble_eq_true rfl) dX5_advanceWord_g2.2.2.2.2.1 ?_
      refine wm_put (ci := 4) (k := 5) (x := o52.1) C (hPl 34 (by decide) (by decide)) rfl rfl (by decide) wt_X5_28 iwX5 tyX5_ok nmX5 rfl rfl rfl rfl (fun _ => rfl) (Nat.le_of_ble_eq_true rfl) dX5_advanceWord_g2.2.2.2.2.2.1 ?_
      refine wm_goto (tgt := 287) C dX5_advanceWord_g2.2.2.2.2.2.2.1 (by decide) ?_
      exact wm_vret C hrt hf dX5_advanceWord_g10.2.2.2.2.2.2.2
  have hf := ho
  unfold f_X5_advanceWord at hf
  exact (hl0 _ hb39 FU) _ hf
set_option maxHeartbeats 4000000 in
set_option maxRecDepth 100000 in
theorem c_X5_isDigit {l : Launch} {D : va_G} {cA : Nat → ClassId} {A : Nat → Nat} {Pl : List Nat} (hPl : ∀ q, 16 ≤ q → q < 36 → q ∈ Pl) (v0 : Int32) (M : Mem) (out : (Int32 × Mem)) (ho : f_X5_isDigit v0 M = some out) : CtI l D cA A Pl yX5_isDigit cX5_isDigit 1 1 .boolean [.int v0] M out := by
  refine ct_I (by decide) (Nat.le_of_ble_eq_true rfl) (fun p e s m args below meth c C hrt => ?_)
  have hf := ho
  unfold f_X5_isDigit at hf
  refine wm_iload_n 0 C dX5_isDigit_g0.1 rfl ?_
  refine wm_bipush (v := 48) C dX5_isDigit_g0.2.1 (by decide) ?_
  refine wm_icmp_lt (tgt := 16) C dX5_isDigit_g0.2.2.1 (by decide) (fun c1 => ?_) (fun c1 => ?_)
  · have hf := (if_pos c1).symm.trans hf
    refine wm_iconst (v := 0) C dX5_isDigit_g0.2.2.2.2.2.2.2.2.1 (by decide) ?_
    exact wm_zret C hrt rfl hf dX5_isDigit_g0.2.2.2.2.2.2.2.2.2
  · have hf := (if_neg c1).symm.trans hf
    refine wm_iload_n 0 C dX5_isDigit_g0.2.2.2.1 rfl ?_
    refine wm_bipush (v := 57) C dX5_isDigit_g0.2.2.2.2.1 (by decide) ?_
    refine wm_icmp_gt (tgt := 16) C dX5_isDigit_g0.2.2.2.2.2.1 (by decide) (fun c2 => ?_) (fun c2 => ?_)
    · have hf := (if_pos c2).symm.trans hf
      refine wm_iconst (v := 0) C dX5_isDigit_g0.2.2.2.2.2.2.2.2.1 (by decide) ?_
      exact wm_zret C hrt rfl hf dX5_isDigit_g0.2.2.2.2.2.2.2.2.2
    · have hf := (if_neg c2).symm.trans hf
      refine wm_iconst (v := 1) C dX5_isDigit_g0.2.2.2.2.2.2.1 (by decide) ?_
      refine wm_goto (tgt := 17) C dX5_isDigit_g0.2.2.2.2.2.2.2.1 (by decide) ?_
      exact wm_zret C hrt rfl hf dX5_isDigit_g0.2.2.2.2.2.2.2.2.2
set_option maxHeartbeats 4000000 in
set_option maxRecDepth 100000 in
theorem c_X5_advanceNumber {l : Launch} {D : va_G} {cA : Nat → ClassId} {A : Nat → Nat} {Pl : List Nat} (hPl : ∀ q, 16 ≤ q → q < 36 → q ∈ Pl) (M : Mem) (out : Mem) (ho : f_X5_advanceNumber M = some out) : CtV l D cA A Pl yX5_advanceNumber cX5_advanceNumber 1 2 [.ref (A 34)] M out := by
  refine ct_V (by decide) (Nat.le_of_ble_eq_true rfl) (fun p e s m args below meth c C hrt => ?_)
  have hb68 : ∀ (r : Mem → Option Mem) (hr : ∀  (M : Mem), r  M = some out → WM p l e (RM 2) s m args below meth c 0 0 (MQ below (QV D cA A Pl out) args s 0 0 (FA A Pl)) D cA A Pl (FA A Pl) 1 M 5 [(0, .ref (A 34))] []) (k81 : Mem → Option Mem) (hk81 : ∀  (M : Mem), k81  M = some out → WM p l e (RM 2) s m args below meth c 0 0 (MQ below (QV D cA A Pl out) args s 0 0 (FA A Pl)) D cA A Pl (FA A Pl) 1 M 81 [(0, .ref (A 34))] []), ∀  (M : Mem), f_X5_advanceNumber_b68 r k81  M = some out → WM p l e (RM 2) s m args below meth c 0 0 (MQ below (QV D cA A Pl out) args s 0 0 (FA A Pl)) D cA A Pl (FA A Pl) 1 M 68 [(0, .ref (A 34))] [] := by
    intro r hr k81 hk81  M hf
    unfold f_X5_advanceNumber_b68 at hf
    refine wm_aload_n 0 C dX5_advanceNumber_g3.1 rfl ?_
    refine wm_dup C dX5_advanceNumber_g3.2.1 rfl ?_
    refine wm_get (ci := 4) (k := 2) (v := .int (M 34 2)) C (hPl 34 (by decide) (by decide)) rfl rfl (by decide) wt_X5_19 iwX5 rfl dX5_advanceNumber_g3.2.2.1 ?_
    refine wm_iconst (v := 1) C dX5_advanceNumber_g3.2.2.2.1 (by decide) ?_
    refine wm_iadd C dX5_advanceNumber_g3.2.2.2.2.1 ?_
    refine wm_put (ci := 4) (k := 2) (x := ((M 34 2) + 1)) C (hPl 34 (by decide) (by decide)) rfl rfl (by decide) wt_X5_19 iwX5 tyX5_ok nmX5 rfl rfl rfl rfl (fun _ => rfl) (Nat.le_of_ble_eq_true rfl) dX5_advanceNumber_g3.2.2.2.2.2.1 ?_
    refine wm_goto (tgt := 5) C dX5_advanceNumber_g3.2.2.2.2.2.2.1 (by decide) ?_
    exact hr _ hf
  have hl5 : ∀ (k81 : Mem → Option Mem) (hk81 : ∀  (M : Mem), k81  M = some out → WM p l e (RM 2) s m args below meth c 0 0 (MQ below (QV D cA A Pl out) args s 0 0 (FA A Pl)) D cA A Pl (FA A Pl) 1 M 81 [(0, .ref (A 34))] []) (n : Nat), ∀  (M : Mem), f_X5_advanceNumber_l5 k81 n  M = some out → WM p l e (RM 2) s m args below meth c 0 0 (MQ below (QV D cA A Pl out) args s 0 0 (FA A Pl)) D cA A Pl (FA A Pl) 1 M 5 [(0, .ref (A 34))] [] := by
    intro k81 hk81 n
    induction n with
    | zero => intro  M hf; rw [f_X5_advanceNumber_l5] at hf; cases hf
    | succ n hr =>
      intro  M hf
      rw [f_X5_advanceNumber_l5] at hf
      refine wm_aload_n 0 C dX5_advanceNumber_g0.2.2.2.1 rfl ?_
      refine wm_get (ci := 4) (k := 2) (v := .int (M 34 2)) C (hPl 34 (by decide) (by decide)) rfl rfl (by decide) wt_X5_19 iwX5 rfl dX5_advanceNumber_g0.2.2.2.2.1 ?_
      refine wm_aload_n 0 C dX5_advanceNumber_g0.2.2.2.2.2.1 rfl ?_
      refine wm_get (ci := 4) (k := 1) (v := .int (M 34 1)) C (hPl 34 (by decide) (by decide)) rfl rfl (by decide) wt_X5_15 iwX5 rfl dX5_advanceNumber_g0.2.2.2.2.2.2.1 ?_
      refine wm_icmp_ge (tgt := 81) C dX5_advanceNumber_g0.2.2.2.2.2.2.2.1 (by decide) (fun c2 => ?_) (fun c2 => ?_)
      · have hf := (if_pos c2).symm.trans hf
        exact hk81 _ hf
      · have hf := (if_neg c2).symm.trans hf
        refine wm_aload_n 0 C dX5_advanceNumber_g0.2.2.2.2.2.2.2.2.1 rfl ?_
        refine wm_get (ci := 4) (k := 0) (v := .ref (A 35)) C (hPl 34 (by decide) (by decide)) rfl rfl (by decide) wt_X5_9 iwX5 rfl dX5_advanceNumber_g0.2.2.2.2.2.2.2.2.2.1 ?_
        refine wm_aload_n 0 C dX5_advanceNumber_g0.2.2.2.2.2.2.2.2.2.2.1 rfl ?_
        refine wm_get (ci := 4) (k := 2) (v := .int (M 34 2)) C (hPl 34 (by decide) (by decide)) rfl rfl (by decide) wt_X5_19 iwX5 rfl dX5_advanceNumber_g0.2.2.2.2.2.2.2.2.2.2.2 ?_
        obtain ⟨h3, hf⟩ := ckd hf
        refine wm_iald (n := 160) (j := ((M 34 2)).toNatClampNeg) (v := (M 35 ((M 34 2)).toNatClampNeg)) C (hPl 35 (by decide) (by decide)) rfl rfl rfl h3 rfl rfl dX5_advanceNumber_g1.1 ?_
        obtain ⟨o4, ho5, hf⟩ := bnd hf
        refine wm_callSi (As := [.int (M 35 ((M 34 2)).toNatClampNeg)]) C (c_X5_isDigit hPl _ _ _ ho5) mi_X5_isDigit wt_X5_81 rfl rfl (by decide) (by decide) (Nat.le_of_ble_eq_true rfl) dX5_advanceNumber_g1.2.1 ?_
        refine wm_if_eq (tgt := 81) C dX5_advanceNumber_g1.2.2.1 (by decide) (fun c6 => ?_) (fun c6 => ?_)
        · have hf := (if_pos c6).symm.trans hf
          exact hk81 _ hf
        · have hf := (if_neg c6).symm.trans hf
          refine wm_aload_n 0 C dX5_advanceNumber_g1.2.2.2.1 rfl ?_
          refine wm_get (ci := 4) (k := 2) (v := .int (o4.2 34 2)) C (hPl 34 (by decide) (by decide)) rfl rfl (by decide) wt_X5_19 iwX5 rfl dX5_advanceNumber_g1.2.2.2.2.1 ?_
          refine wm_aload_n 0 C dX5_advanceNumber_g1.2.2.2.2.2.1 rfl ?_
          refine wm_get (ci := 4) (k := 4) (v := .int (o4.2 34 4)) C (hPl 34 (by decide) (by decide)) rfl rfl (by decide) wt_X5_25 iwX5 rfl dX5_advanceNumber_g1.2.2.2.2.2.2.1 ?_
          refine wm_isub C dX5_advanceNumber_g1.2.2.2.2.2.2.2.1 ?_
          refine wm_iconst (v := 4) C dX5_advanceNumber_g1.2.2.2.2.2.2.2.2.1 (by decide) ?_
          refine wm_icmp_ge (tgt := 68) C dX5_advanceNumber_g1.2.2.2.2.2.2.2.2.2.1 (by decide) (fun c7 => ?_) (fun c7 => ?_)
          · have hf := (if_pos c7).symm.trans hf
            exact (hb68 _ hr _ hk81) _ hf
          · have hf := (if_neg c7).symm.trans hf
            refine wm_aload_n 0 C dX5_advanceNumber_g1.2.2.2.2.2.2.2.2.2.2.1 rfl ?_
            refine wm_aload_n 0 C dX5_advanceNumber_g1.2.2.2.2.2.2.2.2.2.2.2 rfl ?_
            refine wm_get (ci := 4) (k := 5) (v := .int (o4.2 34 5)) C (hPl 34 (by decide) (by decide)) rfl rfl (by decide) wt_X5_28 iwX5 rfl dX5_advanceNumber_g2.1 ?_
            refine wm_bipush (v := 10) C dX5_advanceNumber_g2.2.1 (by decide) ?_
            refine wm_imul C dX5_advanceNumber_g2.2.2.1 ?_
            refine wm_aload_n 0 C dX5_advanceNumber_g2.2.2.2.1 rfl ?_
            refine wm_get (ci := 4) (k := 0) (v := .ref (A 35)) C (hPl 34 (by decide) (by decide)) rfl rfl (by decide) wt_X5_9 iwX5 rfl dX5_advanceNumber_g2.2.2.2.2.1 ?_
            refine wm_aload_n 0 C dX5_advanceNumber_g2.2.2.2.2.2.1 rfl ?_
            refine wm_get (ci := 4) (k := 2) (v := .int (o4.2 34 2)) C (hPl 34 (by decide) (by decide)) rfl rfl (by decide) wt_X5_19 iwX5 rfl dX5_advanceNumber_g2.2.2.2.2.2.2.1 ?_
            obtain ⟨h8, hf⟩ := ckd hf
            refine wm_iald (n := 160) (j := ((o4.2 34 2)).toNatClampNeg) (v := (o4.2 35 ((o4.2 34 2)).toNatClampNeg)) C (hPl 35 (by decide) (by decide)) rfl rfl rfl h8 rfl rfl dX5_advanceNumber_g2.2.2.2.2.2.2.2.1 ?_
            refine wm_iadd C dX5_advanceNumber_g2.2.2.2.2.2.2.2.2.1 ?_
            refine wm_bipush (v := 48) C dX5_advanceNumber_g2.2.2.2.2.2.2.2.2.2.1 (by decide) ?_
            refine wm_isub C dX5_advanceNumber_g2.2.2.2.2.2.2.2.2.2.2.1 ?_
            refine wm_put (ci := 4) (k := 5) (x := ((((o4.2 34 5) * 10) + (o4.2 35 ((o4.2 34 2)).toNatClampNeg)) - 48)) C (hPl 34 (by decide) (by decide)) rfl rfl (by decide) wt_X5_28 iwX5 tyX5_ok nmX5 rfl rfl rfl rfl (fun _ => rfl) (Nat.le_of_ble_eq_true rfl) dX5_advanceNumber_g2.2.2.2.2.2.2.2.2.2.2.2 ?_
            exact (hb68 _ hr _ hk81) _ hf
  have hb81 : ∀  (M : Mem), f_X5_advanceNumber_b81  M = some out → WM p l e (RM 2) s m args below meth c 0 0 (MQ below (QV D cA A Pl out) args s 0 0 (FA A Pl)) D cA A Pl (FA A Pl) 1 M 81 [(0, .ref (A 34))] [] := by
    intro  M hf
    unfold f_X5_advanceNumber_b81 at hf
    refine wm_aload_n 0 C dX5_advanceNumber_g3.2.2.2.2.2.2.2.1 rfl ?_
    refine wm_aload_n 0 C dX5_advanceNumber_g3.2.2.2.2.2.2.2.2.1 rfl ?_
    refine wm_get (ci := 4) (k := 2) (v := .int (M 34 2)) C (hPl 34 (by decide) (by decide)) rfl rfl (by decide) wt_X5_19 iwX5 rfl dX5_advanceNumber_g3.2.2.2.2.2.2.2.2.2.1 ?_
    refine wm_aload_n 0 C dX5_advanceNumber_g3.2.2.2.2.2.2.2.2.2.2.1 rfl ?_
    refine wm_get (ci := 4) (k := 4) (v := .int (M 34 4)) C (hPl 34 (by decide) (by decide)) rfl rfl (by decide) wt_X5_25 iwX5 rfl dX5_advanceNumber_g3.2.2.2.2.2.2.2.2.2.2.2 ?_
    refine wm_isub C dX5_advanceNumber_g4.1 ?_
    refine wm_iconst (v := 4) C dX5_advanceNumber_g4.2.1 (by decide) ?_
    refine wm_icmp_le (tgt := 101) C dX5_advanceNumber_g4.2.2.1 (by decide) (fun c1 => ?_) (fun c1 => ?_)
    · have hf := (if_pos c1).symm.trans hf
      refine wm_sipush (v := 258) C dX5_advanceNumber_g4.2.2.2.2.2.1 (by decide) ?_
      refine wm_put (ci := 4) (k := 3) (x := 258) C (hPl 34 (by decide) (by decide)) rfl rfl (by decide) wt_X5_22 iwX5 tyX5_ok nmX5 rfl rfl rfl rfl (fun _ => rfl) (Nat.le_of_ble_eq_true rfl) dX5_advanceNumber_g4.2.2.2.2.2.2.1 ?_
      exact wm_vret C hrt hf dX5_advanceNumber_g4.2.2.2.2.2.2.2
    · have hf := (if_neg c1).symm.trans hf
      refine wm_sipush (v := 257) C dX5_advanceNumber_g4.2.2.2.1 (by decide) ?_
      refine wm_goto (tgt := 104) C dX5_advanceNumber_g4.2.2.2.2.1 (by decide) ?_
      refine wm_put (ci := 4) (k := 3) (x := 257) C (hPl 34 (by decide) (by decide)) rfl rfl (by decide) wt_X5_22 iwX5 tyX5_ok nmX5 rfl rfl rfl rfl (fun _ => rfl) (Nat.le_of_ble_eq_true rfl) dX5_advanceNumber_g4.2.2.2.2.2.2.1 ?_
      exact wm_vret C hrt hf dX5_advanceNumber_g4.2.2.2.2.2.2.2
  have hf := ho
  unfold f_X5_advanceNumber at hf
  refine wm_aload_n 0 C dX5_advanceNumber_g0.1 rfl ?_
  refine wm_iconst (v := 0) C dX5_advanceNumber_g0.2.1 (by decide) ?_
  refine wm_put (ci := 4) (k := 5) (x := 0) C (hPl 34 (by decide) (by decide)) rfl rfl (by decide) wt_X5_28 iwX5 tyX5_ok nmX5 rfl rfl rfl rfl (fun _ => rfl) (Nat.le_of_ble_eq_true rfl) dX5_advanceNumber_g0.2.2.1 ?_
  exact (hl5 _ hb81 FU) _ hf
set_option maxHeartbeats 4000000 in
set_option maxRecDepth 100000 in
theorem c_X5_isSign {l : Launch} {D : va_G} {cA : Nat → ClassId} {A : Nat → Nat} {Pl : List Nat} (hPl : ∀ q, 16 ≤ q → q < 36 → q ∈ Pl) (v0 : Int32) (M : Mem) (out : (Int32 × Mem)) (ho : f_X5_isSign v0 M = some out) : CtI l D cA A Pl yX5_isSign cX5_isSign 1 1 .boolean [.int v0] M out := by
  refine ct_I (by decide) (Nat.le_of_ble_eq_true rfl) (fun p e s m args below meth c C hrt => ?_)
  have hf := ho
  unfold f_X5_isSign at hf
  refine wm_iload_n 0 C dX5_isSign_g0.1 rfl ?_
  refine wm_bipush (v := 40) C dX5_isSign_g0.2.1 (by decide) ?_
  refine wm_icmp_eq (tgt := 48) C dX5_isSign_g0.2.2.1 (by decide) (fun c1 => ?_) (fun c1 => ?_)
  · have hf := (if_pos c1).symm.trans hf
    refine wm_iconst (v := 1) C dX5_isSign_g2.1 (by decide) ?_
    refine wm_goto (tgt := 53) C dX5_isSign_g2.2.1 (by decide) ?_
    exact wm_zret C hrt rfl hf dX5_isSign_g2.2.2.2
  · have hf := (if_neg c1).symm.trans hf
    refine wm_iload_n 0 C dX5_isSign_g0.2.2.2.1 rfl ?_
    refine wm_bipush (v := 41) C dX5_isSign_g0.2.2.2.2.1 (by decide) ?_
    refine wm_icmp_eq (tgt := 48) C dX5_isSign_g0.2.2.2.2.2.1 (by decide) (fun c2 => ?_) (fun c2 => ?_)
    · have hf := (if_pos c2).symm.trans hf
      refine wm_iconst (v := 1) C dX5_isSign_g2.1 (by decide) ?_
      refine wm_goto (tgt := 53) C dX5_isSign_g2.2.1 (by decide) ?_
      exact wm_zret C hrt rfl hf dX5_isSign_g2.2.2.2
    · have hf := (if_neg c2).symm.trans hf
      refine wm_iload_n 0 C dX5_isSign_g0.2.2.2.2.2.2.1 rfl ?_
      refine wm_bipush (v := 59) C dX5_isSign_g0.2.2.2.2.2.2.2.1 (by decide) ?_
      refine wm_icmp_eq (tgt := 48) C dX5_isSign_g0.2.2.2.2.2.2.2.2.1 (by decide) (fun c3 => ?_) (fun c3 => ?_)
      · have hf := (if_pos c3).symm.trans hf
        refine wm_iconst (v := 1) C dX5_isSign_g2.1 (by decide) ?_
        refine wm_goto (tgt := 53) C dX5_isSign_g2.2.1 (by decide) ?_
        exact wm_zret C hrt rfl hf dX5_isSign_g2.2.2.2
      · have hf := (if_neg c3).symm.trans hf
        refine wm_iload_n 0 C dX5_isSign_g0.2.2.2.2.2.2.2.2.2.1 rfl ?_
        refine wm_bipush (v := 43) C dX5_isSign_g0.2.2.2.2.2.2.2.2.2.2.1 (by decide) ?_
        refine wm_icmp_eq (tgt := 48) C dX5_isSign_g0.2.2.2.2.2.2.2.2.2.2.2 (by decide) (fun c4 => ?_) (fun c4 => ?_)
        · have hf := (if_pos c4).symm.trans hf
          refine wm_iconst (v := 1) C dX5_isSign_g2.1 (by decide) ?_
          refine wm_goto (tgt := 53) C dX5_isSign_g2.2.1 (by decide) ?_
          exact wm_zret C hrt rfl hf dX5_isSign_g2.2.2.2
        · have hf := (if_neg c4).symm.trans hf
          refine wm_iload_n 0 C dX5_isSign_g1.1 rfl ?_
          refine wm_bipush (v := 45) C dX5_isSign_g1.2.1 (by decide) ?_
          refine wm_icmp_eq (tgt := 48) C dX5_isSign_g1.2.2.1 (by decide) (fun c5 => ?_) (fun c5 => ?_)
          · have hf := (if_pos c5).symm.trans hf
            refine wm_iconst (v := 1) C dX5_isSign_g2.1 (by decide) ?_
            refine wm_goto (tgt := 53) C dX5_isSign_g2.2.1 (by decide) ?_
            exact wm_zret C hrt rfl hf dX5_isSign_g2.2.2.2
          · have hf := (if_neg c5).symm.trans hf
            refine wm_iload_n 0 C dX5_isSign_g1.2.2.2.1 rfl ?_
            refine wm_bipush (v := 42) C dX5_isSign_g1.2.2.2.2.1 (by decide) ?_
            refine wm_icmp_eq (tgt := 48) C dX5_isSign_g1.2.2.2.2.2.1 (by decide) (fun c6 => ?_) (fun c6 => ?_)
            · have hf := (if_pos c6).symm.trans hf
              refine wm_iconst (v := 1) C dX5_isSign_g2.1 (by decide) ?_
              refine wm_goto (tgt := 53) C dX5_isSign_g2.2.1 (by decide) ?_
              exact wm_zret C hrt rfl hf dX5_isSign_g2.2.2.2
            · have hf := (if_neg c6).symm.trans hf
              refine wm_iload_n 0 C dX5_isSign_g1.2.2.2.2.2.2.1 rfl ?_
              refine wm_bipush (v := 60) C dX5_isSign_g1.2.2.2.2.2.2.2.1 (by decide) ?_
              refine wm_icmp_eq (tgt := 48) C dX5_isSign_g1.2.2.2.2.2.2.2.2.1 (by decide) (fun c7 => ?_) (fun c7 => ?_)
              · have hf := (if_pos c7).symm.trans hf
                refine wm_iconst (v := 1) C dX5_isSign_g2.1 (by decide) ?_
                refine wm_goto (tgt := 53) C dX5_isSign_g2.2.1 (by decide) ?_
                exact wm_zret C hrt rfl hf dX5_isSign_g2.2.2.2
              · have hf := (if_neg c7).symm.trans hf
                refine wm_iload_n 0 C dX5_isSign_g1.2.2.2.2.2.2.2.2.2.1 rfl ?_
                refine wm_bipush (v := 61) C dX5_isSign_g1.2.2.2.2.2.2.2.2.2.2.1 (by decide) ?_
                refine wm_icmp_ne (tgt := 52) C dX5_isSign_g1.2.2.2.2.2.2.2.2.2.2.2 (by decide) (fun c8 => ?_) (fun c8 => ?_)
                · have hf := (if_neg c8).symm.trans hf
                  refine wm_iconst (v := 0) C dX5_isSign_g2.2.2.1 (by decide) ?_
                  exact wm_zret C hrt rfl hf dX5_isSign_g2.2.2.2
                · have hf := (if_pos c8).symm.trans hf
                  refine wm_iconst (v := 1) C dX5_isSign_g2.1 (by decide) ?_
                  refine wm_goto (tgt := 53) C dX5_isSign_g2.2.1 (by decide) ?_
                  exact wm_zret C hrt rfl hf dX5_isSign_g2.2.2.2
set_option maxHeartbeats 4000000 in
set_option maxRecDepth 100000 in
theorem c_X5_advance {l : Launch} {D : va_G} {cA : Nat → ClassId} {A : Nat → Nat} {Pl : List Nat} (hPl : ∀ q, 16 ≤ q → q < 36 → q ∈ Pl) (M : Mem) (out : Mem) (ho : f_X5_advance M = some out) : CtV l D cA A Pl yX5_advance cX5_advance 1 11 [.ref (A 34)] M out := by
  refine ct_V (by decide) (Nat.le_of_ble_eq_true rfl) (fun p e s m args below meth c C hrt => ?_)
  have hb39 : ∀ (r : Mem → Option Mem) (hr : ∀  (M : Mem), r  M = some out → WM p l e (RM 11) s m args below meth c 0 0 (MQ below (QV D cA A Pl out) args s 0 0 (FA A Pl)) D cA A Pl (FA A Pl) 1 M 0 [(0, .ref (A 34))] []) (k52 : Mem → Option Mem) (hk52 : ∀  (M : Mem), k52  M = some out → WM p l e (RM 11) s m args below meth c 0 0 (MQ below (QV D cA A Pl out) args s 0 0 (FA A Pl)) D cA A Pl (FA A Pl) 1 M 52 [(0, .ref (A 34))] []), ∀  (M : Mem), f_X5_advance_b39 r k52  M = some out → WM p l e (RM 11) s m args below meth c 0 0 (MQ below (QV D cA A Pl out) args s 0 0 (FA A Pl)) D cA A Pl (FA A Pl) 1 M 39 [(0, .ref (A 34))] [] := by
    intro r hr k52 hk52  M hf
    unfold f_X5_advance_b39 at hf
    refine wm_aload_n 0 C dX5_advance_g1.2.2.2.2.2.2.2.1 rfl ?_
    refine wm_dup C dX5_advance_g1.2.2.2.2.2.2.2.2.1 rfl ?_
    refine wm_get (ci := 4) (k := 2) (v := .int (M 34 2)) C (hPl 34 (by decide) (by decide)) rfl rfl (by decide) wt_X5_19 iwX5 rfl dX5_advance_g1.2.2.2.2.2.2.2.2.2.1 ?_
    refine wm_iconst (v := 1) C dX5_advance_g1.2.2.2.2.2.2.2.2.2.2.1 (by decide) ?_
    refine wm_iadd C dX5_advance_g1.2.2.2.2.2.2.2.2.2.2.2 ?_
    refine wm_put (ci := 4) (k := 2) (x := ((M 34 2) + 1)) C (hPl 34 (by decide) (by decide)) rfl rfl (by decide) wt_X5_19 iwX5 tyX5_ok nmX5 rfl rfl rfl rfl (fun _ => rfl) (Nat.le_of_ble_eq_true rfl) dX5_advance_g2.1 ?_
    refine wm_goto (tgt := 0) C dX5_advance_g2.2.1 (by decide) ?_
    exact hr _ hf
  have hl0 : ∀ (k52 : Mem → Option Mem) (hk52 : ∀  (M : Mem), k52  M = some out → WM p l e (RM 11) s m args below meth c 0 0 (MQ below (QV D cA A Pl out) args s 0 0 (FA A Pl)) D cA A Pl (FA A Pl) 1 M 52 [(0, .ref (A 34))] []) (n : Nat), ∀  (M : Mem), f_X5_advance_l0 k52 n  M = some out → WM p l e (RM 11) s m args below meth c 0 0 (MQ below (QV D cA A Pl out) args s 0 0 (FA A Pl)) D cA A Pl (FA A Pl) 1 M 0 [(0, .ref (A 34))] [] := by
    intro k52 hk52 n
    induction n with
    | zero => intro  M hf; rw [f_X5_advance_l0] at hf; cases hf
    | succ n hr =>
      intro  M hf
      rw [f_X5_advance_l0] at hf
      refine wm_aload_n 0 C dX5_advance_g0.1 rfl ?_
      refine wm_get (ci := 4) (k := 2) (v := .int (M 34 2)) C (hPl 34 (by decide) (by decide)) rfl rfl (by decide) wt_X5_19 iwX5 rfl dX5_advance_g0.2.1 ?_
      refine wm_aload_n 0 C dX5_advance_g0.2.2.1 rfl ?_
      refine wm_get (ci := 4) (k := 1) (v := .int (M 34 1)) C (hPl 34 (by decide) (by decide)) rfl rfl (by decide) wt_X5_15 iwX5 rfl dX5_advance_g0.2.2.2.1 ?_
      refine wm_icmp_ge (tgt := 52) C dX5_advance_g0.2.2.2.2.1 (by decide) (fun c1 => ?_) (fun c1 => ?_)
      · have hf := (if_pos c1).symm.trans hf
        exact hk52 _ hf
      · have hf := (if_neg c1).symm.trans hf
        refine wm_aload_n 0 C dX5_advance_g0.2.2.2.2.2.1 rfl ?_
        refine wm_get (ci := 4) (k := 0) (v := .ref (A 35)) C (hPl 34 (by decide) (by decide)) rfl rfl (by decide) wt_X5_9 iwX5 rfl dX5_advance_g0.2.2.2.2.2.2.1 ?_
        refine wm_aload_n 0 C dX5_advance_g0.2.2.2.2.2.2.2.1 rfl ?_
        refine wm_get (ci := 4) (k := 2) (v := .int (M 34 2)) C (hPl 34 (by decide) (by decide)) rfl rfl (by decide) wt_X5_19 iwX5 rfl dX5_advance_g0.2.2.2.2.2.2.2.2.1 ?_
        obtain ⟨h2, hf⟩ := ckd hf
        refine wm_iald (n := 160) (j := ((M 34 2)).toNatClampNeg) (v := (M 35 ((M 34 2)).toNatClampNeg)) C (hPl 35 (by decide) (by decide)) rfl rfl rfl h2 rfl rfl dX5_advance_g0.2.2.2.2.2.2.2.2.2.1 ?_
        refine wm_bipush (v := 32) C dX5_advance_g0.2.2.2.2.2.2.2.2.2.2.1 (by decide) ?_
        refine wm_icmp_eq (tgt := 39) C dX5_advance_g0.2.2.2.2.2.2.2.2.2.2.2 (by decide) (fun c3 => ?_) (fun c3 => ?_)
        · have hf := (if_pos c3).symm.trans hf
          exact (hb39 _ hr _ hk52) _ hf
        · have hf := (if_neg c3).symm.trans hf
          refine wm_aload_n 0 C dX5_advance_g1.1 rfl ?_
          refine wm_get (ci := 4) (k := 0) (v := .ref (A 35)) C (hPl 34 (by decide) (by decide)) rfl rfl (by decide) wt_X5_9 iwX5 rfl dX5_advance_g1.2.1 ?_
          refine wm_aload_n 0 C dX5_advance_g1.2.2.1 rfl ?_
          refine wm_get (ci := 4) (k := 2) (v := .int (M 34 2)) C (hPl 34 (by decide) (by decide)) rfl rfl (by decide) wt_X5_19 iwX5 rfl dX5_advance_g1.2.2.2.1 ?_
          refine wm_iald (n := 160) (j := ((M 34 2)).toNatClampNeg) (v := (M 35 ((M 34 2)).toNatClampNeg)) C (hPl 35 (by decide) (by decide)) rfl rfl rfl h2 rfl rfl dX5_advance_g1.2.2.2.2.1 ?_
          refine wm_bipush (v := 10) C dX5_advance_g1.2.2.2.2.2.1 (by decide) ?_
          refine wm_icmp_ne (tgt := 52) C dX5_advance_g1.2.2.2.2.2.2.1 (by decide) (fun c4 => ?_) (fun c4 => ?_)
          · have hf := (if_neg c4).symm.trans hf
            exact hk52 _ hf
          · have hf := (if_pos c4).symm.trans hf
            exact (hb39 _ hr _ hk52) _ hf
  have hb156 : ∀ (s1 : Int32) (M : Mem), f_X5_advance_b156 s1 M = some out → WM p l e (RM 11) s m args below meth c 0 0 (MQ below (QV D cA A Pl out) args s 0 0 (FA A Pl)) D cA A Pl (FA A Pl) 1 M 156 [(0, .ref (A 34))] [.int s1, .ref (A 34)] := by
    intro s1 M hf
    unfold f_X5_advance_b156 at hf
    refine wm_put (ci := 4) (k := 3) (x := s1) C (hPl 34 (by decide) (by decide)) rfl rfl (by decide) wt_X5_22 iwX5 tyX5_ok nmX5 rfl rfl rfl rfl (fun _ => rfl) (Nat.le_of_ble_eq_true rfl) dX5_advance_g6.2.2.1 ?_
    refine wm_aload_n 0 C dX5_advance_g6.2.2.2.1 rfl ?_
    refine wm_dup C dX5_advance_g6.2.2.2.2.1 rfl ?_
    refine wm_get (ci := 4) (k := 2) (v := .int (M 34 2)) C (hPl 34 (by decide) (by decide)) rfl rfl (by decide) wt_X5_19 iwX5 (by first | rfl | simp [fld, mu, upd, mcp]) dX5_advance_g6.2.2.2.2.2.1 ?_
    refine wm_iconst (v := 1) C dX5_advance_g6.2.2.2.2.2.2.1 (by decide) ?_
    refine wm_iadd C dX5_advance_g6.2.2.2.2.2.2.2.1 ?_
    refine wm_put (ci := 4) (k := 2) (x := ((M 34 2) + 1)) C (hPl 34 (by decide) (by decide)) rfl rfl (by decide) wt_X5_19 iwX5 tyX5_ok nmX5 rfl rfl rfl rfl (fun _ => rfl) (Nat.le_of_ble_eq_true rfl) dX5_advance_g6.2.2.2.2.2.2.2.2.1 ?_
    exact wm_vret C hrt hf dX5_advance_g6.2.2.2.2.2.2.2.2.2
  have hb52 : ∀  (M : Mem), f_X5_advance_b52  M = some out → WM p l e (RM 11) s m args below meth c 0 0 (MQ below (QV D cA A Pl out) args s 0 0 (FA A Pl)) D cA A Pl (FA A Pl) 1 M 52 [(0, .ref (A 34))] [] := by
    intro  M hf
    unfold f_X5_advance_b52 at hf
    refine wm_aload_n 0 C dX5_advance_g2.2.2.1 rfl ?_
    refine wm_aload_n 0 C dX5_advance_g2.2.2.2.1 rfl ?_
    refine wm_get (ci := 4) (k := 2) (v := .int (M 34 2)) C (hPl 34 (by decide) (by decide)) rfl rfl (by decide) wt_X5_19 iwX5 rfl dX5_advance_g2.2.2.2.2.1 ?_
    refine wm_put (ci := 4) (k := 4) (x := (M 34 2)) C (hPl 34 (by decide) (by decide)) rfl rfl (by decide) wt_X5_25 iwX5 tyX5_ok nmX5 rfl rfl rfl rfl (fun _ => rfl) (Nat.le_of_ble_eq_true rfl) dX5_advance_g2.2.2.2.2.2.1 ?_
    refine wm_aload_n 0 C dX5_advance_g2.2.2.2.2.2.2.1 rfl ?_
    refine wm_get (ci := 4) (k := 2) (v := .int (M 34 2)) C (hPl 34 (by decide) (by decide)) rfl rfl (by decide) wt_X5_19 iwX5 (by first | rfl | simp [fld, mu, upd, mcp]) dX5_advance_g2.2.2.2.2.2.2.2.1 ?_
    refine wm_aload_n 0 C dX5_advance_g2.2.2.2.2.2.2.2.2.1 rfl ?_
    refine wm_get (ci := 4) (k := 1) (v := .int (M 34 1)) C (hPl 34 (by decide) (by decide)) rfl rfl (by decide) wt_X5_15 iwX5 (by first | rfl | simp [fld, mu, upd, mcp]) dX5_advance_g2.2.2.2.2.2.2.2.2.2.1 ?_
    refine wm_icmp_lt (tgt := 81) C dX5_advance_g2.2.2.2.2.2.2.2.2.2.2.1 (by decide) (fun c5 => ?_) (fun c5 => ?_)
    · have hf := (if_pos c5).symm.trans hf
      refine wm_aload_n 0 C dX5_advance_g3.2.2.2.1 rfl ?_
      refine wm_get (ci := 4) (k := 0) (v := .ref (A 35)) C (hPl 34 (by decide) (by decide)) rfl rfl (by decide) wt_X5_9 iwX5 (by first | rfl | simp [fld, mu, upd, mcp]) dX5_advance_g3.2.2.2.2.1 ?_
      refine wm_aload_n 0 C dX5_advance_g3.2.2.2.2.2.1 rfl ?_
      refine wm_get (ci := 4) (k := 2) (v := .int (M 34 2)) C (hPl 34 (by decide) (by decide)) rfl rfl (by decide) wt_X5_19 iwX5 (by first | rfl | simp [fld, mu, upd, mcp]) dX5_advance_g3.2.2.2.2.2.2.1 ?_
      obtain ⟨h6, hf⟩ := ckd hf
      refine wm_iald (n := 160) (j := ((M 34 2)).toNatClampNeg) (v := (M 35 ((M 34 2)).toNatClampNeg)) C (hPl 35 (by decide) (by decide)) rfl rfl rfl h6 rfl (by first | rfl | simp [mu, upd, mcp]) dX5_advance_g3.2.2.2.2.2.2.2.1 ?_
      obtain ⟨o7, ho8, hf⟩ := bnd hf
      refine wm_callSi (As := [.int (M 35 ((M 34 2)).toNatClampNeg)]) C (c_X5_isLetter hPl _ _ _ ho8) mi_X5_isLetter wt_X5_74 rfl rfl (by decide) (by decide) (Nat.le_of_ble_eq_true rfl) dX5_advance_g3.2.2.2.2.2.2.2.2.1 ?_
      refine wm_if_eq (tgt := 103) C dX5_advance_g3.2.2.2.2.2.2.2.2.2.1 (by decide) (fun c9 => ?_) (fun c9 => ?_)
      · have hf := (if_pos c9).symm.trans hf
        refine wm_aload_n 0 C dX5_advance_g4.2.1 rfl ?_
        refine wm_get (ci := 4) (k := 0) (v := .ref (A 35)) C (hPl 34 (by decide) (by decide)) rfl rfl (by decide) wt_X5_9 iwX5 rfl dX5_advance_g4.2.2.1 ?_
        refine wm_aload_n 0 C dX5_advance_g4.2.2.2.1 rfl ?_
        refine wm_get (ci := 4) (k := 2) (v := .int (o7.2 34 2)) C (hPl 34 (by decide) (by decide)) rfl rfl (by decide) wt_X5_19 iwX5 rfl dX5_advance_g4.2.2.2.2.1 ?_
        obtain ⟨h10, hf⟩ := ckd hf
        refine wm_iald (n := 160) (j := ((o7.2 34 2)).toNatClampNeg) (v := (o7.2 35 ((o7.2 34 2)).toNatClampNeg)) C (hPl 35 (by decide) (by decide)) rfl rfl rfl h10 rfl rfl dX5_advance_g4.2.2.2.2.2.1 ?_
        obtain ⟨o11, ho12, hf⟩ := bnd hf
        refine wm_callSi (As := [.int (o7.2 35 ((o7.2 34 2)).toNatClampNeg)]) C (c_X5_isDigit hPl _ _ _ ho12) mi_X5_isDigit wt_X5_81 rfl rfl (by decide) (by decide) (Nat.le_of_ble_eq_true rfl) dX5_advance_g4.2.2.2.2.2.2.1 ?_
        refine wm_if_eq (tgt := 125) C dX5_advance_g4.2.2.2.2.2.2.2.1 (by decide) (fun c13 => ?_) (fun c13 => ?_)
        · have hf := (if_pos c13).symm.trans hf
          refine wm_aload_n 0 C dX5_advance_g4.2.2.2.2.2.2.2.2.2.2.2 rfl ?_
          refine wm_aload_n 0 C dX5_advance_g5.1 rfl ?_
          refine wm_get (ci := 4) (k := 0) (v := .ref (A 35)) C (hPl 34 (by decide) (by decide)) rfl rfl (by decide) wt_X5_9 iwX5 rfl dX5_advance_g5.2.1 ?_
          refine wm_aload_n 0 C dX5_advance_g5.2.2.1 rfl ?_
          refine wm_get (ci := 4) (k := 2) (v := .int (o11.2 34 2)) C (hPl 34 (by decide) (by decide)) rfl rfl (by decide) wt_X5_19 iwX5 rfl dX5_advance_g5.2.2.2.1 ?_
          obtain ⟨h14, hf⟩ := ckd hf
          refine wm_iald (n := 160) (j := ((o11.2 34 2)).toNatClampNeg) (v := (o11.2 35 ((o11.2 34 2)).toNatClampNeg)) C (hPl 35 (by decide) (by decide)) rfl rfl rfl h14 rfl rfl dX5_advance_g5.2.2.2.2.1 ?_
          obtain ⟨o15, ho16, hf⟩ := bnd hf
          refine wm_callSi (As := [.int (o11.2 35 ((o11.2 34 2)).toNatClampNeg)]) C (c_X5_isSign hPl _ _ _ ho16) mi_X5_isSign wt_X5_87 rfl rfl (by decide) (by decide) (Nat.le_of_ble_eq_true rfl) dX5_advance_g5.2.2.2.2.2.1 ?_
          refine wm_if_eq (tgt := 153) C dX5_advance_g5.2.2.2.2.2.2.1 (by decide) (fun c17 => ?_) (fun c17 => ?_)
          · have hf := (if_pos c17).symm.trans hf
            refine wm_sipush (v := 257) C dX5_advance_g6.2.1 (by decide) ?_
            exact hb156 _ _ hf
          · have hf := (if_neg c17).symm.trans hf
            refine wm_aload_n 0 C dX5_advance_g5.2.2.2.2.2.2.2.1 rfl ?_
            refine wm_get (ci := 4) (k := 0) (v := .ref (A 35)) C (hPl 34 (by decide) (by decide)) rfl rfl (by decide) wt_X5_9 iwX5 rfl dX5_advance_g5.2.2.2.2.2.2.2.2.1 ?_
            refine wm_aload_n 0 C dX5_advance_g5.2.2.2.2.2.2.2.2.2.1 rfl ?_
            refine wm_get (ci := 4) (k := 2) (v := .int (o15.2 34 2)) C (hPl 34 (by decide) (by decide)) rfl rfl (by decide) wt_X5_19 iwX5 rfl dX5_advance_g5.2.2.2.2.2.2.2.2.2.2.1 ?_
            obtain ⟨h18, hf⟩ := ckd hf
            refine wm_iald (n := 160) (j := ((o15.2 34 2)).toNatClampNeg) (v := (o15.2 35 ((o15.2 34 2)).toNatClampNeg)) C (hPl 35 (by decide) (by decide)) rfl rfl rfl h18 rfl rfl dX5_advance_g5.2.2.2.2.2.2.2.2.2.2.2 ?_
            refine wm_goto (tgt := 156) C dX5_advance_g6.1 (by decide) ?_
            exact hb156 _ _ hf
        · have hf := (if_neg c13).symm.trans hf
          refine wm_aload_n 0 C dX5_advance_g4.2.2.2.2.2.2.2.2.1 rfl ?_
          obtain ⟨o19, ho20, hf⟩ := bnd hf
          refine wm_callVv (As := []) (ci := 4) C (c_X5_advanceNumber hPl  _ _ ho20) mi_X5_advanceNumber wt_X5_84 (hPl 34 (by decide) (by decide)) rfl rfl rfl rfl (by decide) (by decide) (Nat.le_of_ble_eq_true rfl) dX5_advance_g4.2.2.2.2.2.2.2.2.2.1 ?_
          refine wm_goto (tgt := 169) C dX5_advance_g4.2.2.2.2.2.2.2.2.2.2.1 (by decide) ?_
          exact wm_vret C hrt hf dX5_advance_g6.2.2.2.2.2.2.2.2.2
      · have hf := (if_neg c9).symm.trans hf
        refine wm_aload_n 0 C dX5_advance_g3.2.2.2.2.2.2.2.2.2.2.1 rfl ?_
        obtain ⟨o21, ho22, hf⟩ := bnd hf
        refine wm_callVv (As := []) (ci := 4) C (c_X5_advanceWord hPl  _ _ ho22) mi_X5_advanceWord wt_X5_78 (hPl 34 (by decide) (by decide)) rfl rfl rfl rfl (by decide) (by decide) (Nat.le_of_ble_eq_true rfl) dX5_advance_g3.2.2.2.2.2.2.2.2.2.2.2 ?_
        refine wm_goto (tgt := 169) C dX5_advance_g4.1 (by decide) ?_
        exact wm_vret C hrt hf dX5_advance_g6.2.2.2.2.2.2.2.2.2
    · have hf := (if_neg c5).symm.trans hf
      refine wm_aload_n 0 C dX5_advance_g2.2.2.2.2.2.2.2.2.2.2.2 rfl ?_
      refine wm_sipush (v := 256) C dX5_advance_g3.1 (by decide) ?_
      refine wm_put (ci := 4) (k := 3) (x := 256) C (hPl 34 (by decide) (by decide)) rfl rfl (by decide) wt_X5_22 iwX5 tyX5_ok nmX5 rfl rfl rfl rfl (fun _ => rfl) (Nat.le_of_ble_eq_true rfl) dX5_advance_g3.2.1 ?_
      refine wm_goto (tgt := 169) C dX5_advance_g3.2.2.1 (by decide) ?_
      exact wm_vret C hrt hf dX5_advance_g6.2.2.2.2.2.2.2.2.2
  have hf := ho
  unfold f_X5_advance at hf
  exact (hl0 _ hb52 FU) _ hf
set_option maxHeartbeats 4000000 in
set_option maxRecDepth 100000 in
theorem c_X5_fail {l : Launch} {D : va_G} {cA : Nat → ClassId} {A : Nat → Nat} {Pl : List Nat} (hPl : ∀ q, 16 ≤ q → q < 36 → q ∈ Pl) (M : Mem) (out : Mem) (ho : f_X5_fail M = some out) : CtV l D cA A Pl yX5_fail cX5_fail 1 1 [.ref (A 34)] M out := by
  refine ct_V (by decide) (Nat.le_of_ble_eq_true rfl) (fun p e s m args below meth c C hrt => ?_)
  have hf := ho
  unfold f_X5_fail at hf
  refine wm_aload_n 0 C dX5_fail_g0.1 rfl ?_
  refine wm_get (ci := 4) (k := 6) (v := .int (M 34 6)) C (hPl 34 (by decide) (by decide)) rfl rfl (by decide) wt_X5_31 iwX5 rfl dX5_fail_g0.2.1 ?_
  refine wm_iconst (v := (-1)) C dX5_fail_g0.2.2.1 (by decide) ?_
  refine wm_icmp_ne (tgt := 16) C dX5_fail_g0.2.2.2.1 (by decide) (fun c1 => ?_) (fun c1 => ?_)
  · have hf := (if_neg c1).symm.trans hf
    refine wm_aload_n 0 C dX5_fail_g0.2.2.2.2.2.2.2.2.1 rfl ?_
    refine wm_sipush (v := 257) C dX5_fail_g0.2.2.2.2.2.2.2.2.2.1 (by decide) ?_
    refine wm_put (ci := 4) (k := 3) (x := 257) C (hPl 34 (by decide) (by decide)) rfl rfl (by decide) wt_X5_22 iwX5 tyX5_ok nmX5 rfl rfl rfl rfl (fun _ => rfl) (Nat.le_of_ble_eq_true rfl) dX5_fail_g0.2.2.2.2.2.2.2.2.2.2.1 ?_
    exact wm_vret C hrt hf dX5_fail_g0.2.2.2.2.2.2.2.2.2.2.2
  · have hf := (if_pos c1).symm.trans hf
    refine wm_aload_n 0 C dX5_fail_g0.2.2.2.2.1 rfl ?_
    refine wm_aload_n 0 C dX5_fail_g0.2.2.2.2.2.1 rfl ?_
    refine wm_get (ci := 4) (k := 4) (v := .int (M 34 4)) C (hPl 34 (by decide) (by decide)) rfl rfl (by decide) wt_X5_25 iwX5 rfl dX5_fail_g0.2.2.2.2.2.2.1 ?_
    refine wm_put (ci := 4) (k := 6) (x := (M 34 4)) C (hPl 34 (by decide) (by decide)) rfl rfl (by decide) wt_X5_31 iwX5 tyX5_ok nmX5 rfl rfl rfl rfl (fun _ => rfl) (Nat.le_of_ble_eq_true rfl) dX5_fail_g0.2.2.2.2.2.2.2.1 ?_
    refine wm_aload_n 0 C dX5_fail_g0.2.2.2.2.2.2.2.2.1 rfl ?_
    refine wm_sipush (v := 257) C dX5_fail_g0.2.2.2.2.2.2.2.2.2.1 (by decide) ?_
    refine wm_put (ci := 4) (k := 3) (x := 257) C (hPl 34 (by decide) (by decide)) rfl rfl (by decide) wt_X5_22 iwX5 tyX5_ok nmX5 rfl rfl rfl rfl (fun _ => rfl) (Nat.le_of_ble_eq_true rfl) dX5_fail_g0.2.2.2.2.2.2.2.2.2.2.1 ?_
    exact wm_vret C hrt hf dX5_fail_g0.2.2.2.2.2.2.2.2.2.2.2
set_option maxHeartbeats 4000000 in
set_option maxRecDepth 100000 in
theorem c_X5_expect {l : Launch} {D : va_G} {cA : Nat → ClassId} {A : Nat → Nat} {Pl : List Nat} (hPl : ∀ q, 16 ≤ q → q < 36 → q ∈ Pl) (v1 : Int32) (M : Mem) (out : Mem) (ho : f_X5_expect v1 M = some out) : CtV l D cA A Pl yX5_expect cX5_expect 2 12 [.ref (A 34), .int v1] M out := by
  refine ct_V (by decide) (Nat.le_of_ble_eq_true rfl) (fun p e s m args below meth c C hrt => ?_)
  have hf := ho
  unfold f_X5_expect at hf
  refine wm_aload_n 0 C dX5_expect_g0.1 rfl ?_
  refine wm_get (ci := 4) (k := 3) (v := .int (M 34 3)) C (hPl 34 (by decide) (by decide)) rfl rfl (by decide) wt_X5_22 iwX5 rfl dX5_expect_g0.2.1 ?_
  refine wm_iload_n 1 C dX5_expect_g0.2.2.1 rfl ?_
  refine wm_icmp_ne (tgt := 15) C dX5_expect_g0.2.2.2.1 (by decide) (fun c1 => ?_) (fun c1 => ?_)
  · have hf := (if_neg c1).symm.trans hf
    refine wm_aload_n 0 C dX5_expect_g0.2.2.2.2.2.2.2.1 rfl ?_
    obtain ⟨o2, ho3, hf⟩ := bnd hf
    refine wm_callVv (As := []) (ci := 4) C (c_X5_fail hPl  _ _ ho3) mi_X5_fail wt_X5_53 (hPl 34 (by decide) (by decide)) rfl rfl rfl rfl (by decide) (by decide) (Nat.le_of_ble_eq_true rfl) dX5_expect_g0.2.2.2.2.2.2.2.2.1 ?_
    exact wm_vret C hrt hf dX5_expect_g0.2.2.2.2.2.2.2.2.2
  · have hf := (if_pos c1).symm.trans hf
    refine wm_aload_n 0 C dX5_expect_g0.2.2.2.2.1 rfl ?_
    obtain ⟨o4, ho5, hf⟩ := bnd hf
    refine wm_callVv (As := []) (ci := 4) C (c_X5_advance hPl  _ _ ho5) mi_X5_advance wt_X5_39 (hPl 34 (by decide) (by decide)) rfl rfl rfl rfl (by decide) (by decide) (Nat.le_of_ble_eq_true rfl) dX5_expect_g0.2.2.2.2.2.1 ?_
    refine wm_goto (tgt := 19) C dX5_expect_g0.2.2.2.2.2.2.1 (by decide) ?_
    exact wm_vret C hrt hf dX5_expect_g0.2.2.2.2.2.2.2.2.2
set_option maxHeartbeats 4000000 in
set_option maxRecDepth 100000 in
theorem c_X7_append {l : Launch} {D : va_G} {cA : Nat → ClassId} {A : Nat → Nat} {Pl : List Nat} (hPl : ∀ q, 16 ≤ q → q < 36 → q ∈ Pl) (q0 : Nat) (v1 : Int32) (M : Mem) (out : Mem) (ho : f_X7_append q0 v1 M = some out) : CtV l D cA A Pl yX7_append cX7_append 2 1 [.ref (A q0), .int v1] M out := by
  refine ct_V (by decide) (Nat.le_of_ble_eq_true rfl) (fun p e s m args below meth c C hrt => ?_)
  have hf := ho
  unfold f_X7_append at hf
  refine wm_aload_n 0 C dX7_append_g0.1 rfl ?_
  obtain ⟨h1, hf⟩ := ckd hf
  refine wm_get (ci := 6) (k := 2) (v := .int (M q0 2)) C (krr6 hPl (eq_of_beq h1)) (eq_of_beq h1) rfl (by decide) wt_X7_18 iwX7 rfl dX7_append_g0.2.1 ?_
  refine wm_sipush (v := 160) C dX7_append_g0.2.2.1 (by decide) ?_
  refine wm_icmp_ge (tgt := 30) C dX7_append_g0.2.2.2.1 (by decide) (fun c2 => ?_) (fun c2 => ?_)
  · have hf := (if_pos c2).symm.trans hf
    exact wm_vret C hrt hf dX7_append_g1.2.2.2.2
  · have hf := (if_neg c2).symm.trans hf
    refine wm_aload_n 0 C dX7_append_g0.2.2.2.2.1 rfl ?_
    refine wm_get (ci := 6) (k := 0) (v := .ref (A (q0 + 1))) C (krr6 hPl (eq_of_beq h1)) (eq_of_beq h1) rfl (by decide) wt_X7_9 iwX7 rfl dX7_append_g0.2.2.2.2.2.1 ?_
    refine wm_aload_n 0 C dX7_append_g0.2.2.2.2.2.2.1 rfl ?_
    refine wm_get (ci := 6) (k := 2) (v := .int (M q0 2)) C (krr6 hPl (eq_of_beq h1)) (eq_of_beq h1) rfl (by decide) wt_X7_18 iwX7 rfl dX7_append_g0.2.2.2.2.2.2.2.1 ?_
    refine wm_iload_n 1 C dX7_append_g0.2.2.2.2.2.2.2.2.1 rfl ?_
    obtain ⟨h3, hf⟩ := ckd hf
    obtain ⟨h4, hf⟩ := ckd hf
    refine wm_iast (n := (ln (q0 + 1))) (j := ((M q0 2)).toNatClampNeg) (x := v1) C (krr30 hPl (eq_of_beq h3)) (eq_of_beq h3) rfl rfl h4 rfl dX7_append_g0.2.2.2.2.2.2.2.2.2.1 ?_
    refine wm_aload_n 0 C dX7_append_g0.2.2.2.2.2.2.2.2.2.2.1 rfl ?_
    refine wm_dup C dX7_append_g0.2.2.2.2.2.2.2.2.2.2.2 rfl ?_
    refine wm_get (ci := 6) (k := 2) (v := .int (M q0 2)) C (krr6 hPl (eq_of_beq h1)) (eq_of_beq h1) rfl (by decide) wt_X7_18 iwX7 (by first | rfl | simp [fld, mu, upd, mcp]) dX7_append_g1.1 ?_
    refine wm_iconst (v := 1) C dX7_append_g1.2.1 (by decide) ?_
    refine wm_iadd C dX7_append_g1.2.2.1 ?_
    refine wm_put (ci := 6) (k := 2) (x := ((M q0 2) + 1)) C (krr6 hPl (eq_of_beq h1)) (eq_of_beq h1) rfl (by decide) wt_X7_18 iwX7 tyX7_ok nmX7 rfl rfl rfl rfl (fun _ => rfl) (Nat.le_of_ble_eq_true rfl) dX7_append_g1.2.2.2.1 ?_
    exact wm_vret C hrt hf dX7_append_g1.2.2.2.2
set_option maxHeartbeats 4000000 in
set_option maxRecDepth 100000 in
theorem cb_X5_readEither {l : Launch} {D : va_G} {cA : Nat → ClassId} {A : Nat → Nat} {Pl : List Nat} (hPl : ∀ q, 16 ≤ q → q < 36 → q ∈ Pl) (hd : Nat) (hHB : 13 ≤ hd) (rc_X5_readEither : Nat → Int32 → Mem → Option Mem) (hrc_X5_readEither : ∀ (q1 : Nat) (v2 : Int32) (M : Mem) (out : Mem), rc_X5_readEither q1 v2 M = some out → CtV l D cA A Pl yX5_readEither cX5_readEither 4 hd [.ref (A 34), .ref (A q1), .int v2] M out) (rc_X5_readBoth : Nat → Int32 → Mem → Option Mem) (hrc_X5_readBoth : ∀ (q1 : Nat) (v2 : Int32) (M : Mem) (out : Mem), rc_X5_readBoth q1 v2 M = some out → CtV l D cA A Pl yX5_readBoth cX5_readBoth 4 hd [.ref (A 34), .ref (A q1), .int v2] M out) (rc_X5_readNot : Nat → Int32 → Mem → Option Mem) (hrc_X5_readNot : ∀ (q1 : Nat) (v2 : Int32) (M : Mem) (out : Mem), rc_X5_readNot q1 v2 M = some out → CtV l D cA A Pl yX5_readNot cX5_readNot 4 hd [.ref (A 34), .ref (A q1), .int v2] M out) (rc_X5_readSum : Nat → Int32 → Mem → Option Mem) (hrc_X5_readSum : ∀ (q1 : Nat) (v2 : Int32) (M : Mem) (out : Mem), rc_X5_readSum q1 v2 M = some out → CtV l D cA A Pl yX5_readSum cX5_readSum 5 hd [.ref (A 34), .ref (A q1), .int v2] M out) (rc_X5_readTerm : Nat → Int32 → Mem → Option Mem) (hrc_X5_readTerm : ∀ (q1 : Nat) (v2 : Int32) (M : Mem) (out : Mem), rc_X5_readTerm q1 v2 M = some out → CtV l D cA A Pl yX5_readTerm cX5_readTerm 4 hd [.ref (A 34), .ref (A q1), .int v2] M out) (rc_X5_readOne : Nat → Int32 → Mem → Option Mem) (hrc_X5_readOne : ∀ (q1 : Nat) (v2 : Int32) (M : Mem) (out : Mem), rc_X5_readOne q1 v2 M = some out → CtV l D cA A Pl yX5_readOne cX5_readOne 5 hd [.ref (A 34), .ref (A q1), .int v2] M out) (q1 : Nat) (v2 : Int32) (M : Mem) (out : Mem) (ho : f_X5_readEither_b rc_X5_readEither rc_X5_readBoth rc_X5_readNot rc_X5_readSum rc_X5_readTerm rc_X5_readOne q1 v2 M = some out) : CtV l D cA A Pl yX5_readEither cX5_readEither 4 (hd + 1) [.ref (A 34), .ref (A q1), .int v2] M out := by
  refine ct_V (by decide) (Nat.le_of_ble_eq_true rfl) (fun p e s m args below meth c C hrt => ?_)
  have hl8 : ∀ (n : Nat), ∀ (q1 : Nat) (v2 : Int32) (v3 : Int32) (M : Mem), f_X5_readEither_l8 rc_X5_readEither rc_X5_readBoth rc_X5_readNot rc_X5_readSum rc_X5_readTerm rc_X5_readOne n q1 v2 v3 M = some out → WM p l e (RM (hd + 1)) s m args below meth c 0 0 (MQ below (QV D cA A Pl out) args s 0 0 (FA A Pl)) D cA A Pl (FA A Pl) 4 M 8 [(0, .ref (A 34)), (1, .ref (A q1)), (2, .int v2), (3, .int v3)] [] := by
    intro n
    induction n with
    | zero => intro q1 v2 v3 M hf; rw [f_X5_readEither_l8] at hf; cases hf
    | succ n hr =>
      intro q1 v2 v3 M hf
      rw [f_X5_readEither_l8] at hf
      refine wm_iload_n 3 C dX5_readEither_g0.2.2.2.2.2.2.1 rfl ?_
      refine wm_sipush (v := 160) C dX5_readEither_g0.2.2.2.2.2.2.2.1 (by decide) ?_
      refine wm_icmp_ge (tgt := 47) C dX5_readEither_g0.2.2.2.2.2.2.2.2.1 (by decide) (fun c3 => ?_) (fun c3 => ?_)
      · have hf := (if_pos c3).symm.trans hf
        exact wm_vret C hrt hf dX5_readEither_g2
      · have hf := (if_neg c3).symm.trans hf
        refine wm_aload_n 0 C dX5_readEither_g0.2.2.2.2.2.2.2.2.2.1 rfl ?_
        refine wm_get (ci := 4) (k := 3) (v := .int (M 34 3)) C (hPl 34 (by decide) (by decide)) rfl rfl (by decide) wt_X5_22 iwX5 rfl dX5_readEither_g0.2.2.2.2.2.2.2.2.2.2.1 ?_
        refine wm_sipush (v := 263) C dX5_readEither_g0.2.2.2.2.2.2.2.2.2.2.2 (by decide) ?_
        refine wm_icmp_ne (tgt := 47) C dX5_readEither_g1.1 (by decide) (fun c4 => ?_) (fun c4 => ?_)
        · have hf := (if_neg c4).symm.trans hf
          exact wm_vret C hrt hf dX5_readEither_g2
        · have hf := (if_pos c4).symm.trans hf
          refine wm_aload_n 0 C dX5_readEither_g1.2.1 rfl ?_
          obtain ⟨o5, ho6, hf⟩ := bnd hf
          refine wm_callVv (As := []) (ci := 4) C (c_X5_advance hPl  _ _ ho6) mi_X5_advance wt_X5_39 (hPl 34 (by decide) (by decide)) rfl rfl rfl rfl (by omega) (by decide) (Nat.le_of_ble_eq_true rfl) dX5_readEither_g1.2.2.1 ?_
          refine wm_aload_n 0 C dX5_readEither_g1.2.2.2.1 rfl ?_
          refine wm_aload_n 1 C dX5_readEither_g1.2.2.2.2.1 rfl ?_
          refine wm_iload_n 2 C dX5_readEither_g1.2.2.2.2.2.1 rfl ?_
          obtain ⟨o7, ho8, hf⟩ := bnd hf
          refine wm_callVv (As := [.ref (A q1), .int v2]) (ci := 4) C (hrc_X5_readBoth _ _ _ _ ho8) mi_X5_readBoth wt_X5_56 (hPl 34 (by decide) (by decide)) rfl rfl rfl rfl (by omega) (by decide) (Nat.le_of_ble_eq_true rfl) dX5_readEither_g1.2.2.2.2.2.2.1 ?_
          refine wm_aload_n 1 C dX5_readEither_g1.2.2.2.2.2.2.2.1 rfl ?_
          refine wm_bipush (v := (-7)) C dX5_readEither_g1.2.2.2.2.2.2.2.2.1 (by decide) ?_
          obtain ⟨o9, ho10, hf⟩ := bnd hf
          obtain ⟨h11, hf⟩ := ckd hf
          refine wm_callVv (As := [.int (-7)]) (ci := 6) C (c_X7_append hPl _ _ _ _ ho10) mi_X7_append wt_X5_59 (krr6 hPl (eq_of_beq h11)) (eq_of_beq h11) rfl rfl rfl (by omega) (by decide) (Nat.le_of_ble_eq_true rfl) dX5_readEither_g1.2.2.2.2.2.2.2.2.2.1 ?_
          refine wm_iinc (lv1 := [(3, .int (v3 + 1)), (0, .ref (A 34)), (1, .ref (A q1)), (2, .int v2)]) (v := (v3 + 1)) 3 C dX5_readEither_g1.2.2.2.2.2.2.2.2.2.2.1 rfl (by first | rfl | decide) (by decide) rfl ?_
          refine wm_goto (tgt := 8) C dX5_readEither_g1.2.2.2.2.2.2.2.2.2.2.2 (by decide) ?_
          refine wm_pick [1, 2, 3, 0] rfl ?_
          exact hr _ _ _ _ hf
  have hf := ho
  unfold f_X5_readEither_b at hf
  refine wm_aload_n 0 C dX5_readEither_g0.1 rfl ?_
  refine wm_aload_n 1 C dX5_readEither_g0.2.1 rfl ?_
  refine wm_iload_n 2 C dX5_readEither_g0.2.2.1 rfl ?_
  obtain ⟨o1, ho2, hf⟩ := bnd hf
  refine wm_callVv (As := [.ref (A q1), .int v2]) (ci := 4) C (hrc_X5_readBoth _ _ _ _ ho2) mi_X5_readBoth wt_X5_56 (hPl 34 (by decide) (by decide)) rfl rfl rfl rfl (by omega) (by decide) (Nat.le_of_ble_eq_true rfl) dX5_readEither_g0.2.2.2.1 ?_
  refine wm_iconst (v := 0) C dX5_readEither_g0.2.2.2.2.1 (by decide) ?_
  refine wm_istore_n (lv1 := [(3, .int 0), (0, .ref (A 34)), (1, .ref (A q1)), (2, .int v2)]) C dX5_readEither_g0.2.2.2.2.2.1 (by decide) rfl ?_
  refine wm_pick [1, 2, 3, 0] rfl ?_
  exact (hl8 FU) _ _ _ _ hf
set_option maxHeartbeats 4000000 in
set_option maxRecDepth 100000 in
theorem cb_X5_readBoth {l : Launch} {D : va_G} {cA : Nat → ClassId} {A : Nat → Nat} {Pl : List Nat} (hPl : ∀ q, 16 ≤ q → q < 36 → q ∈ Pl) (hd : Nat) (hHB : 13 ≤ hd) (rc_X5_readEither : Nat → Int32 → Mem → Option Mem) (hrc_X5_readEither : ∀ (q1 : Nat) (v2 : Int32) (M : Mem) (out : Mem), rc_X5_readEither q1 v2 M = some out → CtV l D cA A Pl yX5_readEither cX5_readEither 4 hd [.ref (A 34), .ref (A q1), .int v2] M out) (rc_X5_readBoth : Nat → Int32 → Mem → Option Mem) (hrc_X5_readBoth : ∀ (q1 : Nat) (v2 : Int32) (M : Mem) (out : Mem), rc_X5_readBoth q1 v2 M = some out → CtV l D cA A Pl yX5_readBoth cX5_readBoth 4 hd [.ref (A 34), .ref (A q1), .int v2] M out) (rc_X5_readNot : Nat → Int32 → Mem → Option Mem) (hrc_X5_readNot : ∀ (q1 : Nat) (v2 : Int32) (M : Mem) (out : Mem), rc_X5_readNot q1 v2 M = some out → CtV l D cA A Pl yX5_readNot cX5_readNot 4 hd [.ref (A 34), .ref (A q1), .int v2] M out) (rc_X5_readSum : Nat → Int32 → Mem → Option Mem) (hrc_X5_readSum : ∀ (q1 : Nat) (v2 : Int32) (M : Mem) (out : Mem), rc_X5_readSum q1 v2 M = some out → CtV l D cA A Pl yX5_readSum cX5_readSum 5 hd [.ref (A 34), .ref (A q1), .int v2] M out) (rc_X5_readTerm : Nat → Int32 → Mem → Option Mem) (hrc_X5_readTerm : ∀ (q1 : Nat) (v2 : Int32) (M : Mem) (out : Mem), rc_X5_readTerm q1 v2 M = some out → CtV l D cA A Pl yX5_readTerm cX5_readTerm 4 hd [.ref (A 34), .ref (A q1), .int v2] M out) (rc_X5_readOne : Nat → Int32 → Mem → Option Mem) (hrc_X5_readOne : ∀ (q1 : Nat) (v2 : Int32) (M : Mem) (out : Mem), rc_X5_readOne q1 v2 M = some out → CtV l D cA A Pl yX5_readOne cX5_readOne 5 hd [.ref (A 34), .ref (A q1), .int v2] M out) (q1 : Nat) (v2 : Int32) (M : Mem) (out : Mem) (ho : f_X5_readBoth_b rc_X5_readEither rc_X5_readBoth rc_X5_readNot rc_X5_readSum rc_X5_readTerm rc_X5_readOne q1 v2 M = some out) : CtV l D cA A Pl yX5_readBoth cX5_readBoth 4 (hd + 1) [.ref (A 34), .ref (A q1), .int v2] M out := by
  refine ct_V (by decide) (Nat.le_of_ble_eq_true rfl) (fun p e s m args below meth c C hrt => ?_)
  have hl8 : ∀ (n : Nat), ∀ (q1 : Nat) (v2 : Int32) (v3 : Int32) (M : Mem), f_X5_readBoth_l8 rc_X5_readEither rc_X5_readBoth rc_X5_readNot rc_X5_readSum rc_X5_readTerm rc_X5_readOne n q1 v2 v3 M = some out → WM p l e (RM (hd + 1)) s m args below meth c 0 0 (MQ below (QV D cA A Pl out) args s 0 0 (FA A Pl)) D cA A Pl (FA A Pl) 4 M 8 [(0, .ref (A 34)), (1, .ref (A q1)), (2, .int v2), (3, .int v3)] [] := by
    intro n
    induction n with
    | zero => intro q1 v2 v3 M hf; rw [f_X5_readBoth_l8] at hf; cases hf
    | succ n hr =>
      intro q1 v2 v3 M hf
      rw [f_X5_readBoth_l8] at hf
      refine wm_iload_n 3 C dX5_readBoth_g0.2.2.2.2.2.2.1 rfl ?_
      refine wm_sipush (v := 160) C dX5_readBoth_g0.2.2.2.2.2.2.2.1 (by decide) ?_
      refine wm_icmp_ge (tgt := 47) C dX5_readBoth_g0.2.2.2.2.2.2.2.2.1 (by decide) (fun c3 => ?_) (fun c3 => ?_)
      · have hf := (if_pos c3).symm.trans hf
        exact wm_vret C hrt hf dX5_readBoth_g2
      · have hf := (if_neg c3).symm.trans hf
        refine wm_aload_n 0 C dX5_readBoth_g0.2.2.2.2.2.2.2.2.2.1 rfl ?_
        refine wm_get (ci := 4) (k := 3) (v := .int (M 34 3)) C (hPl 34 (by decide) (by decide)) rfl rfl (by decide) wt_X5_22 iwX5 rfl dX5_readBoth_g0.2.2.2.2.2.2.2.2.2.2.1 ?_
        refine wm_sipush (v := 264) C dX5_readBoth_g0.2.2.2.2.2.2.2.2.2.2.2 (by decide) ?_
        refine wm_icmp_ne (tgt := 47) C dX5_readBoth_g1.1 (by decide) (fun c4 => ?_) (fun c4 => ?_)
        · have hf := (if_neg c4).symm.trans hf
          exact wm_vret C hrt hf dX5_readBoth_g2
        · have hf := (if_pos c4).symm.trans hf
          refine wm_aload_n 0 C dX5_readBoth_g1.2.1 rfl ?_
          obtain ⟨o5, ho6, hf⟩ := bnd hf
          refine wm_callVv (As := []) (ci := 4) C (c_X5_advance hPl  _ _ ho6) mi_X5_advance wt_X5_39 (hPl 34 (by decide) (by decide)) rfl rfl rfl rfl (by omega) (by decide) (Nat.le_of_ble_eq_true rfl) dX5_readBoth_g1.2.2.1 ?_
          refine wm_aload_n 0 C dX5_readBoth_g1.2.2.2.1 rfl ?_
          refine wm_aload_n 1 C dX5_readBoth_g1.2.2.2.2.1 rfl ?_
          refine wm_iload_n 2 C dX5_readBoth_g1.2.2.2.2.2.1 rfl ?_
          obtain ⟨o7, ho8, hf⟩ := bnd hf
          refine wm_callVv (As := [.ref (A q1), .int v2]) (ci := 4) C (hrc_X5_readNot _ _ _ _ ho8) mi_X5_readNot wt_X5_62 (hPl 34 (by decide) (by decide)) rfl rfl rfl rfl (by omega) (by decide) (Nat.le_of_ble_eq_true rfl) dX5_readBoth_g1.2.2.2.2.2.2.1 ?_
          refine wm_aload_n 1 C dX5_readBoth_g1.2.2.2.2.2.2.2.1 rfl ?_
          refine wm_bipush (v := (-8)) C dX5_readBoth_g1.2.2.2.2.2.2.2.2.1 (by decide) ?_
          obtain ⟨o9, ho10, hf⟩ := bnd hf
          obtain ⟨h11, hf⟩ := ckd hf
          refine wm_callVv (As := [.int (-8)]) (ci := 6) C (c_X7_append hPl _ _ _ _ ho10) mi_X7_append wt_X5_59 (krr6 hPl (eq_of_beq h11)) (eq_of_beq h11) rfl rfl rfl (by omega) (by decide) (Nat.le_of_ble_eq_true rfl) dX5_readBoth_g1.2.2.2.2.2.2.2.2.2.1 ?_
          refine wm_iinc (lv1 := [(3, .int (v3 + 1)), (0, .ref (A 34)), (1, .ref (A q1)), (2, .int v2)]) (v := (v3 + 1)) 3 C dX5_readBoth_g1.2.2.2.2.2.2.2.2.2.2.1 rfl (by first | rfl | decide) (by decide) rfl ?_
          refine wm_goto (tgt := 8) C dX5_readBoth_g1.2.2.2.2.2.2.2.2.2.2.2 (by decide) ?_
          refine wm_pick [1, 2, 3, 0] rfl ?_
          exact hr _ _ _ _ hf
  have hf := ho
  unfold f_X5_readBoth_b at hf
  refine wm_aload_n 0 C dX5_readBoth_g0.1 rfl ?_
  refine wm_aload_n 1 C dX5_readBoth_g0.2.1 rfl ?_
  refine wm_iload_n 2 C dX5_readBoth_g0.2.2.1 rfl ?_
  obtain ⟨o1, ho2, hf⟩ := bnd hf
  refine wm_callVv (As := [.ref (A q1), .int v2]) (ci := 4) C (hrc_X5_readNot _ _ _ _ ho2) mi_X5_readNot wt_X5_62 (hPl 34 (by decide) (by decide)) rfl rfl rfl rfl (by omega) (by decide) (Nat.le_of_ble_eq_true rfl) dX5_readBoth_g0.2.2.2.1 ?_
  refine wm_iconst (v := 0) C dX5_readBoth_g0.2.2.2.2.1 (by decide) ?_
  refine wm_istore_n (lv1 := [(3, .int 0), (0, .ref (A 34)), (1, .ref (A q1)), (2, .int v2)]) C dX5_readBoth_g0.2.2.2.2.2.1 (by decide) rfl ?_
  refine wm_pick [1, 2, 3, 0] rfl ?_
  exact (hl8 FU) _ _ _ _ hf
set_option maxHeartbeats 4000000 in
set_option maxRecDepth 100000 in
theorem cb_X5_readNot {l : Launch} {D : va_G} {cA : Nat → ClassId} {A : Nat → Nat} {Pl : List Nat} (hPl : ∀ q, 16 ≤ q → q < 36 → q ∈ Pl) (hd : Nat) (hHB : 13 ≤ hd) (rc_X5_readEither : Nat → Int32 → Mem → Option Mem) (hrc_X5_readEither : ∀ (q1 : Nat) (v2 : Int32) (M : Mem) (out : Mem), rc_X5_readEither q1 v2 M = some out → CtV l D cA A Pl yX5_readEither cX5_readEither 4 hd [.ref (A 34), .ref (A q1), .int v2] M out) (rc_X5_readBoth : Nat → Int32 → Mem → Option Mem) (hrc_X5_readBoth : ∀ (q1 : Nat) (v2 : Int32) (M : Mem) (out : Mem), rc_X5_readBoth q1 v2 M = some out → CtV l D cA A Pl yX5_readBoth cX5_readBoth 4 hd [.ref (A 34), .ref (A q1), .int v2] M out) (rc_X5_readNot : Nat → Int32 → Mem → Option Mem) (hrc_X5_readNot : ∀ (q1 : Nat) (v2 : Int32) (M : Mem) (out : Mem), rc_X5_readNot q1 v2 M = some out → CtV l D cA A Pl yX5_readNot cX5_readNot 4 hd [.ref (A 34), .ref (A q1), .int v2] M out) (rc_X5_readSum : Nat → Int32 → Mem → Option Mem) (hrc_X5_readSum : ∀ (q1 : Nat) (v2 : Int32) (M : Mem) (out : Mem), rc_X5_readSum q1 v2 M = some out → CtV l D cA A Pl yX5_readSum cX5_readSum 5 hd [.ref (A 34), .ref (A q1), .int v2] M out) (rc_X5_readTerm : Nat → Int32 → Mem → Option Mem) (hrc_X5_readTerm : ∀ (q1 : Nat) (v2 : Int32) (M : Mem) (out : Mem), rc_X5_readTerm q1 v2 M = some out → CtV l D cA A Pl yX5_readTerm cX5_readTerm 4 hd [.ref (A 34), .ref (A q1), .int v2] M out) (rc_X5_readOne : Nat → Int32 → Mem → Option Mem) (hrc_X5_readOne : ∀ (q1 : Nat) (v2 : Int32) (M : Mem) (out : Mem), rc_X5_readOne q1 v2 M = some out → CtV l D cA A Pl yX5_readOne cX5_readOne 5 hd [.ref (A 34), .ref (A q1), .int v2] M out) (q1 : Nat) (v2 : Int32) (M : Mem) (out : Mem) (ho : f_X5_readNot_b rc_X5_readEither rc_X5_readBoth rc_X5_readNot rc_X5_readSum rc_X5_readTerm rc_X5_readOne q1 v2 M = some out) : CtV l D cA A Pl yX5_readNot cX5_readNot 4 (hd + 1) [.ref (A 34), .ref (A q1), .int v2] M out := by
  refine ct_V (by decide) (Nat.le_of_ble_eq_true rfl) (fun p e s m args below meth c C hrt => ?_)
  have hb79 : ∀ (q1 : Nat) (v2 : Int32) (s0 : Int32) (M : Mem), f_X5_readNot_b79 rc_X5_readEither rc_X5_readBoth rc_X5_readNot rc_X5_readSum rc_X5_readTerm rc_X5_readOne q1 v2 s0 M = some out → WM p l e (RM (hd + 1)) s m args below meth c 0 0 (MQ below (QV D cA A Pl out) args s 0 0 (FA A Pl)) D cA A Pl (FA A Pl) 4 M 79 [(0, .ref (A 34)), (1, .ref (A q1)), (2, .int v2)] [.int s0] := by
    intro q1 v2 s0 M hf
    unfold f_X5_readNot_b79 at hf
    refine wm_istore_n (lv1 := [(3, .int s0), (0, .ref (A 34)), (1, .ref (A q1)), (2, .int v2)]) C dX5_readNot_g3.2.2.2.2.2.1 (by decide) rfl ?_
    refine wm_aload_n 1 C dX5_readNot_g3.2.2.2.2.2.2.1 rfl ?_
    obtain ⟨o17, ho18, hf⟩ := bnd hf
    refine wm_callVv (As := []) (ci := 4) C (c_X5_advance hPl  _ _ ho18) mi_X5_advance wt_X5_39 (hPl 34 (by decide) (by decide)) rfl rfl rfl rfl (by omega) (by decide) (Nat.le_of_ble_eq_true rfl) dX5_readNot_g3.2.2.2.2.2.2.2.1 ?_
    refine wm_aload_n 1 C dX5_readNot_g3.2.2.2.2.2.2.2.2.1 rfl ?_
    refine wm_aload_n 2 C dX5_readNot_g3.2.2.2.2.2.2.2.2.2.1 rfl ?_
    refine wm_iload_n 3 C dX5_readNot_g3.2.2.2.2.2.2.2.2.2.2.1 rfl ?_
    obtain ⟨o19, ho20, hf⟩ := bnd hf
    refine wm_callVv (As := [.ref (A q1), .int v2]) (ci := 4) C (hrc_X5_readSum _ _ _ _ ho20) mi_X5_readSum wt_X5_65 (hPl 34 (by decide) (by decide)) rfl rfl rfl rfl (by omega) (by decide) (Nat.le_of_ble_eq_true rfl) dX5_readNot_g3.2.2.2.2.2.2.2.2.2.2.2 ?_
    refine wm_aload_n 2 C dX5_readNot_g4.1 rfl ?_
    refine wm_iload_n 0 C dX5_readNot_g4.2.1 rfl ?_
    obtain ⟨o21, ho22, hf⟩ := bnd hf
    obtain ⟨h23, hf⟩ := ckd hf
    refine wm_callVv (As := [.int s0]) (ci := 6) C (c_X7_append hPl _ _ _ _ ho22) mi_X7_append wt_X5_59 (krr6 hPl (eq_of_beq h23)) (eq_of_beq h23) rfl rfl rfl (by omega) (by decide) (Nat.le_of_ble_eq_true rfl) dX5_readNot_g4.2.2.1 ?_
    exact wm_vret C hrt hf dX5_readNot_g4.2.2.2
  have hb63 : ∀ (q1 : Nat) (v2 : Int32) (M : Mem), f_X5_readNot_b63 rc_X5_readEither rc_X5_readBoth rc_X5_readNot rc_X5_readSum rc_X5_readTerm rc_X5_readOne q1 v2 M = some out → WM p l e (RM (hd + 1)) s m args below meth c 0 0 (MQ below (QV D cA A Pl out) args s 0 0 (FA A Pl)) D cA A Pl (FA A Pl) 4 M 63 [(0, .ref (A 34)), (1, .ref (A q1)), (2, .int v2)] [] := by
    intro q1 v2 M hf
    unfold f_X5_readNot_b63 at hf
    refine wm_aload_n 0 C dX5_readNot_g2.2.2.2.2.2.2.2.2.2.2.1 rfl ?_
    refine wm_get (ci := 4) (k := 3) (v := .int (M 34 3)) C (hPl 34 (by decide) (by decide)) rfl rfl (by decide) wt_X5_22 iwX5 rfl dX5_readNot_g2.2.2.2.2.2.2.2.2.2.2.2 ?_
    refine wm_bipush (v := 60) C dX5_readNot_g3.1 (by decide) ?_
    refine wm_icmp_ne (tgt := 77) C dX5_readNot_g3.2.1 (by decide) (fun c16 => ?_) (fun c16 => ?_)
    · have hf := (if_neg c16).symm.trans hf
      refine wm_bipush (v := (-11)) C dX5_readNot_g3.2.2.2.2.1 (by decide) ?_
      exact hb79 _ _ _ _ hf
    · have hf := (if_pos c16).symm.trans hf
      refine wm_bipush (v := (-10)) C dX5_readNot_g3.2.2.1 (by decide) ?_
      refine wm_goto (tgt := 79) C dX5_readNot_g3.2.2.2.1 (by decide) ?_
      exact hb79 _ _ _ _ hf
  have hf := ho
  unfold f_X5_readNot_b at hf
  refine wm_aload_n 0 C dX5_readNot_g0.1 rfl ?_
  refine wm_get (ci := 4) (k := 3) (v := .int (M 34 3)) C (hPl 34 (by decide) (by decide)) rfl rfl (by decide) wt_X5_22 iwX5 rfl dX5_readNot_g0.2.1 ?_
  refine wm_sipush (v := 265) C dX5_readNot_g0.2.2.1 (by decide) ?_
  refine wm_icmp_ne (tgt := 39) C dX5_readNot_g0.2.2.2.1 (by decide) (fun c1 => ?_) (fun c1 => ?_)
  · have hf := (if_neg c1).symm.trans hf
    refine wm_aload_n 0 C dX5_readNot_g1.2.2.2.2.2.2.2.2.2.2.1 rfl ?_
    refine wm_aload_n 1 C dX5_readNot_g1.2.2.2.2.2.2.2.2.2.2.2 rfl ?_
    refine wm_iload_n 2 C dX5_readNot_g2.1 rfl ?_
    obtain ⟨o2, ho3, hf⟩ := bnd hf
    refine wm_callVv (As := [.ref (A q1), .int v2]) (ci := 4) C (hrc_X5_readSum _ _ _ _ ho3) mi_X5_readSum wt_X5_65 (hPl 34 (by decide) (by decide)) rfl rfl rfl rfl (by omega) (by decide) (Nat.le_of_ble_eq_true rfl) dX5_readNot_g2.2.1 ?_
    refine wm_aload_n 0 C dX5_readNot_g2.2.2.1 rfl ?_
    refine wm_get (ci := 4) (k := 3) (v := .int (o2 34 3)) C (hPl 34 (by decide) (by decide)) rfl rfl (by decide) wt_X5_22 iwX5 rfl dX5_readNot_g2.2.2.2.1 ?_
    refine wm_bipush (v := 60) C dX5_readNot_g2.2.2.2.2.1 (by decide) ?_
    refine wm_icmp_eq (tgt := 63) C dX5_readNot_g2.2.2.2.2.2.1 (by decide) (fun c4 => ?_) (fun c4 => ?_)
    · have hf := (if_pos c4).symm.trans hf
      exact hb63 _ _ _ hf
    · have hf := (if_neg c4).symm.trans hf
      refine wm_aload_n 0 C dX5_readNot_g2.2.2.2.2.2.2.1 rfl ?_
      refine wm_get (ci := 4) (k := 3) (v := .int (o2 34 3)) C (hPl 34 (by decide) (by decide)) rfl rfl (by decide) wt_X5_22 iwX5 rfl dX5_readNot_g2.2.2.2.2.2.2.2.1 ?_
      refine wm_bipush (v := 61) C dX5_readNot_g2.2.2.2.2.2.2.2.2.1 (by decide) ?_
      refine wm_icmp_ne (tgt := 95) C dX5_readNot_g2.2.2.2.2.2.2.2.2.2.1 (by decide) (fun c5 => ?_) (fun c5 => ?_)
      · have hf := (if_neg c5).symm.trans hf
        exact wm_vret C hrt hf dX5_readNot_g4.2.2.2
      · have hf := (if_pos c5).symm.trans hf
        exact hb63 _ _ _ hf
  · have hf := (if_pos c1).symm.trans hf
    refine wm_iload_n 2 C dX5_readNot_g0.2.2.2.2.1 rfl ?_
    refine wm_iconst (v := 5) C dX5_readNot_g0.2.2.2.2.2.1 (by decide) ?_
    refine wm_icmp_lt (tgt := 20) C dX5_readNot_g0.2.2.2.2.2.2.1 (by decide) (fun c6 => ?_) (fun c6 => ?_)
    · have hf := (if_pos c6).symm.trans hf
      refine wm_aload_n 0 C dX5_readNot_g0.2.2.2.2.2.2.2.2.2.2.1 rfl ?_
      obtain ⟨o7, ho8, hf⟩ := bnd hf
      refine wm_callVv (As := []) (ci := 4) C (c_X5_advance hPl  _ _ ho8) mi_X5_advance wt_X5_39 (hPl 34 (by decide) (by decide)) rfl rfl rfl rfl (by omega) (by decide) (Nat.le_of_ble_eq_true rfl) dX5_readNot_g0.2.2.2.2.2.2.2.2.2.2.2 ?_
      refine wm_aload_n 0 C dX5_readNot_g1.1 rfl ?_
      refine wm_aload_n 1 C dX5_readNot_g1.2.1 rfl ?_
      refine wm_iload_n 2 C dX5_readNot_g1.2.2.1 rfl ?_
      refine wm_iconst (v := 1) C dX5_readNot_g1.2.2.2.1 (by decide) ?_
      refine wm_iadd C dX5_readNot_g1.2.2.2.2.1 ?_
      obtain ⟨o9, ho10, hf⟩ := bnd hf
      refine wm_callVv (As := [.ref (A q1), .int (v2 + 1)]) (ci := 4) C (hrc_X5_readNot _ _ _ _ ho10) mi_X5_readNot wt_X5_62 (hPl 34 (by decide) (by decide)) rfl rfl rfl rfl (by omega) (by decide) (Nat.le_of_ble_eq_true rfl) dX5_readNot_g1.2.2.2.2.2.1 ?_
      refine wm_aload_n 1 C dX5_readNot_g1.2.2.2.2.2.2.1 rfl ?_
      refine wm_bipush (v := (-9)) C dX5_readNot_g1.2.2.2.2.2.2.2.1 (by decide) ?_
      obtain ⟨o11, ho12, hf⟩ := bnd hf
      obtain ⟨h13, hf⟩ := ckd hf
      refine wm_callVv (As := [.int (-9)]) (ci := 6) C (c_X7_append hPl _ _ _ _ ho12) mi_X7_append wt_X5_59 (krr6 hPl (eq_of_beq h13)) (eq_of_beq h13) rfl rfl rfl (by omega) (by decide) (Nat.le_of_ble_eq_true rfl) dX5_readNot_g1.2.2.2.2.2.2.2.2.1 ?_
      exact wm_vret C hrt hf dX5_readNot_g1.2.2.2.2.2.2.2.2.2.1
    · have hf := (if_neg c6).symm.trans hf
      refine wm_aload_n 0 C dX5_readNot_g0.2.2.2.2.2.2.2.1 rfl ?_
      obtain ⟨o14, ho15, hf⟩ := bnd hf
      refine wm_callVv (As := []) (ci := 4) C (c_X5_fail hPl  _ _ ho15) mi_X5_fail wt_X5_53 (hPl 34 (by decide) (by decide)) rfl rfl rfl rfl (by omega) (by decide) (Nat.le_of_ble_eq_true rfl) dX5_readNot_g0.2.2.2.2.2.2.2.2.1 ?_
      exact wm_vret C hrt hf dX5_readNot_g0.2.2.2.2.2.2.2.2.2.1
set_option maxHeartbeats 4000000 in
set_option maxRecDepth 100000 in
theorem cb_X5_readSum {l : Launch} {D : va_G} {cA : Nat → ClassId} {A : Nat → Nat} {Pl : List Nat} (hPl : ∀ q, 16 ≤ q → q < 36 → q ∈ Pl) (hd : Nat) (hHB : 13 ≤ hd) (rc_X5_readEither : Nat → Int32 → Mem → Option Mem) (hrc_X5_readEither : ∀ (q1 : Nat) (v2 : Int32) (M : Mem) (out : Mem), rc_X5_readEither q1 v2 M = some out → CtV l D cA A Pl yX5_readEither cX5_readEither 4 hd [.ref (A 34), .ref (A q1), .int v2] M out) (rc_X5_readBoth : Nat → Int32 → Mem → Option Mem) (hrc_X5_readBoth : ∀ (q1 : Nat) (v2 : Int32) (M : Mem) (out : Mem), rc_X5_readBoth q1 v2 M = some out → CtV l D cA A Pl yX5_readBoth cX5_readBoth 4 hd [.ref (A 34), .ref (A q1), .int v2] M out) (rc_X5_readNot : Nat → Int32 → Mem → Option Mem) (hrc_X5_readNot : ∀ (q1 : Nat) (v2 : Int32) (M : Mem) (out : Mem), rc_X5_readNot q1 v2 M = some out → CtV l D cA A Pl yX5_readNot cX5_readNot 4 hd [.ref (A 34), .ref (A q1), .int v2] M out) (rc_X5_readSum : Nat → Int32 → Mem → Option Mem) (hrc_X5_readSum : ∀ (q1 : Nat) (v2 : Int32) (M : Mem) (out : Mem), rc_X5_readSum q1 v2 M = some out → CtV l D cA A Pl yX5_readSum cX5_readSum 5 hd [.ref (A 34), .ref (A q1), .int v2] M out) (rc_X5_readTerm : Nat → Int32 → Mem → Option Mem) (hrc_X5_readTerm : ∀ (q1 : Nat) (v2 : Int32) (M : Mem) (out : Mem), rc_X5_readTerm q1 v2 M = some out → CtV l D cA A Pl yX5_readTerm cX5_readTerm 4 hd [.ref (A 34), .ref (A q1), .int v2] M out) (rc_X5_readOne : Nat → Int32 → Mem → Option Mem) (hrc_X5_readOne : ∀ (q1 : Nat) (v2 : Int32) (M : Mem) (out : Mem), rc_X5_readOne q1 v2 M = some out → CtV l D cA A Pl yX5_readOne cX5_readOne 5 hd [.ref (A 34), .ref (A q1), .int v2] M out) (q1 : Nat) (v2 : Int32) (M : Mem) (out : Mem) (ho : f_X5_readSum_b rc_X5_readEither rc_X5_readBoth rc_X5_readNot rc_X5_readSum rc_X5_readTerm rc_X5_readOne q1 v2 M = some out) : CtV l D cA A Pl yX5_readSum cX5_readSum 5 (hd + 1) [.ref (A 34), .ref (A q1), .int v2] M out := by
  refine ct_V (by decide) (Nat.le_of_ble_eq_true rfl) (fun p e s m args below meth c C hrt => ?_)
  have hb49 : ∀ (r : Nat → Int32 → Int32 → Mem → Option Mem) (hr : ∀ (q1 : Nat) (v2 : Int32) (v3 : Int32) (M : Mem), r q1 v2 v3 M = some out → WM p l e (RM (hd + 1)) s m args below meth c 0 0 (MQ below (QV D cA A Pl out) args s 0 0 (FA A Pl)) D cA A Pl (FA A Pl) 5 M 8 [(0, .ref (A 34)), (1, .ref (A q1)), (2, .int v2), (3, .int v3)] []), ∀ (q1 : Nat) (v2 : Int32) (v3 : Int32) (s0 : Int32) (M : Mem), f_X5_readSum_b49 rc_X5_readEither rc_X5_readBoth rc_X5_readNot rc_X5_readSum rc_X5_readTerm rc_X5_readOne r q1 v2 v3 s0 M = some out → WM p l e (RM (hd + 1)) s m args below meth c 0 0 (MQ below (QV D cA A Pl out) args s 0 0 (FA A Pl)) D cA A Pl (FA A Pl) 5 M 49 [(0, .ref (A 34)), (1, .ref (A q1)), (2, .int v2), (3, .int v3)] [.int s0] := by
    intro r hr q1 v2 v3 s0 M hf
    unfold f_X5_readSum_b49 at hf
    refine wm_istore (lv1 := [(4, .int s0), (0, .ref (A 34)), (1, .ref (A q1)), (2, .int v2), (3, .int v3)]) C dX5_readSum_g2.1 (by decide) rfl ?_
    refine wm_aload_n 1 C dX5_readSum_g2.2.1 rfl ?_
    obtain ⟨o7, ho8, hf⟩ := bnd hf
    refine wm_callVv (As := []) (ci := 4) C (c_X5_advance hPl  _ _ ho8) mi_X5_advance wt_X5_39 (hPl 34 (by decide) (by decide)) rfl rfl rfl rfl (by omega) (by decide) (Nat.le_of_ble_eq_true rfl) dX5_readSum_g2.2.2.1 ?_
    refine wm_aload_n 1 C dX5_readSum_g2.2.2.2.1 rfl ?_
    refine wm_aload_n 2 C dX5_readSum_g2.2.2.2.2.1 rfl ?_
    refine wm_iload_n 3 C dX5_readSum_g2.2.2.2.2.2.1 rfl ?_
    obtain ⟨o9, ho10, hf⟩ := bnd hf
    refine wm_callVv (As := [.ref (A q1), .int v2]) (ci := 4) C (hrc_X5_readTerm _ _ _ _ ho10) mi_X5_readTerm wt_X5_68 (hPl 34 (by decide) (by decide)) rfl rfl rfl rfl (by omega) (by decide) (Nat.le_of_ble_eq_true rfl) dX5_readSum_g2.2.2.2.2.2.2.1 ?_
    refine wm_aload_n 2 C dX5_readSum_g2.2.2.2.2.2.2.2.1 rfl ?_
    refine wm_iload 0 C dX5_readSum_g2.2.2.2.2.2.2.2.2.1 rfl ?_
    obtain ⟨o11, ho12, hf⟩ := bnd hf
    obtain ⟨h13, hf⟩ := ckd hf
    refine wm_callVv (As := [.int s0]) (ci := 6) C (c_X7_append hPl _ _ _ _ ho12) mi_X7_append wt_X5_59 (krr6 hPl (eq_of_beq h13)) (eq_of_beq h13) rfl rfl rfl (by omega) (by decide) (Nat.le_of_ble_eq_true rfl) dX5_readSum_g2.2.2.2.2.2.2.2.2.2.1 ?_
    refine wm_iinc (lv1 := [(3, .int (v3 + 1)), (4, .int s0), (0, .ref (A 34)), (1, .ref (A q1)), (2, .int v2)]) (v := (v3 + 1)) 4 C dX5_readSum_g2.2.2.2.2.2.2.2.2.2.2.1 rfl (by first | rfl | decide) (by decide) rfl ?_
    refine wm_goto (tgt := 8) C dX5_readSum_g2.2.2.2.2.2.2.2.2.2.2.2 (by decide) ?_
    refine wm_pick [2, 3, 4, 0] rfl ?_
    exact hr _ _ _ _ hf
  have hb33 : ∀ (r : Nat → Int32 → Int32 → Mem → Option Mem) (hr : ∀ (q1 : Nat) (v2 : Int32) (v3 : Int32) (M : Mem), r q1 v2 v3 M = some out → WM p l e (RM (hd + 1)) s m args below meth c 0 0 (MQ below (QV D cA A Pl out) args s 0 0 (FA A Pl)) D cA A Pl (FA A Pl) 5 M 8 [(0, .ref (A 34)), (1, .ref (A q1)), (2, .int v2), (3, .int v3)] []), ∀ (q1 : Nat) (v2 : Int32) (v3 : Int32) (M : Mem), f_X5_readSum_b33 rc_X5_readEither rc_X5_readBoth rc_X5_readNot rc_X5_readSum rc_X5_readTerm rc_X5_readOne r q1 v2 v3 M = some out → WM p l e (RM (hd + 1)) s m args below meth c 0 0 (MQ below (QV D cA A Pl out) args s 0 0 (FA A Pl)) D cA A Pl (FA A Pl) 5 M 33 [(0, .ref (A 34)), (1, .ref (A q1)), (2, .int v2), (3, .int v3)] [] := by
    intro r hr q1 v2 v3 M hf
    unfold f_X5_readSum_b33 at hf
    refine wm_aload_n 0 C dX5_readSum_g1.2.2.2.2.2.1 rfl ?_
    refine wm_get (ci := 4) (k := 3) (v := .int (M 34 3)) C (hPl 34 (by decide) (by decide)) rfl rfl (by decide) wt_X5_22 iwX5 rfl dX5_readSum_g1.2.2.2.2.2.2.1 ?_
    refine wm_bipush (v := 43) C dX5_readSum_g1.2.2.2.2.2.2.2.1 (by decide) ?_
    refine wm_icmp_ne (tgt := 47) C dX5_readSum_g1.2.2.2.2.2.2.2.2.1 (by decide) (fun c6 => ?_) (fun c6 => ?_)
    · have hf := (if_neg c6).symm.trans hf
      refine wm_bipush (v := (-13)) C dX5_readSum_g1.2.2.2.2.2.2.2.2.2.2.2 (by decide) ?_
      exact (hb49 _ hr) _ _ _ _ _ hf
    · have hf := (if_pos c6).symm.trans hf
      refine wm_bipush (v := (-12)) C dX5_readSum_g1.2.2.2.2.2.2.2.2.2.1 (by decide) ?_
      refine wm_goto (tgt := 49) C dX5_readSum_g1.2.2.2.2.2.2.2.2.2.2.1 (by decide) ?_
      exact (hb49 _ hr) _ _ _ _ _ hf
  have hl8 : ∀ (n : Nat), ∀ (q1 : Nat) (v2 : Int32) (v3 : Int32) (M : Mem), f_X5_readSum_l8 rc_X5_readEither rc_X5_readBoth rc_X5_readNot rc_X5_readSum rc_X5_readTerm rc_X5_readOne n q1 v2 v3 M = some out → WM p l e (RM (hd + 1)) s m args below meth c 0 0 (MQ below (QV D cA A Pl out) args s 0 0 (FA A Pl)) D cA A Pl (FA A Pl) 5 M 8 [(0, .ref (A 34)), (1, .ref (A q1)), (2, .int v2), (3, .int v3)] [] := by
    intro n
    induction n with
    | zero => intro q1 v2 v3 M hf; rw [f_X5_readSum_l8] at hf; cases hf
    | succ n hr =>
      intro q1 v2 v3 M hf
      rw [f_X5_readSum_l8] at hf
      refine wm_iload_n 3 C dX5_readSum_g0.2.2.2.2.2.2.1 rfl ?_
      refine wm_sipush (v := 160) C dX5_readSum_g0.2.2.2.2.2.2.2.1 (by decide) ?_
      refine wm_icmp_ge (tgt := 73) C dX5_readSum_g0.2.2.2.2.2.2.2.2.1 (by decide) (fun c3 => ?_) (fun c3 => ?_)
      · have hf := (if_pos c3).symm.trans hf
        exact wm_vret C hrt hf dX5_readSum_g3
      · have hf := (if_neg c3).symm.trans hf
        refine wm_aload_n 0 C dX5_readSum_g0.2.2.2.2.2.2.2.2.2.1 rfl ?_
        refine wm_get (ci := 4) (k := 3) (v := .int (M 34 3)) C (hPl 34 (by decide) (by decide)) rfl rfl (by decide) wt_X5_22 iwX5 rfl dX5_readSum_g0.2.2.2.2.2.2.2.2.2.2.1 ?_
        refine wm_bipush (v := 43) C dX5_readSum_g0.2.2.2.2.2.2.2.2.2.2.2 (by decide) ?_
        refine wm_icmp_eq (tgt := 33) C dX5_readSum_g1.1 (by decide) (fun c4 => ?_) (fun c4 => ?_)
        · have hf := (if_pos c4).symm.trans hf
          exact (hb33 _ hr) _ _ _ _ hf
        · have hf := (if_neg c4).symm.trans hf
          refine wm_aload_n 0 C dX5_readSum_g1.2.1 rfl ?_
          refine wm_get (ci := 4) (k := 3) (v := .int (M 34 3)) C (hPl 34 (by decide) (by decide)) rfl rfl (by decide) wt_X5_22 iwX5 rfl dX5_readSum_g1.2.2.1 ?_
          refine wm_bipush (v := 45) C dX5_readSum_g1.2.2.2.1 (by decide) ?_
          refine wm_icmp_ne (tgt := 73) C dX5_readSum_g1.2.2.2.2.1 (by decide) (fun c5 => ?_) (fun c5 => ?_)
          · have hf := (if_neg c5).symm.trans hf
            exact wm_vret C hrt hf dX5_readSum_g3
          · have hf := (if_pos c5).symm.trans hf
            exact (hb33 _ hr) _ _ _ _ hf
  have hf := ho
  unfold f_X5_readSum_b at hf
  refine wm_aload_n 0 C dX5_readSum_g0.1 rfl ?_
  refine wm_aload_n 1 C dX5_readSum_g0.2.1 rfl ?_
  refine wm_iload_n 2 C dX5_readSum_g0.2.2.1 rfl ?_
  obtain ⟨o1, ho2, hf⟩ := bnd hf
  refine wm_callVv (As := [.ref (A q1), .int v2]) (ci := 4) C (hrc_X5_readTerm _ _ _ _ ho2) mi_X5_readTerm wt_X5_68 (hPl 34 (by decide) (by decide)) rfl rfl rfl rfl (by omega) (by decide) (Nat.le_of_ble_eq_true rfl) dX5_readSum_g0.2.2.2.1 ?_
  refine wm_iconst (v := 0) C dX5_readSum_g0.2.2.2.2.1 (by decide) ?_
  refine wm_istore_n (lv1 := [(3, .int 0), (0, .ref (A 34)), (1, .ref (A q1)), (2, .int v2)]) C dX5_readSum_g0.2.2.2.2.2.1 (by decide) rfl ?_
  refine wm_pick [1, 2, 3, 0] rfl ?_
  exact (hl8 FU) _ _ _ _ hf
set_option maxHeartbeats 4000000 in
set_option maxRecDepth 100000 in
theorem cb_X5_readTerm {l : Launch} {D : va_G} {cA : Nat → ClassId} {A : Nat → Nat} {Pl : List Nat} (hPl : ∀ q, 16 ≤ q → q < 36 → q ∈ Pl) (hd : Nat) (hHB : 13 ≤ hd) (rc_X5_readEither : Nat → Int32 → Mem → Option Mem) (hrc_X5_readEither : ∀ (q1 : Nat) (v2 : Int32) (M : Mem) (out : Mem), rc_X5_readEither q1 v2 M = some out → CtV l D cA A Pl yX5_readEither cX5_readEither 4 hd [.ref (A 34), .ref (A q1), .int v2] M out) (rc_X5_readBoth : Nat → Int32 → Mem → Option Mem) (hrc_X5_readBoth : ∀ (q1 : Nat) (v2 : Int32) (M : Mem) (out : Mem), rc_X5_readBoth q1 v2 M = some out → CtV l D cA A Pl yX5_readBoth cX5_readBoth 4 hd [.ref (A 34), .ref (A q1), .int v2] M out) (rc_X5_readNot : Nat → Int32 → Mem → Option Mem) (hrc_X5_readNot : ∀ (q1 : Nat) (v2 : Int32) (M : Mem) (out : Mem), rc_X5_readNot q1 v2 M = some out → CtV l D cA A Pl yX5_readNot cX5_readNot 4 hd [.ref (A 34), .ref (A q1), .int v2] M out) (rc_X5_readSum : Nat → Int32 → Mem → Option Mem) (hrc_X5_readSum : ∀ (q1 : Nat) (v2 : Int32) (M : Mem) (out : Mem), rc_X5_readSum q1 v2 M = some out → CtV l D cA A Pl yX5_readSum cX5_readSum 5 hd [.ref (A 34), .ref (A q1), .int v2] M out) (rc_X5_readTerm : Nat → Int32 → Mem → Option Mem) (hrc_X5_readTerm : ∀ (q1 : Nat) (v2 : Int32) (M : Mem) (out : Mem), rc_X5_readTerm q1 v2 M = some out → CtV l D cA A Pl yX5_readTerm cX5_readTerm 4 hd [.ref (A 34), .ref (A q1), .int v2] M out) (rc_X5_readOne : Nat → Int32 → Mem → Option Mem) (hrc_X5_readOne : ∀ (q1 : Nat) (v2 : Int32) (M : Mem) (out : Mem), rc_X5_readOne q1 v2 M = some out → CtV l D cA A Pl yX5_readOne cX5_readOne 5 hd [.ref (A 34), .ref (A q1), .int v2] M out) (q1 : Nat) (v2 : Int32) (M : Mem) (out : Mem) (ho : f_X5_readTerm_b rc_X5_readEither rc_X5_readBoth rc_X5_readNot rc_X5_readSum rc_X5_readTerm rc_X5_readOne q1 v2 M = some out) : CtV l D cA A Pl yX5_readTerm cX5_readTerm 4 (hd + 1) [.ref (A 34), .ref (A q1), .int v2] M out := by
  refine ct_V (by decide) (Nat.le_of_ble_eq_true rfl) (fun p e s m args below meth c C hrt => ?_)
  have hl8 : ∀ (n : Nat), ∀ (q1 : Nat) (v2 : Int32) (v3 : Int32) (M : Mem), f_X5_readTerm_l8 rc_X5_readEither rc_X5_readBoth rc_X5_readNot rc_X5_readSum rc_X5_readTerm rc_X5_readOne n q1 v2 v3 M = some out → WM p l e (RM (hd + 1)) s m args below meth c 0 0 (MQ below (QV D cA A Pl out) args s 0 0 (FA A Pl)) D cA A Pl (FA A Pl) 4 M 8 [(0, .ref (A 34)), (1, .ref (A q1)), (2, .int v2), (3, .int v3)] [] := by
    intro n
    induction n with
    | zero => intro q1 v2 v3 M hf; rw [f_X5_readTerm_l8] at hf; cases hf
    | succ n hr =>
      intro q1 v2 v3 M hf
      rw [f_X5_readTerm_l8] at hf
      refine wm_iload_n 3 C dX5_readTerm_g0.2.2.2.2.2.2.1 rfl ?_
      refine wm_sipush (v := 160) C dX5_readTerm_g0.2.2.2.2.2.2.2.1 (by decide) ?_
      refine wm_icmp_ge (tgt := 46) C dX5_readTerm_g0.2.2.2.2.2.2.2.2.1 (by decide) (fun c3 => ?_) (fun c3 => ?_)
      · have hf := (if_pos c3).symm.trans hf
        exact wm_vret C hrt hf dX5_readTerm_g2
      · have hf := (if_neg c3).symm.trans hf
        refine wm_aload_n 0 C dX5_readTerm_g0.2.2.2.2.2.2.2.2.2.1 rfl ?_
        refine wm_get (ci := 4) (k := 3) (v := .int (M 34 3)) C (hPl 34 (by decide) (by decide)) rfl rfl (by decide) wt_X5_22 iwX5 rfl dX5_readTerm_g0.2.2.2.2.2.2.2.2.2.2.1 ?_
        refine wm_bipush (v := 42) C dX5_readTerm_g0.2.2.2.2.2.2.2.2.2.2.2 (by decide) ?_
        refine wm_icmp_ne (tgt := 46) C dX5_readTerm_g1.1 (by decide) (fun c4 => ?_) (fun c4 => ?_)
        · have hf := (if_neg c4).symm.trans hf
          exact wm_vret C hrt hf dX5_readTerm_g2
        · have hf := (if_pos c4).symm.trans hf
          refine wm_aload_n 0 C dX5_readTerm_g1.2.1 rfl ?_
          obtain ⟨o5, ho6, hf⟩ := bnd hf
          refine wm_callVv (As := []) (ci := 4) C (c_X5_advance hPl  _ _ ho6) mi_X5_advance wt_X5_39 (hPl 34 (by decide) (by decide)) rfl rfl rfl rfl (by omega) (by decide) (Nat.le_of_ble_eq_true rfl) dX5_readTerm_g1.2.2.1 ?_
          refine wm_aload_n 0 C dX5_readTerm_g1.2.2.2.1 rfl ?_
          refine wm_aload_n 1 C dX5_readTerm_g1.2.2.2.2.1 rfl ?_
          refine wm_iload_n 2 C dX5_readTerm_g1.2.2.2.2.2.1 rfl ?_
          obtain ⟨o7, ho8, hf⟩ := bnd hf
          refine wm_callVv (As := [.ref (A q1), .int v2]) (ci := 4) C (hrc_X5_readOne _ _ _ _ ho8) mi_X5_readOne wt_X5_71 (hPl 34 (by decide) (by decide)) rfl rfl rfl rfl (by omega) (by decide) (Nat.le_of_ble_eq_true rfl) dX5_readTerm_g1.2.2.2.2.2.2.1 ?_
          refine wm_aload_n 1 C dX5_readTerm_g1.2.2.2.2.2.2.2.1 rfl ?_
          refine wm_bipush (v := (-14)) C dX5_readTerm_g1.2.2.2.2.2.2.2.2.1 (by decide) ?_
          obtain ⟨o9, ho10, hf⟩ := bnd hf
          obtain ⟨h11, hf⟩ := ckd hf
          refine wm_callVv (As := [.int (-14)]) (ci := 6) C (c_X7_append hPl _ _ _ _ ho10) mi_X7_append wt_X5_59 (krr6 hPl (eq_of_beq h11)) (eq_of_beq h11) rfl rfl rfl (by omega) (by decide) (Nat.le_of_ble_eq_true rfl) dX5_readTerm_g1.2.2.2.2.2.2.2.2.2.1 ?_
          refine wm_iinc (lv1 := [(3, .int (v3 + 1)), (0, .ref (A 34)), (1, .ref (A q1)), (2, .int v2)]) (v := (v3 + 1)) 3 C dX5_readTerm_g1.2.2.2.2.2.2.2.2.2.2.1 rfl (by first | rfl | decide) (by decide) rfl ?_
          refine wm_goto (tgt := 8) C dX5_readTerm_g1.2.2.2.2.2.2.2.2.2.2.2 (by decide) ?_
          refine wm_pick [1, 2, 3, 0] rfl ?_
          exact hr _ _ _ _ hf
  have hf := ho
  unfold f_X5_readTerm_b at hf
  refine wm_aload_n 0 C dX5_readTerm_g0.1 rfl ?_
  refine wm_aload_n 1 C dX5_readTerm_g0.2.1 rfl ?_
  refine wm_iload_n 2 C dX5_readTerm_g0.2.2.1 rfl ?_
  obtain ⟨o1, ho2, hf⟩ := bnd hf
  refine wm_callVv (As := [.ref (A q1), .int v2]) (ci := 4) C (hrc_X5_readOne _ _ _ _ ho2) mi_X5_readOne wt_X5_71 (hPl 34 (by decide) (by decide)) rfl rfl rfl rfl (by omega) (by decide) (Nat.le_of_ble_eq_true rfl) dX5_readTerm_g0.2.2.2.1 ?_
  refine wm_iconst (v := 0) C dX5_readTerm_g0.2.2.2.2.1 (by decide) ?_
  refine wm_istore_n (lv1 := [(3, .int 0), (0, .ref (A 34)), (1, .ref (A q1)), (2, .int v2)]) C dX5_readTerm_g0.2.2.2.2.2.1 (by decide) rfl ?_
  refine wm_pick [1, 2, 3, 0] rfl ?_
  exact (hl8 FU) _ _ _ _ hf
set_option maxHeartbeats 4000000 in
set_option maxRecDepth 100000 in
theorem cb_X5_readOne {l : Launch} {D : va_G} {cA : Nat → ClassId} {A : Nat → Nat} {Pl : List Nat} (hPl : ∀ q, 16 ≤ q → q < 36 → q ∈ Pl) (hd : Nat) (hHB : 13 ≤ hd) (rc_X5_readEither : Nat → Int32 → Mem → Option Mem) (hrc_X5_readEither : ∀ (q1 : Nat) (v2 : Int32) (M : Mem) (out : Mem), rc_X5_readEither q1 v2 M = some out → CtV l D cA A Pl yX5_readEither cX5_readEither 4 hd [.ref (A 34), .ref (A q1), .int v2] M out) (rc_X5_readBoth : Nat → Int32 → Mem → Option Mem) (hrc_X5_readBoth : ∀ (q1 : Nat) (v2 : Int32) (M : Mem) (out : Mem), rc_X5_readBoth q1 v2 M = some out → CtV l D cA A Pl yX5_readBoth cX5_readBoth 4 hd [.ref (A 34), .ref (A q1), .int v2] M out) (rc_X5_readNot : Nat → Int32 → Mem → Option Mem) (hrc_X5_readNot : ∀ (q1 : Nat) (v2 : Int32) (M : Mem) (out : Mem), rc_X5_readNot q1 v2 M = some out → CtV l D cA A Pl yX5_readNot cX5_readNot 4 hd [.ref (A 34), .ref (A q1), .int v2] M out) (rc_X5_readSum : Nat → Int32 → Mem → Option Mem) (hrc_X5_readSum : ∀ (q1 : Nat) (v2 : Int32) (M : Mem) (out : Mem), rc_X5_readSum q1 v2 M = some out → CtV l D cA A Pl yX5_readSum cX5_readSum 5 hd [.ref (A 34), .ref (A q1), .int v2] M out) (rc_X5_readTerm : Nat → Int32 → Mem → Option Mem) (hrc_X5_readTerm : ∀ (q1 : Nat) (v2 : Int32) (M : Mem) (out : Mem), rc_X5_readTerm q1 v2 M = some out → CtV l D cA A Pl yX5_readTerm cX5_readTerm 4 hd [.ref (A 34), .ref (A q1), .int v2] M out) (rc_X5_readOne : Nat → Int32 → Mem → Option Mem) (hrc_X5_readOne : ∀ (q1 : Nat) (v2 : Int32) (M : Mem) (out : Mem), rc_X5_readOne q1 v2 M = some out → CtV l D cA A Pl yX5_readOne cX5_readOne 5 hd [.ref (A 34), .ref (A q1), .int v2] M out) (q1 : Nat) (v2 : Int32) (M : Mem) (out : Mem) (ho : f_X5_readOne_b rc_X5_readEither rc_X5_readBoth rc_X5_readNot rc_X5_readSum rc_X5_readTerm rc_X5_readOne q1 v2 M = some out) : CtV l D cA A Pl yX5_readOne cX5_readOne 5 (hd + 1) [.ref (A 34), .ref (A q1), .int v2] M out := by
  refine ct_V (by decide) (Nat.le_of_ble_eq_true rfl) (fun p e s m args below meth c C hrt => ?_)
  have hb20 : ∀ (q1 : Nat) (M : Mem), f_X5_readOne_b20 rc_X5_readEither rc_X5_readBoth rc_X5_readNot rc_X5_readSum rc_X5_readTerm rc_X5_readOne q1 M = some out → WM p l e (RM (hd + 1)) s m args below meth c 0 0 (MQ below (QV D cA A Pl out) args s 0 0 (FA A Pl)) D cA A Pl (FA A Pl) 5 M 20 [(0, .ref (A 34)), (1, .ref (A q1))] [] := by
    intro q1 M hf
    unfold f_X5_readOne_b20 at hf
    refine wm_aload_n 1 C dX5_readOne_g0.2.2.2.2.2.2.2.2.1 rfl ?_
    refine wm_aload_n 0 C dX5_readOne_g0.2.2.2.2.2.2.2.2.2.1 rfl ?_
    refine wm_get (ci := 4) (k := 5) (v := .int (M 34 5)) C (hPl 34 (by decide) (by decide)) rfl rfl (by decide) wt_X5_28 iwX5 rfl dX5_readOne_g0.2.2.2.2.2.2.2.2.2.2.1 ?_
    obtain ⟨o7, ho8, hf⟩ := bnd hf
    obtain ⟨h9, hf⟩ := ckd hf
    refine wm_callVv (As := [.int (M 34 5)]) (ci := 6) C (c_X7_append hPl _ _ _ _ ho8) mi_X7_append wt_X5_59 (krr6 hPl (eq_of_beq h9)) (eq_of_beq h9) rfl rfl rfl (by omega) (by decide) (Nat.le_of_ble_eq_true rfl) dX5_readOne_g0.2.2.2.2.2.2.2.2.2.2.2 ?_
    refine wm_aload_n 0 C dX5_readOne_g1.1 rfl ?_
    obtain ⟨o10, ho11, hf⟩ := bnd hf
    refine wm_callVv (As := []) (ci := 4) C (c_X5_advance hPl  _ _ ho11) mi_X5_advance wt_X5_39 (hPl 34 (by decide) (by decide)) rfl rfl rfl rfl (by omega) (by decide) (Nat.le_of_ble_eq_true rfl) dX5_readOne_g1.2.1 ?_
    exact wm_vret C hrt hf dX5_readOne_g1.2.2.1
  have hb66 : ∀  (M : Mem), f_X5_readOne_b66 rc_X5_readEither rc_X5_readBoth rc_X5_readNot rc_X5_readSum rc_X5_readTerm rc_X5_readOne  M = some out → WM p l e (RM (hd + 1)) s m args below meth c 0 0 (MQ below (QV D cA A Pl out) args s 0 0 (FA A Pl)) D cA A Pl (FA A Pl) 5 M 66 [(0, .ref (A 34))] [] := by
    intro  M hf
    unfold f_X5_readOne_b66 at hf
    refine wm_aload_n 0 C dX5_readOne_g2.2.2.2.2.2.2.2.2.1 rfl ?_
    obtain ⟨o5, ho6, hf⟩ := bnd hf
    refine wm_callVv (As := []) (ci := 4) C (c_X5_fail hPl  _ _ ho6) mi_X5_fail wt_X5_53 (hPl 34 (by decide) (by decide)) rfl rfl rfl rfl (by omega) (by decide) (Nat.le_of_ble_eq_true rfl) dX5_readOne_g2.2.2.2.2.2.2.2.2.2.1 ?_
    exact wm_vret C hrt hf dX5_readOne_g2.2.2.2.2.2.2.2.2.2.2.1
  have hb85 : ∀ (q1 : Nat) (v2 : Int32) (s0 : Int32) (M : Mem), f_X5_readOne_b85 rc_X5_readEither rc_X5_readBoth rc_X5_readNot rc_X5_readSum rc_X5_readTerm rc_X5_readOne q1 v2 s0 M = some out → WM p l e (RM (hd + 1)) s m args below meth c 0 0 (MQ below (QV D cA A Pl out) args s 0 0 (FA A Pl)) D cA A Pl (FA A Pl) 5 M 85 [(0, .ref (A 34)), (1, .ref (A q1)), (2, .int v2)] [.int s0] := by
    intro q1 v2 s0 M hf
    unfold f_X5_readOne_b85 at hf
    refine wm_istore (lv1 := [(4, .int s0), (0, .ref (A 34)), (1, .ref (A q1)), (2, .int v2)]) C dX5_readOne_g3.2.2.2.2.2.2.1 (by decide) rfl ?_
    refine wm_aload_n 1 C dX5_readOne_g3.2.2.2.2.2.2.2.1 rfl ?_
    obtain ⟨o12, ho13, hf⟩ := bnd hf
    refine wm_callVv (As := []) (ci := 4) C (c_X5_advance hPl  _ _ ho13) mi_X5_advance wt_X5_39 (hPl 34 (by decide) (by decide)) rfl rfl rfl rfl (by omega) (by decide) (Nat.le_of_ble_eq_true rfl) dX5_readOne_g3.2.2.2.2.2.2.2.2.1 ?_
    refine wm_iload 0 C dX5_readOne_g3.2.2.2.2.2.2.2.2.2.1 rfl ?_
    refine wm_if_eq (tgt := 113) C dX5_readOne_g3.2.2.2.2.2.2.2.2.2.2.1 (by decide) (fun c14 => ?_) (fun c14 => ?_)
    · have hf := (if_pos c14).symm.trans hf
      refine wm_aload_n 1 C dX5_readOne_g4.2.2.2.2.2.2.2.2.2.1 rfl ?_
      refine wm_aload_n 2 C dX5_readOne_g4.2.2.2.2.2.2.2.2.2.2.1 rfl ?_
      refine wm_iload_n 3 C dX5_readOne_g4.2.2.2.2.2.2.2.2.2.2.2 rfl ?_
      refine wm_iconst (v := 1) C dX5_readOne_g5.1 (by decide) ?_
      refine wm_iadd C dX5_readOne_g5.2.1 ?_
      obtain ⟨o15, ho16, hf⟩ := bnd hf
      refine wm_callVv (As := [.ref (A q1), .int (v2 + 1)]) (ci := 4) C (hrc_X5_readEither _ _ _ _ ho16) mi_X5_readEither wt_X5_46 (hPl 34 (by decide) (by decide)) rfl rfl rfl rfl (by omega) (by decide) (Nat.le_of_ble_eq_true rfl) dX5_readOne_g5.2.2.1 ?_
      refine wm_aload_n 1 C dX5_readOne_g5.2.2.2.1 rfl ?_
      refine wm_bipush (v := 41) C dX5_readOne_g5.2.2.2.2.1 (by decide) ?_
      obtain ⟨o17, ho18, hf⟩ := bnd hf
      refine wm_callVv (As := [.int 41]) (ci := 4) C (c_X5_expect hPl _ _ _ ho18) mi_X5_expect wt_X5_42 (hPl 34 (by decide) (by decide)) rfl rfl rfl rfl (by omega) (by decide) (Nat.le_of_ble_eq_true rfl) dX5_readOne_g5.2.2.2.2.2.1 ?_
      exact wm_vret C hrt hf dX5_readOne_g5.2.2.2.2.2.2
    · have hf := (if_neg c14).symm.trans hf
      refine wm_aload_n 1 C dX5_readOne_g3.2.2.2.2.2.2.2.2.2.2.2 rfl ?_
      refine wm_aload_n 2 C dX5_readOne_g4.1 rfl ?_
      refine wm_iload_n 3 C dX5_readOne_g4.2.1 rfl ?_
      refine wm_iconst (v := 1) C dX5_readOne_g4.2.2.1 (by decide) ?_
      refine wm_iadd C dX5_readOne_g4.2.2.2.1 ?_
      obtain ⟨o19, ho20, hf⟩ := bnd hf
      refine wm_callVv (As := [.ref (A q1), .int (v2 + 1)]) (ci := 4) C (hrc_X5_readOne _ _ _ _ ho20) mi_X5_readOne wt_X5_71 (hPl 34 (by decide) (by decide)) rfl rfl rfl rfl (by omega) (by decide) (Nat.le_of_ble_eq_true rfl) dX5_readOne_g4.2.2.2.2.1 ?_
      refine wm_aload_n 2 C dX5_readOne_g4.2.2.2.2.2.1 rfl ?_
      refine wm_bipush (v := (-15)) C dX5_readOne_g4.2.2.2.2.2.2.1 (by decide) ?_
      obtain ⟨o21, ho22, hf⟩ := bnd hf
      obtain ⟨h23, hf⟩ := ckd hf
      refine wm_callVv (As := [.int (-15)]) (ci := 6) C (c_X7_append hPl _ _ _ _ ho22) mi_X7_append wt_X5_59 (krr6 hPl (eq_of_beq h23)) (eq_of_beq h23) rfl rfl rfl (by omega) (by decide) (Nat.le_of_ble_eq_true rfl) dX5_readOne_g4.2.2.2.2.2.2.2.1 ?_
      refine wm_goto (tgt := 127) C dX5_readOne_g4.2.2.2.2.2.2.2.2.1 (by decide) ?_
      exact wm_vret C hrt hf dX5_readOne_g5.2.2.2.2.2.2
  have hb56 : ∀ (q1 : Nat) (v2 : Int32) (s0 : Int32) (M : Mem), f_X5_readOne_b56 rc_X5_readEither rc_X5_readBoth rc_X5_readNot rc_X5_readSum rc_X5_readTerm rc_X5_readOne q1 v2 s0 M = some out → WM p l e (RM (hd + 1)) s m args below meth c 0 0 (MQ below (QV D cA A Pl out) args s 0 0 (FA A Pl)) D cA A Pl (FA A Pl) 5 M 56 [(0, .ref (A 34)), (1, .ref (A q1)), (2, .int v2)] [.int s0] := by
    intro q1 v2 s0 M hf
    unfold f_X5_readOne_b56 at hf
    refine wm_istore_n (lv1 := [(3, .int s0), (0, .ref (A 34)), (1, .ref (A q1)), (2, .int v2)]) C dX5_readOne_g2.2.2.1 (by decide) rfl ?_
    refine wm_iload_n 0 C dX5_readOne_g2.2.2.2.1 rfl ?_
    refine wm_if_eq (tgt := 66) C dX5_readOne_g2.2.2.2.2.1 (by decide) (fun c24 => ?_) (fun c24 => ?_)
    · have hf := (if_pos c24).symm.trans hf
      refine wm_pick [1] rfl ?_
      exact hb66 _ hf
    · have hf := (if_neg c24).symm.trans hf
      refine wm_iload_n 3 C dX5_readOne_g2.2.2.2.2.2.1 rfl ?_
      refine wm_iconst (v := 5) C dX5_readOne_g2.2.2.2.2.2.2.1 (by decide) ?_
      refine wm_icmp_lt (tgt := 71) C dX5_readOne_g2.2.2.2.2.2.2.2.1 (by decide) (fun c25 => ?_) (fun c25 => ?_)
      · have hf := (if_pos c25).symm.trans hf
        refine wm_aload_n 1 C dX5_readOne_g2.2.2.2.2.2.2.2.2.2.2.2 rfl ?_
        refine wm_get (ci := 4) (k := 3) (v := .int (M 34 3)) C (hPl 34 (by decide) (by decide)) rfl rfl (by decide) wt_X5_22 iwX5 rfl dX5_readOne_g3.1 ?_
        refine wm_bipush (v := 45) C dX5_readOne_g3.2.1 (by decide) ?_
        refine wm_icmp_ne (tgt := 84) C dX5_readOne_g3.2.2.1 (by decide) (fun c26 => ?_) (fun c26 => ?_)
        · have hf := (if_neg c26).symm.trans hf
          refine wm_iconst (v := 0) C dX5_readOne_g3.2.2.2.2.2.1 (by decide) ?_
          refine wm_pick [1, 2, 3] rfl ?_
          exact hb85 _ _ _ _ hf
        · have hf := (if_pos c26).symm.trans hf
          refine wm_iconst (v := 1) C dX5_readOne_g3.2.2.2.1 (by decide) ?_
          refine wm_goto (tgt := 85) C dX5_readOne_g3.2.2.2.2.1 (by decide) ?_
          refine wm_pick [1, 2, 3] rfl ?_
          exact hb85 _ _ _ _ hf
      · have hf := (if_neg c25).symm.trans hf
        refine wm_pick [1] rfl ?_
        exact hb66 _ hf
  have hb51 : ∀ (q1 : Nat) (v2 : Int32) (M : Mem), f_X5_readOne_b51 rc_X5_readEither rc_X5_readBoth rc_X5_readNot rc_X5_readSum rc_X5_readTerm rc_X5_readOne q1 v2 M = some out → WM p l e (RM (hd + 1)) s m args below meth c 0 0 (MQ below (QV D cA A Pl out) args s 0 0 (FA A Pl)) D cA A Pl (FA A Pl) 5 M 51 [(0, .ref (A 34)), (1, .ref (A q1)), (2, .int v2)] [] := by
    intro q1 v2 M hf
    unfold f_X5_readOne_b51 at hf
    refine wm_iconst (v := 1) C dX5_readOne_g1.2.2.2.2.2.2.2.2.2.2.2 (by decide) ?_
    refine wm_goto (tgt := 56) C dX5_readOne_g2.1 (by decide) ?_
    exact hb56 _ _ _ _ hf
  have hf := ho
  unfold f_X5_readOne_b at hf
  refine wm_aload_n 0 C dX5_readOne_g0.1 rfl ?_
  refine wm_get (ci := 4) (k := 3) (v := .int (M 34 3)) C (hPl 34 (by decide) (by decide)) rfl rfl (by decide) wt_X5_22 iwX5 rfl dX5_readOne_g0.2.1 ?_
  refine wm_sipush (v := 258) C dX5_readOne_g0.2.2.1 (by decide) ?_
  refine wm_icmp_eq (tgt := 20) C dX5_readOne_g0.2.2.2.1 (by decide) (fun c1 => ?_) (fun c1 => ?_)
  · have hf := (if_pos c1).symm.trans hf
    refine wm_pick [0, 1] rfl ?_
    exact hb20 _ _ hf
  · have hf := (if_neg c1).symm.trans hf
    refine wm_aload_n 0 C dX5_readOne_g0.2.2.2.2.1 rfl ?_
    refine wm_get (ci := 4) (k := 3) (v := .int (M 34 3)) C (hPl 34 (by decide) (by decide)) rfl rfl (by decide) wt_X5_22 iwX5 rfl dX5_readOne_g0.2.2.2.2.2.1 ?_
    refine wm_sipush (v := 259) C dX5_readOne_g0.2.2.2.2.2.2.1 (by decide) ?_
    refine wm_icmp_ne (tgt := 33) C dX5_readOne_g0.2.2.2.2.2.2.2.1 (by decide) (fun c2 => ?_) (fun c2 => ?_)
    · have hf := (if_neg c2).symm.trans hf
      refine wm_aload_n 0 C dX5_readOne_g1.2.2.2.1 rfl ?_
      refine wm_get (ci := 4) (k := 3) (v := .int (M 34 3)) C (hPl 34 (by decide) (by decide)) rfl rfl (by decide) wt_X5_22 iwX5 rfl dX5_readOne_g1.2.2.2.2.1 ?_
      refine wm_bipush (v := 45) C dX5_readOne_g1.2.2.2.2.2.1 (by decide) ?_
      refine wm_icmp_eq (tgt := 51) C dX5_readOne_g1.2.2.2.2.2.2.1 (by decide) (fun c3 => ?_) (fun c3 => ?_)
      · have hf := (if_pos c3).symm.trans hf
        exact hb51 _ _ _ hf
      · have hf := (if_neg c3).symm.trans hf
        refine wm_aload_n 0 C dX5_readOne_g1.2.2.2.2.2.2.2.1 rfl ?_
        refine wm_get (ci := 4) (k := 3) (v := .int (M 34 3)) C (hPl 34 (by decide) (by decide)) rfl rfl (by decide) wt_X5_22 iwX5 rfl dX5_readOne_g1.2.2.2.2.2.2.2.2.1 ?_
        refine wm_bipush (v := 40) C dX5_readOne_g1.2.2.2.2.2.2.2.2.2.1 (by decide) ?_
        refine wm_icmp_ne (tgt := 55) C dX5_readOne_g1.2.2.2.2.2.2.2.2.2.2.1 (by decide) (fun c4 => ?_) (fun c4 => ?_)
        · have hf := (if_neg c4).symm.trans hf
          refine wm_iconst (v := 0) C dX5_readOne_g2.2.1 (by decide) ?_
          exact hb56 _ _ _ _ hf
        · have hf := (if_pos c4).symm.trans hf
          exact hb51 _ _ _ hf
    · have hf := (if_pos c2).symm.trans hf
      refine wm_pick [0, 1] rfl ?_
      exact hb20 _ _ hf
theorem cg_X5_readEither {l : Launch} {D : va_G} {cA : Nat → ClassId} {A : Nat → Nat} {Pl : List Nat} (hPl : ∀ q, 16 ≤ q → q < 36 → q ∈ Pl) : ∀ d : Nat, (∀ (q1 : Nat) (v2 : Int32) (M : Mem) (out : Mem), f_X5_readEither d q1 v2 M = some out → CtV l D cA A Pl yX5_readEither cX5_readEither 4 (13 + d) [.ref (A 34), .ref (A q1), .int v2] M out) ∧ (∀ (q1 : Nat) (v2 : Int32) (M : Mem) (out : Mem), f_X5_readBoth d q1 v2 M = some out → CtV l D cA A Pl yX5_readBoth cX5_readBoth 4 (13 + d) [.ref (A 34), .ref (A q1), .int v2] M out) ∧ (∀ (q1 : Nat) (v2 : Int32) (M : Mem) (out : Mem), f_X5_readNot d q1 v2 M = some out → CtV l D cA A Pl yX5_readNot cX5_readNot 4 (13 + d) [.ref (A 34), .ref (A q1), .int v2] M out) ∧ (∀ (q1 : Nat) (v2 : Int32) (M : Mem) (out : Mem), f_X5_readSum d q1 v2 M = some out → CtV l D cA A Pl yX5_readSum cX5_readSum 5 (13 + d) [.ref (A 34), .ref (A q1), .int v2] M out) ∧ (∀ (q1 : Nat) (v2 : Int32) (M : Mem) (out : Mem), f_X5_readTerm d q1 v2 M = some out → CtV l D cA A Pl yX5_readTerm cX5_readTerm 4 (13 + d) [.ref (A 34), .ref (A q1), .int v2] M out) ∧ (∀ (q1 : Nat) (v2 : Int32) (M : Mem) (out : Mem), f_X5_readOne d q1 v2 M = some out → CtV l D cA A Pl yX5_readOne cX5_readOne 5 (13 + d) [.ref (A 34), .ref (A q1), .int v2] M out) := by
  intro d
  induction d with
  | zero => exact ⟨(fun q1 v2 M out ho => by have ho : none = some out := ho; cases ho), (fun q1 v2 M out ho => by have ho : none = some out := ho; cases ho), (fun q1 v2 M out ho => by have ho : none = some out := ho; cases ho), (fun q1 v2 M out ho => by have ho : none = some out := ho; cases ho), (fun q1 v2 M out ho => by have ho : none = some out := ho; cases ho), (fun q1 v2 M out ho => by have ho : none = some out := ho; cases ho)⟩
  | succ d ih => exact ⟨(fun q1 v2 M out ho => cb_X5_readEither hPl (13 + d) (by omega) _ ih.1 _ ih.2.1 _ ih.2.2.1 _ ih.2.2.2.1 _ ih.2.2.2.2.1 _ ih.2.2.2.2.2 q1 v2 M out ho), (fun q1 v2 M out ho => cb_X5_readBoth hPl (13 + d) (by omega) _ ih.1 _ ih.2.1 _ ih.2.2.1 _ ih.2.2.2.1 _ ih.2.2.2.2.1 _ ih.2.2.2.2.2 q1 v2 M out ho), (fun q1 v2 M out ho => cb_X5_readNot hPl (13 + d) (by omega) _ ih.1 _ ih.2.1 _ ih.2.2.1 _ ih.2.2.2.1 _ ih.2.2.2.2.1 _ ih.2.2.2.2.2 q1 v2 M out ho), (fun q1 v2 M out ho => cb_X5_readSum hPl (13 + d) (by omega) _ ih.1 _ ih.2.1 _ ih.2.2.1 _ ih.2.2.2.1 _ ih.2.2.2.2.1 _ ih.2.2.2.2.2 q1 v2 M out ho), (fun q1 v2 M out ho => cb_X5_readTerm hPl (13 + d) (by omega) _ ih.1 _ ih.2.1 _ ih.2.2.1 _ ih.2.2.2.1 _ ih.2.2.2.2.1 _ ih.2.2.2.2.2 q1 v2 M out ho), (fun q1 v2 M out ho => cb_X5_readOne hPl (13 + d) (by omega) _ ih.1 _ ih.2.1 _ ih.2.2.1 _ ih.2.2.2.1 _ ih.2.2.2.2.1 _ ih.2.2.2.2.2 q1 v2 M out ho)⟩
theorem c_X5_readEither {l : Launch} {D : va_G} {cA : Nat → ClassId} {A : Nat → Nat} {Pl : List Nat} (hPl : ∀ q, 16 ≤ q → q < 36 → q ∈ Pl) (q1 : Nat) (v2 : Int32) (M : Mem) (out : Mem) (ho : f_X5_readEither DP q1 v2 M = some out) : CtV l D cA A Pl yX5_readEither cX5_readEither 4 113 [.ref (A 34), .ref (A q1), .int v2] M out := (cg_X5_readEither hPl DP).1 q1 v2 M out ho
theorem c_X5_readBoth {l : Launch} {D : va_G} {cA : Nat → ClassId} {A : Nat → Nat} {Pl : List Nat} (hPl : ∀ q, 16 ≤ q → q < 36 → q ∈ Pl) (q1 : Nat) (v2 : Int32) (M : Mem) (out : Mem) (ho : f_X5_readBoth DP q1 v2 M = some out) : CtV l D cA A Pl yX5_readBoth cX5_readBoth 4 113 [.ref (A 34), .ref (A q1), .int v2] M out := (cg_X5_readEither hPl DP).2.1 q1 v2 M out ho
theorem c_X5_readNot {l : Launch} {D : va_G} {cA : Nat → ClassId} {A : Nat → Nat} {Pl : List Nat} (hPl : ∀ q, 16 ≤ q → q < 36 → q ∈ Pl) (q1 : Nat) (v2 : Int32) (M : Mem) (out : Mem) (ho : f_X5_readNot DP q1 v2 M = some out) : CtV l D cA A Pl yX5_readNot cX5_readNot 4 113 [.ref (A 34), .ref (A q1), .int v2] M out := (cg_X5_readEither hPl DP).2.2.1 q1 v2 M out ho
theorem c_X5_readSum {l : Launch} {D : va_G} {cA : Nat → ClassId} {A : Nat → Nat} {Pl : List Nat} (hPl : ∀ q, 16 ≤ q → q < 36 → q ∈ Pl) (q1 : Nat) (v2 : Int32) (M : Mem) (out : Mem) (ho : f_X5_readSum DP q1 v2 M = some out) : CtV l D cA A Pl yX5_readSum cX5_readSum 5 113 [.ref (A 34), .ref (A q1), .int v2] M out := (cg_X5_readEither hPl DP).2.2.2.1 q1 v2 M out ho
theorem c_X5_readTerm {l : Launch} {D : va_G} {cA : Nat → ClassId} {A : Nat → Nat} {Pl : List Nat} (hPl : ∀ q, 16 ≤ q → q < 36 → q ∈ Pl) (q1 : Nat) (v2 : Int32) (M : Mem) (out : Mem) (ho : f_X5_readTerm DP q1 v2 M = some out) : CtV l D cA A Pl yX5_readTerm cX5_readTerm 4 113 [.ref (A 34), .ref (A q1), .int v2] M out := (cg_X5_readEither hPl DP).2.2.2.2.1 q1 v2 M out ho
theorem c_X5_readOne {l : Launch} {D : va_G} {cA : Nat → ClassId} {A : Nat → Nat} {Pl : List Nat} (hPl : ∀ q, 16 ≤ q → q < 36 → q ∈ Pl) (q1 : Nat) (v2 : Int32) (M : Mem) (out : Mem) (ho : f_X5_readOne DP q1 v2 M = some out) : CtV l D cA A Pl yX5_readOne cX5_readOne 5 113 [.ref (A 34), .ref (A q1), .int v2] M out := (cg_X5_readEither hPl DP).2.2.2.2.2 q1 v2 M out ho
set_option maxHeartbeats 4000000 in
set_option maxRecDepth 100000 in
theorem c_X7_endSection {l : Launch} {D : va_G} {cA : Nat → ClassId} {A : Nat → Nat} {Pl : List Nat} (hPl : ∀ q, 16 ≤ q → q < 36 → q ∈ Pl) (q0 : Nat) (v1 : Int32) (M : Mem) (out : Mem) (ho : f_X7_endSection q0 v1 M = some out) : CtV l D cA A Pl yX7_endSection cX7_endSection 2 1 [.ref (A q0), .int v1] M out := by
  refine ct_V (by decide) (Nat.le_of_ble_eq_true rfl) (fun p e s m args below meth c C hrt => ?_)
  have hf := ho
  unfold f_X7_endSection at hf
  refine wm_aload_n 0 C dX7_endSection_g0.1 rfl ?_
  obtain ⟨h1, hf⟩ := ckd hf
  refine wm_get (ci := 6) (k := 1) (v := .ref (A (q0 + 2))) C (krr6 hPl (eq_of_beq h1)) (eq_of_beq h1) rfl (by decide) wt_X7_15 iwX7 rfl dX7_endSection_g0.2.1 ?_
  refine wm_iload_n 1 C dX7_endSection_g0.2.2.1 rfl ?_
  refine wm_aload_n 0 C dX7_endSection_g0.2.2.2.1 rfl ?_
  refine wm_get (ci := 6) (k := 2) (v := .int (M q0 2)) C (krr6 hPl (eq_of_beq h1)) (eq_of_beq h1) rfl (by decide) wt_X7_18 iwX7 rfl dX7_endSection_g0.2.2.2.2.1 ?_
  obtain ⟨h2, hf⟩ := ckd hf
  obtain ⟨h3, hf⟩ := ckd hf
  refine wm_iast (n := (ln (q0 + 2))) (j := (v1).toNatClampNeg) (x := (M q0 2)) C (krr30 hPl (eq_of_beq h2)) (eq_of_beq h2) rfl rfl h3 rfl dX7_endSection_g0.2.2.2.2.2.1 ?_
  exact wm_vret C hrt hf dX7_endSection_g0.2.2.2.2.2.2
set_option maxHeartbeats 4000000 in
set_option maxRecDepth 100000 in
theorem c_X5_readInto {l : Launch} {D : va_G} {cA : Nat → ClassId} {A : Nat → Nat} {Pl : List Nat} (hPl : ∀ q, 16 ≤ q → q < 36 → q ∈ Pl) (q1 : Nat) (M : Mem) (out : (Int32 × Mem)) (ho : f_X5_readInto q1 M = some out) : CtI l D cA A Pl yX5_readInto cX5_readInto 3 114 .int [.ref (A 34), .ref (A q1)] M out := by
  refine ct_I (by decide) (Nat.le_of_ble_eq_true rfl) (fun p e s m args below meth c C hrt => ?_)
  have hl20 : ∀ (k57 : Mem → Option (Int32 × Mem)) (hk57 : ∀  (M : Mem), k57  M = some out → WM p l e (RM 114) s m args below meth c 0 0 (MQ below (QI D cA A Pl out) args s 0 0 (FA A Pl)) D cA A Pl (FA A Pl) 3 M 57 [(0, .ref (A 34))] []) (n : Nat), ∀ (q1 : Nat) (v2 : Int32) (M : Mem), f_X5_readInto_l20 k57 n q1 v2 M = some out → WM p l e (RM 114) s m args below meth c 0 0 (MQ below (QI D cA A Pl out) args s 0 0 (FA A Pl)) D cA A Pl (FA A Pl) 3 M 20 [(0, .ref (A 34)), (1, .ref (A q1)), (2, .int v2)] [] := by
    intro k57 hk57 n
    induction n with
    | zero => intro q1 v2 M hf; rw [f_X5_readInto_l20] at hf; cases hf
    | succ n hr =>
      intro q1 v2 M hf
      rw [f_X5_readInto_l20] at hf
      refine wm_iload_n 2 C dX5_readInto_g1.1 rfl ?_
      refine wm_iconst (v := 3) C dX5_readInto_g1.2.1 (by decide) ?_
      refine wm_icmp_ge (tgt := 57) C dX5_readInto_g1.2.2.1 (by decide) (fun c9 => ?_) (fun c9 => ?_)
      · have hf := (if_pos c9).symm.trans hf
        refine wm_pick [0] rfl ?_
        exact hk57 _ hf
      · have hf := (if_neg c9).symm.trans hf
        refine wm_aload_n 0 C dX5_readInto_g1.2.2.2.1 rfl ?_
        refine wm_sipush (v := 260) C dX5_readInto_g1.2.2.2.2.1 (by decide) ?_
        refine wm_iload_n 2 C dX5_readInto_g1.2.2.2.2.2.1 rfl ?_
        refine wm_iadd C dX5_readInto_g1.2.2.2.2.2.2.1 ?_
        obtain ⟨o10, ho11, hf⟩ := bnd hf
        refine wm_callVv (As := [.int (260 + v2)]) (ci := 4) C (c_X5_expect hPl _ _ _ ho11) mi_X5_expect wt_X5_42 (hPl 34 (by decide) (by decide)) rfl rfl rfl rfl (by decide) (by decide) (Nat.le_of_ble_eq_true rfl) dX5_readInto_g1.2.2.2.2.2.2.2.1 ?_
        refine wm_aload_n 0 C dX5_readInto_g1.2.2.2.2.2.2.2.2.1 rfl ?_
        refine wm_aload_n 1 C dX5_readInto_g1.2.2.2.2.2.2.2.2.2.1 rfl ?_
        refine wm_iconst (v := 0) C dX5_readInto_g1.2.2.2.2.2.2.2.2.2.2.1 (by decide) ?_
        obtain ⟨o12, ho13, hf⟩ := bnd hf
        refine wm_callVv (As := [.ref (A q1), .int 0]) (ci := 4) C (c_X5_readEither hPl _ _ _ _ ho13) mi_X5_readEither wt_X5_46 (hPl 34 (by decide) (by decide)) rfl rfl rfl rfl (by decide) (by decide) (Nat.le_of_ble_eq_true rfl) dX5_readInto_g1.2.2.2.2.2.2.2.2.2.2.2 ?_
        refine wm_aload_n 0 C dX5_readInto_g2.1 rfl ?_
        refine wm_bipush (v := 59) C dX5_readInto_g2.2.1 (by decide) ?_
        obtain ⟨o14, ho15, hf⟩ := bnd hf
        refine wm_callVv (As := [.int 59]) (ci := 4) C (c_X5_expect hPl _ _ _ ho15) mi_X5_expect wt_X5_42 (hPl 34 (by decide) (by decide)) rfl rfl rfl rfl (by decide) (by decide) (Nat.le_of_ble_eq_true rfl) dX5_readInto_g2.2.2.1 ?_
        refine wm_aload_n 1 C dX5_readInto_g2.2.2.2.1 rfl ?_
        refine wm_iload_n 2 C dX5_readInto_g2.2.2.2.2.1 rfl ?_
        obtain ⟨o16, ho17, hf⟩ := bnd hf
        obtain ⟨h18, hf⟩ := ckd hf
        refine wm_callVv (As := [.int v2]) (ci := 6) C (c_X7_endSection hPl _ _ _ _ ho17) mi_X7_endSection wt_X5_50 (krr6 hPl (eq_of_beq h18)) (eq_of_beq h18) rfl rfl rfl (by decide) (by decide) (Nat.le_of_ble_eq_true rfl) dX5_readInto_g2.2.2.2.2.2.1 ?_
        refine wm_iinc (lv1 := [(2, .int (v2 + 1)), (0, .ref (A 34)), (1, .ref (A q1))]) (v := (v2 + 1)) 2 C dX5_readInto_g2.2.2.2.2.2.2.1 rfl (by first | rfl | decide) (by decide) rfl ?_
        refine wm_goto (tgt := 20) C dX5_readInto_g2.2.2.2.2.2.2.2.1 (by decide) ?_
        refine wm_pick [1, 2, 0] rfl ?_
        exact hr _ _ _ hf
  have hb71 : ∀  (M : Mem), f_X5_readInto_b71  M = some out → WM p l e (RM 114) s m args below meth c 0 0 (MQ below (QI D cA A Pl out) args s 0 0 (FA A Pl)) D cA A Pl (FA A Pl) 3 M 71 [(0, .ref (A 34))] [] := by
    intro  M hf
    unfold f_X5_readInto_b71 at hf
    refine wm_aload_n 0 C dX5_readInto_g3.2.2.1 rfl ?_
    refine wm_iconst (v := 0) C dX5_readInto_g3.2.2.2.1 (by decide) ?_
    refine wm_put (ci := 4) (k := 1) (x := 0) C (hPl 34 (by decide) (by decide)) rfl rfl (by decide) wt_X5_15 iwX5 tyX5_ok nmX5 rfl rfl rfl rfl (fun _ => rfl) (Nat.le_of_ble_eq_true rfl) dX5_readInto_g3.2.2.2.2.1 ?_
    refine wm_aload_n 0 C dX5_readInto_g3.2.2.2.2.2.1 rfl ?_
    refine wm_get (ci := 4) (k := 6) (v := .int (M 34 6)) C (hPl 34 (by decide) (by decide)) rfl rfl (by decide) wt_X5_31 iwX5 (by first | rfl | simp [fld, mu, upd, mcp]) dX5_readInto_g3.2.2.2.2.2.2.1 ?_
    exact wm_iret C hrt hf dX5_readInto_g3.2.2.2.2.2.2.2
  have hb57 : ∀  (M : Mem), f_X5_readInto_b57  M = some out → WM p l e (RM 114) s m args below meth c 0 0 (MQ below (QI D cA A Pl out) args s 0 0 (FA A Pl)) D cA A Pl (FA A Pl) 3 M 57 [(0, .ref (A 34))] [] := by
    intro  M hf
    unfold f_X5_readInto_b57 at hf
    refine wm_aload_n 0 C dX5_readInto_g2.2.2.2.2.2.2.2.2.1 rfl ?_
    refine wm_get (ci := 4) (k := 3) (v := .int (M 34 3)) C (hPl 34 (by decide) (by decide)) rfl rfl (by decide) wt_X5_22 iwX5 rfl dX5_readInto_g2.2.2.2.2.2.2.2.2.2.1 ?_
    refine wm_sipush (v := 256) C dX5_readInto_g2.2.2.2.2.2.2.2.2.2.2.1 (by decide) ?_
    refine wm_icmp_eq (tgt := 71) C dX5_readInto_g2.2.2.2.2.2.2.2.2.2.2.2 (by decide) (fun c6 => ?_) (fun c6 => ?_)
    · have hf := (if_pos c6).symm.trans hf
      exact hb71 _ hf
    · have hf := (if_neg c6).symm.trans hf
      refine wm_aload_n 0 C dX5_readInto_g3.1 rfl ?_
      obtain ⟨o7, ho8, hf⟩ := bnd hf
      refine wm_callVv (As := []) (ci := 4) C (c_X5_fail hPl  _ _ ho8) mi_X5_fail wt_X5_53 (hPl 34 (by decide) (by decide)) rfl rfl rfl rfl (by decide) (by decide) (Nat.le_of_ble_eq_true rfl) dX5_readInto_g3.2.1 ?_
      exact hb71 _ hf
  have hf := ho
  unfold f_X5_readInto at hf
  refine wm_aload_n 1 C dX5_readInto_g0.1 rfl ?_
  obtain ⟨o1, ho2, hf⟩ := bnd hf
  obtain ⟨h3, hf⟩ := ckd hf
  refine wm_callVv (As := []) (ci := 6) C (c_X7_clear hPl _ _ _ ho2) mi_X7_clear wt_X5_34 (krr6 hPl (eq_of_beq h3)) (eq_of_beq h3) rfl rfl rfl (by decide) (by decide) (Nat.le_of_ble_eq_true rfl) dX5_readInto_g0.2.1 ?_
  refine wm_aload_n 0 C dX5_readInto_g0.2.2.1 rfl ?_
  refine wm_iconst (v := 0) C dX5_readInto_g0.2.2.2.1 (by decide) ?_
  refine wm_put (ci := 4) (k := 2) (x := 0) C (hPl 34 (by decide) (by decide)) rfl rfl (by decide) wt_X5_19 iwX5 tyX5_ok nmX5 rfl rfl rfl rfl (fun _ => rfl) (Nat.le_of_ble_eq_true rfl) dX5_readInto_g0.2.2.2.2.1 ?_
  refine wm_aload_n 0 C dX5_readInto_g0.2.2.2.2.2.1 rfl ?_
  refine wm_iconst (v := (-1)) C dX5_readInto_g0.2.2.2.2.2.2.1 (by decide) ?_
  refine wm_put (ci := 4) (k := 6) (x := (-1)) C (hPl 34 (by decide) (by decide)) rfl rfl (by decide) wt_X5_31 iwX5 tyX5_ok nmX5 rfl rfl rfl rfl (fun _ => rfl) (Nat.le_of_ble_eq_true rfl) dX5_readInto_g0.2.2.2.2.2.2.2.1 ?_
  refine wm_aload_n 0 C dX5_readInto_g0.2.2.2.2.2.2.2.2.1 rfl ?_
  obtain ⟨o4, ho5, hf⟩ := bnd hf
  refine wm_callVv (As := []) (ci := 4) C (c_X5_advance hPl  _ _ ho5) mi_X5_advance wt_X5_39 (hPl 34 (by decide) (by decide)) rfl rfl rfl rfl (by decide) (by decide) (Nat.le_of_ble_eq_true rfl) dX5_readInto_g0.2.2.2.2.2.2.2.2.2.1 ?_
  refine wm_iconst (v := 0) C dX5_readInto_g0.2.2.2.2.2.2.2.2.2.2.1 (by decide) ?_
  refine wm_istore_n (lv1 := [(2, .int 0), (0, .ref (A 34)), (1, .ref (A q1))]) C dX5_readInto_g0.2.2.2.2.2.2.2.2.2.2.2 (by decide) rfl ?_
  refine wm_pick [1, 2, 0] rfl ?_
  exact (hl20 _ hb57 FU) _ _ _ hf
set_option maxHeartbeats 4000000 in
set_option maxRecDepth 100000 in
theorem c_X8_text {l : Launch} {D : va_G} {cA : Nat → ClassId} {A : Nat → Nat} {Pl : List Nat} (hPl : ∀ q, 0 ≤ q → q < 63 → q ∈ Pl) (M : Mem) (out : (Int32 × Mem)) (ho : f_X8_text M = some out) : CtI l D cA A Pl yX8_text cX8_text 2 115 .int [.ref (A 0)] M out := by
  refine ct_I (by decide) (Nat.le_of_ble_eq_true rfl) (fun p e s m args below meth c C hrt => ?_)
  have hf := ho
  unfold f_X8_text at hf
  refine wm_aload_n 0 C dX8_text_g0.1 rfl ?_
  refine wm_get (ci := 7) (k := 4) (v := .int (M 0 4)) C (hPl 0 (by decide) (by decide)) rfl rfl (by decide) wt_X8_29 iwX8 rfl dX8_text_g0.2.1 ?_
  refine wm_bipush (v := 6) C dX8_text_g0.2.2.1 (by decide) ?_
  refine wm_icmp_lt (tgt := 12) C dX8_text_g0.2.2.2.1 (by decide) (fun c1 => ?_) (fun c1 => ?_)
  · have hf := (if_pos c1).symm.trans hf
    refine wm_aload_n 0 C dX8_text_g0.2.2.2.2.2.2.1 rfl ?_
    refine wm_get (ci := 7) (k := 5) (v := .ref (A 34)) C (hPl 0 (by decide) (by decide)) rfl rfl (by decide) wt_X8_36 iwX8 rfl dX8_text_g0.2.2.2.2.2.2.2.1 ?_
    refine wm_aload_n 0 C dX8_text_g0.2.2.2.2.2.2.2.2.1 rfl ?_
    refine wm_get (ci := 7) (k := 3) (v := .ref (A 15)) C (hPl 0 (by decide) (by decide)) rfl rfl (by decide) wt_X8_25 iwX8 rfl dX8_text_g0.2.2.2.2.2.2.2.2.2.1 ?_
    refine wm_aload_n 0 C dX8_text_g0.2.2.2.2.2.2.2.2.2.2.1 rfl ?_
    refine wm_get (ci := 7) (k := 4) (v := .int (M 0 4)) C (hPl 0 (by decide) (by decide)) rfl rfl (by decide) wt_X8_29 iwX8 rfl dX8_text_g0.2.2.2.2.2.2.2.2.2.2.2 ?_
    obtain ⟨h2, hf⟩ := ckd hf
    refine wm_aald15 (j := ((M 0 4)).toNatClampNeg) C (hPl 15 (by decide) (by decide)) h2 rfl dX8_text_g1.1 ?_
    obtain ⟨o3, ho4, hf⟩ := bnd hf
    refine wm_callVi (As := [.ref (A (16 + 3 * ((M 0 4)).toNatClampNeg))]) (ci := 4) C (c_X5_readInto (fun q h1 h2 => hPl q (by omega) (by omega)) _ _ _ ho4) mi_X5_readInto wt_X8_64 (hPl 34 (by decide) (by decide)) rfl rfl rfl rfl (by decide) (by decide) (Nat.le_of_ble_eq_true rfl) dX8_text_g1.2.1 ?_
    refine wm_istore_n (lv1 := [(1, .int o3.1), (0, .ref (A 0))]) C dX8_text_g1.2.2.1 (by decide) rfl ?_
    refine wm_iload_n 0 C dX8_text_g1.2.2.2.1 rfl ?_
    refine wm_iconst (v := (-1)) C dX8_text_g1.2.2.2.2.1 (by decide) ?_
    refine wm_icmp_eq (tgt := 39) C dX8_text_g1.2.2.2.2.2.1 (by decide) (fun c5 => ?_) (fun c5 => ?_)
    · have hf := (if_pos c5).symm.trans hf
      refine wm_aload_n 1 C dX8_text_g1.2.2.2.2.2.2.2.2.2.2.1 rfl ?_
      refine wm_dup C dX8_text_g1.2.2.2.2.2.2.2.2.2.2.2 rfl ?_
      refine wm_get (ci := 7) (k := 4) (v := .int (o3.2 0 4)) C (hPl 0 (by decide) (by decide)) rfl rfl (by decide) wt_X8_29 iwX8 rfl dX8_text_g2.1 ?_
      refine wm_iconst (v := 1) C dX8_text_g2.2.1 (by decide) ?_
      refine wm_iadd C dX8_text_g2.2.2.1 ?_
      refine wm_put (ci := 7) (k := 4) (x := ((o3.2 0 4) + 1)) C (hPl 0 (by decide) (by decide)) rfl rfl (by decide) wt_X8_29 iwX8 tyX8_ok nmX8 rfl rfl rfl rfl (fun _ => rfl) (Nat.le_of_ble_eq_true rfl) dX8_text_g2.2.2.2.1 ?_
      refine wm_aload_n 1 C dX8_text_g2.2.2.2.2.1 rfl ?_
      refine wm_get (ci := 7) (k := 4) (v := .int ((o3.2 0 4) + 1)) C (hPl 0 (by decide) (by decide)) rfl rfl (by decide) wt_X8_29 iwX8 (by first | rfl | simp [fld, mu, upd, mcp]) dX8_text_g2.2.2.2.2.2.1 ?_
      refine wm_iconst (v := 1) C dX8_text_g2.2.2.2.2.2.2.1 (by decide) ?_
      refine wm_isub C dX8_text_g2.2.2.2.2.2.2.2.1 ?_
      exact wm_iret C hrt hf dX8_text_g2.2.2.2.2.2.2.2.2
    · have hf := (if_neg c5).symm.trans hf
      refine wm_bipush (v := (-100)) C dX8_text_g1.2.2.2.2.2.2.1 (by decide) ?_
      refine wm_iload_n 0 C dX8_text_g1.2.2.2.2.2.2.2.1 rfl ?_
      refine wm_isub C dX8_text_g1.2.2.2.2.2.2.2.2.1 ?_
      exact wm_iret C hrt hf dX8_text_g1.2.2.2.2.2.2.2.2.2.1
  · have hf := (if_neg c1).symm.trans hf
    refine wm_bipush (v := (-4)) C dX8_text_g0.2.2.2.2.1 (by decide) ?_
    exact wm_iret C hrt hf dX8_text_g0.2.2.2.2.2.1
set_option maxHeartbeats 4000000 in
set_option maxRecDepth 100000 in
theorem c_X8_force {l : Launch} {D : va_G} {cA : Nat → ClassId} {A : Nat → Nat} {Pl : List Nat} (hPl : ∀ q, 0 ≤ q → q < 63 → q ∈ Pl) (v1 : Int32) (M : Mem) (out : (Int32 × Mem)) (ho : f_X8_force v1 M = some out) : CtI l D cA A Pl yX8_force cX8_force 3 1 .int [.ref (A 0), .int v1] M out := by
  refine ct_I (by decide) (Nat.le_of_ble_eq_true rfl) (fun p e s m args below meth c C hrt => ?_)
  have hf := ho
  unfold f_X8_force at hf
  refine wm_iload_n 1 C dX8_force_g0.1 rfl ?_
  refine wm_if_lt (tgt := 12) C dX8_force_g0.2.1 (by decide) (fun c1 => ?_) (fun c1 => ?_)
  · have hf := (if_pos c1).symm.trans hf
    refine wm_bipush (v := (-2)) C dX8_force_g0.2.2.2.2.2.2.1 (by decide) ?_
    exact wm_iret C hrt hf dX8_force_g0.2.2.2.2.2.2.2.1
  · have hf := (if_neg c1).symm.trans hf
    refine wm_iload_n 1 C dX8_force_g0.2.2.1 rfl ?_
    refine wm_aload_n 0 C dX8_force_g0.2.2.2.1 rfl ?_
    refine wm_get (ci := 7) (k := 4) (v := .int (M 0 4)) C (hPl 0 (by decide) (by decide)) rfl rfl (by decide) wt_X8_29 iwX8 rfl dX8_force_g0.2.2.2.2.1 ?_
    refine wm_icmp_lt (tgt := 15) C dX8_force_g0.2.2.2.2.2.1 (by decide) (fun c2 => ?_) (fun c2 => ?_)
    · have hf := (if_pos c2).symm.trans hf
      refine wm_aload_n 0 C dX8_force_g0.2.2.2.2.2.2.2.2.1 rfl ?_
      refine wm_get (ci := 7) (k := 0) (v := .ref (A 1)) C (hPl 0 (by decide) (by decide)) rfl rfl (by decide) wt_X8_10 iwX8 rfl dX8_force_g0.2.2.2.2.2.2.2.2.2.1 ?_
      refine wm_get (ci := 1) (k := 8) (v := .int (M 1 8)) C (hPl 1 (by decide) (by decide)) rfl rfl (by decide) wt_X8_174 iwX1 rfl dX8_force_g0.2.2.2.2.2.2.2.2.2.2.1 ?_
      refine wm_istore_n (lv1 := [(2, .int (M 1 8)), (0, .ref (A 0)), (1, .int v1)]) C dX8_force_g0.2.2.2.2.2.2.2.2.2.2.2 (by decide) rfl ?_
      refine wm_aload_n 1 C dX8_force_g1.1 rfl ?_
      refine wm_get (ci := 7) (k := 0) (v := .ref (A 1)) C (hPl 0 (by decide) (by decide)) rfl rfl (by decide) wt_X8_10 iwX8 rfl dX8_force_g1.2.1 ?_
      refine wm_iload_n 2 C dX8_force_g1.2.2.1 rfl ?_
      refine wm_put (ci := 1) (k := 8) (x := v1) C (hPl 1 (by decide) (by decide)) rfl rfl (by decide) wt_X8_174 iwX1 tyX1_ok nmX1 rfl rfl rfl rfl (fun _ => rfl) (Nat.le_of_ble_eq_true rfl) dX8_force_g1.2.2.2.1 ?_
      refine wm_iload_n 0 C dX8_force_g1.2.2.2.2.1 rfl ?_
      exact wm_iret C hrt hf dX8_force_g1.2.2.2.2.2
    · have hf := (if_neg c2).symm.trans hf
      refine wm_bipush (v := (-2)) C dX8_force_g0.2.2.2.2.2.2.1 (by decide) ?_
      exact wm_iret C hrt hf dX8_force_g0.2.2.2.2.2.2.2.1
set_option maxHeartbeats 4000000 in
set_option maxRecDepth 100000 in
theorem c_X0_isCooked {l : Launch} {D : va_G} {cA : Nat → ClassId} {A : Nat → Nat} {Pl : List Nat} (hPl : ∀ q, 0 ≤ q → q < 63 → q ∈ Pl) (v1 : Int32) (q2 : Nat) (M : Mem) (out : (Int32 × Mem)) (ho : f_X0_isCooked v1 q2 M = some out) : CtI l D cA A Pl yX0_isCooked cX0_isCooked 3 5 .boolean [.ref (A 36), .int v1, .ref (A q2)] M out := by
  refine ct_I (by decide) (Nat.le_of_ble_eq_true rfl) (fun p e s m args below meth c C hrt => ?_)
  have hf := ho
  unfold f_X0_isCooked at hf
  refine wm_aload_n 0 C dX0_isCooked_g0.1 rfl ?_
  refine wm_iload_n 1 C dX0_isCooked_g0.2.1 rfl ?_
  refine wm_aload_n 2 C dX0_isCooked_g0.2.2.1 rfl ?_
  obtain ⟨o1, ho2, hf⟩ := bnd hf
  refine wm_callVv (As := [.int v1, .ref (A q2)]) (ci := 0) C (c_X0_cross hPl _ _ _ _ ho2) mi_X0_cross wt_X0_117 (hPl 36 (by decide) (by decide)) rfl rfl rfl rfl (by decide) (by decide) (Nat.le_of_ble_eq_true rfl) dX0_isCooked_g0.2.2.2.1 ?_
  refine wm_aload_n 0 C dX0_isCooked_g0.2.2.2.2.1 rfl ?_
  refine wm_get (ci := 0) (k := 12) (v := .int (o1 36 12)) C (hPl 36 (by decide) (by decide)) rfl rfl (by decide) wt_X0_46 iwX0 rfl dX0_isCooked_g0.2.2.2.2.2.1 ?_
  refine wm_if_ne (tgt := 15) C dX0_isCooked_g0.2.2.2.2.2.2.1 (by decide) (fun c3 => ?_) (fun c3 => ?_)
  · have hf := (if_neg c3).symm.trans hf
    refine wm_aload_n 0 C dX0_isCooked_g0.2.2.2.2.2.2.2.2.2.1 rfl ?_
    refine wm_iload_n 1 C dX0_isCooked_g0.2.2.2.2.2.2.2.2.2.2.1 rfl ?_
    obtain ⟨o4, ho5, hf⟩ := bnd hf
    refine wm_callVv (As := [.int v1]) (ci := 0) C (c_X0_judge hPl _ _ _ ho5) mi_X0_judge wt_X0_121 (hPl 36 (by decide) (by decide)) rfl rfl rfl rfl (by decide) (by decide) (Nat.le_of_ble_eq_true rfl) dX0_isCooked_g0.2.2.2.2.2.2.2.2.2.2.2 ?_
    refine wm_aload_n 0 C dX0_isCooked_g1.1 rfl ?_
    refine wm_get (ci := 0) (k := 11) (v := .ref (A 42)) C (hPl 36 (by decide) (by decide)) rfl rfl (by decide) wt_X0_42 iwX0 rfl dX0_isCooked_g1.2.1 ?_
    refine wm_iconst (v := 0) C dX0_isCooked_g1.2.2.1 (by decide) ?_
    refine wm_zald (n := 2) (j := 0) (v := (o4 42 0)) C (hPl 42 (by decide) (by decide)) rfl rfl rfl (by decide) (by decide) rfl dX0_isCooked_g1.2.2.2.1 ?_
    refine wm_if_eq (tgt := 42) C dX0_isCooked_g1.2.2.2.2.1 (by decide) (fun c6 => ?_) (fun c6 => ?_)
    · have hf := (if_pos c6).symm.trans hf
      refine wm_iconst (v := 0) C dX0_isCooked_g2.1 (by decide) ?_
      exact wm_zret C hrt rfl hf dX0_isCooked_g2.2
    · have hf := (if_neg c6).symm.trans hf
      refine wm_aload_n 0 C dX0_isCooked_g1.2.2.2.2.2.1 rfl ?_
      refine wm_get (ci := 0) (k := 11) (v := .ref (A 42)) C (hPl 36 (by decide) (by decide)) rfl rfl (by decide) wt_X0_42 iwX0 rfl dX0_isCooked_g1.2.2.2.2.2.2.1 ?_
      refine wm_iconst (v := 1) C dX0_isCooked_g1.2.2.2.2.2.2.2.1 (by decide) ?_
      refine wm_zald (n := 2) (j := 1) (v := (o4 42 1)) C (hPl 42 (by decide) (by decide)) rfl rfl rfl (by decide) (by decide) rfl dX0_isCooked_g1.2.2.2.2.2.2.2.2.1 ?_
      refine wm_if_eq (tgt := 42) C dX0_isCooked_g1.2.2.2.2.2.2.2.2.2.1 (by decide) (fun c7 => ?_) (fun c7 => ?_)
      · have hf := (if_pos c7).symm.trans hf
        refine wm_iconst (v := 0) C dX0_isCooked_g2.1 (by decide) ?_
        exact wm_zret C hrt rfl hf dX0_isCooked_g2.2
      · have hf := (if_neg c7).symm.trans hf
        refine wm_iconst (v := 1) C dX0_isCooked_g1.2.2.2.2.2.2.2.2.2.2.1 (by decide) ?_
        refine wm_goto (tgt := 43) C dX0_isCooked_g1.2.2.2.2.2.2.2.2.2.2.2 (by decide) ?_
        exact wm_zret C hrt rfl hf dX0_isCooked_g2.2
  · have hf := (if_pos c3).symm.trans hf
    refine wm_iconst (v := 0) C dX0_isCooked_g0.2.2.2.2.2.2.2.1 (by decide) ?_
    exact wm_zret C hrt rfl hf dX0_isCooked_g0.2.2.2.2.2.2.2.2.1
set_option maxHeartbeats 4000000 in
set_option maxRecDepth 100000 in
theorem c_X0_useUp {l : Launch} {D : va_G} {cA : Nat → ClassId} {A : Nat → Nat} {Pl : List Nat} (hPl : ∀ q, 0 ≤ q → q < 63 → q ∈ Pl) (v1 : Int32) (q2 : Nat) (M : Mem) (out : Mem) (ho : f_X0_useUp v1 q2 M = some out) : CtV l D cA A Pl yX0_useUp cX0_useUp 6 1 [.ref (A 36), .int v1, .ref (A q2)] M out := by
  refine ct_V (by decide) (Nat.le_of_ble_eq_true rfl) (fun p e s m args below meth c C hrt => ?_)
  have hl16 : ∀ (n : Nat), ∀ (q2 : Nat) (v3 : Int32) (v4 : Int32) (v5 : Int32) (M : Mem), f_X0_useUp_l16 n q2 v3 v4 v5 M = some out → WM p l e (RM 1) s m args below meth c 0 0 (MQ below (QV D cA A Pl out) args s 0 0 (FA A Pl)) D cA A Pl (FA A Pl) 6 M 16 [(0, .ref (A 36)), (2, .ref (A q2)), (3, .int v3), (4, .int v4), (5, .int v5)] [] := by
    intro n
    induction n with
    | zero => intro q2 v3 v4 v5 M hf; rw [f_X0_useUp_l16] at hf; cases hf
    | succ n hr =>
      intro q2 v3 v4 v5 M hf
      rw [f_X0_useUp_l16] at hf
      refine wm_iload 4 C dX0_useUp_g1.1 rfl ?_
      refine wm_bipush (v := 6) C dX0_useUp_g1.2.1 (by decide) ?_
      refine wm_icmp_ge (tgt := 70) C dX0_useUp_g1.2.2.1 (by decide) (fun c1 => ?_) (fun c1 => ?_)
      · have hf := (if_pos c1).symm.trans hf
        exact wm_vret C hrt hf dX0_useUp_g3.2.2.2.2.2.2.2.2.2.2
      · have hf := (if_neg c1).symm.trans hf
        refine wm_aload_n 1 C dX0_useUp_g1.2.2.2.1 rfl ?_
        refine wm_iload_n 2 C dX0_useUp_g1.2.2.2.2.1 rfl ?_
        refine wm_iload 4 C dX0_useUp_g1.2.2.2.2.2.1 rfl ?_
        refine wm_iadd C dX0_useUp_g1.2.2.2.2.2.2.1 ?_
        refine wm_dup2 C dX0_useUp_g1.2.2.2.2.2.2.2.1 rfl rfl ?_
        obtain ⟨h2, hf⟩ := ckd hf
        obtain ⟨h3, hf⟩ := ckd hf
        refine wm_iald (n := (ln q2)) (j := ((v3 + v5)).toNatClampNeg) (v := (M q2 ((v3 + v5)).toNatClampNeg)) C (kr10 hPl (eq_of_beq h2)) (eq_of_beq h2) rfl rfl h3 rfl rfl dX0_useUp_g1.2.2.2.2.2.2.2.2.1 ?_
        refine wm_aload_n 0 C dX0_useUp_g1.2.2.2.2.2.2.2.2.2.1 rfl ?_
        refine wm_get (ci := 0) (k := 6) (v := .ref (A 38)) C (hPl 36 (by decide) (by decide)) rfl rfl (by decide) wt_X0_25 iwX0 rfl dX0_useUp_g1.2.2.2.2.2.2.2.2.2.2.1 ?_
        refine wm_iload 4 C dX0_useUp_g1.2.2.2.2.2.2.2.2.2.2.2 rfl ?_
        obtain ⟨h4, hf⟩ := ckd hf
        refine wm_iald (n := 6) (j := (v5).toNatClampNeg) (v := (M 38 (v5).toNatClampNeg)) C (hPl 38 (by decide) (by decide)) rfl rfl rfl h4 rfl rfl dX0_useUp_g2.1 ?_
        refine wm_aload_n 0 C dX0_useUp_g2.2.1 rfl ?_
        refine wm_get (ci := 0) (k := 10) (v := .ref (A 41)) C (hPl 36 (by decide) (by decide)) rfl rfl (by decide) wt_X0_39 iwX0 rfl dX0_useUp_g2.2.2.1 ?_
        refine wm_iload 4 C dX0_useUp_g2.2.2.2.1 rfl ?_
        refine wm_iald (n := 6) (j := (v5).toNatClampNeg) (v := (M 41 (v5).toNatClampNeg)) C (hPl 41 (by decide) (by decide)) rfl rfl rfl h4 rfl rfl dX0_useUp_g2.2.2.2.2.1 ?_
        refine wm_isub C dX0_useUp_g2.2.2.2.2.2.1 ?_
        refine wm_isub C dX0_useUp_g2.2.2.2.2.2.2.1 ?_
        refine wm_iast (n := (ln q2)) (j := ((v3 + v5)).toNatClampNeg) (x := ((M q2 ((v3 + v5)).toNatClampNeg) - ((M 38 (v5).toNatClampNeg) - (M 41 (v5).toNatClampNeg)))) C (kr10 hPl (eq_of_beq h2)) (eq_of_beq h2) rfl rfl h3 rfl dX0_useUp_g2.2.2.2.2.2.2.2.1 ?_
        refine wm_aload_n 1 C dX0_useUp_g2.2.2.2.2.2.2.2.2.1 rfl ?_
        refine wm_iload 3 C dX0_useUp_g2.2.2.2.2.2.2.2.2.2.1 rfl ?_
        refine wm_iload 4 C dX0_useUp_g2.2.2.2.2.2.2.2.2.2.2.1 rfl ?_
        refine wm_iadd C dX0_useUp_g2.2.2.2.2.2.2.2.2.2.2.2 ?_
        refine wm_dup2 C dX0_useUp_g3.1 rfl rfl ?_
        obtain ⟨h5, hf⟩ := ckd hf
        refine wm_iald (n := (ln q2)) (j := ((v4 + v5)).toNatClampNeg) (v := ((mu M q2 ((v3 + v5)).toNatClampNeg ((M q2 ((v3 + v5)).toNatClampNeg) - ((M 38 (v5).toNatClampNeg) - (M 41 (v5).toNatClampNeg)))) q2 ((v4 + v5)).toNatClampNeg)) C (kr10 hPl (eq_of_beq h2)) (eq_of_beq h2) rfl rfl h5 rfl (by first | rfl | simp [mu, upd, mcp]) dX0_useUp_g3.2.1 ?_
        refine wm_aload_n 0 C dX0_useUp_g3.2.2.1 rfl ?_
        refine wm_get (ci := 0) (k := 10) (v := .ref (A 41)) C (hPl 36 (by decide) (by decide)) rfl rfl (by decide) wt_X0_39 iwX0 (by first | rfl | simp [fld, mu, upd, mcp]) dX0_useUp_g3.2.2.2.1 ?_
        refine wm_iload 4 C dX0_useUp_g3.2.2.2.2.1 rfl ?_
        refine wm_iald (n := 6) (j := (v5).toNatClampNeg) (v := ((mu M q2 ((v3 + v5)).toNatClampNeg ((M q2 ((v3 + v5)).toNatClampNeg) - ((M 38 (v5).toNatClampNeg) - (M 41 (v5).toNatClampNeg)))) 41 (v5).toNatClampNeg)) C (hPl 41 (by decide) (by decide)) rfl rfl rfl h4 rfl (by first | rfl | simp [mu, upd, mcp]) dX0_useUp_g3.2.2.2.2.2.1 ?_
        refine wm_isub C dX0_useUp_g3.2.2.2.2.2.2.1 ?_
        refine wm_iast (n := (ln q2)) (j := ((v4 + v5)).toNatClampNeg) (x := (((mu M q2 ((v3 + v5)).toNatClampNeg ((M q2 ((v3 + v5)).toNatClampNeg) - ((M 38 (v5).toNatClampNeg) - (M 41 (v5).toNatClampNeg)))) q2 ((v4 + v5)).toNatClampNeg) - ((mu M q2 ((v3 + v5)).toNatClampNeg ((M q2 ((v3 + v5)).toNatClampNeg) - ((M 38 (v5).toNatClampNeg) - (M 41 (v5).toNatClampNeg)))) 41 (v5).toNatClampNeg))) C (kr10 hPl (eq_of_beq h2)) (eq_of_beq h2) rfl rfl h5 rfl dX0_useUp_g3.2.2.2.2.2.2.2.1 ?_
        refine wm_iinc (lv1 := [(5, .int (v5 + 1)), (0, .ref (A 36)), (2, .ref (A q2)), (3, .int v3), (4, .int v4)]) (v := (v5 + 1)) 4 C dX0_useUp_g3.2.2.2.2.2.2.2.2.1 rfl (by first | rfl | decide) (by decide) rfl ?_
        refine wm_goto (tgt := 16) C dX0_useUp_g3.2.2.2.2.2.2.2.2.2.1 (by decide) ?_
        refine wm_pick [1, 2, 3, 4, 0] rfl ?_
        exact hr _ _ _ _ _ hf
  have hf := ho
  unfold f_X0_useUp at hf
  refine wm_iload_n 1 C dX0_useUp_g0.1 rfl ?_
  refine wm_bipush (v := 6) C dX0_useUp_g0.2.1 (by decide) ?_
  refine wm_imul C dX0_useUp_g0.2.2.1 ?_
  refine wm_istore_n (lv1 := [(3, .int (v1 * 6)), (0, .ref (A 36)), (1, .int v1), (2, .ref (A q2))]) C dX0_useUp_g0.2.2.2.1 (by decide) rfl ?_
  refine wm_iconst (v := 1) C dX0_useUp_g0.2.2.2.2.1 (by decide) ?_
  refine wm_iload_n 2 C dX0_useUp_g0.2.2.2.2.2.1 rfl ?_
  refine wm_isub C dX0_useUp_g0.2.2.2.2.2.2.1 ?_
  refine wm_bipush (v := 6) C dX0_useUp_g0.2.2.2.2.2.2.2.1 (by decide) ?_
  refine wm_imul C dX0_useUp_g0.2.2.2.2.2.2.2.2.1 ?_
  refine wm_istore (lv1 := [(4, .int ((1 - v1) * 6)), (3, .int (v1 * 6)), (0, .ref (A 36)), (1, .int v1), (2, .ref (A q2))]) C dX0_useUp_g0.2.2.2.2.2.2.2.2.2.1 (by decide) rfl ?_
  refine wm_iconst (v := 0) C dX0_useUp_g0.2.2.2.2.2.2.2.2.2.2.1 (by decide) ?_
  refine wm_istore (lv1 := [(5, .int 0), (4, .int ((1 - v1) * 6)), (3, .int (v1 * 6)), (0, .ref (A 36)), (1, .int v1), (2, .ref (A q2))]) C dX0_useUp_g0.2.2.2.2.2.2.2.2.2.2.2 (by decide) rfl ?_
  refine wm_pick [3, 5, 2, 1, 0] rfl ?_
  exact (hl16 FU) _ _ _ _ _ hf
set_option maxHeartbeats 4000000 in
set_option maxRecDepth 100000 in
theorem c_X1_countCooked {l : Launch} {D : va_G} {cA : Nat → ClassId} {A : Nat → Nat} {Pl : List Nat} (hPl : ∀ q, 0 ≤ q → q < 63 → q ∈ Pl) (v1 : Int32) (M : Mem) (out : Mem) (ho : f_X1_countCooked v1 M = some out) : CtV l D cA A Pl yX1_countCooked cX1_countCooked 2 1 [.ref (A 1), .int v1] M out := by
  refine ct_V (by decide) (Nat.le_of_ble_eq_true rfl) (fun p e s m args below meth c C hrt => ?_)
  have hf := ho
  unfold f_X1_countCooked at hf
  refine wm_aload_n 0 C dX1_countCooked_g0.1 rfl ?_
  refine wm_get (ci := 1) (k := 5) (v := .ref (A 7)) C (hPl 1 (by decide) (by decide)) rfl rfl (by decide) wt_X1_27 iwX1 rfl dX1_countCooked_g0.2.1 ?_
  refine wm_iload_n 1 C dX1_countCooked_g0.2.2.1 rfl ?_
  refine wm_sipush (v := 999) C dX1_countCooked_g0.2.2.2.1 (by decide) ?_
  refine wm_aload_n 0 C dX1_countCooked_g0.2.2.2.2.1 rfl ?_
  refine wm_get (ci := 1) (k := 5) (v := .ref (A 7)) C (hPl 1 (by decide) (by decide)) rfl rfl (by decide) wt_X1_27 iwX1 rfl dX1_countCooked_g0.2.2.2.2.2.1 ?_
  refine wm_iload_n 1 C dX1_countCooked_g0.2.2.2.2.2.2.1 rfl ?_
  obtain ⟨h1, hf⟩ := ckd hf
  refine wm_iald (n := 6) (j := (v1).toNatClampNeg) (v := (M 7 (v1).toNatClampNeg)) C (hPl 7 (by decide) (by decide)) rfl rfl rfl h1 rfl rfl dX1_countCooked_g0.2.2.2.2.2.2.2.1 ?_
  refine wm_iconst (v := 1) C dX1_countCooked_g0.2.2.2.2.2.2.2.2.1 (by decide) ?_
  refine wm_iadd C dX1_countCooked_g0.2.2.2.2.2.2.2.2.2.1 ?_
  refine wm_min C wt_X1_47 (Nat.le_of_ble_eq_true rfl) (by decide) dX1_countCooked_g0.2.2.2.2.2.2.2.2.2.2.1 ?_
  refine wm_iast (n := 6) (j := (v1).toNatClampNeg) (x := (jmin 999 ((M 7 (v1).toNatClampNeg) + 1))) C (hPl 7 (by decide) (by decide)) rfl rfl rfl h1 rfl dX1_countCooked_g0.2.2.2.2.2.2.2.2.2.2.2 ?_
  exact wm_vret C hrt hf dX1_countCooked_g1
set_option maxHeartbeats 4000000 in
set_option maxRecDepth 100000 in
theorem c_X8_cook {l : Launch} {D : va_G} {cA : Nat → ClassId} {A : Nat → Nat} {Pl : List Nat} (hPl : ∀ q, 0 ≤ q → q < 63 → q ∈ Pl) (v1 : Int32) (v2 : Int32) (M : Mem) (out : (Int32 × Mem)) (ho : f_X8_cook v1 v2 M = some out) : CtI l D cA A Pl yX8_cook cX8_cook 3 6 .int [.ref (A 0), .int v1, .int v2] M out := by
  refine ct_I (by decide) (Nat.le_of_ble_eq_true rfl) (fun p e s m args below meth c C hrt => ?_)
  have hf := ho
  unfold f_X8_cook at hf
  refine wm_aload_n 0 C dX8_cook_g0.1 rfl ?_
  refine wm_get (ci := 7) (k := 0) (v := .ref (A 1)) C (hPl 0 (by decide) (by decide)) rfl rfl (by decide) wt_X8_10 iwX8 rfl dX8_cook_g0.2.1 ?_
  refine wm_iload_n 1 C dX8_cook_g0.2.2.1 rfl ?_
  obtain ⟨o1, ho2, hf⟩ := bnd hf
  refine wm_callVi (As := [.int v1]) (ci := 1) C (c_X1_hasDish hPl _ _ _ ho2) mi_X1_hasDish wt_X8_134 (hPl 1 (by decide) (by decide)) rfl rfl rfl rfl (by decide) (by decide) (Nat.le_of_ble_eq_true rfl) dX8_cook_g0.2.2.2.1 ?_
  refine wm_if_eq (tgt := 18) C dX8_cook_g0.2.2.2.2.1 (by decide) (fun c3 => ?_) (fun c3 => ?_)
  · have hf := (if_pos c3).symm.trans hf
    refine wm_sipush (v := (-1000)) C dX8_cook_g0.2.2.2.2.2.2.2.2.1 (by decide) ?_
    exact wm_iret C hrt hf dX8_cook_g0.2.2.2.2.2.2.2.2.2.1
  · have hf := (if_neg c3).symm.trans hf
    refine wm_iload_n 2 C dX8_cook_g0.2.2.2.2.2.1 rfl ?_
    obtain ⟨o4, ho5, hf⟩ := bnd hf
    refine wm_callSi (As := [.int v2]) C (c_X8_isKitchen hPl _ _ _ ho5) mi_X8_isKitchen wt_X8_128 rfl rfl (by decide) (by decide) (Nat.le_of_ble_eq_true rfl) dX8_cook_g0.2.2.2.2.2.2.1 ?_
    refine wm_if_ne (tgt := 22) C dX8_cook_g0.2.2.2.2.2.2.2.1 (by decide) (fun c6 => ?_) (fun c6 => ?_)
    · have hf := (if_neg c6).symm.trans hf
      refine wm_aload_n 0 C dX8_cook_g0.2.2.2.2.2.2.2.2.2.2.1 rfl ?_
      refine wm_get (ci := 7) (k := 6) (v := .ref (A 36)) C (hPl 0 (by decide) (by decide)) rfl rfl (by decide) wt_X8_73 iwX8 rfl dX8_cook_g0.2.2.2.2.2.2.2.2.2.2.2 ?_
      refine wm_aload_n 0 C dX8_cook_g1.1 rfl ?_
      refine wm_get (ci := 7) (k := 0) (v := .ref (A 1)) C (hPl 0 (by decide) (by decide)) rfl rfl (by decide) wt_X8_10 iwX8 rfl dX8_cook_g1.2.1 ?_
      refine wm_iload_n 1 C dX8_cook_g1.2.2.1 rfl ?_
      obtain ⟨o7, ho8, hf⟩ := bnd hf
      refine wm_callVv (As := [.ref (A 1), .int v1]) (ci := 0) C (c_X0_takeUp hPl _ _ _ ho8) mi_X0_takeUp wt_X8_140 (hPl 36 (by decide) (by decide)) rfl rfl rfl rfl (by decide) (by decide) (Nat.le_of_ble_eq_true rfl) dX8_cook_g1.2.2.2.1 ?_
      refine wm_aload_n 0 C dX8_cook_g1.2.2.2.2.1 rfl ?_
      refine wm_get (ci := 7) (k := 6) (v := .ref (A 36)) C (hPl 0 (by decide) (by decide)) rfl rfl (by decide) wt_X8_73 iwX8 rfl dX8_cook_g1.2.2.2.2.2.1 ?_
      refine wm_iload_n 2 C dX8_cook_g1.2.2.2.2.2.2.1 rfl ?_
      refine wm_aload_n 0 C dX8_cook_g1.2.2.2.2.2.2.2.1 rfl ?_
      refine wm_get (ci := 7) (k := 0) (v := .ref (A 1)) C (hPl 0 (by decide) (by decide)) rfl rfl (by decide) wt_X8_10 iwX8 rfl dX8_cook_g1.2.2.2.2.2.2.2.2.1 ?_
      refine wm_get (ci := 1) (k := 0) (v := .ref (A 2)) C (hPl 1 (by decide) (by decide)) rfl rfl (by decide) wt_X8_104 iwX1 rfl dX8_cook_g1.2.2.2.2.2.2.2.2.2.1 ?_
      obtain ⟨o9, ho10, hf⟩ := bnd hf
      refine wm_callVi (As := [.int v2, .ref (A 2)]) (ci := 0) C (c_X0_isCooked hPl _ _ _ _ ho10) mi_X0_isCooked wt_X8_177 (hPl 36 (by decide) (by decide)) rfl rfl rfl rfl (by decide) (by decide) (Nat.le_of_ble_eq_true rfl) dX8_cook_g1.2.2.2.2.2.2.2.2.2.2.1 ?_
      refine wm_if_ne (tgt := 72) C dX8_cook_g1.2.2.2.2.2.2.2.2.2.2.2 (by decide) (fun c11 => ?_) (fun c11 => ?_)
      · have hf := (if_neg c11).symm.trans hf
        refine wm_aload_n 0 C dX8_cook_g2.2.2.2.2.2.2.2.2.1 rfl ?_
        refine wm_get (ci := 7) (k := 6) (v := .ref (A 36)) C (hPl 0 (by decide) (by decide)) rfl rfl (by decide) wt_X8_73 iwX8 rfl dX8_cook_g2.2.2.2.2.2.2.2.2.2.1 ?_
        refine wm_iload_n 2 C dX8_cook_g2.2.2.2.2.2.2.2.2.2.2.1 rfl ?_
        refine wm_aload_n 0 C dX8_cook_g2.2.2.2.2.2.2.2.2.2.2.2 rfl ?_
        refine wm_get (ci := 7) (k := 0) (v := .ref (A 1)) C (hPl 0 (by decide) (by decide)) rfl rfl (by decide) wt_X8_10 iwX8 rfl dX8_cook_g3.1 ?_
        refine wm_get (ci := 1) (k := 0) (v := .ref (A 2)) C (hPl 1 (by decide) (by decide)) rfl rfl (by decide) wt_X8_104 iwX1 rfl dX8_cook_g3.2.1 ?_
        obtain ⟨o12, ho13, hf⟩ := bnd hf
        refine wm_callVv (As := [.int v2, .ref (A 2)]) (ci := 0) C (c_X0_useUp hPl _ _ _ _ ho13) mi_X0_useUp wt_X8_181 (hPl 36 (by decide) (by decide)) rfl rfl rfl rfl (by decide) (by decide) (Nat.le_of_ble_eq_true rfl) dX8_cook_g3.2.2.1 ?_
        refine wm_aload_n 0 C dX8_cook_g3.2.2.2.1 rfl ?_
        refine wm_get (ci := 7) (k := 0) (v := .ref (A 1)) C (hPl 0 (by decide) (by decide)) rfl rfl (by decide) wt_X8_10 iwX8 rfl dX8_cook_g3.2.2.2.2.1 ?_
        refine wm_iload_n 1 C dX8_cook_g3.2.2.2.2.2.1 rfl ?_
        obtain ⟨o14, ho15, hf⟩ := bnd hf
        refine wm_callVv (As := [.int v1]) (ci := 1) C (c_X1_countCooked hPl _ _ _ ho15) mi_X1_countCooked wt_X8_184 (hPl 1 (by decide) (by decide)) rfl rfl rfl rfl (by decide) (by decide) (Nat.le_of_ble_eq_true rfl) dX8_cook_g3.2.2.2.2.2.2.1 ?_
        refine wm_aload_n 0 C dX8_cook_g3.2.2.2.2.2.2.2.1 rfl ?_
        refine wm_get (ci := 7) (k := 6) (v := .ref (A 36)) C (hPl 0 (by decide) (by decide)) rfl rfl (by decide) wt_X8_73 iwX8 rfl dX8_cook_g3.2.2.2.2.2.2.2.2.1 ?_
        obtain ⟨o16, ho17, hf⟩ := bnd hf
        refine wm_callVi (As := []) (ci := 0) C (c_X0_worth hPl  _ _ ho17) mi_X0_worth wt_X8_168 (hPl 36 (by decide) (by decide)) rfl rfl rfl rfl (by decide) (by decide) (Nat.le_of_ble_eq_true rfl) dX8_cook_g3.2.2.2.2.2.2.2.2.2.1 ?_
        exact wm_iret C hrt hf dX8_cook_g3.2.2.2.2.2.2.2.2.2.2
      · have hf := (if_pos c11).symm.trans hf
        refine wm_aload_n 0 C dX8_cook_g2.1 rfl ?_
        refine wm_get (ci := 7) (k := 6) (v := .ref (A 36)) C (hPl 0 (by decide) (by decide)) rfl rfl (by decide) wt_X8_73 iwX8 rfl dX8_cook_g2.2.1 ?_
        refine wm_get (ci := 0) (k := 12) (v := .int (o9.2 36 12)) C (hPl 36 (by decide) (by decide)) rfl rfl (by decide) wt_X8_152 iwX0 rfl dX8_cook_g2.2.2.1 ?_
        refine wm_if_eq (tgt := 68) C dX8_cook_g2.2.2.2.1 (by decide) (fun c18 => ?_) (fun c18 => ?_)
        · have hf := (if_pos c18).symm.trans hf
          refine wm_sipush (v := (-1001)) C dX8_cook_g2.2.2.2.2.2.2.1 (by decide) ?_
          exact wm_iret C hrt hf dX8_cook_g2.2.2.2.2.2.2.2.1
        · have hf := (if_neg c18).symm.trans hf
          refine wm_sipush (v := (-1002)) C dX8_cook_g2.2.2.2.2.1 (by decide) ?_
          refine wm_goto (tgt := 71) C dX8_cook_g2.2.2.2.2.2.1 (by decide) ?_
          exact wm_iret C hrt hf dX8_cook_g2.2.2.2.2.2.2.2.1
    · have hf := (if_pos c6).symm.trans hf
      refine wm_sipush (v := (-1000)) C dX8_cook_g0.2.2.2.2.2.2.2.2.1 (by decide) ?_
      exact wm_iret C hrt hf dX8_cook_g0.2.2.2.2.2.2.2.2.2.1
set_option maxHeartbeats 4000000 in
set_option maxRecDepth 100000 in
theorem c_X8_isMenu {l : Launch} {D : va_G} {cA : Nat → ClassId} {A : Nat → Nat} {Pl : List Nat} (hPl : ∀ q, 0 ≤ q → q < 63 → q ∈ Pl) (v1 : Int32) (M : Mem) (out : (Int32 × Mem)) (ho : f_X8_isMenu v1 M = some out) : CtI l D cA A Pl yX8_isMenu cX8_isMenu 5 1 .boolean [.ref (A 0), .int v1] M out := by
  refine ct_I (by decide) (Nat.le_of_ble_eq_true rfl) (fun p e s m args below meth c C hrt => ?_)
  have hb67 : ∀ (r : Int32 → Int32 → Mem → Option (Int32 × Mem)) (hr : ∀ (v1 : Int32) (v2 : Int32) (M : Mem), r v1 v2 M = some out → WM p l e (RM 1) s m args below meth c 0 0 (MQ below (QI D cA A Pl out) args s 0 0 (FA A Pl)) D cA A Pl (FA A Pl) 5 M 14 [(0, .ref (A 0)), (1, .int v1), (2, .int v2)] []), ∀ (v1 : Int32) (v2 : Int32) (s0 : Int32) (s1 : Int32) (M : Mem), f_X8_isMenu_b67 r v1 v2 s0 s1 M = some out → WM p l e (RM 1) s m args below meth c 0 0 (MQ below (QI D cA A Pl out) args s 0 0 (FA A Pl)) D cA A Pl (FA A Pl) 5 M 67 [(0, .ref (A 0)), (1, .int v1), (2, .int v2)] [.int s1, .int s0] := by
    intro r hr v1 v2 s0 s1 M hf
    unfold f_X8_isMenu_b67 at hf
    refine wm_icmp_le (tgt := 72) C dX8_isMenu_g3.2.2.2.1 (by decide) (fun c3 => ?_) (fun c3 => ?_)
    · have hf := (if_pos c3).symm.trans hf
      refine wm_iinc (lv1 := [(2, .int (v2 + 1)), (0, .ref (A 0)), (1, .int v1)]) (v := (v2 + 1)) 2 C dX8_isMenu_g3.2.2.2.2.2.2.1 rfl (by first | rfl | decide) (by decide) rfl ?_
      refine wm_goto (tgt := 14) C dX8_isMenu_g3.2.2.2.2.2.2.2.1 (by decide) ?_
      refine wm_pick [1, 2, 0] rfl ?_
      exact hr _ _ _ hf
    · have hf := (if_neg c3).symm.trans hf
      refine wm_iconst (v := 0) C dX8_isMenu_g3.2.2.2.2.1 (by decide) ?_
      exact wm_zret C hrt rfl hf dX8_isMenu_g3.2.2.2.2.2.1
  have hb54 : ∀ (r : Int32 → Int32 → Mem → Option (Int32 × Mem)) (hr : ∀ (v1 : Int32) (v2 : Int32) (M : Mem), r v1 v2 M = some out → WM p l e (RM 1) s m args below meth c 0 0 (MQ below (QI D cA A Pl out) args s 0 0 (FA A Pl)) D cA A Pl (FA A Pl) 5 M 14 [(0, .ref (A 0)), (1, .int v1), (2, .int v2)] []), ∀ (v1 : Int32) (v2 : Int32) (v3 : Int32) (s0 : Int32) (M : Mem), f_X8_isMenu_b54 r v1 v2 v3 s0 M = some out → WM p l e (RM 1) s m args below meth c 0 0 (MQ below (QI D cA A Pl out) args s 0 0 (FA A Pl)) D cA A Pl (FA A Pl) 5 M 54 [(0, .ref (A 0)), (1, .int v1), (2, .int v2), (3, .int v3)] [.int s0] := by
    intro r hr v1 v2 v3 s0 M hf
    unfold f_X8_isMenu_b54 at hf
    refine wm_istore (lv1 := [(4, .int s0), (0, .ref (A 0)), (1, .int v1), (2, .int v2), (3, .int v3)]) C dX8_isMenu_g2.2.2.2.2.2.2.2.2.1 (by decide) rfl ?_
    refine wm_iload_n 4 C dX8_isMenu_g2.2.2.2.2.2.2.2.2.2.1 rfl ?_
    refine wm_iload 0 C dX8_isMenu_g2.2.2.2.2.2.2.2.2.2.2.1 rfl ?_
    refine wm_if_eq (tgt := 66) C dX8_isMenu_g2.2.2.2.2.2.2.2.2.2.2.2 (by decide) (fun c4 => ?_) (fun c4 => ?_)
    · have hf := (if_pos c4).symm.trans hf
      refine wm_iconst (v := 0) C dX8_isMenu_g3.2.2.1 (by decide) ?_
      refine wm_pick [1, 2, 3] rfl ?_
      exact (hb67 _ hr) _ _ _ _ _ hf
    · have hf := (if_neg c4).symm.trans hf
      refine wm_iconst (v := 2) C dX8_isMenu_g3.1 (by decide) ?_
      refine wm_goto (tgt := 67) C dX8_isMenu_g3.2.1 (by decide) ?_
      refine wm_pick [1, 2, 3] rfl ?_
      exact (hb67 _ hr) _ _ _ _ _ hf
  have hl14 : ∀ (n : Nat), ∀ (v1 : Int32) (v2 : Int32) (M : Mem), f_X8_isMenu_l14 n v1 v2 M = some out → WM p l e (RM 1) s m args below meth c 0 0 (MQ below (QI D cA A Pl out) args s 0 0 (FA A Pl)) D cA A Pl (FA A Pl) 5 M 14 [(0, .ref (A 0)), (1, .int v1), (2, .int v2)] [] := by
    intro n
    induction n with
    | zero => intro v1 v2 M hf; rw [f_X8_isMenu_l14] at hf; cases hf
    | succ n hr =>
      intro v1 v2 M hf
      rw [f_X8_isMenu_l14] at hf
      refine wm_iload_n 2 C dX8_isMenu_g0.2.2.2.2.2.2.2.2.2.1 rfl ?_
      refine wm_gets2000 C wt_X8_313 dX8_isMenu_g0.2.2.2.2.2.2.2.2.2.2.1 ?_
      refine wm_tlen2000 C dX8_isMenu_g0.2.2.2.2.2.2.2.2.2.2.2 ?_
      refine wm_icmp_ge (tgt := 78) C dX8_isMenu_g1.1 (by decide) (fun c5 => ?_) (fun c5 => ?_)
      · have hf := (if_pos c5).symm.trans hf
        refine wm_iconst (v := 1) C dX8_isMenu_g3.2.2.2.2.2.2.2.2.1 (by decide) ?_
        exact wm_zret C hrt rfl hf dX8_isMenu_g3.2.2.2.2.2.2.2.2.2
      · have hf := (if_neg c5).symm.trans hf
        refine wm_iload_n 1 C dX8_isMenu_g1.2.1 rfl ?_
        refine wm_gets2000 C wt_X8_313 dX8_isMenu_g1.2.2.1 ?_
        refine wm_iload_n 2 C dX8_isMenu_g1.2.2.2.1 rfl ?_
        obtain ⟨h6, hf⟩ := ckd hf
        refine wm_tld2000 (v := (stv 2000 (v2).toNatClampNeg)) C h6 rfl dX8_isMenu_g1.2.2.2.2.1 ?_
        obtain ⟨h7, hf⟩ := ckd hf
        refine wm_idiv C (nz0 h7) dX8_isMenu_g1.2.2.2.2.2.1 ?_
        refine wm_bipush (v := 10) C dX8_isMenu_g1.2.2.2.2.2.2.1 (by decide) ?_
        refine wm_irem C (by decide) dX8_isMenu_g1.2.2.2.2.2.2.2.1 ?_
        refine wm_istore_n (lv1 := [(3, .int (jrem (v1 / (stv 2000 (v2).toNatClampNeg)) 10)), (0, .ref (A 0)), (1, .int v1), (2, .int v2)]) C dX8_isMenu_g1.2.2.2.2.2.2.2.2.1 (by decide) rfl ?_
        refine wm_iload_n 3 C dX8_isMenu_g1.2.2.2.2.2.2.2.2.2.1 rfl ?_
        refine wm_gets2000 C wt_X8_313 dX8_isMenu_g1.2.2.2.2.2.2.2.2.2.2.1 ?_
        refine wm_tlen2000 C dX8_isMenu_g1.2.2.2.2.2.2.2.2.2.2.2 ?_
        refine wm_aload_n 1 C dX8_isMenu_g2.1 rfl ?_
        refine wm_get (ci := 7) (k := 0) (v := .ref (A 1)) C (hPl 0 (by decide) (by decide)) rfl rfl (by decide) wt_X8_10 iwX8 rfl dX8_isMenu_g2.2.1 ?_
        refine wm_get (ci := 1) (k := 6) (v := .int (M 1 6)) C (hPl 1 (by decide) (by decide)) rfl rfl (by decide) wt_X8_209 iwX1 rfl dX8_isMenu_g2.2.2.1 ?_
        refine wm_isub C dX8_isMenu_g2.2.2.2.1 ?_
        refine wm_icmp_lt (tgt := 53) C dX8_isMenu_g2.2.2.2.2.1 (by decide) (fun c8 => ?_) (fun c8 => ?_)
        · have hf := (if_pos c8).symm.trans hf
          refine wm_iconst (v := 0) C dX8_isMenu_g2.2.2.2.2.2.2.2.1 (by decide) ?_
          refine wm_pick [1, 2, 3, 0] rfl ?_
          exact (hb54 _ hr) _ _ _ _ _ hf
        · have hf := (if_neg c8).symm.trans hf
          refine wm_iconst (v := 1) C dX8_isMenu_g2.2.2.2.2.2.1 (by decide) ?_
          refine wm_goto (tgt := 54) C dX8_isMenu_g2.2.2.2.2.2.2.1 (by decide) ?_
          refine wm_pick [1, 2, 3, 0] rfl ?_
          exact (hb54 _ hr) _ _ _ _ _ hf
  have hf := ho
  unfold f_X8_isMenu at hf
  refine wm_iload_n 1 C dX8_isMenu_g0.1 rfl ?_
  refine wm_if_lt (tgt := 10) C dX8_isMenu_g0.2.1 (by decide) (fun c1 => ?_) (fun c1 => ?_)
  · have hf := (if_pos c1).symm.trans hf
    refine wm_iconst (v := 0) C dX8_isMenu_g0.2.2.2.2.2.1 (by decide) ?_
    exact wm_zret C hrt rfl hf dX8_isMenu_g0.2.2.2.2.2.2.1
  · have hf := (if_neg c1).symm.trans hf
    refine wm_iload_n 1 C dX8_isMenu_g0.2.2.1 rfl ?_
    refine wm_ldc (v := 999999) C wt_X8_120 dX8_isMenu_g0.2.2.2.1 ?_
    refine wm_icmp_le (tgt := 12) C dX8_isMenu_g0.2.2.2.2.1 (by decide) (fun c2 => ?_) (fun c2 => ?_)
    · have hf := (if_pos c2).symm.trans hf
      refine wm_iconst (v := 0) C dX8_isMenu_g0.2.2.2.2.2.2.2.1 (by decide) ?_
      refine wm_istore_n (lv1 := [(2, .int 0), (0, .ref (A 0)), (1, .int v1)]) C dX8_isMenu_g0.2.2.2.2.2.2.2.2.1 (by decide) rfl ?_
      refine wm_pick [1, 2, 0] rfl ?_
      exact (hl14 FU) _ _ _ hf
    · have hf := (if_neg c2).symm.trans hf
      refine wm_iconst (v := 0) C dX8_isMenu_g0.2.2.2.2.2.1 (by decide) ?_
      exact wm_zret C hrt rfl hf dX8_isMenu_g0.2.2.2.2.2.2.1
set_option maxHeartbeats 4000000 in
set_option maxRecDepth 100000 in
theorem c_X4_begin {l : Launch} {D : va_G} {cA : Nat → ClassId} {A : Nat → Nat} {Pl : List Nat} (hPl : ∀ q, 0 ≤ q → q < 63 → q ∈ Pl) (M : Mem) (out : Mem) (ho : f_X4_begin M = some out) : CtV l D cA A Pl yX4_begin cX4_begin 1 1 [.ref (A 43)] M out := by
  refine ct_V (by decide) (Nat.le_of_ble_eq_true rfl) (fun p e s m args below meth c C hrt => ?_)
  have hf := ho
  unfold f_X4_begin at hf
  refine wm_aload_n 0 C dX4_begin_g0.1 rfl ?_
  refine wm_get (ci := 3) (k := 0) (v := .ref (A 1)) C (hPl 43 (by decide) (by decide)) rfl rfl (by decide) wt_X4_28 iwX4 rfl dX4_begin_g0.2.1 ?_
  refine wm_get (ci := 1) (k := 0) (v := .ref (A 2)) C (hPl 1 (by decide) (by decide)) rfl rfl (by decide) wt_X4_36 iwX1 rfl dX4_begin_g0.2.2.1 ?_
  refine wm_iconst (v := 0) C dX4_begin_g0.2.2.2.1 (by decide) ?_
  refine wm_aload_n 0 C dX4_begin_g0.2.2.2.2.1 rfl ?_
  refine wm_get (ci := 3) (k := 2) (v := .ref (A 44)) C (hPl 43 (by decide) (by decide)) rfl rfl (by decide) wt_X4_9 iwX4 rfl dX4_begin_g0.2.2.2.2.2.1 ?_
  refine wm_iconst (v := 0) C dX4_begin_g0.2.2.2.2.2.2.1 (by decide) ?_
  refine wm_bipush (v := 12) C dX4_begin_g0.2.2.2.2.2.2.2.1 (by decide) ?_
  refine wm_copy (ja := 0) (jb := 0) (jn := 12) (na := 12) (nb := 12) C wt_X4_39 (hPl 2 (by decide) (by decide)) rfl rfl rfl (hPl 44 (by decide) (by decide)) rfl rfl rfl rfl (by decide) (by decide) (by decide) (Nat.le_of_ble_eq_true rfl) (by decide) dX4_begin_g0.2.2.2.2.2.2.2.2.1 ?_
  refine wm_aload_n 0 C dX4_begin_g0.2.2.2.2.2.2.2.2.2.1 rfl ?_
  refine wm_iconst (v := 0) C dX4_begin_g0.2.2.2.2.2.2.2.2.2.2.1 (by decide) ?_
  refine wm_put (ci := 3) (k := 3) (x := 0) C (hPl 43 (by decide) (by decide)) rfl rfl (by decide) wt_X4_15 iwX4 tyX4_ok nmX4 rfl rfl rfl rfl (fun _ => rfl) (Nat.le_of_ble_eq_true rfl) dX4_begin_g0.2.2.2.2.2.2.2.2.2.2.2 ?_
  refine wm_aload_n 0 C dX4_begin_g1.1 rfl ?_
  refine wm_iconst (v := 0) C dX4_begin_g1.2.1 (by decide) ?_
  refine wm_put (ci := 3) (k := 4) (x := 0) C (hPl 43 (by decide) (by decide)) rfl rfl (by decide) wt_X4_19 iwX4 tyX4_ok nmX4 rfl rfl rfl rfl (fun _ => rfl) (Nat.le_of_ble_eq_true rfl) dX4_begin_g1.2.2.1 ?_
  refine wm_aload_n 0 C dX4_begin_g1.2.2.2.1 rfl ?_
  refine wm_iconst (v := 0) C dX4_begin_g1.2.2.2.2.1 (by decide) ?_
  refine wm_put (ci := 3) (k := 5) (x := 0) C (hPl 43 (by decide) (by decide)) rfl rfl (by decide) wt_X4_22 iwX4 tyX4_ok nmX4 rfl rfl rfl rfl (fun _ => rfl) (Nat.le_of_ble_eq_true rfl) dX4_begin_g1.2.2.2.2.2.1 ?_
  refine wm_aload_n 0 C dX4_begin_g1.2.2.2.2.2.2.1 rfl ?_
  refine wm_iconst (v := (-1)) C dX4_begin_g1.2.2.2.2.2.2.2.1 (by decide) ?_
  refine wm_put (ci := 3) (k := 6) (x := (-1)) C (hPl 43 (by decide) (by decide)) rfl rfl (by decide) wt_X4_25 iwX4 tyX4_ok nmX4 rfl rfl rfl rfl (fun _ => rfl) (Nat.le_of_ble_eq_true rfl) dX4_begin_g1.2.2.2.2.2.2.2.2.1 ?_
  exact wm_vret C hrt hf dX4_begin_g1.2.2.2.2.2.2.2.2.2
set_option maxHeartbeats 4000000 in
set_option maxRecDepth 100000 in
theorem c_X1_kitchenBy {l : Launch} {D : va_G} {cA : Nat → ClassId} {A : Nat → Nat} {Pl : List Nat} (hPl : ∀ q, 0 ≤ q → q < 63 → q ∈ Pl) (v1 : Int32) (v2 : Int32) (M : Mem) (out : (Int32 × Mem)) (ho : f_X1_kitchenBy v1 v2 M = some out) : CtI l D cA A Pl yX1_kitchenBy cX1_kitchenBy 3 1 .int [.ref (A 1), .int v1, .int v2] M out := by
  refine ct_I (by decide) (Nat.le_of_ble_eq_true rfl) (fun p e s m args below meth c C hrt => ?_)
  have hf := ho
  unfold f_X1_kitchenBy at hf
  refine wm_iload_n 1 C dX1_kitchenBy_g0.1 rfl ?_
  refine wm_getsNX1_40 C rfl dX1_kitchenBy_g0.2.1 ?_
  refine wm_bipush (v := 6) C dX1_kitchenBy_g0.2.2.1 (by decide) ?_
  refine wm_aload_n 0 C dX1_kitchenBy_g0.2.2.2.1 rfl ?_
  refine wm_get (ci := 1) (k := 6) (v := .int (M 1 6)) C (hPl 1 (by decide) (by decide)) rfl rfl (by decide) wt_X1_30 iwX1 rfl dX1_kitchenBy_g0.2.2.2.2.1 ?_
  refine wm_isub C dX1_kitchenBy_g0.2.2.2.2.2.1 ?_
  refine wm_iload_n 2 C dX1_kitchenBy_g0.2.2.2.2.2.2.1 rfl ?_
  refine wm_iadd C dX1_kitchenBy_g0.2.2.2.2.2.2.2.1 ?_
  obtain ⟨h1, hf⟩ := ckd hf
  refine wm_tld2000 (v := (stv 2000 (((6 - (M 1 6)) + v2)).toNatClampNeg)) C h1 rfl dX1_kitchenBy_g0.2.2.2.2.2.2.2.2.1 ?_
  obtain ⟨h2, hf⟩ := ckd hf
  refine wm_idiv C (nz0 h2) dX1_kitchenBy_g0.2.2.2.2.2.2.2.2.2.1 ?_
  refine wm_bipush (v := 10) C dX1_kitchenBy_g0.2.2.2.2.2.2.2.2.2.2.1 (by decide) ?_
  refine wm_irem C (by decide) dX1_kitchenBy_g0.2.2.2.2.2.2.2.2.2.2.2 ?_
  refine wm_iconst (v := 1) C dX1_kitchenBy_g1.1 (by decide) ?_
  refine wm_isub C dX1_kitchenBy_g1.2.1 ?_
  exact wm_iret C hrt hf dX1_kitchenBy_g1.2.2
set_option maxHeartbeats 4000000 in
set_option maxRecDepth 100000 in
theorem c_X4_goOn {l : Launch} {D : va_G} {cA : Nat → ClassId} {A : Nat → Nat} {Pl : List Nat} (hPl : ∀ q, 0 ≤ q → q < 63 → q ∈ Pl) (v1 : Int32) (v2 : Int32) (M : Mem) (out : (Int32 × Mem)) (ho : f_X4_goOn v1 v2 M = some out) : CtI l D cA A Pl yX4_goOn cX4_goOn 3 6 .boolean [.ref (A 43), .int v1, .int v2] M out := by
  refine ct_I (by decide) (Nat.le_of_ble_eq_true rfl) (fun p e s m args below meth c C hrt => ?_)
  have hb77 : ∀ (s1 : Int32) (s2 : Int32) (M : Mem), f_X4_goOn_b77 s1 s2 M = some out → WM p l e (RM 6) s m args below meth c 0 0 (MQ below (QI D cA A Pl out) args s 0 0 (FA A Pl)) D cA A Pl (FA A Pl) 3 M 77 [(0, .ref (A 43))] [.int s2, .int s1, .ref (A 43)] := by
    intro s1 s2 M hf
    unfold f_X4_goOn_b77 at hf
    refine wm_iadd C dX4_goOn_g3.2.2.2.1 ?_
    refine wm_put (ci := 3) (k := 4) (x := (s1 + s2)) C (hPl 43 (by decide) (by decide)) rfl rfl (by decide) wt_X4_19 iwX4 tyX4_ok nmX4 rfl rfl rfl rfl (fun _ => rfl) (Nat.le_of_ble_eq_true rfl) dX4_goOn_g3.2.2.2.2.1 ?_
    refine wm_aload_n 0 C dX4_goOn_g3.2.2.2.2.2.1 rfl ?_
    refine wm_dup C dX4_goOn_g3.2.2.2.2.2.2.1 rfl ?_
    refine wm_get (ci := 3) (k := 5) (v := .int (M 43 5)) C (hPl 43 (by decide) (by decide)) rfl rfl (by decide) wt_X4_22 iwX4 (by first | rfl | simp [fld, mu, upd, mcp]) dX4_goOn_g3.2.2.2.2.2.2.2.1 ?_
    refine wm_aload_n 0 C dX4_goOn_g3.2.2.2.2.2.2.2.2.1 rfl ?_
    refine wm_get (ci := 3) (k := 1) (v := .ref (A 36)) C (hPl 43 (by decide) (by decide)) rfl rfl (by decide) wt_X4_32 iwX4 (by first | rfl | simp [fld, mu, upd, mcp]) dX4_goOn_g3.2.2.2.2.2.2.2.2.2.1 ?_
    refine wm_get (ci := 0) (k := 14) (v := .int (M 36 14)) C (hPl 36 (by decide) (by decide)) rfl rfl (by decide) wt_X4_60 iwX0 (by first | rfl | simp [fld, mu, upd, mcp]) dX4_goOn_g3.2.2.2.2.2.2.2.2.2.2.1 ?_
    refine wm_iadd C dX4_goOn_g3.2.2.2.2.2.2.2.2.2.2.2 ?_
    refine wm_put (ci := 3) (k := 5) (x := ((M 43 5) + (M 36 14))) C (hPl 43 (by decide) (by decide)) rfl rfl (by decide) wt_X4_22 iwX4 tyX4_ok nmX4 rfl rfl rfl rfl (fun _ => rfl) (Nat.le_of_ble_eq_true rfl) dX4_goOn_g4.1 ?_
    refine wm_iconst (v := 1) C dX4_goOn_g4.2.1 (by decide) ?_
    exact wm_zret C hrt rfl hf dX4_goOn_g4.2.2
  have hf := ho
  unfold f_X4_goOn at hf
  refine wm_aload_n 0 C dX4_goOn_g0.1 rfl ?_
  refine wm_get (ci := 3) (k := 1) (v := .ref (A 36)) C (hPl 43 (by decide) (by decide)) rfl rfl (by decide) wt_X4_32 iwX4 rfl dX4_goOn_g0.2.1 ?_
  refine wm_aload_n 0 C dX4_goOn_g0.2.2.1 rfl ?_
  refine wm_get (ci := 3) (k := 0) (v := .ref (A 1)) C (hPl 43 (by decide) (by decide)) rfl rfl (by decide) wt_X4_28 iwX4 rfl dX4_goOn_g0.2.2.2.1 ?_
  refine wm_iload_n 1 C dX4_goOn_g0.2.2.2.2.1 rfl ?_
  obtain ⟨o1, ho2, hf⟩ := bnd hf
  refine wm_callVv (As := [.ref (A 1), .int v1]) (ci := 0) C (c_X0_takeUp hPl _ _ _ ho2) mi_X0_takeUp wt_X4_45 (hPl 36 (by decide) (by decide)) rfl rfl rfl rfl (by decide) (by decide) (Nat.le_of_ble_eq_true rfl) dX4_goOn_g0.2.2.2.2.2.1 ?_
  refine wm_aload_n 0 C dX4_goOn_g0.2.2.2.2.2.2.1 rfl ?_
  refine wm_get (ci := 3) (k := 1) (v := .ref (A 36)) C (hPl 43 (by decide) (by decide)) rfl rfl (by decide) wt_X4_32 iwX4 rfl dX4_goOn_g0.2.2.2.2.2.2.2.1 ?_
  refine wm_iload_n 2 C dX4_goOn_g0.2.2.2.2.2.2.2.2.1 rfl ?_
  refine wm_aload_n 0 C dX4_goOn_g0.2.2.2.2.2.2.2.2.2.1 rfl ?_
  refine wm_get (ci := 3) (k := 2) (v := .ref (A 44)) C (hPl 43 (by decide) (by decide)) rfl rfl (by decide) wt_X4_9 iwX4 rfl dX4_goOn_g0.2.2.2.2.2.2.2.2.2.2.1 ?_
  obtain ⟨o3, ho4, hf⟩ := bnd hf
  refine wm_callVi (As := [.int v2, .ref (A 44)]) (ci := 0) C (c_X0_isCooked hPl _ _ _ _ ho4) mi_X0_isCooked wt_X4_51 (hPl 36 (by decide) (by decide)) rfl rfl rfl rfl (by decide) (by decide) (Nat.le_of_ble_eq_true rfl) dX4_goOn_g0.2.2.2.2.2.2.2.2.2.2.2 ?_
  refine wm_if_ne (tgt := 29) C dX4_goOn_g1.1 (by decide) (fun c5 => ?_) (fun c5 => ?_)
  · have hf := (if_neg c5).symm.trans hf
    refine wm_aload_n 0 C dX4_goOn_g1.2.2.2.1 rfl ?_
    refine wm_get (ci := 3) (k := 1) (v := .ref (A 36)) C (hPl 43 (by decide) (by decide)) rfl rfl (by decide) wt_X4_32 iwX4 rfl dX4_goOn_g1.2.2.2.2.1 ?_
    refine wm_iload_n 2 C dX4_goOn_g1.2.2.2.2.2.1 rfl ?_
    refine wm_aload_n 0 C dX4_goOn_g1.2.2.2.2.2.2.1 rfl ?_
    refine wm_get (ci := 3) (k := 2) (v := .ref (A 44)) C (hPl 43 (by decide) (by decide)) rfl rfl (by decide) wt_X4_9 iwX4 rfl dX4_goOn_g1.2.2.2.2.2.2.2.1 ?_
    obtain ⟨o6, ho7, hf⟩ := bnd hf
    refine wm_callVv (As := [.int v2, .ref (A 44)]) (ci := 0) C (c_X0_useUp hPl _ _ _ _ ho7) mi_X0_useUp wt_X4_55 (hPl 36 (by decide) (by decide)) rfl rfl rfl rfl (by decide) (by decide) (Nat.le_of_ble_eq_true rfl) dX4_goOn_g1.2.2.2.2.2.2.2.2.1 ?_
    refine wm_aload_n 0 C dX4_goOn_g1.2.2.2.2.2.2.2.2.2.1 rfl ?_
    refine wm_dup C dX4_goOn_g1.2.2.2.2.2.2.2.2.2.2.1 rfl ?_
    refine wm_get (ci := 3) (k := 3) (v := .int (o6 43 3)) C (hPl 43 (by decide) (by decide)) rfl rfl (by decide) wt_X4_15 iwX4 rfl dX4_goOn_g1.2.2.2.2.2.2.2.2.2.2.2 ?_
    refine wm_aload_n 0 C dX4_goOn_g2.1 rfl ?_
    refine wm_get (ci := 3) (k := 1) (v := .ref (A 36)) C (hPl 43 (by decide) (by decide)) rfl rfl (by decide) wt_X4_32 iwX4 rfl dX4_goOn_g2.2.1 ?_
    refine wm_get (ci := 0) (k := 15) (v := .int (o6 36 15)) C (hPl 36 (by decide) (by decide)) rfl rfl (by decide) wt_X4_59 iwX0 rfl dX4_goOn_g2.2.2.1 ?_
    refine wm_iadd C dX4_goOn_g2.2.2.2.1 ?_
    refine wm_put (ci := 3) (k := 3) (x := ((o6 43 3) + (o6 36 15))) C (hPl 43 (by decide) (by decide)) rfl rfl (by decide) wt_X4_15 iwX4 tyX4_ok nmX4 rfl rfl rfl rfl (fun _ => rfl) (Nat.le_of_ble_eq_true rfl) dX4_goOn_g2.2.2.2.2.1 ?_
    refine wm_aload_n 0 C dX4_goOn_g2.2.2.2.2.2.1 rfl ?_
    refine wm_dup C dX4_goOn_g2.2.2.2.2.2.2.1 rfl ?_
    refine wm_get (ci := 3) (k := 4) (v := .int (o6 43 4)) C (hPl 43 (by decide) (by decide)) rfl rfl (by decide) wt_X4_19 iwX4 (by first | rfl | simp [fld, mu, upd, mcp]) dX4_goOn_g2.2.2.2.2.2.2.2.1 ?_
    refine wm_iload_n 2 C dX4_goOn_g2.2.2.2.2.2.2.2.2.1 rfl ?_
    refine wm_if_ne (tgt := 76) C dX4_goOn_g2.2.2.2.2.2.2.2.2.2.1 (by decide) (fun c8 => ?_) (fun c8 => ?_)
    · have hf := (if_neg c8).symm.trans hf
      refine wm_iconst (v := 0) C dX4_goOn_g3.2.2.1 (by decide) ?_
      refine wm_pick [0] rfl ?_
      exact hb77 _ _ _ hf
    · have hf := (if_pos c8).symm.trans hf
      refine wm_aload_n 0 C dX4_goOn_g2.2.2.2.2.2.2.2.2.2.2.1 rfl ?_
      refine wm_get (ci := 3) (k := 1) (v := .ref (A 36)) C (hPl 43 (by decide) (by decide)) rfl rfl (by decide) wt_X4_32 iwX4 (by first | rfl | simp [fld, mu, upd, mcp]) dX4_goOn_g2.2.2.2.2.2.2.2.2.2.2.2 ?_
      refine wm_get (ci := 0) (k := 15) (v := .int (o6 36 15)) C (hPl 36 (by decide) (by decide)) rfl rfl (by decide) wt_X4_59 iwX0 (by first | rfl | simp [fld, mu, upd, mcp]) dX4_goOn_g3.1 ?_
      refine wm_goto (tgt := 77) C dX4_goOn_g3.2.1 (by decide) ?_
      refine wm_pick [0] rfl ?_
      exact hb77 _ _ _ hf
  · have hf := (if_pos c5).symm.trans hf
    refine wm_iconst (v := 0) C dX4_goOn_g1.2.1 (by decide) ?_
    exact wm_zret C hrt rfl hf dX4_goOn_g1.2.2.1
set_option maxHeartbeats 4000000 in
set_option maxRecDepth 100000 in
theorem c_X4_play {l : Launch} {D : va_G} {cA : Nat → ClassId} {A : Nat → Nat} {Pl : List Nat} (hPl : ∀ q, 0 ≤ q → q < 63 → q ∈ Pl) (v1 : Int32) (M : Mem) (out : Mem) (ho : f_X4_play v1 M = some out) : CtV l D cA A Pl yX4_play cX4_play 4 7 [.ref (A 43), .int v1] M out := by
  refine ct_V (by decide) (Nat.le_of_ble_eq_true rfl) (fun p e s m args below meth c C hrt => ?_)
  have hb54 : ∀ (r : Int32 → Int32 → Mem → Option Mem) (hr : ∀ (v1 : Int32) (v2 : Int32) (M : Mem), r v1 v2 M = some out → WM p l e (RM 7) s m args below meth c 0 0 (MQ below (QV D cA A Pl out) args s 0 0 (FA A Pl)) D cA A Pl (FA A Pl) 4 M 6 [(0, .ref (A 43)), (1, .int v1), (2, .int v2)] []), ∀ (v1 : Int32) (v2 : Int32) (M : Mem), f_X4_play_b54 r v1 v2 M = some out → WM p l e (RM 7) s m args below meth c 0 0 (MQ below (QV D cA A Pl out) args s 0 0 (FA A Pl)) D cA A Pl (FA A Pl) 4 M 54 [(0, .ref (A 43)), (1, .int v1), (2, .int v2)] [] := by
    intro r hr v1 v2 M hf
    unfold f_X4_play_b54 at hf
    refine wm_iinc (lv1 := [(2, .int (v2 + 1)), (0, .ref (A 43)), (1, .int v1)]) (v := (v2 + 1)) 2 C dX4_play_g2.2.2.2.2.2.2.1 rfl (by first | rfl | decide) (by decide) rfl ?_
    refine wm_goto (tgt := 6) C dX4_play_g2.2.2.2.2.2.2.2.1 (by decide) ?_
    refine wm_pick [1, 2, 0] rfl ?_
    exact hr _ _ _ hf
  have hl6 : ∀ (n : Nat), ∀ (v1 : Int32) (v2 : Int32) (M : Mem), f_X4_play_l6 n v1 v2 M = some out → WM p l e (RM 7) s m args below meth c 0 0 (MQ below (QV D cA A Pl out) args s 0 0 (FA A Pl)) D cA A Pl (FA A Pl) 4 M 6 [(0, .ref (A 43)), (1, .int v1), (2, .int v2)] [] := by
    intro n
    induction n with
    | zero => intro v1 v2 M hf; rw [f_X4_play_l6] at hf; cases hf
    | succ n hr =>
      intro v1 v2 M hf
      rw [f_X4_play_l6] at hf
      refine wm_iload_n 2 C dX4_play_g0.2.2.2.2.1 rfl ?_
      refine wm_aload_n 0 C dX4_play_g0.2.2.2.2.2.1 rfl ?_
      refine wm_get (ci := 3) (k := 0) (v := .ref (A 1)) C (hPl 43 (by decide) (by decide)) rfl rfl (by decide) wt_X4_28 iwX4 rfl dX4_play_g0.2.2.2.2.2.2.1 ?_
      refine wm_get (ci := 1) (k := 6) (v := .int (M 1 6)) C (hPl 1 (by decide) (by decide)) rfl rfl (by decide) wt_X4_64 iwX1 rfl dX4_play_g0.2.2.2.2.2.2.2.1 ?_
      refine wm_icmp_ge (tgt := 60) C dX4_play_g0.2.2.2.2.2.2.2.2.1 (by decide) (fun c3 => ?_) (fun c3 => ?_)
      · have hf := (if_pos c3).symm.trans hf
        exact wm_vret C hrt hf dX4_play_g2.2.2.2.2.2.2.2.2
      · have hf := (if_neg c3).symm.trans hf
        refine wm_aload_n 0 C dX4_play_g0.2.2.2.2.2.2.2.2.2.1 rfl ?_
        refine wm_get (ci := 3) (k := 6) (v := .int (M 43 6)) C (hPl 43 (by decide) (by decide)) rfl rfl (by decide) wt_X4_25 iwX4 rfl dX4_play_g0.2.2.2.2.2.2.2.2.2.2.1 ?_
        refine wm_iconst (v := (-1)) C dX4_play_g0.2.2.2.2.2.2.2.2.2.2.2 (by decide) ?_
        refine wm_icmp_ne (tgt := 60) C dX4_play_g1.1 (by decide) (fun c4 => ?_) (fun c4 => ?_)
        · have hf := (if_neg c4).symm.trans hf
          exact wm_vret C hrt hf dX4_play_g2.2.2.2.2.2.2.2.2
        · have hf := (if_pos c4).symm.trans hf
          refine wm_aload_n 0 C dX4_play_g1.2.1 rfl ?_
          refine wm_get (ci := 3) (k := 0) (v := .ref (A 1)) C (hPl 43 (by decide) (by decide)) rfl rfl (by decide) wt_X4_28 iwX4 rfl dX4_play_g1.2.2.1 ?_
          refine wm_iload_n 1 C dX4_play_g1.2.2.2.1 rfl ?_
          refine wm_iload_n 2 C dX4_play_g1.2.2.2.2.1 rfl ?_
          obtain ⟨o5, ho6, hf⟩ := bnd hf
          refine wm_callVi (As := [.int v1, .int v2]) (ci := 1) C (c_X1_kitchenBy hPl _ _ _ _ ho6) mi_X1_kitchenBy wt_X4_67 (hPl 1 (by decide) (by decide)) rfl rfl rfl rfl (by decide) (by decide) (Nat.le_of_ble_eq_true rfl) dX4_play_g1.2.2.2.2.2.1 ?_
          refine wm_istore_n (lv1 := [(3, .int o5.1), (0, .ref (A 43)), (1, .int v1), (2, .int v2)]) C dX4_play_g1.2.2.2.2.2.2.1 (by decide) rfl ?_
          refine wm_iload_n 0 C dX4_play_g1.2.2.2.2.2.2.2.1 rfl ?_
          refine wm_iconst (v := (-1)) C dX4_play_g1.2.2.2.2.2.2.2.2.1 (by decide) ?_
          refine wm_icmp_eq (tgt := 54) C dX4_play_g1.2.2.2.2.2.2.2.2.2.1 (by decide) (fun c7 => ?_) (fun c7 => ?_)
          · have hf := (if_pos c7).symm.trans hf
            refine wm_pick [1, 2, 3] rfl ?_
            exact (hb54 _ hr) _ _ _ hf
          · have hf := (if_neg c7).symm.trans hf
            refine wm_aload_n 1 C dX4_play_g1.2.2.2.2.2.2.2.2.2.2.1 rfl ?_
            refine wm_iload_n 3 C dX4_play_g1.2.2.2.2.2.2.2.2.2.2.2 rfl ?_
            refine wm_iload_n 0 C dX4_play_g2.1 rfl ?_
            obtain ⟨o8, ho9, hf⟩ := bnd hf
            refine wm_callVi (As := [.int v2, .int o5.1]) (ci := 3) C (c_X4_goOn hPl _ _ _ _ ho9) mi_X4_goOn wt_X4_71 (hPl 43 (by decide) (by decide)) rfl rfl rfl rfl (by decide) (by decide) (Nat.le_of_ble_eq_true rfl) dX4_play_g2.2.1 ?_
            refine wm_if_ne (tgt := 54) C dX4_play_g2.2.2.1 (by decide) (fun c10 => ?_) (fun c10 => ?_)
            · have hf := (if_neg c10).symm.trans hf
              refine wm_pick [1, 2, 3] rfl ?_
              exact (hb54 _ hr) _ _ _ hf
            · have hf := (if_pos c10).symm.trans hf
              refine wm_aload_n 1 C dX4_play_g2.2.2.2.1 rfl ?_
              refine wm_iload_n 3 C dX4_play_g2.2.2.2.2.1 rfl ?_
              refine wm_put (ci := 3) (k := 6) (x := v2) C (hPl 43 (by decide) (by decide)) rfl rfl (by decide) wt_X4_25 iwX4 tyX4_ok nmX4 rfl rfl rfl rfl (fun _ => rfl) (Nat.le_of_ble_eq_true rfl) dX4_play_g2.2.2.2.2.2.1 ?_
              refine wm_pick [1, 2, 3] rfl ?_
              exact (hb54 _ hr) _ _ _ hf
  have hf := ho
  unfold f_X4_play at hf
  refine wm_aload_n 0 C dX4_play_g0.1 rfl ?_
  obtain ⟨o1, ho2, hf⟩ := bnd hf
  refine wm_callVv (As := []) (ci := 3) C (c_X4_begin hPl  _ _ ho2) mi_X4_begin wt_X4_61 (hPl 43 (by decide) (by decide)) rfl rfl rfl rfl (by decide) (by decide) (Nat.le_of_ble_eq_true rfl) dX4_play_g0.2.1 ?_
  refine wm_iconst (v := 0) C dX4_play_g0.2.2.1 (by decide) ?_
  refine wm_istore_n (lv1 := [(2, .int 0), (0, .ref (A 43)), (1, .int v1)]) C dX4_play_g0.2.2.2.1 (by decide) rfl ?_
  refine wm_pick [1, 2, 0] rfl ?_
  exact (hl6 FU) _ _ _ hf
set_option maxHeartbeats 4000000 in
set_option maxRecDepth 100000 in
theorem c_X8_menu {l : Launch} {D : va_G} {cA : Nat → ClassId} {A : Nat → Nat} {Pl : List Nat} (hPl : ∀ q, 0 ≤ q → q < 63 → q ∈ Pl) (v1 : Int32) (v2 : Int32) (M : Mem) (out : (Int32 × Mem)) (ho : f_X8_menu v1 v2 M = some out) : CtI l D cA A Pl yX8_menu cX8_menu 4 8 .int [.ref (A 0), .int v1, .int v2] M out := by
  refine ct_I (by decide) (Nat.le_of_ble_eq_true rfl) (fun p e s m args below meth c C hrt => ?_)
  have hb44 : ∀ (v2 : Int32) (s0 : Int32) (M : Mem), f_X8_menu_b44 v2 s0 M = some out → WM p l e (RM 8) s m args below meth c 0 0 (MQ below (QI D cA A Pl out) args s 0 0 (FA A Pl)) D cA A Pl (FA A Pl) 4 M 44 [(0, .ref (A 0)), (2, .int v2)] [.int s0] := by
    intro v2 s0 M hf
    unfold f_X8_menu_b44 at hf
    refine wm_istore_n (lv1 := [(3, .int s0), (0, .ref (A 0)), (2, .int v2)]) C dX8_menu_g1.2.2.2.2.2.2.2.2.2.2.2 (by decide) rfl ?_
    refine wm_iload_n 2 C dX8_menu_g2.1 rfl ?_
    by_cases c9 : v2 = 0
    · have hf := (if_pos c9).symm.trans hf
      refine wm_tswI (tgt := 76) (off := 30) C dX8_menu_g2.2.1 c9 (by decide) (by decide) (by decide) (by decide) ?_
      refine wm_iload_n 0 C dX8_menu_g2.2.2.1 rfl ?_
      refine wm_if_eq (tgt := 84) C dX8_menu_g2.2.2.2.1 (by decide) (fun c10 => ?_) (fun c10 => ?_)
      · have hf := (if_pos c10).symm.trans hf
        refine wm_iconst (v := 0) C dX8_menu_g2.2.2.2.2.2.2.1 (by decide) ?_
        exact wm_iret C hrt hf dX8_menu_g2.2.2.2.2.2.2.2.1
      · have hf := (if_neg c10).symm.trans hf
        refine wm_iconst (v := 1) C dX8_menu_g2.2.2.2.2.1 (by decide) ?_
        refine wm_goto (tgt := 85) C dX8_menu_g2.2.2.2.2.2.1 (by decide) ?_
        exact wm_iret C hrt hf dX8_menu_g2.2.2.2.2.2.2.2.1
    · have hf := (if_neg c9).symm.trans hf
      by_cases c11 : v2 = 1
      · have hf := (if_pos c11).symm.trans hf
        refine wm_tswI (tgt := 86) (off := 40) C dX8_menu_g2.2.1 c11 (by decide) (by decide) (by decide) (by decide) ?_
        refine wm_iload_n 0 C dX8_menu_g2.2.2.2.2.2.2.2.2.1 rfl ?_
        refine wm_if_eq (tgt := 108) C dX8_menu_g2.2.2.2.2.2.2.2.2.2.1 (by decide) (fun c12 => ?_) (fun c12 => ?_)
        · have hf := (if_pos c12).symm.trans hf
          refine wm_ldc (v := (-100000)) C wt_X8_198 dX8_menu_g3.2.2.2.2.2.2.1 ?_
          exact wm_iret C hrt hf dX8_menu_g3.2.2.2.2.2.2.2.1
        · have hf := (if_neg c12).symm.trans hf
          refine wm_aload_n 1 C dX8_menu_g2.2.2.2.2.2.2.2.2.2.2.1 rfl ?_
          refine wm_get (ci := 7) (k := 7) (v := .ref (A 43)) C (hPl 0 (by decide) (by decide)) rfl rfl (by decide) wt_X8_82 iwX8 rfl dX8_menu_g2.2.2.2.2.2.2.2.2.2.2.2 ?_
          refine wm_get (ci := 3) (k := 3) (v := .int (M 43 3)) C (hPl 43 (by decide) (by decide)) rfl rfl (by decide) wt_X8_196 iwX4 rfl dX8_menu_g3.1 ?_
          refine wm_aload_n 1 C dX8_menu_g3.2.1 rfl ?_
          refine wm_get (ci := 7) (k := 7) (v := .ref (A 43)) C (hPl 0 (by decide) (by decide)) rfl rfl (by decide) wt_X8_82 iwX8 rfl dX8_menu_g3.2.2.1 ?_
          refine wm_get (ci := 3) (k := 5) (v := .int (M 43 5)) C (hPl 43 (by decide) (by decide)) rfl rfl (by decide) wt_X8_197 iwX4 rfl dX8_menu_g3.2.2.2.1 ?_
          refine wm_isub C dX8_menu_g3.2.2.2.2.1 ?_
          refine wm_goto (tgt := 110) C dX8_menu_g3.2.2.2.2.2.1 (by decide) ?_
          exact wm_iret C hrt hf dX8_menu_g3.2.2.2.2.2.2.2.1
      · have hf := (if_neg c11).symm.trans hf
        by_cases c13 : v2 = 2
        · have hf := (if_pos c13).symm.trans hf
          refine wm_tswI (tgt := 111) (off := 65) C dX8_menu_g2.2.1 c13 (by decide) (by decide) (by decide) (by decide) ?_
          refine wm_iload_n 0 C dX8_menu_g3.2.2.2.2.2.2.2.2.1 rfl ?_
          refine wm_if_eq (tgt := 125) C dX8_menu_g3.2.2.2.2.2.2.2.2.2.1 (by decide) (fun c14 => ?_) (fun c14 => ?_)
          · have hf := (if_pos c14).symm.trans hf
            refine wm_ldc (v := (-100000)) C wt_X8_198 dX8_menu_g4.2.2.1 ?_
            exact wm_iret C hrt hf dX8_menu_g4.2.2.2.1
          · have hf := (if_neg c14).symm.trans hf
            refine wm_aload_n 1 C dX8_menu_g3.2.2.2.2.2.2.2.2.2.2.1 rfl ?_
            refine wm_get (ci := 7) (k := 7) (v := .ref (A 43)) C (hPl 0 (by decide) (by decide)) rfl rfl (by decide) wt_X8_82 iwX8 rfl dX8_menu_g3.2.2.2.2.2.2.2.2.2.2.2 ?_
            refine wm_get (ci := 3) (k := 3) (v := .int (M 43 3)) C (hPl 43 (by decide) (by decide)) rfl rfl (by decide) wt_X8_196 iwX4 rfl dX8_menu_g4.1 ?_
            refine wm_goto (tgt := 127) C dX8_menu_g4.2.1 (by decide) ?_
            exact wm_iret C hrt hf dX8_menu_g4.2.2.2.1
        · have hf := (if_neg c13).symm.trans hf
          by_cases c15 : v2 = 3
          · have hf := (if_pos c15).symm.trans hf
            refine wm_tswI (tgt := 128) (off := 82) C dX8_menu_g2.2.1 c15 (by decide) (by decide) (by decide) (by decide) ?_
            refine wm_iload_n 0 C dX8_menu_g4.2.2.2.2.1 rfl ?_
            refine wm_if_eq (tgt := 142) C dX8_menu_g4.2.2.2.2.2.1 (by decide) (fun c16 => ?_) (fun c16 => ?_)
            · have hf := (if_pos c16).symm.trans hf
              refine wm_ldc (v := (-100000)) C wt_X8_198 dX8_menu_g4.2.2.2.2.2.2.2.2.2.2.1 ?_
              exact wm_iret C hrt hf dX8_menu_g4.2.2.2.2.2.2.2.2.2.2.2
            · have hf := (if_neg c16).symm.trans hf
              refine wm_aload_n 1 C dX8_menu_g4.2.2.2.2.2.2.1 rfl ?_
              refine wm_get (ci := 7) (k := 7) (v := .ref (A 43)) C (hPl 0 (by decide) (by decide)) rfl rfl (by decide) wt_X8_82 iwX8 rfl dX8_menu_g4.2.2.2.2.2.2.2.1 ?_
              refine wm_get (ci := 3) (k := 5) (v := .int (M 43 5)) C (hPl 43 (by decide) (by decide)) rfl rfl (by decide) wt_X8_197 iwX4 rfl dX8_menu_g4.2.2.2.2.2.2.2.2.1 ?_
              refine wm_goto (tgt := 144) C dX8_menu_g4.2.2.2.2.2.2.2.2.2.1 (by decide) ?_
              exact wm_iret C hrt hf dX8_menu_g4.2.2.2.2.2.2.2.2.2.2.2
          · have hf := (if_neg c15).symm.trans hf
            have nc9 : ¬ (v2).toInt = 0 := lv_neT c9 (by decide)
            have nc11 : ¬ (v2).toInt = 1 := lv_neT c11 (by decide)
            have nc13 : ¬ (v2).toInt = 2 := lv_neT c13 (by decide)
            have nc15 : ¬ (v2).toInt = 3 := lv_neT c15 (by decide)
            refine wm_tswO (tgt := 145) C dX8_menu_g2.2.1 (by omega) (by decide) ?_
            refine wm_aload_n 1 C dX8_menu_g5.1 rfl ?_
            refine wm_get (ci := 7) (k := 7) (v := .ref (A 43)) C (hPl 0 (by decide) (by decide)) rfl rfl (by decide) wt_X8_82 iwX8 rfl dX8_menu_g5.2.1 ?_
            refine wm_get (ci := 3) (k := 6) (v := .int (M 43 6)) C (hPl 43 (by decide) (by decide)) rfl rfl (by decide) wt_X8_193 iwX4 rfl dX8_menu_g5.2.2.1 ?_
            exact wm_iret C hrt hf dX8_menu_g5.2.2.2
  have hf := ho
  unfold f_X8_menu at hf
  refine wm_aload_n 0 C dX8_menu_g0.1 rfl ?_
  refine wm_iload_n 1 C dX8_menu_g0.2.1 rfl ?_
  obtain ⟨o1, ho2, hf⟩ := bnd hf
  refine wm_callVi (As := [.int v1]) (ci := 7) C (c_X8_isMenu hPl _ _ _ ho2) mi_X8_isMenu wt_X8_187 (hPl 0 (by decide) (by decide)) rfl rfl rfl rfl (by decide) (by decide) (Nat.le_of_ble_eq_true rfl) dX8_menu_g0.2.2.1 ?_
  refine wm_if_eq (tgt := 17) C dX8_menu_g0.2.2.2.1 (by decide) (fun c3 => ?_) (fun c3 => ?_)
  · have hf := (if_pos c3).symm.trans hf
    refine wm_bipush (v := (-2)) C dX8_menu_g0.2.2.2.2.2.2.2.2.2.1 (by decide) ?_
    exact wm_iret C hrt hf dX8_menu_g0.2.2.2.2.2.2.2.2.2.2.1
  · have hf := (if_neg c3).symm.trans hf
    refine wm_iload_n 2 C dX8_menu_g0.2.2.2.2.1 rfl ?_
    refine wm_if_lt (tgt := 17) C dX8_menu_g0.2.2.2.2.2.1 (by decide) (fun c4 => ?_) (fun c4 => ?_)
    · have hf := (if_pos c4).symm.trans hf
      refine wm_bipush (v := (-2)) C dX8_menu_g0.2.2.2.2.2.2.2.2.2.1 (by decide) ?_
      exact wm_iret C hrt hf dX8_menu_g0.2.2.2.2.2.2.2.2.2.2.1
    · have hf := (if_neg c4).symm.trans hf
      refine wm_iload_n 2 C dX8_menu_g0.2.2.2.2.2.2.1 rfl ?_
      refine wm_iconst (v := 4) C dX8_menu_g0.2.2.2.2.2.2.2.1 (by decide) ?_
      refine wm_icmp_le (tgt := 20) C dX8_menu_g0.2.2.2.2.2.2.2.2.1 (by decide) (fun c5 => ?_) (fun c5 => ?_)
      · have hf := (if_pos c5).symm.trans hf
        refine wm_aload_n 0 C dX8_menu_g0.2.2.2.2.2.2.2.2.2.2.2 rfl ?_
        refine wm_get (ci := 7) (k := 7) (v := .ref (A 43)) C (hPl 0 (by decide) (by decide)) rfl rfl (by decide) wt_X8_82 iwX8 rfl dX8_menu_g1.1 ?_
        refine wm_iload_n 1 C dX8_menu_g1.2.1 rfl ?_
        obtain ⟨o6, ho7, hf⟩ := bnd hf
        refine wm_callVv (As := [.int v1]) (ci := 3) C (c_X4_play hPl _ _ _ ho7) mi_X4_play wt_X8_190 (hPl 43 (by decide) (by decide)) rfl rfl rfl rfl (by decide) (by decide) (Nat.le_of_ble_eq_true rfl) dX8_menu_g1.2.2.1 ?_
        refine wm_aload_n 0 C dX8_menu_g1.2.2.2.1 rfl ?_
        refine wm_get (ci := 7) (k := 7) (v := .ref (A 43)) C (hPl 0 (by decide) (by decide)) rfl rfl (by decide) wt_X8_82 iwX8 rfl dX8_menu_g1.2.2.2.2.1 ?_
        refine wm_get (ci := 3) (k := 6) (v := .int (o6 43 6)) C (hPl 43 (by decide) (by decide)) rfl rfl (by decide) wt_X8_193 iwX4 rfl dX8_menu_g1.2.2.2.2.2.1 ?_
        refine wm_iconst (v := (-1)) C dX8_menu_g1.2.2.2.2.2.2.1 (by decide) ?_
        refine wm_icmp_ne (tgt := 43) C dX8_menu_g1.2.2.2.2.2.2.2.1 (by decide) (fun c8 => ?_) (fun c8 => ?_)
        · have hf := (if_neg c8).symm.trans hf
          refine wm_iconst (v := 0) C dX8_menu_g1.2.2.2.2.2.2.2.2.2.2.1 (by decide) ?_
          refine wm_pick [0, 2] rfl ?_
          exact hb44 _ _ _ hf
        · have hf := (if_pos c8).symm.trans hf
          refine wm_iconst (v := 1) C dX8_menu_g1.2.2.2.2.2.2.2.2.1 (by decide) ?_
          refine wm_goto (tgt := 44) C dX8_menu_g1.2.2.2.2.2.2.2.2.2.1 (by decide) ?_
          refine wm_pick [0, 2] rfl ?_
          exact hb44 _ _ _ hf
      · have hf := (if_neg c5).symm.trans hf
        refine wm_bipush (v := (-2)) C dX8_menu_g0.2.2.2.2.2.2.2.2.2.1 (by decide) ?_
        exact wm_iret C hrt hf dX8_menu_g0.2.2.2.2.2.2.2.2.2.2.1
set_option maxHeartbeats 4000000 in
set_option maxRecDepth 100000 in
theorem c_X8_serve {l : Launch} {D : va_G} {cA : Nat → ClassId} {A : Nat → Nat} {Pl : List Nat} (hPl : ∀ q, 0 ≤ q → q < 63 → q ∈ Pl) (v1 : Int32) (M : Mem) (out : (Int32 × Mem)) (ho : f_X8_serve v1 M = some out) : CtI l D cA A Pl yX8_serve cX8_serve 3 8 .int [.ref (A 0), .int v1] M out := by
  refine ct_I (by decide) (Nat.le_of_ble_eq_true rfl) (fun p e s m args below meth c C hrt => ?_)
  have hb104 : ∀ (r : Int32 → Int32 → Mem → Option (Int32 × Mem)) (hr : ∀ (v1 : Int32) (v2 : Int32) (M : Mem), r v1 v2 M = some out → WM p l e (RM 8) s m args below meth c 0 0 (MQ below (QI D cA A Pl out) args s 0 0 (FA A Pl)) D cA A Pl (FA A Pl) 3 M 72 [(0, .ref (A 0)), (1, .int v1), (2, .int v2)] []) (k110 : Mem → Option (Int32 × Mem)) (hk110 : ∀  (M : Mem), k110  M = some out → WM p l e (RM 8) s m args below meth c 0 0 (MQ below (QI D cA A Pl out) args s 0 0 (FA A Pl)) D cA A Pl (FA A Pl) 3 M 110 [(0, .ref (A 0))] []), ∀ (v1 : Int32) (v2 : Int32) (M : Mem), f_X8_serve_b104 r k110 v1 v2 M = some out → WM p l e (RM 8) s m args below meth c 0 0 (MQ below (QI D cA A Pl out) args s 0 0 (FA A Pl)) D cA A Pl (FA A Pl) 3 M 104 [(0, .ref (A 0)), (1, .int v1), (2, .int v2)] [] := by
    intro r hr k110 hk110 v1 v2 M hf
    unfold f_X8_serve_b104 at hf
    refine wm_iinc (lv1 := [(2, .int (v2 + 1)), (0, .ref (A 0)), (1, .int v1)]) (v := (v2 + 1)) 2 C dX8_serve_g4.2.2.2.2.1 rfl (by first | rfl | decide) (by decide) rfl ?_
    refine wm_goto (tgt := 72) C dX8_serve_g4.2.2.2.2.2.1 (by decide) ?_
    refine wm_pick [1, 2, 0] rfl ?_
    exact hr _ _ _ hf
  have hl72 : ∀ (k110 : Mem → Option (Int32 × Mem)) (hk110 : ∀  (M : Mem), k110  M = some out → WM p l e (RM 8) s m args below meth c 0 0 (MQ below (QI D cA A Pl out) args s 0 0 (FA A Pl)) D cA A Pl (FA A Pl) 3 M 110 [(0, .ref (A 0))] []) (n : Nat), ∀ (v1 : Int32) (v2 : Int32) (M : Mem), f_X8_serve_l72 k110 n v1 v2 M = some out → WM p l e (RM 8) s m args below meth c 0 0 (MQ below (QI D cA A Pl out) args s 0 0 (FA A Pl)) D cA A Pl (FA A Pl) 3 M 72 [(0, .ref (A 0)), (1, .int v1), (2, .int v2)] [] := by
    intro k110 hk110 n
    induction n with
    | zero => intro v1 v2 M hf; rw [f_X8_serve_l72] at hf; cases hf
    | succ n hr =>
      intro v1 v2 M hf
      rw [f_X8_serve_l72] at hf
      refine wm_iload_n 2 C dX8_serve_g3.1 rfl ?_
      refine wm_aload_n 0 C dX8_serve_g3.2.1 rfl ?_
      refine wm_get (ci := 7) (k := 0) (v := .ref (A 1)) C (hPl 0 (by decide) (by decide)) rfl rfl (by decide) wt_X8_10 iwX8 rfl dX8_serve_g3.2.2.1 ?_
      refine wm_get (ci := 1) (k := 6) (v := .int (M 1 6)) C (hPl 1 (by decide) (by decide)) rfl rfl (by decide) wt_X8_209 iwX1 rfl dX8_serve_g3.2.2.2.1 ?_
      refine wm_icmp_ge (tgt := 110) C dX8_serve_g3.2.2.2.2.1 (by decide) (fun c8 => ?_) (fun c8 => ?_)
      · have hf := (if_pos c8).symm.trans hf
        refine wm_pick [0] rfl ?_
        exact hk110 _ hf
      · have hf := (if_neg c8).symm.trans hf
        refine wm_aload_n 0 C dX8_serve_g3.2.2.2.2.2.1 rfl ?_
        refine wm_get (ci := 7) (k := 0) (v := .ref (A 1)) C (hPl 0 (by decide) (by decide)) rfl rfl (by decide) wt_X8_10 iwX8 rfl dX8_serve_g3.2.2.2.2.2.2.1 ?_
        refine wm_iload_n 1 C dX8_serve_g3.2.2.2.2.2.2.2.1 rfl ?_
        refine wm_iload_n 2 C dX8_serve_g3.2.2.2.2.2.2.2.2.1 rfl ?_
        obtain ⟨o9, ho10, hf⟩ := bnd hf
        refine wm_callVi (As := [.int v1, .int v2]) (ci := 1) C (c_X1_kitchenBy hPl _ _ _ _ ho10) mi_X1_kitchenBy wt_X8_212 (hPl 1 (by decide) (by decide)) rfl rfl rfl rfl (by decide) (by decide) (Nat.le_of_ble_eq_true rfl) dX8_serve_g3.2.2.2.2.2.2.2.2.2.1 ?_
        refine wm_iconst (v := (-1)) C dX8_serve_g3.2.2.2.2.2.2.2.2.2.2.1 (by decide) ?_
        refine wm_icmp_eq (tgt := 104) C dX8_serve_g3.2.2.2.2.2.2.2.2.2.2.2 (by decide) (fun c11 => ?_) (fun c11 => ?_)
        · have hf := (if_pos c11).symm.trans hf
          exact (hb104 _ hr _ hk110) _ _ _ hf
        · have hf := (if_neg c11).symm.trans hf
          refine wm_aload_n 0 C dX8_serve_g4.1 rfl ?_
          refine wm_get (ci := 7) (k := 0) (v := .ref (A 1)) C (hPl 0 (by decide) (by decide)) rfl rfl (by decide) wt_X8_10 iwX8 rfl dX8_serve_g4.2.1 ?_
          refine wm_iload_n 2 C dX8_serve_g4.2.2.1 rfl ?_
          obtain ⟨o12, ho13, hf⟩ := bnd hf
          refine wm_callVv (As := [.int v2]) (ci := 1) C (c_X1_countCooked hPl _ _ _ ho13) mi_X1_countCooked wt_X8_184 (hPl 1 (by decide) (by decide)) rfl rfl rfl rfl (by decide) (by decide) (Nat.le_of_ble_eq_true rfl) dX8_serve_g4.2.2.2.1 ?_
          exact (hb104 _ hr _ hk110) _ _ _ hf
  have hb110 : ∀  (M : Mem), f_X8_serve_b110  M = some out → WM p l e (RM 8) s m args below meth c 0 0 (MQ below (QI D cA A Pl out) args s 0 0 (FA A Pl)) D cA A Pl (FA A Pl) 3 M 110 [(0, .ref (A 0))] [] := by
    intro  M hf
    unfold f_X8_serve_b110 at hf
    refine wm_aload_n 0 C dX8_serve_g4.2.2.2.2.2.2.1 rfl ?_
    refine wm_get (ci := 7) (k := 0) (v := .ref (A 1)) C (hPl 0 (by decide) (by decide)) rfl rfl (by decide) wt_X8_10 iwX8 rfl dX8_serve_g4.2.2.2.2.2.2.2.1 ?_
    refine wm_dup C dX8_serve_g4.2.2.2.2.2.2.2.2.1 rfl ?_
    refine wm_get (ci := 1) (k := 7) (v := .int (M 1 7)) C (hPl 1 (by decide) (by decide)) rfl rfl (by decide) wt_X8_101 iwX1 rfl dX8_serve_g4.2.2.2.2.2.2.2.2.2.1 ?_
    refine wm_iconst (v := 1) C dX8_serve_g4.2.2.2.2.2.2.2.2.2.2.1 (by decide) ?_
    refine wm_iadd C dX8_serve_g4.2.2.2.2.2.2.2.2.2.2.2 ?_
    refine wm_put (ci := 1) (k := 7) (x := ((M 1 7) + 1)) C (hPl 1 (by decide) (by decide)) rfl rfl (by decide) wt_X8_101 iwX1 tyX1_ok nmX1 rfl rfl rfl rfl (fun _ => rfl) (Nat.le_of_ble_eq_true rfl) dX8_serve_g5.1 ?_
    refine wm_aload_n 0 C dX8_serve_g5.2.1 rfl ?_
    refine wm_get (ci := 7) (k := 7) (v := .ref (A 43)) C (hPl 0 (by decide) (by decide)) rfl rfl (by decide) wt_X8_82 iwX8 (by first | rfl | simp [fld, mu, upd, mcp]) dX8_serve_g5.2.2.1 ?_
    refine wm_get (ci := 3) (k := 3) (v := .int (M 43 3)) C (hPl 43 (by decide) (by decide)) rfl rfl (by decide) wt_X8_196 iwX4 (by first | rfl | simp [fld, mu, upd, mcp]) dX8_serve_g5.2.2.2.1 ?_
    refine wm_aload_n 0 C dX8_serve_g5.2.2.2.2.1 rfl ?_
    refine wm_get (ci := 7) (k := 7) (v := .ref (A 43)) C (hPl 0 (by decide) (by decide)) rfl rfl (by decide) wt_X8_82 iwX8 (by first | rfl | simp [fld, mu, upd, mcp]) dX8_serve_g5.2.2.2.2.2.1 ?_
    refine wm_get (ci := 3) (k := 5) (v := .int (M 43 5)) C (hPl 43 (by decide) (by decide)) rfl rfl (by decide) wt_X8_197 iwX4 (by first | rfl | simp [fld, mu, upd, mcp]) dX8_serve_g5.2.2.2.2.2.2.1 ?_
    refine wm_isub C dX8_serve_g5.2.2.2.2.2.2.2.1 ?_
    exact wm_iret C hrt hf dX8_serve_g5.2.2.2.2.2.2.2.2
  have hf := ho
  unfold f_X8_serve at hf
  refine wm_aload_n 0 C dX8_serve_g0.1 rfl ?_
  refine wm_iload_n 1 C dX8_serve_g0.2.1 rfl ?_
  obtain ⟨o1, ho2, hf⟩ := bnd hf
  refine wm_callVi (As := [.int v1]) (ci := 7) C (c_X8_isMenu hPl _ _ _ ho2) mi_X8_isMenu wt_X8_187 (hPl 0 (by decide) (by decide)) rfl rfl rfl rfl (by decide) (by decide) (Nat.le_of_ble_eq_true rfl) dX8_serve_g0.2.2.1 ?_
  refine wm_if_ne (tgt := 11) C dX8_serve_g0.2.2.2.1 (by decide) (fun c3 => ?_) (fun c3 => ?_)
  · have hf := (if_neg c3).symm.trans hf
    refine wm_aload_n 0 C dX8_serve_g0.2.2.2.2.2.2.1 rfl ?_
    refine wm_get (ci := 7) (k := 7) (v := .ref (A 43)) C (hPl 0 (by decide) (by decide)) rfl rfl (by decide) wt_X8_82 iwX8 rfl dX8_serve_g0.2.2.2.2.2.2.2.1 ?_
    refine wm_iload_n 1 C dX8_serve_g0.2.2.2.2.2.2.2.2.1 rfl ?_
    obtain ⟨o4, ho5, hf⟩ := bnd hf
    refine wm_callVv (As := [.int v1]) (ci := 3) C (c_X4_play hPl _ _ _ ho5) mi_X4_play wt_X8_190 (hPl 43 (by decide) (by decide)) rfl rfl rfl rfl (by decide) (by decide) (Nat.le_of_ble_eq_true rfl) dX8_serve_g0.2.2.2.2.2.2.2.2.2.1 ?_
    refine wm_aload_n 0 C dX8_serve_g0.2.2.2.2.2.2.2.2.2.2.1 rfl ?_
    refine wm_get (ci := 7) (k := 7) (v := .ref (A 43)) C (hPl 0 (by decide) (by decide)) rfl rfl (by decide) wt_X8_82 iwX8 rfl dX8_serve_g0.2.2.2.2.2.2.2.2.2.2.2 ?_
    refine wm_get (ci := 3) (k := 6) (v := .int (o4 43 6)) C (hPl 43 (by decide) (by decide)) rfl rfl (by decide) wt_X8_193 iwX4 rfl dX8_serve_g1.1 ?_
    refine wm_iconst (v := (-1)) C dX8_serve_g1.2.1 (by decide) ?_
    refine wm_icmp_eq (tgt := 33) C dX8_serve_g1.2.2.1 (by decide) (fun c6 => ?_) (fun c6 => ?_)
    · have hf := (if_pos c6).symm.trans hf
      refine wm_aload_n 0 C dX8_serve_g1.2.2.2.2.2.1 rfl ?_
      refine wm_get (ci := 7) (k := 0) (v := .ref (A 1)) C (hPl 0 (by decide) (by decide)) rfl rfl (by decide) wt_X8_10 iwX8 rfl dX8_serve_g1.2.2.2.2.2.2.1 ?_
      refine wm_get (ci := 1) (k := 7) (v := .int (o4 1 7)) C (hPl 1 (by decide) (by decide)) rfl rfl (by decide) wt_X8_101 iwX1 rfl dX8_serve_g1.2.2.2.2.2.2.2.1 ?_
      refine wm_sipush (v := 999) C dX8_serve_g1.2.2.2.2.2.2.2.2.1 (by decide) ?_
      refine wm_icmp_lt (tgt := 49) C dX8_serve_g1.2.2.2.2.2.2.2.2.2.1 (by decide) (fun c7 => ?_) (fun c7 => ?_)
      · have hf := (if_pos c7).symm.trans hf
        refine wm_aload_n 0 C dX8_serve_g2.1 rfl ?_
        refine wm_get (ci := 7) (k := 7) (v := .ref (A 43)) C (hPl 0 (by decide) (by decide)) rfl rfl (by decide) wt_X8_82 iwX8 rfl dX8_serve_g2.2.1 ?_
        refine wm_get (ci := 3) (k := 2) (v := .ref (A 44)) C (hPl 43 (by decide) (by decide)) rfl rfl (by decide) wt_X8_202 iwX4 rfl dX8_serve_g2.2.2.1 ?_
        refine wm_iconst (v := 0) C dX8_serve_g2.2.2.2.1 (by decide) ?_
        refine wm_aload_n 0 C dX8_serve_g2.2.2.2.2.1 rfl ?_
        refine wm_get (ci := 7) (k := 0) (v := .ref (A 1)) C (hPl 0 (by decide) (by decide)) rfl rfl (by decide) wt_X8_10 iwX8 rfl dX8_serve_g2.2.2.2.2.2.1 ?_
        refine wm_get (ci := 1) (k := 0) (v := .ref (A 2)) C (hPl 1 (by decide) (by decide)) rfl rfl (by decide) wt_X8_104 iwX1 rfl dX8_serve_g2.2.2.2.2.2.2.1 ?_
        refine wm_iconst (v := 0) C dX8_serve_g2.2.2.2.2.2.2.2.1 (by decide) ?_
        refine wm_bipush (v := 12) C dX8_serve_g2.2.2.2.2.2.2.2.2.1 (by decide) ?_
        refine wm_copy (ja := 0) (jb := 0) (jn := 12) (na := 12) (nb := 12) C wt_X8_203 (hPl 44 (by decide) (by decide)) rfl rfl rfl (hPl 2 (by decide) (by decide)) rfl rfl rfl rfl (by decide) (by decide) (by decide) (Nat.le_of_ble_eq_true rfl) (by decide) dX8_serve_g2.2.2.2.2.2.2.2.2.2.1 ?_
        refine wm_iconst (v := 0) C dX8_serve_g2.2.2.2.2.2.2.2.2.2.2.1 (by decide) ?_
        refine wm_istore_n (lv1 := [(2, .int 0), (0, .ref (A 0)), (1, .int v1)]) C dX8_serve_g2.2.2.2.2.2.2.2.2.2.2.2 (by decide) rfl ?_
        refine wm_pick [1, 2, 0] rfl ?_
        exact (hl72 _ hb110 FU) _ _ _ hf
      · have hf := (if_neg c7).symm.trans hf
        refine wm_ldc (v := (-100003)) C wt_X8_201 dX8_serve_g1.2.2.2.2.2.2.2.2.2.2.1 ?_
        exact wm_iret C hrt hf dX8_serve_g1.2.2.2.2.2.2.2.2.2.2.2
    · have hf := (if_neg c6).symm.trans hf
      refine wm_ldc (v := (-100002)) C wt_X8_200 dX8_serve_g1.2.2.2.1 ?_
      exact wm_iret C hrt hf dX8_serve_g1.2.2.2.2.1
  · have hf := (if_pos c3).symm.trans hf
    refine wm_ldc (v := (-100001)) C wt_X8_199 dX8_serve_g0.2.2.2.2.1 ?_
    exact wm_iret C hrt hf dX8_serve_g0.2.2.2.2.2.1
set_option maxHeartbeats 4000000 in
set_option maxRecDepth 100000 in
theorem c_X3_weigh {l : Launch} {D : va_G} {cA : Nat → ClassId} {A : Nat → Nat} {Pl : List Nat} (hPl : ∀ q, 0 ≤ q → q < 63 → q ∈ Pl) (v1 : Int32) (v2 : Int32) (v3 : Int32) (v4 : Int32) (M : Mem) (out : Mem) (ho : f_X3_weigh v1 v2 v3 v4 M = some out) : CtV l D cA A Pl yX3_weigh cX3_weigh 5 1 [.ref (A 45), .int v1, .int v2, .int v3, .int v4] M out := by
  refine ct_V (by decide) (Nat.le_of_ble_eq_true rfl) (fun p e s m args below meth c C hrt => ?_)
  have hb66 : ∀ (v1 : Int32) (v3 : Int32) (v4 : Int32) (M : Mem), f_X3_weigh_b66 v1 v3 v4 M = some out → WM p l e (RM 1) s m args below meth c 0 0 (MQ below (QV D cA A Pl out) args s 0 0 (FA A Pl)) D cA A Pl (FA A Pl) 5 M 66 [(0, .ref (A 45)), (1, .int v1), (3, .int v3), (4, .int v4)] [] := by
    intro v1 v3 v4 M hf
    unfold f_X3_weigh_b66 at hf
    refine wm_aload_n 0 C dX3_weigh_g3.1 rfl ?_
    refine wm_iload_n 1 C dX3_weigh_g3.2.1 rfl ?_
    refine wm_put (ci := 2) (k := 8) (x := v1) C (hPl 45 (by decide) (by decide)) rfl rfl (by decide) wt_X3_32 iwX3 tyX3_ok nmX3 rfl rfl rfl rfl (fun _ => rfl) (Nat.le_of_ble_eq_true rfl) dX3_weigh_g3.2.2.1 ?_
    refine wm_aload_n 0 C dX3_weigh_g3.2.2.2.1 rfl ?_
    refine wm_iload_n 2 C dX3_weigh_g3.2.2.2.2.1 rfl ?_
    refine wm_put (ci := 2) (k := 9) (x := v3) C (hPl 45 (by decide) (by decide)) rfl rfl (by decide) wt_X3_35 iwX3 tyX3_ok nmX3 rfl rfl rfl rfl (fun _ => rfl) (Nat.le_of_ble_eq_true rfl) dX3_weigh_g3.2.2.2.2.2.1 ?_
    refine wm_aload_n 0 C dX3_weigh_g3.2.2.2.2.2.2.1 rfl ?_
    refine wm_iload 3 C dX3_weigh_g3.2.2.2.2.2.2.2.1 rfl ?_
    refine wm_put (ci := 2) (k := 10) (x := v4) C (hPl 45 (by decide) (by decide)) rfl rfl (by decide) wt_X3_38 iwX3 tyX3_ok nmX3 rfl rfl rfl rfl (fun _ => rfl) (Nat.le_of_ble_eq_true rfl) dX3_weigh_g3.2.2.2.2.2.2.2.2.1 ?_
    exact wm_vret C hrt hf dX3_weigh_g3.2.2.2.2.2.2.2.2.2
  have hb40 : ∀ (v1 : Int32) (v3 : Int32) (v4 : Int32) (M : Mem), f_X3_weigh_b40 v1 v3 v4 M = some out → WM p l e (RM 1) s m args below meth c 0 0 (MQ below (QV D cA A Pl out) args s 0 0 (FA A Pl)) D cA A Pl (FA A Pl) 5 M 40 [(0, .ref (A 45)), (1, .int v1), (3, .int v3), (4, .int v4)] [] := by
    intro v1 v3 v4 M hf
    unfold f_X3_weigh_b40 at hf
    refine wm_iload 3 C dX3_weigh_g2.1 rfl ?_
    refine wm_aload_n 0 C dX3_weigh_g2.2.1 rfl ?_
    refine wm_get (ci := 2) (k := 10) (v := .int (M 45 10)) C (hPl 45 (by decide) (by decide)) rfl rfl (by decide) wt_X3_38 iwX3 rfl dX3_weigh_g2.2.2.1 ?_
    refine wm_icmp_gt (tgt := 66) C dX3_weigh_g2.2.2.2.1 (by decide) (fun c2 => ?_) (fun c2 => ?_)
    · have hf := (if_pos c2).symm.trans hf
      exact hb66 _ _ _ _ hf
    · have hf := (if_neg c2).symm.trans hf
      refine wm_iload 3 C dX3_weigh_g2.2.2.2.2.1 rfl ?_
      refine wm_aload_n 0 C dX3_weigh_g2.2.2.2.2.2.1 rfl ?_
      refine wm_get (ci := 2) (k := 10) (v := .int (M 45 10)) C (hPl 45 (by decide) (by decide)) rfl rfl (by decide) wt_X3_38 iwX3 rfl dX3_weigh_g2.2.2.2.2.2.2.1 ?_
      refine wm_icmp_ne (tgt := 82) C dX3_weigh_g2.2.2.2.2.2.2.2.1 (by decide) (fun c3 => ?_) (fun c3 => ?_)
      · have hf := (if_neg c3).symm.trans hf
        exact wm_vret C hrt hf dX3_weigh_g3.2.2.2.2.2.2.2.2.2
      · have hf := (if_pos c3).symm.trans hf
        refine wm_iload_n 2 C dX3_weigh_g2.2.2.2.2.2.2.2.2.1 rfl ?_
        refine wm_aload_n 0 C dX3_weigh_g2.2.2.2.2.2.2.2.2.2.1 rfl ?_
        refine wm_get (ci := 2) (k := 9) (v := .int (M 45 9)) C (hPl 45 (by decide) (by decide)) rfl rfl (by decide) wt_X3_35 iwX3 rfl dX3_weigh_g2.2.2.2.2.2.2.2.2.2.2.1 ?_
        refine wm_icmp_ge (tgt := 82) C dX3_weigh_g2.2.2.2.2.2.2.2.2.2.2.2 (by decide) (fun c4 => ?_) (fun c4 => ?_)
        · have hf := (if_pos c4).symm.trans hf
          exact wm_vret C hrt hf dX3_weigh_g3.2.2.2.2.2.2.2.2.2
        · have hf := (if_neg c4).symm.trans hf
          exact hb66 _ _ _ _ hf
  have hb22 : ∀ (v1 : Int32) (v2 : Int32) (v3 : Int32) (v4 : Int32) (M : Mem), f_X3_weigh_b22 v1 v2 v3 v4 M = some out → WM p l e (RM 1) s m args below meth c 0 0 (MQ below (QV D cA A Pl out) args s 0 0 (FA A Pl)) D cA A Pl (FA A Pl) 5 M 22 [(0, .ref (A 45)), (1, .int v1), (2, .int v2), (3, .int v3), (4, .int v4)] [] := by
    intro v1 v2 v3 v4 M hf
    unfold f_X3_weigh_b22 at hf
    refine wm_iload_n 2 C dX3_weigh_g1.2.2.1 rfl ?_
    refine wm_aload_n 0 C dX3_weigh_g1.2.2.2.1 rfl ?_
    refine wm_get (ci := 2) (k := 7) (v := .int (M 45 7)) C (hPl 45 (by decide) (by decide)) rfl rfl (by decide) wt_X3_29 iwX3 rfl dX3_weigh_g1.2.2.2.2.1 ?_
    refine wm_icmp_le (tgt := 40) C dX3_weigh_g1.2.2.2.2.2.1 (by decide) (fun c5 => ?_) (fun c5 => ?_)
    · have hf := (if_pos c5).symm.trans hf
      refine wm_pick [0, 1, 3, 4] rfl ?_
      exact hb40 _ _ _ _ hf
    · have hf := (if_neg c5).symm.trans hf
      refine wm_aload_n 0 C dX3_weigh_g1.2.2.2.2.2.2.1 rfl ?_
      refine wm_iload_n 1 C dX3_weigh_g1.2.2.2.2.2.2.2.1 rfl ?_
      refine wm_put (ci := 2) (k := 6) (x := v1) C (hPl 45 (by decide) (by decide)) rfl rfl (by decide) wt_X3_26 iwX3 tyX3_ok nmX3 rfl rfl rfl rfl (fun _ => rfl) (Nat.le_of_ble_eq_true rfl) dX3_weigh_g1.2.2.2.2.2.2.2.2.1 ?_
      refine wm_aload_n 0 C dX3_weigh_g1.2.2.2.2.2.2.2.2.2.1 rfl ?_
      refine wm_iload_n 2 C dX3_weigh_g1.2.2.2.2.2.2.2.2.2.2.1 rfl ?_
      refine wm_put (ci := 2) (k := 7) (x := v2) C (hPl 45 (by decide) (by decide)) rfl rfl (by decide) wt_X3_29 iwX3 tyX3_ok nmX3 rfl rfl rfl rfl (fun _ => rfl) (Nat.le_of_ble_eq_true rfl) dX3_weigh_g1.2.2.2.2.2.2.2.2.2.2.2 ?_
      refine wm_pick [0, 1, 3, 4] rfl ?_
      exact hb40 _ _ _ _ hf
  have hf := ho
  unfold f_X3_weigh at hf
  refine wm_iload_n 2 C dX3_weigh_g0.1 rfl ?_
  refine wm_iload_n 3 C dX3_weigh_g0.2.1 rfl ?_
  refine wm_isub C dX3_weigh_g0.2.2.1 ?_
  refine wm_aload_n 0 C dX3_weigh_g0.2.2.2.1 rfl ?_
  refine wm_get (ci := 2) (k := 5) (v := .int (M 45 5)) C (hPl 45 (by decide) (by decide)) rfl rfl (by decide) wt_X3_23 iwX3 rfl dX3_weigh_g0.2.2.2.2.1 ?_
  refine wm_icmp_le (tgt := 22) C dX3_weigh_g0.2.2.2.2.2.1 (by decide) (fun c1 => ?_) (fun c1 => ?_)
  · have hf := (if_pos c1).symm.trans hf
    exact hb22 _ _ _ _ _ hf
  · have hf := (if_neg c1).symm.trans hf
    refine wm_aload_n 0 C dX3_weigh_g0.2.2.2.2.2.2.1 rfl ?_
    refine wm_iload_n 1 C dX3_weigh_g0.2.2.2.2.2.2.2.1 rfl ?_
    refine wm_put (ci := 2) (k := 4) (x := v1) C (hPl 45 (by decide) (by decide)) rfl rfl (by decide) wt_X3_20 iwX3 tyX3_ok nmX3 rfl rfl rfl rfl (fun _ => rfl) (Nat.le_of_ble_eq_true rfl) dX3_weigh_g0.2.2.2.2.2.2.2.2.1 ?_
    refine wm_aload_n 0 C dX3_weigh_g0.2.2.2.2.2.2.2.2.2.1 rfl ?_
    refine wm_iload_n 2 C dX3_weigh_g0.2.2.2.2.2.2.2.2.2.2.1 rfl ?_
    refine wm_iload_n 3 C dX3_weigh_g0.2.2.2.2.2.2.2.2.2.2.2 rfl ?_
    refine wm_isub C dX3_weigh_g1.1 ?_
    refine wm_put (ci := 2) (k := 5) (x := (v2 - v3)) C (hPl 45 (by decide) (by decide)) rfl rfl (by decide) wt_X3_23 iwX3 tyX3_ok nmX3 rfl rfl rfl rfl (fun _ => rfl) (Nat.le_of_ble_eq_true rfl) dX3_weigh_g1.2.1 ?_
    exact hb22 _ _ _ _ _ hf
set_option maxHeartbeats 4000000 in
set_option maxRecDepth 100000 in
theorem cb_X3_goThrough {l : Launch} {D : va_G} {cA : Nat → ClassId} {A : Nat → Nat} {Pl : List Nat} (hPl : ∀ q, 0 ≤ q → q < 63 → q ∈ Pl) (hd : Nat) (hHB : 6 ≤ hd) (rc_X3_goThrough : Int32 → Int32 → Int32 → Int32 → Int32 → Mem → Option Mem) (hrc_X3_goThrough : ∀ (v1 : Int32) (v2 : Int32) (v3 : Int32) (v4 : Int32) (v5 : Int32) (M : Mem) (out : Mem), rc_X3_goThrough v1 v2 v3 v4 v5 M = some out → CtV l D cA A Pl yX3_goThrough cX3_goThrough 7 hd [.ref (A 45), .int v1, .int v2, .int v3, .int v4, .int v5] M out) (v1 : Int32) (v2 : Int32) (v3 : Int32) (v4 : Int32) (v5 : Int32) (M : Mem) (out : Mem) (ho : f_X3_goThrough_b rc_X3_goThrough v1 v2 v3 v4 v5 M = some out) : CtV l D cA A Pl yX3_goThrough cX3_goThrough 7 (hd + 1) [.ref (A 45), .int v1, .int v2, .int v3, .int v4, .int v5] M out := by
  refine ct_V (by decide) (Nat.le_of_ble_eq_true rfl) (fun p e s m args below meth c C hrt => ?_)
  have hb17 : ∀ (v2 : Int32) (v3 : Int32) (v4 : Int32) (v5 : Int32) (M : Mem), f_X3_goThrough_b17 rc_X3_goThrough v2 v3 v4 v5 M = some out → WM p l e (RM (hd + 1)) s m args below meth c 0 0 (MQ below (QV D cA A Pl out) args s 0 0 (FA A Pl)) D cA A Pl (FA A Pl) 7 M 17 [(0, .ref (A 45)), (2, .int v2), (3, .int v3), (4, .int v4), (5, .int v5)] [] := by
    intro v2 v3 v4 v5 M hf
    unfold f_X3_goThrough_b17 at hf
    refine wm_aload_n 0 C dX3_goThrough_g0.2.2.2.2.2.2.2.2.1 rfl ?_
    refine wm_iload_n 1 C dX3_goThrough_g0.2.2.2.2.2.2.2.2.2.1 rfl ?_
    refine wm_iload_n 2 C dX3_goThrough_g0.2.2.2.2.2.2.2.2.2.2.1 rfl ?_
    refine wm_iload 3 C dX3_goThrough_g0.2.2.2.2.2.2.2.2.2.2.2 rfl ?_
    refine wm_iload 4 C dX3_goThrough_g1.1 rfl ?_
    obtain ⟨o11, ho12, hf⟩ := bnd hf
    refine wm_callVv (As := [.int v2, .int v3, .int v4, .int v5]) (ci := 2) C (c_X3_weigh hPl _ _ _ _ _ _ ho12) mi_X3_weigh wt_X3_73 (hPl 45 (by decide) (by decide)) rfl rfl rfl rfl (by omega) (by decide) (Nat.le_of_ble_eq_true rfl) dX3_goThrough_g1.2.1 ?_
    exact wm_vret C hrt hf dX3_goThrough_g1.2.2.1
  have hb190 : ∀ (r : Int32 → Int32 → Int32 → Int32 → Int32 → Int32 → Mem → Option Mem) (hr : ∀ (v1 : Int32) (v2 : Int32) (v3 : Int32) (v4 : Int32) (v5 : Int32) (v6 : Int32) (M : Mem), r v1 v2 v3 v4 v5 v6 M = some out → WM p l e (RM (hd + 1)) s m args below meth c 0 0 (MQ below (QV D cA A Pl out) args s 0 0 (FA A Pl)) D cA A Pl (FA A Pl) 7 M 77 [(0, .ref (A 45)), (1, .int v1), (2, .int v2), (3, .int v3), (4, .int v4), (5, .int v5), (6, .int v6)] []), ∀ (v1 : Int32) (v2 : Int32) (v3 : Int32) (v4 : Int32) (v5 : Int32) (v6 : Int32) (M : Mem), f_X3_goThrough_b190 rc_X3_goThrough r v1 v2 v3 v4 v5 v6 M = some out → WM p l e (RM (hd + 1)) s m args below meth c 0 0 (MQ below (QV D cA A Pl out) args s 0 0 (FA A Pl)) D cA A Pl (FA A Pl) 7 M 190 [(0, .ref (A 45)), (1, .int v1), (2, .int v2), (3, .int v3), (4, .int v4), (5, .int v5), (6, .int v6)] [] := by
    intro r hr v1 v2 v3 v4 v5 v6 M hf
    unfold f_X3_goThrough_b190 at hf
    refine wm_iinc (lv1 := [(6, .int (v6 + 1)), (0, .ref (A 45)), (1, .int v1), (2, .int v2), (3, .int v3), (4, .int v4), (5, .int v5)]) (v := (v6 + 1)) 6 C dX3_goThrough_g9.2.2.2.2.2.2.1 rfl (by first | rfl | decide) (by decide) rfl ?_
    refine wm_goto (tgt := 77) C dX3_goThrough_g9.2.2.2.2.2.2.2.1 (by decide) ?_
    refine wm_pick [1, 2, 3, 4, 5, 6, 0] rfl ?_
    exact hr _ _ _ _ _ _ _ hf
  have hl77 : ∀ (n : Nat), ∀ (v1 : Int32) (v2 : Int32) (v3 : Int32) (v4 : Int32) (v5 : Int32) (v6 : Int32) (M : Mem), f_X3_goThrough_l77 rc_X3_goThrough n v1 v2 v3 v4 v5 v6 M = some out → WM p l e (RM (hd + 1)) s m args below meth c 0 0 (MQ below (QV D cA A Pl out) args s 0 0 (FA A Pl)) D cA A Pl (FA A Pl) 7 M 77 [(0, .ref (A 45)), (1, .int v1), (2, .int v2), (3, .int v3), (4, .int v4), (5, .int v5), (6, .int v6)] [] := by
    intro n
    induction n with
    | zero => intro v1 v2 v3 v4 v5 v6 M hf; rw [f_X3_goThrough_l77] at hf; cases hf
    | succ n hr =>
      intro v1 v2 v3 v4 v5 v6 M hf
      rw [f_X3_goThrough_l77] at hf
      refine wm_iload 6 C dX3_goThrough_g3.2.2.2.2.2.2.2.2.2.2.2 rfl ?_
      refine wm_iconst (v := 2) C dX3_goThrough_g4.1 (by decide) ?_
      refine wm_icmp_ge (tgt := 196) C dX3_goThrough_g4.2.1 (by decide) (fun c13 => ?_) (fun c13 => ?_)
      · have hf := (if_pos c13).symm.trans hf
        exact wm_vret C hrt hf dX3_goThrough_g9.2.2.2.2.2.2.2.2
      · have hf := (if_neg c13).symm.trans hf
        refine wm_aload_n 0 C dX3_goThrough_g4.2.2.1 rfl ?_
        refine wm_get (ci := 2) (k := 1) (v := .ref (A 36)) C (hPl 45 (by decide) (by decide)) rfl rfl (by decide) wt_X3_45 iwX3 rfl dX3_goThrough_g4.2.2.2.1 ?_
        refine wm_aload_n 0 C dX3_goThrough_g4.2.2.2.2.1 rfl ?_
        refine wm_get (ci := 2) (k := 0) (v := .ref (A 1)) C (hPl 45 (by decide) (by decide)) rfl rfl (by decide) wt_X3_41 iwX3 rfl dX3_goThrough_g4.2.2.2.2.2.1 ?_
        refine wm_iload_n 1 C dX3_goThrough_g4.2.2.2.2.2.2.1 rfl ?_
        obtain ⟨o14, ho15, hf⟩ := bnd hf
        refine wm_callVv (As := [.ref (A 1), .int v1]) (ci := 0) C (c_X0_takeUp hPl _ _ _ ho15) mi_X0_takeUp wt_X3_77 (hPl 36 (by decide) (by decide)) rfl rfl rfl rfl (by omega) (by decide) (Nat.le_of_ble_eq_true rfl) dX3_goThrough_g4.2.2.2.2.2.2.2.1 ?_
        refine wm_aload_n 0 C dX3_goThrough_g4.2.2.2.2.2.2.2.2.1 rfl ?_
        refine wm_get (ci := 2) (k := 1) (v := .ref (A 36)) C (hPl 45 (by decide) (by decide)) rfl rfl (by decide) wt_X3_45 iwX3 rfl dX3_goThrough_g4.2.2.2.2.2.2.2.2.2.1 ?_
        refine wm_iload 6 C dX3_goThrough_g4.2.2.2.2.2.2.2.2.2.2.1 rfl ?_
        refine wm_aload_n 0 C dX3_goThrough_g4.2.2.2.2.2.2.2.2.2.2.2 rfl ?_
        refine wm_get (ci := 2) (k := 2) (v := .ref (A 46)) C (hPl 45 (by decide) (by decide)) rfl rfl (by decide) wt_X3_11 iwX3 rfl dX3_goThrough_g5.1 ?_
        refine wm_iload_n 1 C dX3_goThrough_g5.2.1 rfl ?_
        obtain ⟨h16, hf⟩ := ckd hf
        refine wm_aald46 (j := (v1).toNatClampNeg) C (hPl 46 (by decide) (by decide)) h16 rfl dX3_goThrough_g5.2.2.1 ?_
        obtain ⟨o17, ho18, hf⟩ := bnd hf
        refine wm_callVi (As := [.int v6, .ref (A (47 + (v1).toNatClampNeg))]) (ci := 0) C (c_X0_isCooked hPl _ _ _ _ ho18) mi_X0_isCooked wt_X3_83 (hPl 36 (by decide) (by decide)) rfl rfl rfl rfl (by omega) (by decide) (Nat.le_of_ble_eq_true rfl) dX3_goThrough_g5.2.2.2.1 ?_
        refine wm_if_eq (tgt := 190) C dX3_goThrough_g5.2.2.2.2.1 (by decide) (fun c19 => ?_) (fun c19 => ?_)
        · have hf := (if_pos c19).symm.trans hf
          exact (hb190 _ hr) _ _ _ _ _ _ _ hf
        · have hf := (if_neg c19).symm.trans hf
          refine wm_aload_n 0 C dX3_goThrough_g5.2.2.2.2.2.1 rfl ?_
          refine wm_get (ci := 2) (k := 2) (v := .ref (A 46)) C (hPl 45 (by decide) (by decide)) rfl rfl (by decide) wt_X3_11 iwX3 rfl dX3_goThrough_g5.2.2.2.2.2.2.1 ?_
          refine wm_iload_n 1 C dX3_goThrough_g5.2.2.2.2.2.2.2.1 rfl ?_
          refine wm_aald46 (j := (v1).toNatClampNeg) C (hPl 46 (by decide) (by decide)) h16 rfl dX3_goThrough_g5.2.2.2.2.2.2.2.2.1 ?_
          refine wm_iconst (v := 0) C dX3_goThrough_g5.2.2.2.2.2.2.2.2.2.1 (by decide) ?_
          refine wm_aload_n 0 C dX3_goThrough_g5.2.2.2.2.2.2.2.2.2.2.1 rfl ?_
          refine wm_get (ci := 2) (k := 2) (v := .ref (A 46)) C (hPl 45 (by decide) (by decide)) rfl rfl (by decide) wt_X3_11 iwX3 rfl dX3_goThrough_g5.2.2.2.2.2.2.2.2.2.2.2 ?_
          refine wm_iload_n 1 C dX3_goThrough_g6.1 rfl ?_
          refine wm_iconst (v := 1) C dX3_goThrough_g6.2.1 (by decide) ?_
          refine wm_iadd C dX3_goThrough_g6.2.2.1 ?_
          obtain ⟨h20, hf⟩ := ckd hf
          refine wm_aald46 (j := ((v1 + 1)).toNatClampNeg) C (hPl 46 (by decide) (by decide)) h20 rfl dX3_goThrough_g6.2.2.2.1 ?_
          refine wm_iconst (v := 0) C dX3_goThrough_g6.2.2.2.2.1 (by decide) ?_
          refine wm_bipush (v := 12) C dX3_goThrough_g6.2.2.2.2.2.1 (by decide) ?_
          obtain ⟨h21, hf⟩ := ckd hf
          obtain ⟨h22, hf⟩ := ckd hf
          obtain ⟨h23, hf⟩ := ckd hf
          refine wm_copy (ja := 0) (jb := 0) (jn := 12) (na := (ln (47 + (v1).toNatClampNeg))) (nb := (ln (47 + ((v1 + 1)).toNatClampNeg))) C wt_X3_54 (kr10 hPl (eq_of_beq h21)) (eq_of_beq h21) rfl rfl (kr10 hPl (eq_of_beq h22)) (eq_of_beq h22) rfl rfl h23 (by decide) (by decide) (by decide) (Nat.le_of_ble_eq_true rfl) (by omega) dX3_goThrough_g6.2.2.2.2.2.2.1 ?_
          refine wm_aload_n 0 C dX3_goThrough_g6.2.2.2.2.2.2.2.1 rfl ?_
          refine wm_get (ci := 2) (k := 1) (v := .ref (A 36)) C (hPl 45 (by decide) (by decide)) rfl rfl (by decide) wt_X3_45 iwX3 (by first | rfl | simp [fld, mu, upd, mcp]) dX3_goThrough_g6.2.2.2.2.2.2.2.2.1 ?_
          refine wm_iload 6 C dX3_goThrough_g6.2.2.2.2.2.2.2.2.2.1 rfl ?_
          refine wm_aload_n 0 C dX3_goThrough_g6.2.2.2.2.2.2.2.2.2.2.1 rfl ?_
          refine wm_get (ci := 2) (k := 2) (v := .ref (A 46)) C (hPl 45 (by decide) (by decide)) rfl rfl (by decide) wt_X3_11 iwX3 (by first | rfl | simp [fld, mu, upd, mcp]) dX3_goThrough_g6.2.2.2.2.2.2.2.2.2.2.2 ?_
          refine wm_iload_n 1 C dX3_goThrough_g7.1 rfl ?_
          refine wm_iconst (v := 1) C dX3_goThrough_g7.2.1 (by decide) ?_
          refine wm_iadd C dX3_goThrough_g7.2.2.1 ?_
          refine wm_aald46 (j := ((v1 + 1)).toNatClampNeg) C (hPl 46 (by decide) (by decide)) h20 rfl dX3_goThrough_g7.2.2.2.1 ?_
          obtain ⟨o24, ho25, hf⟩ := bnd hf
          refine wm_callVv (As := [.int v6, .ref (A (47 + ((v1 + 1)).toNatClampNeg))]) (ci := 0) C (c_X0_useUp hPl _ _ _ _ ho25) mi_X0_useUp wt_X3_87 (hPl 36 (by decide) (by decide)) rfl rfl rfl rfl (by omega) (by decide) (Nat.le_of_ble_eq_true rfl) dX3_goThrough_g7.2.2.2.2.1 ?_
          refine wm_aload_n 0 C dX3_goThrough_g7.2.2.2.2.2.1 rfl ?_
          refine wm_iload_n 1 C dX3_goThrough_g7.2.2.2.2.2.2.1 rfl ?_
          refine wm_iconst (v := 1) C dX3_goThrough_g7.2.2.2.2.2.2.2.1 (by decide) ?_
          refine wm_iadd C dX3_goThrough_g7.2.2.2.2.2.2.2.2.1 ?_
          refine wm_iload_n 2 C dX3_goThrough_g7.2.2.2.2.2.2.2.2.2.1 rfl ?_
          refine wm_bipush (v := 10) C dX3_goThrough_g7.2.2.2.2.2.2.2.2.2.2.1 (by decide) ?_
          refine wm_imul C dX3_goThrough_g7.2.2.2.2.2.2.2.2.2.2.2 ?_
          refine wm_iload 6 C dX3_goThrough_g8.1 rfl ?_
          refine wm_iadd C dX3_goThrough_g8.2.1 ?_
          refine wm_iconst (v := 1) C dX3_goThrough_g8.2.2.1 (by decide) ?_
          refine wm_iadd C dX3_goThrough_g8.2.2.2.1 ?_
          refine wm_iload_n 3 C dX3_goThrough_g8.2.2.2.2.1 rfl ?_
          refine wm_aload_n 0 C dX3_goThrough_g8.2.2.2.2.2.1 rfl ?_
          refine wm_get (ci := 2) (k := 1) (v := .ref (A 36)) C (hPl 45 (by decide) (by decide)) rfl rfl (by decide) wt_X3_45 iwX3 rfl dX3_goThrough_g8.2.2.2.2.2.2.1 ?_
          refine wm_get (ci := 0) (k := 15) (v := .int (o24 36 15)) C (hPl 36 (by decide) (by decide)) rfl rfl (by decide) wt_X3_91 iwX0 rfl dX3_goThrough_g8.2.2.2.2.2.2.2.1 ?_
          refine wm_iadd C dX3_goThrough_g8.2.2.2.2.2.2.2.2.1 ?_
          refine wm_iload 4 C dX3_goThrough_g8.2.2.2.2.2.2.2.2.2.1 rfl ?_
          refine wm_aload_n 0 C dX3_goThrough_g8.2.2.2.2.2.2.2.2.2.2.1 rfl ?_
          refine wm_get (ci := 2) (k := 1) (v := .ref (A 36)) C (hPl 45 (by decide) (by decide)) rfl rfl (by decide) wt_X3_45 iwX3 rfl dX3_goThrough_g8.2.2.2.2.2.2.2.2.2.2.2 ?_
          refine wm_get (ci := 0) (k := 14) (v := .int (o24 36 14)) C (hPl 36 (by decide) (by decide)) rfl rfl (by decide) wt_X3_94 iwX0 rfl dX3_goThrough_g9.1 ?_
          refine wm_iadd C dX3_goThrough_g9.2.1 ?_
          refine wm_iload 5 C dX3_goThrough_g9.2.2.1 rfl ?_
          refine wm_iconst (v := 1) C dX3_goThrough_g9.2.2.2.1 (by decide) ?_
          refine wm_iadd C dX3_goThrough_g9.2.2.2.2.1 ?_
          obtain ⟨o26, ho27, hf⟩ := bnd hf
          refine wm_callVv (As := [.int (v1 + 1), .int (((v2 * 10) + v6) + 1), .int (v3 + (o24 36 15)), .int (v4 + (o24 36 14)), .int (v5 + 1)]) (ci := 2) C (hrc_X3_goThrough _ _ _ _ _ _ _ ho27) mi_X3_goThrough wt_X3_66 (hPl 45 (by decide) (by decide)) rfl rfl rfl rfl (by omega) (by decide) (Nat.le_of_ble_eq_true rfl) dX3_goThrough_g9.2.2.2.2.2.1 ?_
          exact (hb190 _ hr) _ _ _ _ _ _ _ hf
  have hf := ho
  unfold f_X3_goThrough_b at hf
  refine wm_iload_n 1 C dX3_goThrough_g0.1 rfl ?_
  refine wm_aload_n 0 C dX3_goThrough_g0.2.1 rfl ?_
  refine wm_get (ci := 2) (k := 0) (v := .ref (A 1)) C (hPl 45 (by decide) (by decide)) rfl rfl (by decide) wt_X3_41 iwX3 rfl dX3_goThrough_g0.2.2.1 ?_
  refine wm_get (ci := 1) (k := 6) (v := .int (M 1 6)) C (hPl 1 (by decide) (by decide)) rfl rfl (by decide) wt_X3_70 iwX1 rfl dX3_goThrough_g0.2.2.2.1 ?_
  refine wm_icmp_ge (tgt := 17) C dX3_goThrough_g0.2.2.2.2.1 (by decide) (fun c1 => ?_) (fun c1 => ?_)
  · have hf := (if_pos c1).symm.trans hf
    refine wm_pick [0, 2, 3, 4, 5] rfl ?_
    exact hb17 _ _ _ _ _ hf
  · have hf := (if_neg c1).symm.trans hf
    refine wm_iload_n 1 C dX3_goThrough_g0.2.2.2.2.2.1 rfl ?_
    refine wm_bipush (v := 6) C dX3_goThrough_g0.2.2.2.2.2.2.1 (by decide) ?_
    refine wm_icmp_lt (tgt := 28) C dX3_goThrough_g0.2.2.2.2.2.2.2.1 (by decide) (fun c2 => ?_) (fun c2 => ?_)
    · have hf := (if_pos c2).symm.trans hf
      refine wm_aload_n 0 C dX3_goThrough_g1.2.2.2.1 rfl ?_
      refine wm_get (ci := 2) (k := 2) (v := .ref (A 46)) C (hPl 45 (by decide) (by decide)) rfl rfl (by decide) wt_X3_11 iwX3 rfl dX3_goThrough_g1.2.2.2.2.1 ?_
      refine wm_iload_n 1 C dX3_goThrough_g1.2.2.2.2.2.1 rfl ?_
      obtain ⟨h3, hf⟩ := ckd hf
      refine wm_aald46 (j := (v1).toNatClampNeg) C (hPl 46 (by decide) (by decide)) h3 rfl dX3_goThrough_g1.2.2.2.2.2.2.1 ?_
      refine wm_iconst (v := 0) C dX3_goThrough_g1.2.2.2.2.2.2.2.1 (by decide) ?_
      refine wm_aload_n 0 C dX3_goThrough_g1.2.2.2.2.2.2.2.2.1 rfl ?_
      refine wm_get (ci := 2) (k := 2) (v := .ref (A 46)) C (hPl 45 (by decide) (by decide)) rfl rfl (by decide) wt_X3_11 iwX3 rfl dX3_goThrough_g1.2.2.2.2.2.2.2.2.2.1 ?_
      refine wm_iload_n 1 C dX3_goThrough_g1.2.2.2.2.2.2.2.2.2.2.1 rfl ?_
      refine wm_iconst (v := 1) C dX3_goThrough_g1.2.2.2.2.2.2.2.2.2.2.2 (by decide) ?_
      refine wm_iadd C dX3_goThrough_g2.1 ?_
      obtain ⟨h4, hf⟩ := ckd hf
      refine wm_aald46 (j := ((v1 + 1)).toNatClampNeg) C (hPl 46 (by decide) (by decide)) h4 rfl dX3_goThrough_g2.2.1 ?_
      refine wm_iconst (v := 0) C dX3_goThrough_g2.2.2.1 (by decide) ?_
      refine wm_bipush (v := 12) C dX3_goThrough_g2.2.2.2.1 (by decide) ?_
      obtain ⟨h5, hf⟩ := ckd hf
      obtain ⟨h6, hf⟩ := ckd hf
      obtain ⟨h7, hf⟩ := ckd hf
      refine wm_copy (ja := 0) (jb := 0) (jn := 12) (na := (ln (47 + (v1).toNatClampNeg))) (nb := (ln (47 + ((v1 + 1)).toNatClampNeg))) C wt_X3_54 (kr10 hPl (eq_of_beq h5)) (eq_of_beq h5) rfl rfl (kr10 hPl (eq_of_beq h6)) (eq_of_beq h6) rfl rfl h7 (by decide) (by decide) (by decide) (Nat.le_of_ble_eq_true rfl) (by omega) dX3_goThrough_g2.2.2.2.2.1 ?_
      refine wm_aload_n 0 C dX3_goThrough_g2.2.2.2.2.2.1 rfl ?_
      refine wm_iload_n 1 C dX3_goThrough_g2.2.2.2.2.2.2.1 rfl ?_
      refine wm_iconst (v := 1) C dX3_goThrough_g2.2.2.2.2.2.2.2.1 (by decide) ?_
      refine wm_iadd C dX3_goThrough_g2.2.2.2.2.2.2.2.2.1 ?_
      refine wm_iload_n 2 C dX3_goThrough_g2.2.2.2.2.2.2.2.2.2.1 rfl ?_
      refine wm_bipush (v := 10) C dX3_goThrough_g2.2.2.2.2.2.2.2.2.2.2.1 (by decide) ?_
      refine wm_imul C dX3_goThrough_g2.2.2.2.2.2.2.2.2.2.2.2 ?_
      refine wm_iload_n 3 C dX3_goThrough_g3.1 rfl ?_
      refine wm_iload 4 C dX3_goThrough_g3.2.1 rfl ?_
      refine wm_iload 5 C dX3_goThrough_g3.2.2.1 rfl ?_
      obtain ⟨o8, ho9, hf⟩ := bnd hf
      refine wm_callVv (As := [.int (v1 + 1), .int (v2 * 10), .int v3, .int v4, .int v5]) (ci := 2) C (hrc_X3_goThrough _ _ _ _ _ _ _ ho9) mi_X3_goThrough wt_X3_66 (hPl 45 (by decide) (by decide)) rfl rfl rfl rfl (by omega) (by decide) (Nat.le_of_ble_eq_true rfl) dX3_goThrough_g3.2.2.2.1 ?_
      refine wm_iload_n 1 C dX3_goThrough_g3.2.2.2.2.1 rfl ?_
      refine wm_aload_n 0 C dX3_goThrough_g3.2.2.2.2.2.1 rfl ?_
      refine wm_get (ci := 2) (k := 3) (v := .int (o8 45 3)) C (hPl 45 (by decide) (by decide)) rfl rfl (by decide) wt_X3_16 iwX3 rfl dX3_goThrough_g3.2.2.2.2.2.2.1 ?_
      refine wm_icmp_ne (tgt := 74) C dX3_goThrough_g3.2.2.2.2.2.2.2.1 (by decide) (fun c10 => ?_) (fun c10 => ?_)
      · have hf := (if_neg c10).symm.trans hf
        refine wm_iconst (v := 0) C dX3_goThrough_g3.2.2.2.2.2.2.2.2.2.1 (by decide) ?_
        refine wm_istore (lv1 := [(6, .int 0), (0, .ref (A 45)), (1, .int v1), (2, .int v2), (3, .int v3), (4, .int v4), (5, .int v5)]) C dX3_goThrough_g3.2.2.2.2.2.2.2.2.2.2.1 (by decide) rfl ?_
        refine wm_pick [1, 2, 3, 4, 5, 6, 0] rfl ?_
        exact (hl77 FU) _ _ _ _ _ _ _ hf
      · have hf := (if_pos c10).symm.trans hf
        exact wm_vret C hrt hf dX3_goThrough_g3.2.2.2.2.2.2.2.2.1
    · have hf := (if_neg c2).symm.trans hf
      refine wm_pick [0, 2, 3, 4, 5] rfl ?_
      exact hb17 _ _ _ _ _ hf
theorem cg_X3_goThrough {l : Launch} {D : va_G} {cA : Nat → ClassId} {A : Nat → Nat} {Pl : List Nat} (hPl : ∀ q, 0 ≤ q → q < 63 → q ∈ Pl) : ∀ d : Nat, (∀ (v1 : Int32) (v2 : Int32) (v3 : Int32) (v4 : Int32) (v5 : Int32) (M : Mem) (out : Mem), f_X3_goThrough d v1 v2 v3 v4 v5 M = some out → CtV l D cA A Pl yX3_goThrough cX3_goThrough 7 (6 + d) [.ref (A 45), .int v1, .int v2, .int v3, .int v4, .int v5] M out) := by
  intro d
  induction d with
  | zero => exact (fun v1 v2 v3 v4 v5 M out ho => by have ho : none = some out := ho; cases ho)
  | succ d ih => exact (fun v1 v2 v3 v4 v5 M out ho => cb_X3_goThrough hPl (6 + d) (by omega) _ ih v1 v2 v3 v4 v5 M out ho)
theorem c_X3_goThrough {l : Launch} {D : va_G} {cA : Nat → ClassId} {A : Nat → Nat} {Pl : List Nat} (hPl : ∀ q, 0 ≤ q → q < 63 → q ∈ Pl) (v1 : Int32) (v2 : Int32) (v3 : Int32) (v4 : Int32) (v5 : Int32) (M : Mem) (out : Mem) (ho : f_X3_goThrough DP v1 v2 v3 v4 v5 M = some out) : CtV l D cA A Pl yX3_goThrough cX3_goThrough 7 106 [.ref (A 45), .int v1, .int v2, .int v3, .int v4, .int v5] M out := (cg_X3_goThrough hPl DP) v1 v2 v3 v4 v5 M out ho
set_option maxHeartbeats 4000000 in
set_option maxRecDepth 100000 in
theorem c_X3_seek {l : Launch} {D : va_G} {cA : Nat → ClassId} {A : Nat → Nat} {Pl : List Nat} (hPl : ∀ q, 0 ≤ q → q < 63 → q ∈ Pl) (v1 : Int32) (v2 : Int32) (M : Mem) (out : Mem) (ho : f_X3_seek v1 v2 M = some out) : CtV l D cA A Pl yX3_seek cX3_seek 3 107 [.ref (A 45), .int v1, .int v2] M out := by
  refine ct_V (by decide) (Nat.le_of_ble_eq_true rfl) (fun p e s m args below meth c C hrt => ?_)
  have hb53 : ∀ (v1 : Int32) (M : Mem), f_X3_seek_b53 v1 M = some out → WM p l e (RM 107) s m args below meth c 0 0 (MQ below (QV D cA A Pl out) args s 0 0 (FA A Pl)) D cA A Pl (FA A Pl) 3 M 53 [(0, .ref (A 45)), (1, .int v1)] [] := by
    intro v1 M hf
    unfold f_X3_seek_b53 at hf
    refine wm_aload_n 0 C dX3_seek_g2.2.2.2.2.2.2.2.2.1 rfl ?_
    refine wm_iload_n 1 C dX3_seek_g2.2.2.2.2.2.2.2.2.2.1 rfl ?_
    refine wm_put (ci := 2) (k := 3) (x := v1) C (hPl 45 (by decide) (by decide)) rfl rfl (by decide) wt_X3_16 iwX3 tyX3_ok nmX3 rfl rfl rfl rfl (fun _ => rfl) (Nat.le_of_ble_eq_true rfl) dX3_seek_g2.2.2.2.2.2.2.2.2.2.2.1 ?_
    refine wm_aload_n 0 C dX3_seek_g2.2.2.2.2.2.2.2.2.2.2.2 rfl ?_
    refine wm_iconst (v := 0) C dX3_seek_g3.1 (by decide) ?_
    refine wm_put (ci := 2) (k := 4) (x := 0) C (hPl 45 (by decide) (by decide)) rfl rfl (by decide) wt_X3_20 iwX3 tyX3_ok nmX3 rfl rfl rfl rfl (fun _ => rfl) (Nat.le_of_ble_eq_true rfl) dX3_seek_g3.2.1 ?_
    refine wm_aload_n 0 C dX3_seek_g3.2.2.1 rfl ?_
    refine wm_iconst (v := 0) C dX3_seek_g3.2.2.2.1 (by decide) ?_
    refine wm_put (ci := 2) (k := 5) (x := 0) C (hPl 45 (by decide) (by decide)) rfl rfl (by decide) wt_X3_23 iwX3 tyX3_ok nmX3 rfl rfl rfl rfl (fun _ => rfl) (Nat.le_of_ble_eq_true rfl) dX3_seek_g3.2.2.2.2.1 ?_
    refine wm_aload_n 0 C dX3_seek_g3.2.2.2.2.2.1 rfl ?_
    refine wm_iconst (v := 0) C dX3_seek_g3.2.2.2.2.2.2.1 (by decide) ?_
    refine wm_put (ci := 2) (k := 6) (x := 0) C (hPl 45 (by decide) (by decide)) rfl rfl (by decide) wt_X3_26 iwX3 tyX3_ok nmX3 rfl rfl rfl rfl (fun _ => rfl) (Nat.le_of_ble_eq_true rfl) dX3_seek_g3.2.2.2.2.2.2.2.1 ?_
    refine wm_aload_n 0 C dX3_seek_g3.2.2.2.2.2.2.2.2.1 rfl ?_
    refine wm_iconst (v := 0) C dX3_seek_g3.2.2.2.2.2.2.2.2.2.1 (by decide) ?_
    refine wm_put (ci := 2) (k := 7) (x := 0) C (hPl 45 (by decide) (by decide)) rfl rfl (by decide) wt_X3_29 iwX3 tyX3_ok nmX3 rfl rfl rfl rfl (fun _ => rfl) (Nat.le_of_ble_eq_true rfl) dX3_seek_g3.2.2.2.2.2.2.2.2.2.2.1 ?_
    refine wm_aload_n 0 C dX3_seek_g3.2.2.2.2.2.2.2.2.2.2.2 rfl ?_
    refine wm_iconst (v := 0) C dX3_seek_g4.1 (by decide) ?_
    refine wm_put (ci := 2) (k := 8) (x := 0) C (hPl 45 (by decide) (by decide)) rfl rfl (by decide) wt_X3_32 iwX3 tyX3_ok nmX3 rfl rfl rfl rfl (fun _ => rfl) (Nat.le_of_ble_eq_true rfl) dX3_seek_g4.2.1 ?_
    refine wm_aload_n 0 C dX3_seek_g4.2.2.1 rfl ?_
    refine wm_iconst (v := 0) C dX3_seek_g4.2.2.2.1 (by decide) ?_
    refine wm_put (ci := 2) (k := 9) (x := 0) C (hPl 45 (by decide) (by decide)) rfl rfl (by decide) wt_X3_35 iwX3 tyX3_ok nmX3 rfl rfl rfl rfl (fun _ => rfl) (Nat.le_of_ble_eq_true rfl) dX3_seek_g4.2.2.2.2.1 ?_
    refine wm_aload_n 0 C dX3_seek_g4.2.2.2.2.2.1 rfl ?_
    refine wm_iconst (v := 0) C dX3_seek_g4.2.2.2.2.2.2.1 (by decide) ?_
    refine wm_put (ci := 2) (k := 10) (x := 0) C (hPl 45 (by decide) (by decide)) rfl rfl (by decide) wt_X3_38 iwX3 tyX3_ok nmX3 rfl rfl rfl rfl (fun _ => rfl) (Nat.le_of_ble_eq_true rfl) dX3_seek_g4.2.2.2.2.2.2.2.1 ?_
    refine wm_aload_n 0 C dX3_seek_g4.2.2.2.2.2.2.2.2.1 rfl ?_
    refine wm_iconst (v := 0) C dX3_seek_g4.2.2.2.2.2.2.2.2.2.1 (by decide) ?_
    refine wm_iconst (v := 0) C dX3_seek_g4.2.2.2.2.2.2.2.2.2.2.1 (by decide) ?_
    refine wm_iconst (v := 0) C dX3_seek_g4.2.2.2.2.2.2.2.2.2.2.2 (by decide) ?_
    refine wm_iconst (v := 0) C dX3_seek_g5.1 (by decide) ?_
    refine wm_iconst (v := 0) C dX3_seek_g5.2.1 (by decide) ?_
    obtain ⟨o4, ho5, hf⟩ := bnd hf
    refine wm_callVv (As := [.int 0, .int 0, .int 0, .int 0, .int 0]) (ci := 2) C (c_X3_goThrough hPl _ _ _ _ _ _ _ ho5) mi_X3_goThrough wt_X3_66 (hPl 45 (by decide) (by decide)) rfl rfl rfl rfl (by decide) (by decide) (Nat.le_of_ble_eq_true rfl) dX3_seek_g5.2.2.1 ?_
    exact wm_vret C hrt hf dX3_seek_g5.2.2.2
  have hf := ho
  unfold f_X3_seek at hf
  refine wm_aload_n 0 C dX3_seek_g0.1 rfl ?_
  refine wm_get (ci := 2) (k := 0) (v := .ref (A 1)) C (hPl 45 (by decide) (by decide)) rfl rfl (by decide) wt_X3_41 iwX3 rfl dX3_seek_g0.2.1 ?_
  refine wm_get (ci := 1) (k := 0) (v := .ref (A 2)) C (hPl 1 (by decide) (by decide)) rfl rfl (by decide) wt_X3_49 iwX1 rfl dX3_seek_g0.2.2.1 ?_
  refine wm_iconst (v := 0) C dX3_seek_g0.2.2.2.1 (by decide) ?_
  refine wm_aload_n 0 C dX3_seek_g0.2.2.2.2.1 rfl ?_
  refine wm_get (ci := 2) (k := 2) (v := .ref (A 46)) C (hPl 45 (by decide) (by decide)) rfl rfl (by decide) wt_X3_11 iwX3 rfl dX3_seek_g0.2.2.2.2.2.1 ?_
  refine wm_iconst (v := 0) C dX3_seek_g0.2.2.2.2.2.2.1 (by decide) ?_
  refine wm_aald46 (j := 0) C (hPl 46 (by decide) (by decide)) (by decide) (by decide) dX3_seek_g0.2.2.2.2.2.2.2.1 ?_
  refine wm_iconst (v := 0) C dX3_seek_g0.2.2.2.2.2.2.2.2.1 (by decide) ?_
  refine wm_bipush (v := 12) C dX3_seek_g0.2.2.2.2.2.2.2.2.2.1 (by decide) ?_
  refine wm_copy (ja := 0) (jb := 0) (jn := 12) (na := 12) (nb := 12) C wt_X3_54 (hPl 2 (by decide) (by decide)) rfl rfl rfl (hPl 47 (by decide) (by decide)) rfl rfl rfl rfl (by decide) (by decide) (by decide) (Nat.le_of_ble_eq_true rfl) (by decide) dX3_seek_g0.2.2.2.2.2.2.2.2.2.2.1 ?_
  refine wm_iload_n 2 C dX3_seek_g0.2.2.2.2.2.2.2.2.2.2.2 rfl ?_
  refine wm_if_lt (tgt := 53) C dX3_seek_g1.1 (by decide) (fun c1 => ?_) (fun c1 => ?_)
  · have hf := (if_pos c1).symm.trans hf
    refine wm_pick [0, 1] rfl ?_
    exact hb53 _ _ hf
  · have hf := (if_neg c1).symm.trans hf
    refine wm_iload_n 2 C dX3_seek_g1.2.1 rfl ?_
    refine wm_bipush (v := 12) C dX3_seek_g1.2.2.1 (by decide) ?_
    refine wm_icmp_ge (tgt := 53) C dX3_seek_g1.2.2.2.1 (by decide) (fun c2 => ?_) (fun c2 => ?_)
    · have hf := (if_pos c2).symm.trans hf
      refine wm_pick [0, 1] rfl ?_
      exact hb53 _ _ hf
    · have hf := (if_neg c2).symm.trans hf
      refine wm_aload_n 0 C dX3_seek_g1.2.2.2.2.1 rfl ?_
      refine wm_get (ci := 2) (k := 2) (v := .ref (A 46)) C (hPl 45 (by decide) (by decide)) rfl rfl (by decide) wt_X3_11 iwX3 (by first | rfl | simp [fld, mu, upd, mcp]) dX3_seek_g1.2.2.2.2.2.1 ?_
      refine wm_iconst (v := 0) C dX3_seek_g1.2.2.2.2.2.2.1 (by decide) ?_
      refine wm_aald46 (j := 0) C (hPl 46 (by decide) (by decide)) (by decide) (by decide) dX3_seek_g1.2.2.2.2.2.2.2.1 ?_
      refine wm_iload_n 2 C dX3_seek_g1.2.2.2.2.2.2.2.2.1 rfl ?_
      refine wm_bipush (v := 99) C dX3_seek_g1.2.2.2.2.2.2.2.2.2.1 (by decide) ?_
      refine wm_aload_n 0 C dX3_seek_g1.2.2.2.2.2.2.2.2.2.2.1 rfl ?_
      refine wm_get (ci := 2) (k := 2) (v := .ref (A 46)) C (hPl 45 (by decide) (by decide)) rfl rfl (by decide) wt_X3_11 iwX3 (by first | rfl | simp [fld, mu, upd, mcp]) dX3_seek_g1.2.2.2.2.2.2.2.2.2.2.2 ?_
      refine wm_iconst (v := 0) C dX3_seek_g2.1 (by decide) ?_
      refine wm_aald46 (j := 0) C (hPl 46 (by decide) (by decide)) (by decide) (by decide) dX3_seek_g2.2.1 ?_
      refine wm_iload_n 2 C dX3_seek_g2.2.2.1 rfl ?_
      obtain ⟨h3, hf⟩ := ckd hf
      refine wm_iald (n := 12) (j := (v2).toNatClampNeg) (v := ((mcp M 2 0 47 0 12) 47 (v2).toNatClampNeg)) C (hPl 47 (by decide) (by decide)) rfl rfl rfl h3 rfl (by first | rfl | simp [mu, upd, mcp]) dX3_seek_g2.2.2.2.1 ?_
      refine wm_iconst (v := 1) C dX3_seek_g2.2.2.2.2.1 (by decide) ?_
      refine wm_iadd C dX3_seek_g2.2.2.2.2.2.1 ?_
      refine wm_min C wt_X3_60 (Nat.le_of_ble_eq_true rfl) (by decide) dX3_seek_g2.2.2.2.2.2.2.1 ?_
      refine wm_iast (n := 12) (j := (v2).toNatClampNeg) (x := (jmin 99 (((mcp M 2 0 47 0 12) 47 (v2).toNatClampNeg) + 1))) C (hPl 47 (by decide) (by decide)) rfl rfl rfl h3 rfl dX3_seek_g2.2.2.2.2.2.2.2.1 ?_
      refine wm_pick [0, 1] rfl ?_
      exact hb53 _ _ hf
set_option maxHeartbeats 4000000 in
set_option maxRecDepth 100000 in
theorem c_X8_sideOf {l : Launch} {D : va_G} {cA : Nat → ClassId} {A : Nat → Nat} {Pl : List Nat} (hPl : ∀ q, 0 ≤ q → q < 63 → q ∈ Pl) (v1 : Int32) (M : Mem) (out : (Int32 × Mem)) (ho : f_X8_sideOf v1 M = some out) : CtI l D cA A Pl yX8_sideOf cX8_sideOf 5 2 .int [.ref (A 0), .int v1] M out := by
  refine ct_I (by decide) (Nat.le_of_ble_eq_true rfl) (fun p e s m args below meth c C hrt => ?_)
  have hb45 : ∀ (r : Int32 → Int32 → Int32 → Mem → Option (Int32 × Mem)) (hr : ∀ (v1 : Int32) (v2 : Int32) (v3 : Int32) (M : Mem), r v1 v2 v3 M = some out → WM p l e (RM 2) s m args below meth c 0 0 (MQ below (QI D cA A Pl out) args s 0 0 (FA A Pl)) D cA A Pl (FA A Pl) 5 M 4 [(0, .ref (A 0)), (1, .int v1), (2, .int v2), (3, .int v3)] []), ∀ (v1 : Int32) (v2 : Int32) (v3 : Int32) (M : Mem), f_X8_sideOf_b45 r v1 v2 v3 M = some out → WM p l e (RM 2) s m args below meth c 0 0 (MQ below (QI D cA A Pl out) args s 0 0 (FA A Pl)) D cA A Pl (FA A Pl) 5 M 45 [(0, .ref (A 0)), (1, .int v1), (2, .int v2), (3, .int v3)] [] := by
    intro r hr v1 v2 v3 M hf
    unfold f_X8_sideOf_b45 at hf
    refine wm_iinc (lv1 := [(3, .int (v3 + 1)), (0, .ref (A 0)), (1, .int v1), (2, .int v2)]) (v := (v3 + 1)) 3 C dX8_sideOf_g2.2.2.1 rfl (by first | rfl | decide) (by decide) rfl ?_
    refine wm_goto (tgt := 4) C dX8_sideOf_g2.2.2.2.1 (by decide) ?_
    refine wm_pick [1, 2, 3, 0] rfl ?_
    exact hr _ _ _ _ hf
  have hb43 : ∀ (r : Int32 → Int32 → Int32 → Mem → Option (Int32 × Mem)) (hr : ∀ (v1 : Int32) (v2 : Int32) (v3 : Int32) (M : Mem), r v1 v2 v3 M = some out → WM p l e (RM 2) s m args below meth c 0 0 (MQ below (QI D cA A Pl out) args s 0 0 (FA A Pl)) D cA A Pl (FA A Pl) 5 M 4 [(0, .ref (A 0)), (1, .int v1), (2, .int v2), (3, .int v3)] []), ∀ (v1 : Int32) (v3 : Int32) (s0 : Int32) (s1 : Int32) (M : Mem), f_X8_sideOf_b43 r v1 v3 s0 s1 M = some out → WM p l e (RM 2) s m args below meth c 0 0 (MQ below (QI D cA A Pl out) args s 0 0 (FA A Pl)) D cA A Pl (FA A Pl) 5 M 43 [(0, .ref (A 0)), (1, .int v1), (3, .int v3)] [.int s1, .int s0] := by
    intro r hr v1 v3 s0 s1 M hf
    unfold f_X8_sideOf_b43 at hf
    refine wm_iadd C dX8_sideOf_g2.1 ?_
    refine wm_istore_n (lv1 := [(2, .int (s0 + s1)), (0, .ref (A 0)), (1, .int v1), (3, .int v3)]) C dX8_sideOf_g2.2.1 (by decide) rfl ?_
    refine wm_pick [1, 2, 0, 3] rfl ?_
    exact (hb45 _ hr) _ _ _ _ hf
  have hl4 : ∀ (n : Nat), ∀ (v1 : Int32) (v2 : Int32) (v3 : Int32) (M : Mem), f_X8_sideOf_l4 n v1 v2 v3 M = some out → WM p l e (RM 2) s m args below meth c 0 0 (MQ below (QI D cA A Pl out) args s 0 0 (FA A Pl)) D cA A Pl (FA A Pl) 5 M 4 [(0, .ref (A 0)), (1, .int v1), (2, .int v2), (3, .int v3)] [] := by
    intro n
    induction n with
    | zero => intro v1 v2 v3 M hf; rw [f_X8_sideOf_l4] at hf; cases hf
    | succ n hr =>
      intro v1 v2 v3 M hf
      rw [f_X8_sideOf_l4] at hf
      refine wm_iload_n 3 C dX8_sideOf_g0.2.2.2.2.1 rfl ?_
      refine wm_aload_n 0 C dX8_sideOf_g0.2.2.2.2.2.1 rfl ?_
      refine wm_get (ci := 7) (k := 0) (v := .ref (A 1)) C (hPl 0 (by decide) (by decide)) rfl rfl (by decide) wt_X8_10 iwX8 rfl dX8_sideOf_g0.2.2.2.2.2.2.1 ?_
      refine wm_get (ci := 1) (k := 6) (v := .int (M 1 6)) C (hPl 1 (by decide) (by decide)) rfl rfl (by decide) wt_X8_209 iwX1 rfl dX8_sideOf_g0.2.2.2.2.2.2.2.1 ?_
      refine wm_icmp_ge (tgt := 51) C dX8_sideOf_g0.2.2.2.2.2.2.2.2.1 (by decide) (fun c1 => ?_) (fun c1 => ?_)
      · have hf := (if_pos c1).symm.trans hf
        refine wm_iload_n 2 C dX8_sideOf_g2.2.2.2.2.1 rfl ?_
        exact wm_iret C hrt hf dX8_sideOf_g2.2.2.2.2.2
      · have hf := (if_neg c1).symm.trans hf
        refine wm_aload_n 0 C dX8_sideOf_g0.2.2.2.2.2.2.2.2.2.1 rfl ?_
        refine wm_get (ci := 7) (k := 0) (v := .ref (A 1)) C (hPl 0 (by decide) (by decide)) rfl rfl (by decide) wt_X8_10 iwX8 rfl dX8_sideOf_g0.2.2.2.2.2.2.2.2.2.2.1 ?_
        refine wm_iload_n 1 C dX8_sideOf_g0.2.2.2.2.2.2.2.2.2.2.2 rfl ?_
        refine wm_iload_n 3 C dX8_sideOf_g1.1 rfl ?_
        obtain ⟨o2, ho3, hf⟩ := bnd hf
        refine wm_callVi (As := [.int v1, .int v3]) (ci := 1) C (c_X1_kitchenBy hPl _ _ _ _ ho3) mi_X1_kitchenBy wt_X8_212 (hPl 1 (by decide) (by decide)) rfl rfl rfl rfl (by decide) (by decide) (Nat.le_of_ble_eq_true rfl) dX8_sideOf_g1.2.1 ?_
        refine wm_istore (lv1 := [(4, .int o2.1), (0, .ref (A 0)), (1, .int v1), (2, .int v2), (3, .int v3)]) C dX8_sideOf_g1.2.2.1 (by decide) rfl ?_
        refine wm_iload 0 C dX8_sideOf_g1.2.2.2.1 rfl ?_
        refine wm_iconst (v := (-1)) C dX8_sideOf_g1.2.2.2.2.1 (by decide) ?_
        refine wm_icmp_eq (tgt := 45) C dX8_sideOf_g1.2.2.2.2.2.1 (by decide) (fun c4 => ?_) (fun c4 => ?_)
        · have hf := (if_pos c4).symm.trans hf
          refine wm_pick [1, 2, 3, 4] rfl ?_
          exact (hb45 _ hr) _ _ _ _ hf
        · have hf := (if_neg c4).symm.trans hf
          refine wm_iload_n 3 C dX8_sideOf_g1.2.2.2.2.2.2.1 rfl ?_
          refine wm_iload 0 C dX8_sideOf_g1.2.2.2.2.2.2.2.1 rfl ?_
          refine wm_if_ne (tgt := 42) C dX8_sideOf_g1.2.2.2.2.2.2.2.2.1 (by decide) (fun c5 => ?_) (fun c5 => ?_)
          · have hf := (if_neg c5).symm.trans hf
            refine wm_iconst (v := (-1)) C dX8_sideOf_g1.2.2.2.2.2.2.2.2.2.2.2 (by decide) ?_
            refine wm_pick [1, 2, 4] rfl ?_
            exact (hb43 _ hr) _ _ _ _ _ hf
          · have hf := (if_pos c5).symm.trans hf
            refine wm_iconst (v := 1) C dX8_sideOf_g1.2.2.2.2.2.2.2.2.2.1 (by decide) ?_
            refine wm_goto (tgt := 43) C dX8_sideOf_g1.2.2.2.2.2.2.2.2.2.2.1 (by decide) ?_
            refine wm_pick [1, 2, 4] rfl ?_
            exact (hb43 _ hr) _ _ _ _ _ hf
  have hf := ho
  unfold f_X8_sideOf at hf
  refine wm_iconst (v := 0) C dX8_sideOf_g0.1 (by decide) ?_
  refine wm_istore_n (lv1 := [(2, .int 0), (0, .ref (A 0)), (1, .int v1)]) C dX8_sideOf_g0.2.1 (by decide) rfl ?_
  refine wm_iconst (v := 0) C dX8_sideOf_g0.2.2.1 (by decide) ?_
  refine wm_istore_n (lv1 := [(3, .int 0), (2, .int 0), (0, .ref (A 0)), (1, .int v1)]) C dX8_sideOf_g0.2.2.2.1 (by decide) rfl ?_
  refine wm_pick [2, 3, 1, 0] rfl ?_
  exact (hl4 FU) _ _ _ _ hf
set_option maxHeartbeats 4000000 in
set_option maxRecDepth 100000 in
theorem c_X8_best {l : Launch} {D : va_G} {cA : Nat → ClassId} {A : Nat → Nat} {Pl : List Nat} (hPl : ∀ q, 0 ≤ q → q < 63 → q ∈ Pl) (v1 : Int32) (M : Mem) (out : (Int32 × Mem)) (ho : f_X8_best v1 M = some out) : CtI l D cA A Pl yX8_best cX8_best 2 108 .int [.ref (A 0), .int v1] M out := by
  refine ct_I (by decide) (Nat.le_of_ble_eq_true rfl) (fun p e s m args below meth c C hrt => ?_)
  have hf := ho
  unfold f_X8_best at hf
  refine wm_iload_n 1 C dX8_best_g0.1 rfl ?_
  refine wm_if_lt (tgt := 10) C dX8_best_g0.2.1 (by decide) (fun c1 => ?_) (fun c1 => ?_)
  · have hf := (if_pos c1).symm.trans hf
    refine wm_ldc (v := (-100000)) C wt_X8_198 dX8_best_g0.2.2.2.2.2.1 ?_
    exact wm_iret C hrt hf dX8_best_g0.2.2.2.2.2.2.1
  · have hf := (if_neg c1).symm.trans hf
    refine wm_iload_n 1 C dX8_best_g0.2.2.1 rfl ?_
    refine wm_bipush (v := 7) C dX8_best_g0.2.2.2.1 (by decide) ?_
    refine wm_icmp_le (tgt := 13) C dX8_best_g0.2.2.2.2.1 (by decide) (fun c2 => ?_) (fun c2 => ?_)
    · have hf := (if_pos c2).symm.trans hf
      refine wm_aload_n 0 C dX8_best_g0.2.2.2.2.2.2.2.1 rfl ?_
      refine wm_get (ci := 7) (k := 8) (v := .ref (A 45)) C (hPl 0 (by decide) (by decide)) rfl rfl (by decide) wt_X8_89 iwX8 rfl dX8_best_g0.2.2.2.2.2.2.2.2.1 ?_
      refine wm_iconst (v := (-1)) C dX8_best_g0.2.2.2.2.2.2.2.2.2.1 (by decide) ?_
      refine wm_iconst (v := (-1)) C dX8_best_g0.2.2.2.2.2.2.2.2.2.2.1 (by decide) ?_
      obtain ⟨o3, ho4, hf⟩ := bnd hf
      refine wm_callVv (As := [.int (-1), .int (-1)]) (ci := 2) C (c_X3_seek hPl _ _ _ _ ho4) mi_X3_seek wt_X8_215 (hPl 45 (by decide) (by decide)) rfl rfl rfl rfl (by decide) (by decide) (Nat.le_of_ble_eq_true rfl) dX8_best_g0.2.2.2.2.2.2.2.2.2.2.2 ?_
      refine wm_iload_n 1 C dX8_best_g1.1 rfl ?_
      by_cases c5 : v1 = 0
      · have hf := (if_pos c5).symm.trans hf
        refine wm_tswI (tgt := 64) (off := 41) C dX8_best_g1.2.1 c5 (by decide) (by decide) (by decide) (by decide) ?_
        refine wm_aload_n 0 C dX8_best_g1.2.2.1 rfl ?_
        refine wm_get (ci := 7) (k := 8) (v := .ref (A 45)) C (hPl 0 (by decide) (by decide)) rfl rfl (by decide) wt_X8_89 iwX8 rfl dX8_best_g1.2.2.2.1 ?_
        refine wm_get (ci := 2) (k := 4) (v := .int (o3 45 4)) C (hPl 45 (by decide) (by decide)) rfl rfl (by decide) wt_X8_219 iwX3 rfl dX8_best_g1.2.2.2.2.1 ?_
        exact wm_iret C hrt hf dX8_best_g1.2.2.2.2.2.1
      · have hf := (if_neg c5).symm.trans hf
        by_cases c6 : v1 = 1
        · have hf := (if_pos c6).symm.trans hf
          refine wm_tswI (tgt := 72) (off := 49) C dX8_best_g1.2.1 c6 (by decide) (by decide) (by decide) (by decide) ?_
          refine wm_aload_n 0 C dX8_best_g1.2.2.2.2.2.2.1 rfl ?_
          refine wm_get (ci := 7) (k := 8) (v := .ref (A 45)) C (hPl 0 (by decide) (by decide)) rfl rfl (by decide) wt_X8_89 iwX8 rfl dX8_best_g1.2.2.2.2.2.2.2.1 ?_
          refine wm_get (ci := 2) (k := 5) (v := .int (o3 45 5)) C (hPl 45 (by decide) (by decide)) rfl rfl (by decide) wt_X8_222 iwX3 rfl dX8_best_g1.2.2.2.2.2.2.2.2.1 ?_
          exact wm_iret C hrt hf dX8_best_g1.2.2.2.2.2.2.2.2.2.1
        · have hf := (if_neg c6).symm.trans hf
          by_cases c7 : v1 = 2
          · have hf := (if_pos c7).symm.trans hf
            refine wm_tswI (tgt := 80) (off := 57) C dX8_best_g1.2.1 c7 (by decide) (by decide) (by decide) (by decide) ?_
            refine wm_aload_n 0 C dX8_best_g1.2.2.2.2.2.2.2.2.2.2.1 rfl ?_
            refine wm_get (ci := 7) (k := 8) (v := .ref (A 45)) C (hPl 0 (by decide) (by decide)) rfl rfl (by decide) wt_X8_89 iwX8 rfl dX8_best_g1.2.2.2.2.2.2.2.2.2.2.2 ?_
            refine wm_get (ci := 2) (k := 6) (v := .int (o3 45 6)) C (hPl 45 (by decide) (by decide)) rfl rfl (by decide) wt_X8_225 iwX3 rfl dX8_best_g2.1 ?_
            exact wm_iret C hrt hf dX8_best_g2.2.1
          · have hf := (if_neg c7).symm.trans hf
            by_cases c8 : v1 = 3
            · have hf := (if_pos c8).symm.trans hf
              refine wm_tswI (tgt := 88) (off := 65) C dX8_best_g1.2.1 c8 (by decide) (by decide) (by decide) (by decide) ?_
              refine wm_aload_n 0 C dX8_best_g2.2.2.1 rfl ?_
              refine wm_get (ci := 7) (k := 8) (v := .ref (A 45)) C (hPl 0 (by decide) (by decide)) rfl rfl (by decide) wt_X8_89 iwX8 rfl dX8_best_g2.2.2.2.1 ?_
              refine wm_get (ci := 2) (k := 7) (v := .int (o3 45 7)) C (hPl 45 (by decide) (by decide)) rfl rfl (by decide) wt_X8_228 iwX3 rfl dX8_best_g2.2.2.2.2.1 ?_
              exact wm_iret C hrt hf dX8_best_g2.2.2.2.2.2.1
            · have hf := (if_neg c8).symm.trans hf
              by_cases c9 : v1 = 4
              · have hf := (if_pos c9).symm.trans hf
                refine wm_tswI (tgt := 96) (off := 73) C dX8_best_g1.2.1 c9 (by decide) (by decide) (by decide) (by decide) ?_
                refine wm_aload_n 0 C dX8_best_g2.2.2.2.2.2.2.1 rfl ?_
                refine wm_get (ci := 7) (k := 8) (v := .ref (A 45)) C (hPl 0 (by decide) (by decide)) rfl rfl (by decide) wt_X8_89 iwX8 rfl dX8_best_g2.2.2.2.2.2.2.2.1 ?_
                refine wm_get (ci := 2) (k := 8) (v := .int (o3 45 8)) C (hPl 45 (by decide) (by decide)) rfl rfl (by decide) wt_X8_231 iwX3 rfl dX8_best_g2.2.2.2.2.2.2.2.2.1 ?_
                exact wm_iret C hrt hf dX8_best_g2.2.2.2.2.2.2.2.2.2.1
              · have hf := (if_neg c9).symm.trans hf
                by_cases c10 : v1 = 5
                · have hf := (if_pos c10).symm.trans hf
                  refine wm_tswI (tgt := 104) (off := 81) C dX8_best_g1.2.1 c10 (by decide) (by decide) (by decide) (by decide) ?_
                  refine wm_aload_n 0 C dX8_best_g2.2.2.2.2.2.2.2.2.2.2.1 rfl ?_
                  refine wm_get (ci := 7) (k := 8) (v := .ref (A 45)) C (hPl 0 (by decide) (by decide)) rfl rfl (by decide) wt_X8_89 iwX8 rfl dX8_best_g2.2.2.2.2.2.2.2.2.2.2.2 ?_
                  refine wm_get (ci := 2) (k := 9) (v := .int (o3 45 9)) C (hPl 45 (by decide) (by decide)) rfl rfl (by decide) wt_X8_234 iwX3 rfl dX8_best_g3.1 ?_
                  exact wm_iret C hrt hf dX8_best_g3.2.1
                · have hf := (if_neg c10).symm.trans hf
                  by_cases c11 : v1 = 6
                  · have hf := (if_pos c11).symm.trans hf
                    refine wm_tswI (tgt := 112) (off := 89) C dX8_best_g1.2.1 c11 (by decide) (by decide) (by decide) (by decide) ?_
                    refine wm_aload_n 0 C dX8_best_g3.2.2.1 rfl ?_
                    refine wm_get (ci := 7) (k := 8) (v := .ref (A 45)) C (hPl 0 (by decide) (by decide)) rfl rfl (by decide) wt_X8_89 iwX8 rfl dX8_best_g3.2.2.2.1 ?_
                    refine wm_get (ci := 2) (k := 10) (v := .int (o3 45 10)) C (hPl 45 (by decide) (by decide)) rfl rfl (by decide) wt_X8_237 iwX3 rfl dX8_best_g3.2.2.2.2.1 ?_
                    exact wm_iret C hrt hf dX8_best_g3.2.2.2.2.2.1
                  · have hf := (if_neg c11).symm.trans hf
                    have nc5 : ¬ (v1).toInt = 0 := lv_neT c5 (by decide)
                    have nc6 : ¬ (v1).toInt = 1 := lv_neT c6 (by decide)
                    have nc7 : ¬ (v1).toInt = 2 := lv_neT c7 (by decide)
                    have nc8 : ¬ (v1).toInt = 3 := lv_neT c8 (by decide)
                    have nc9 : ¬ (v1).toInt = 4 := lv_neT c9 (by decide)
                    have nc10 : ¬ (v1).toInt = 5 := lv_neT c10 (by decide)
                    have nc11 : ¬ (v1).toInt = 6 := lv_neT c11 (by decide)
                    refine wm_tswO (tgt := 120) C dX8_best_g1.2.1 (by omega) (by decide) ?_
                    refine wm_aload_n 0 C dX8_best_g3.2.2.2.2.2.2.1 rfl ?_
                    refine wm_aload_n 0 C dX8_best_g3.2.2.2.2.2.2.2.1 rfl ?_
                    refine wm_get (ci := 7) (k := 8) (v := .ref (A 45)) C (hPl 0 (by decide) (by decide)) rfl rfl (by decide) wt_X8_89 iwX8 rfl dX8_best_g3.2.2.2.2.2.2.2.2.1 ?_
                    refine wm_get (ci := 2) (k := 4) (v := .int (o3 45 4)) C (hPl 45 (by decide) (by decide)) rfl rfl (by decide) wt_X8_219 iwX3 rfl dX8_best_g3.2.2.2.2.2.2.2.2.2.1 ?_
                    obtain ⟨o12, ho13, hf⟩ := bnd hf
                    refine wm_callVi (As := [.int (o3 45 4)]) (ci := 7) C (c_X8_sideOf hPl _ _ _ ho13) mi_X8_sideOf wt_X8_240 (hPl 0 (by decide) (by decide)) rfl rfl rfl rfl (by decide) (by decide) (Nat.le_of_ble_eq_true rfl) dX8_best_g3.2.2.2.2.2.2.2.2.2.2.1 ?_
                    exact wm_iret C hrt hf dX8_best_g3.2.2.2.2.2.2.2.2.2.2.2
    · have hf := (if_neg c2).symm.trans hf
      refine wm_ldc (v := (-100000)) C wt_X8_198 dX8_best_g0.2.2.2.2.2.1 ?_
      exact wm_iret C hrt hf dX8_best_g0.2.2.2.2.2.2.1
set_option maxHeartbeats 4000000 in
set_option maxRecDepth 100000 in
theorem c_X8_leave {l : Launch} {D : va_G} {cA : Nat → ClassId} {A : Nat → Nat} {Pl : List Nat} (hPl : ∀ q, 0 ≤ q → q < 63 → q ∈ Pl) (v1 : Int32) (M : Mem) (out : (Int32 × Mem)) (ho : f_X8_leave v1 M = some out) : CtI l D cA A Pl yX8_leave cX8_leave 5 108 .int [.ref (A 0), .int v1] M out := by
  refine ct_I (by decide) (Nat.le_of_ble_eq_true rfl) (fun p e s m args below meth c C hrt => ?_)
  have hb68 : ∀ (r : Int32 → Int32 → Int32 → Int32 → Mem → Option (Int32 × Mem)) (hr : ∀ (v1 : Int32) (v2 : Int32) (v3 : Int32) (v4 : Int32) (M : Mem), r v1 v2 v3 v4 M = some out → WM p l e (RM 108) s m args below meth c 0 0 (MQ below (QI D cA A Pl out) args s 0 0 (FA A Pl)) D cA A Pl (FA A Pl) 5 M 19 [(0, .ref (A 0)), (1, .int v1), (2, .int v2), (3, .int v3), (4, .int v4)] []) (k74 : Int32 → Int32 → Int32 → Mem → Option (Int32 × Mem)) (hk74 : ∀ (v1 : Int32) (v2 : Int32) (v3 : Int32) (M : Mem), k74 v1 v2 v3 M = some out → WM p l e (RM 108) s m args below meth c 0 0 (MQ below (QI D cA A Pl out) args s 0 0 (FA A Pl)) D cA A Pl (FA A Pl) 5 M 74 [(1, .int v1), (2, .int v2), (3, .int v3)] []), ∀ (v1 : Int32) (v2 : Int32) (v3 : Int32) (v4 : Int32) (M : Mem), f_X8_leave_b68 r k74 v1 v2 v3 v4 M = some out → WM p l e (RM 108) s m args below meth c 0 0 (MQ below (QI D cA A Pl out) args s 0 0 (FA A Pl)) D cA A Pl (FA A Pl) 5 M 68 [(0, .ref (A 0)), (1, .int v1), (2, .int v2), (3, .int v3), (4, .int v4)] [] := by
    intro r hr k74 hk74 v1 v2 v3 v4 M hf
    unfold f_X8_leave_b68 at hf
    refine wm_iinc (lv1 := [(4, .int (v4 + 1)), (0, .ref (A 0)), (1, .int v1), (2, .int v2), (3, .int v3)]) (v := (v4 + 1)) 4 C dX8_leave_g3.2.1 rfl (by first | rfl | decide) (by decide) rfl ?_
    refine wm_goto (tgt := 19) C dX8_leave_g3.2.2.1 (by decide) ?_
    refine wm_pick [1, 2, 3, 4, 0] rfl ?_
    exact hr _ _ _ _ _ hf
  have hb57 : ∀ (r : Int32 → Int32 → Int32 → Int32 → Mem → Option (Int32 × Mem)) (hr : ∀ (v1 : Int32) (v2 : Int32) (v3 : Int32) (v4 : Int32) (M : Mem), r v1 v2 v3 v4 M = some out → WM p l e (RM 108) s m args below meth c 0 0 (MQ below (QI D cA A Pl out) args s 0 0 (FA A Pl)) D cA A Pl (FA A Pl) 5 M 19 [(0, .ref (A 0)), (1, .int v1), (2, .int v2), (3, .int v3), (4, .int v4)] []) (k74 : Int32 → Int32 → Int32 → Mem → Option (Int32 × Mem)) (hk74 : ∀ (v1 : Int32) (v2 : Int32) (v3 : Int32) (M : Mem), k74 v1 v2 v3 M = some out → WM p l e (RM 108) s m args below meth c 0 0 (MQ below (QI D cA A Pl out) args s 0 0 (FA A Pl)) D cA A Pl (FA A Pl) 5 M 74 [(1, .int v1), (2, .int v2), (3, .int v3)] []), ∀ (v1 : Int32) (v4 : Int32) (M : Mem), f_X8_leave_b57 r k74 v1 v4 M = some out → WM p l e (RM 108) s m args below meth c 0 0 (MQ below (QI D cA A Pl out) args s 0 0 (FA A Pl)) D cA A Pl (FA A Pl) 5 M 57 [(0, .ref (A 0)), (1, .int v1), (4, .int v4)] [] := by
    intro r hr k74 hk74 v1 v4 M hf
    unfold f_X8_leave_b57 at hf
    refine wm_iload 2 C dX8_leave_g2.2.2.2.2.2.2.2.1 rfl ?_
    refine wm_istore_n (lv1 := [(2, .int v4), (0, .ref (A 0)), (1, .int v1), (4, .int v4)]) C dX8_leave_g2.2.2.2.2.2.2.2.2.1 (by decide) rfl ?_
    refine wm_aload_n 1 C dX8_leave_g2.2.2.2.2.2.2.2.2.2.1 rfl ?_
    refine wm_get (ci := 7) (k := 8) (v := .ref (A 45)) C (hPl 0 (by decide) (by decide)) rfl rfl (by decide) wt_X8_89 iwX8 rfl dX8_leave_g2.2.2.2.2.2.2.2.2.2.2.1 ?_
    refine wm_get (ci := 2) (k := 5) (v := .int (M 45 5)) C (hPl 45 (by decide) (by decide)) rfl rfl (by decide) wt_X8_222 iwX3 rfl dX8_leave_g2.2.2.2.2.2.2.2.2.2.2.2 ?_
    refine wm_istore_n (lv1 := [(3, .int (M 45 5)), (2, .int v4), (0, .ref (A 0)), (1, .int v1), (4, .int v4)]) C dX8_leave_g3.1 (by decide) rfl ?_
    refine wm_pick [2, 3, 1, 0, 4] rfl ?_
    exact (hb68 _ hr _ hk74) _ _ _ _ _ hf
  have hl19 : ∀ (k74 : Int32 → Int32 → Int32 → Mem → Option (Int32 × Mem)) (hk74 : ∀ (v1 : Int32) (v2 : Int32) (v3 : Int32) (M : Mem), k74 v1 v2 v3 M = some out → WM p l e (RM 108) s m args below meth c 0 0 (MQ below (QI D cA A Pl out) args s 0 0 (FA A Pl)) D cA A Pl (FA A Pl) 5 M 74 [(1, .int v1), (2, .int v2), (3, .int v3)] []) (n : Nat), ∀ (v1 : Int32) (v2 : Int32) (v3 : Int32) (v4 : Int32) (M : Mem), f_X8_leave_l19 k74 n v1 v2 v3 v4 M = some out → WM p l e (RM 108) s m args below meth c 0 0 (MQ below (QI D cA A Pl out) args s 0 0 (FA A Pl)) D cA A Pl (FA A Pl) 5 M 19 [(0, .ref (A 0)), (1, .int v1), (2, .int v2), (3, .int v3), (4, .int v4)] [] := by
    intro k74 hk74 n
    induction n with
    | zero => intro v1 v2 v3 v4 M hf; rw [f_X8_leave_l19] at hf; cases hf
    | succ n hr =>
      intro v1 v2 v3 v4 M hf
      rw [f_X8_leave_l19] at hf
      refine wm_iload 4 C dX8_leave_g1.2.1 rfl ?_
      refine wm_aload_n 0 C dX8_leave_g1.2.2.1 rfl ?_
      refine wm_get (ci := 7) (k := 0) (v := .ref (A 1)) C (hPl 0 (by decide) (by decide)) rfl rfl (by decide) wt_X8_10 iwX8 rfl dX8_leave_g1.2.2.2.1 ?_
      refine wm_get (ci := 1) (k := 6) (v := .int (M 1 6)) C (hPl 1 (by decide) (by decide)) rfl rfl (by decide) wt_X8_209 iwX1 rfl dX8_leave_g1.2.2.2.2.1 ?_
      refine wm_icmp_ge (tgt := 74) C dX8_leave_g1.2.2.2.2.2.1 (by decide) (fun c4 => ?_) (fun c4 => ?_)
      · have hf := (if_pos c4).symm.trans hf
        refine wm_pick [1, 2, 3] rfl ?_
        exact hk74 _ _ _ _ hf
      · have hf := (if_neg c4).symm.trans hf
        refine wm_aload_n 0 C dX8_leave_g1.2.2.2.2.2.2.1 rfl ?_
        refine wm_get (ci := 7) (k := 8) (v := .ref (A 45)) C (hPl 0 (by decide) (by decide)) rfl rfl (by decide) wt_X8_89 iwX8 rfl dX8_leave_g1.2.2.2.2.2.2.2.1 ?_
        refine wm_iload 4 C dX8_leave_g1.2.2.2.2.2.2.2.2.1 rfl ?_
        refine wm_iconst (v := (-1)) C dX8_leave_g1.2.2.2.2.2.2.2.2.2.1 (by decide) ?_
        obtain ⟨o5, ho6, hf⟩ := bnd hf
        refine wm_callVv (As := [.int v4, .int (-1)]) (ci := 2) C (c_X3_seek hPl _ _ _ _ ho6) mi_X3_seek wt_X8_215 (hPl 45 (by decide) (by decide)) rfl rfl rfl rfl (by decide) (by decide) (Nat.le_of_ble_eq_true rfl) dX8_leave_g1.2.2.2.2.2.2.2.2.2.2.1 ?_
        refine wm_iload_n 2 C dX8_leave_g1.2.2.2.2.2.2.2.2.2.2.2 rfl ?_
        refine wm_iconst (v := (-1)) C dX8_leave_g2.1 (by decide) ?_
        refine wm_icmp_eq (tgt := 57) C dX8_leave_g2.2.1 (by decide) (fun c7 => ?_) (fun c7 => ?_)
        · have hf := (if_pos c7).symm.trans hf
          refine wm_pick [0, 1, 4] rfl ?_
          exact (hb57 _ hr _ hk74) _ _ _ hf
        · have hf := (if_neg c7).symm.trans hf
          refine wm_aload_n 0 C dX8_leave_g2.2.2.1 rfl ?_
          refine wm_get (ci := 7) (k := 8) (v := .ref (A 45)) C (hPl 0 (by decide) (by decide)) rfl rfl (by decide) wt_X8_89 iwX8 rfl dX8_leave_g2.2.2.2.1 ?_
          refine wm_get (ci := 2) (k := 5) (v := .int (o5 45 5)) C (hPl 45 (by decide) (by decide)) rfl rfl (by decide) wt_X8_222 iwX3 rfl dX8_leave_g2.2.2.2.2.1 ?_
          refine wm_iload_n 3 C dX8_leave_g2.2.2.2.2.2.1 rfl ?_
          refine wm_icmp_le (tgt := 68) C dX8_leave_g2.2.2.2.2.2.2.1 (by decide) (fun c8 => ?_) (fun c8 => ?_)
          · have hf := (if_pos c8).symm.trans hf
            exact (hb68 _ hr _ hk74) _ _ _ _ _ hf
          · have hf := (if_neg c8).symm.trans hf
            refine wm_pick [0, 1, 4] rfl ?_
            exact (hb57 _ hr _ hk74) _ _ _ hf
  have hb74 : ∀ (v1 : Int32) (v2 : Int32) (v3 : Int32) (M : Mem), f_X8_leave_b74 v1 v2 v3 M = some out → WM p l e (RM 108) s m args below meth c 0 0 (MQ below (QI D cA A Pl out) args s 0 0 (FA A Pl)) D cA A Pl (FA A Pl) 5 M 74 [(1, .int v1), (2, .int v2), (3, .int v3)] [] := by
    intro v1 v2 v3 M hf
    unfold f_X8_leave_b74 at hf
    refine wm_iload_n 0 C dX8_leave_g3.2.2.2.1 rfl ?_
    refine wm_if_ne (tgt := 82) C dX8_leave_g3.2.2.2.2.1 (by decide) (fun c3 => ?_) (fun c3 => ?_)
    · have hf := (if_neg c3).symm.trans hf
      refine wm_iload_n 2 C dX8_leave_g3.2.2.2.2.2.2.2.1 rfl ?_
      exact wm_iret C hrt hf dX8_leave_g3.2.2.2.2.2.2.2.2
    · have hf := (if_pos c3).symm.trans hf
      refine wm_iload_n 1 C dX8_leave_g3.2.2.2.2.2.1 rfl ?_
      refine wm_goto (tgt := 83) C dX8_leave_g3.2.2.2.2.2.2.1 (by decide) ?_
      exact wm_iret C hrt hf dX8_leave_g3.2.2.2.2.2.2.2.2
  have hf := ho
  unfold f_X8_leave at hf
  refine wm_iload_n 1 C dX8_leave_g0.1 rfl ?_
  refine wm_if_lt (tgt := 9) C dX8_leave_g0.2.1 (by decide) (fun c1 => ?_) (fun c1 => ?_)
  · have hf := (if_pos c1).symm.trans hf
    refine wm_ldc (v := (-100000)) C wt_X8_198 dX8_leave_g0.2.2.2.2.2.1 ?_
    exact wm_iret C hrt hf dX8_leave_g0.2.2.2.2.2.2.1
  · have hf := (if_neg c1).symm.trans hf
    refine wm_iload_n 1 C dX8_leave_g0.2.2.1 rfl ?_
    refine wm_iconst (v := 1) C dX8_leave_g0.2.2.2.1 (by decide) ?_
    refine wm_icmp_le (tgt := 12) C dX8_leave_g0.2.2.2.2.1 (by decide) (fun c2 => ?_) (fun c2 => ?_)
    · have hf := (if_pos c2).symm.trans hf
      refine wm_iconst (v := (-1)) C dX8_leave_g0.2.2.2.2.2.2.2.1 (by decide) ?_
      refine wm_istore_n (lv1 := [(2, .int (-1)), (0, .ref (A 0)), (1, .int v1)]) C dX8_leave_g0.2.2.2.2.2.2.2.2.1 (by decide) rfl ?_
      refine wm_iconst (v := 0) C dX8_leave_g0.2.2.2.2.2.2.2.2.2.1 (by decide) ?_
      refine wm_istore_n (lv1 := [(3, .int 0), (2, .int (-1)), (0, .ref (A 0)), (1, .int v1)]) C dX8_leave_g0.2.2.2.2.2.2.2.2.2.2.1 (by decide) rfl ?_
      refine wm_iconst (v := 0) C dX8_leave_g0.2.2.2.2.2.2.2.2.2.2.2 (by decide) ?_
      refine wm_istore (lv1 := [(4, .int 0), (3, .int 0), (2, .int (-1)), (0, .ref (A 0)), (1, .int v1)]) C dX8_leave_g1.1 (by decide) rfl ?_
      refine wm_pick [3, 4, 2, 1, 0] rfl ?_
      exact (hl19 _ hb74 FU) _ _ _ _ _ hf
    · have hf := (if_neg c2).symm.trans hf
      refine wm_ldc (v := (-100000)) C wt_X8_198 dX8_leave_g0.2.2.2.2.2.1 ?_
      exact wm_iret C hrt hf dX8_leave_g0.2.2.2.2.2.2.1
set_option maxHeartbeats 4000000 in
set_option maxRecDepth 100000 in
theorem c_X8_buy {l : Launch} {D : va_G} {cA : Nat → ClassId} {A : Nat → Nat} {Pl : List Nat} (hPl : ∀ q, 0 ≤ q → q < 63 → q ∈ Pl) (v1 : Int32) (v2 : Int32) (M : Mem) (out : (Int32 × Mem)) (ho : f_X8_buy v1 v2 M = some out) : CtI l D cA A Pl yX8_buy cX8_buy 6 108 .int [.ref (A 0), .int v1, .int v2] M out := by
  refine ct_I (by decide) (Nat.le_of_ble_eq_true rfl) (fun p e s m args below meth c C hrt => ?_)
  have hb78 : ∀ (r : Int32 → Int32 → Int32 → Int32 → Int32 → Mem → Option (Int32 × Mem)) (hr : ∀ (v1 : Int32) (v2 : Int32) (v3 : Int32) (v4 : Int32) (v5 : Int32) (M : Mem), r v1 v2 v3 v4 v5 M = some out → WM p l e (RM 108) s m args below meth c 0 0 (MQ below (QI D cA A Pl out) args s 0 0 (FA A Pl)) D cA A Pl (FA A Pl) 6 M 27 [(0, .ref (A 0)), (1, .int v1), (2, .int v2), (3, .int v3), (4, .int v4), (5, .int v5)] []) (k84 : Int32 → Int32 → Int32 → Mem → Option (Int32 × Mem)) (hk84 : ∀ (v2 : Int32) (v3 : Int32) (v4 : Int32) (M : Mem), k84 v2 v3 v4 M = some out → WM p l e (RM 108) s m args below meth c 0 0 (MQ below (QI D cA A Pl out) args s 0 0 (FA A Pl)) D cA A Pl (FA A Pl) 6 M 84 [(2, .int v2), (3, .int v3), (4, .int v4)] []), ∀ (v1 : Int32) (v2 : Int32) (v3 : Int32) (v4 : Int32) (v5 : Int32) (M : Mem), f_X8_buy_b78 r k84 v1 v2 v3 v4 v5 M = some out → WM p l e (RM 108) s m args below meth c 0 0 (MQ below (QI D cA A Pl out) args s 0 0 (FA A Pl)) D cA A Pl (FA A Pl) 6 M 78 [(0, .ref (A 0)), (1, .int v1), (2, .int v2), (3, .int v3), (4, .int v4), (5, .int v5)] [] := by
    intro r hr k84 hk84 v1 v2 v3 v4 v5 M hf
    unfold f_X8_buy_b78 at hf
    refine wm_iinc (lv1 := [(5, .int (v5 + 1)), (0, .ref (A 0)), (1, .int v1), (2, .int v2), (3, .int v3), (4, .int v4)]) (v := (v5 + 1)) 5 C dX8_buy_g3.2.2.2.2.2.2.1 rfl (by first | rfl | decide) (by decide) rfl ?_
    refine wm_goto (tgt := 27) C dX8_buy_g3.2.2.2.2.2.2.2.1 (by decide) ?_
    refine wm_pick [1, 2, 3, 4, 5, 0] rfl ?_
    exact hr _ _ _ _ _ _ hf
  have hb66 : ∀ (r : Int32 → Int32 → Int32 → Int32 → Int32 → Mem → Option (Int32 × Mem)) (hr : ∀ (v1 : Int32) (v2 : Int32) (v3 : Int32) (v4 : Int32) (v5 : Int32) (M : Mem), r v1 v2 v3 v4 v5 M = some out → WM p l e (RM 108) s m args below meth c 0 0 (MQ below (QI D cA A Pl out) args s 0 0 (FA A Pl)) D cA A Pl (FA A Pl) 6 M 27 [(0, .ref (A 0)), (1, .int v1), (2, .int v2), (3, .int v3), (4, .int v4), (5, .int v5)] []) (k84 : Int32 → Int32 → Int32 → Mem → Option (Int32 × Mem)) (hk84 : ∀ (v2 : Int32) (v3 : Int32) (v4 : Int32) (M : Mem), k84 v2 v3 v4 M = some out → WM p l e (RM 108) s m args below meth c 0 0 (MQ below (QI D cA A Pl out) args s 0 0 (FA A Pl)) D cA A Pl (FA A Pl) 6 M 84 [(2, .int v2), (3, .int v3), (4, .int v4)] []), ∀ (v1 : Int32) (v2 : Int32) (v5 : Int32) (M : Mem), f_X8_buy_b66 r k84 v1 v2 v5 M = some out → WM p l e (RM 108) s m args below meth c 0 0 (MQ below (QI D cA A Pl out) args s 0 0 (FA A Pl)) D cA A Pl (FA A Pl) 6 M 66 [(0, .ref (A 0)), (1, .int v1), (2, .int v2), (5, .int v5)] [] := by
    intro r hr k84 hk84 v1 v2 v5 M hf
    unfold f_X8_buy_b66 at hf
    refine wm_iload 3 C dX8_buy_g3.1 rfl ?_
    refine wm_istore_n (lv1 := [(3, .int v5), (0, .ref (A 0)), (1, .int v1), (2, .int v2), (5, .int v5)]) C dX8_buy_g3.2.1 (by decide) rfl ?_
    refine wm_aload_n 1 C dX8_buy_g3.2.2.1 rfl ?_
    refine wm_get (ci := 7) (k := 8) (v := .ref (A 45)) C (hPl 0 (by decide) (by decide)) rfl rfl (by decide) wt_X8_89 iwX8 rfl dX8_buy_g3.2.2.2.1 ?_
    refine wm_get (ci := 2) (k := 5) (v := .int (M 45 5)) C (hPl 45 (by decide) (by decide)) rfl rfl (by decide) wt_X8_222 iwX3 rfl dX8_buy_g3.2.2.2.2.1 ?_
    refine wm_istore (lv1 := [(4, .int (M 45 5)), (3, .int v5), (0, .ref (A 0)), (1, .int v1), (2, .int v2), (5, .int v5)]) C dX8_buy_g3.2.2.2.2.2.1 (by decide) rfl ?_
    refine wm_pick [2, 3, 4, 1, 0, 5] rfl ?_
    exact (hb78 _ hr _ hk84) _ _ _ _ _ _ hf
  have hl27 : ∀ (k84 : Int32 → Int32 → Int32 → Mem → Option (Int32 × Mem)) (hk84 : ∀ (v2 : Int32) (v3 : Int32) (v4 : Int32) (M : Mem), k84 v2 v3 v4 M = some out → WM p l e (RM 108) s m args below meth c 0 0 (MQ below (QI D cA A Pl out) args s 0 0 (FA A Pl)) D cA A Pl (FA A Pl) 6 M 84 [(2, .int v2), (3, .int v3), (4, .int v4)] []) (n : Nat), ∀ (v1 : Int32) (v2 : Int32) (v3 : Int32) (v4 : Int32) (v5 : Int32) (M : Mem), f_X8_buy_l27 k84 n v1 v2 v3 v4 v5 M = some out → WM p l e (RM 108) s m args below meth c 0 0 (MQ below (QI D cA A Pl out) args s 0 0 (FA A Pl)) D cA A Pl (FA A Pl) 6 M 27 [(0, .ref (A 0)), (1, .int v1), (2, .int v2), (3, .int v3), (4, .int v4), (5, .int v5)] [] := by
    intro k84 hk84 n
    induction n with
    | zero => intro v1 v2 v3 v4 v5 M hf; rw [f_X8_buy_l27] at hf; cases hf
    | succ n hr =>
      intro v1 v2 v3 v4 v5 M hf
      rw [f_X8_buy_l27] at hf
      refine wm_iload 5 C dX8_buy_g1.2.2.2.2.1 rfl ?_
      refine wm_bipush (v := 6) C dX8_buy_g1.2.2.2.2.2.1 (by decide) ?_
      refine wm_icmp_ge (tgt := 84) C dX8_buy_g1.2.2.2.2.2.2.1 (by decide) (fun c6 => ?_) (fun c6 => ?_)
      · have hf := (if_pos c6).symm.trans hf
        refine wm_pick [2, 3, 4] rfl ?_
        exact hk84 _ _ _ _ hf
      · have hf := (if_neg c6).symm.trans hf
        refine wm_aload_n 0 C dX8_buy_g1.2.2.2.2.2.2.2.1 rfl ?_
        refine wm_get (ci := 7) (k := 8) (v := .ref (A 45)) C (hPl 0 (by decide) (by decide)) rfl rfl (by decide) wt_X8_89 iwX8 rfl dX8_buy_g1.2.2.2.2.2.2.2.2.1 ?_
        refine wm_iconst (v := (-1)) C dX8_buy_g1.2.2.2.2.2.2.2.2.2.1 (by decide) ?_
        refine wm_iload_n 1 C dX8_buy_g1.2.2.2.2.2.2.2.2.2.2.1 rfl ?_
        refine wm_bipush (v := 6) C dX8_buy_g1.2.2.2.2.2.2.2.2.2.2.2 (by decide) ?_
        refine wm_imul C dX8_buy_g2.1 ?_
        refine wm_iload 5 C dX8_buy_g2.2.1 rfl ?_
        refine wm_iadd C dX8_buy_g2.2.2.1 ?_
        obtain ⟨o7, ho8, hf⟩ := bnd hf
        refine wm_callVv (As := [.int (-1), .int ((v1 * 6) + v5)]) (ci := 2) C (c_X3_seek hPl _ _ _ _ ho8) mi_X3_seek wt_X8_215 (hPl 45 (by decide) (by decide)) rfl rfl rfl rfl (by decide) (by decide) (Nat.le_of_ble_eq_true rfl) dX8_buy_g2.2.2.2.1 ?_
        refine wm_iload_n 3 C dX8_buy_g2.2.2.2.2.1 rfl ?_
        refine wm_iconst (v := (-1)) C dX8_buy_g2.2.2.2.2.2.1 (by decide) ?_
        refine wm_icmp_eq (tgt := 66) C dX8_buy_g2.2.2.2.2.2.2.1 (by decide) (fun c9 => ?_) (fun c9 => ?_)
        · have hf := (if_pos c9).symm.trans hf
          refine wm_pick [0, 1, 2, 5] rfl ?_
          exact (hb66 _ hr _ hk84) _ _ _ _ hf
        · have hf := (if_neg c9).symm.trans hf
          refine wm_aload_n 0 C dX8_buy_g2.2.2.2.2.2.2.2.1 rfl ?_
          refine wm_get (ci := 7) (k := 8) (v := .ref (A 45)) C (hPl 0 (by decide) (by decide)) rfl rfl (by decide) wt_X8_89 iwX8 rfl dX8_buy_g2.2.2.2.2.2.2.2.2.1 ?_
          refine wm_get (ci := 2) (k := 5) (v := .int (o7 45 5)) C (hPl 45 (by decide) (by decide)) rfl rfl (by decide) wt_X8_222 iwX3 rfl dX8_buy_g2.2.2.2.2.2.2.2.2.2.1 ?_
          refine wm_iload 4 C dX8_buy_g2.2.2.2.2.2.2.2.2.2.2.1 rfl ?_
          refine wm_icmp_le (tgt := 78) C dX8_buy_g2.2.2.2.2.2.2.2.2.2.2.2 (by decide) (fun c10 => ?_) (fun c10 => ?_)
          · have hf := (if_pos c10).symm.trans hf
            exact (hb78 _ hr _ hk84) _ _ _ _ _ _ hf
          · have hf := (if_neg c10).symm.trans hf
            refine wm_pick [0, 1, 2, 5] rfl ?_
            exact (hb66 _ hr _ hk84) _ _ _ _ hf
  have hb84 : ∀ (v2 : Int32) (v3 : Int32) (v4 : Int32) (M : Mem), f_X8_buy_b84 v2 v3 v4 M = some out → WM p l e (RM 108) s m args below meth c 0 0 (MQ below (QI D cA A Pl out) args s 0 0 (FA A Pl)) D cA A Pl (FA A Pl) 6 M 84 [(2, .int v2), (3, .int v3), (4, .int v4)] [] := by
    intro v2 v3 v4 M hf
    unfold f_X8_buy_b84 at hf
    refine wm_iload_n 0 C dX8_buy_g3.2.2.2.2.2.2.2.2.1 rfl ?_
    refine wm_if_ne (tgt := 92) C dX8_buy_g3.2.2.2.2.2.2.2.2.2.1 (by decide) (fun c11 => ?_) (fun c11 => ?_)
    · have hf := (if_neg c11).symm.trans hf
      refine wm_iload 2 C dX8_buy_g4.1 rfl ?_
      exact wm_iret C hrt hf dX8_buy_g4.2
    · have hf := (if_pos c11).symm.trans hf
      refine wm_iload_n 1 C dX8_buy_g3.2.2.2.2.2.2.2.2.2.2.1 rfl ?_
      refine wm_goto (tgt := 94) C dX8_buy_g3.2.2.2.2.2.2.2.2.2.2.2 (by decide) ?_
      exact wm_iret C hrt hf dX8_buy_g4.2
  have hf := ho
  unfold f_X8_buy at hf
  refine wm_iload_n 1 C dX8_buy_g0.1 rfl ?_
  obtain ⟨o1, ho2, hf⟩ := bnd hf
  refine wm_callSi (As := [.int v1]) C (c_X8_isKitchen hPl _ _ _ ho2) mi_X8_isKitchen wt_X8_128 rfl rfl (by decide) (by decide) (Nat.le_of_ble_eq_true rfl) dX8_buy_g0.2.1 ?_
  refine wm_if_eq (tgt := 16) C dX8_buy_g0.2.2.1 (by decide) (fun c3 => ?_) (fun c3 => ?_)
  · have hf := (if_pos c3).symm.trans hf
    refine wm_ldc (v := (-100000)) C wt_X8_198 dX8_buy_g0.2.2.2.2.2.2.2.2.1 ?_
    exact wm_iret C hrt hf dX8_buy_g0.2.2.2.2.2.2.2.2.2.1
  · have hf := (if_neg c3).symm.trans hf
    refine wm_iload_n 2 C dX8_buy_g0.2.2.2.1 rfl ?_
    refine wm_if_lt (tgt := 16) C dX8_buy_g0.2.2.2.2.1 (by decide) (fun c4 => ?_) (fun c4 => ?_)
    · have hf := (if_pos c4).symm.trans hf
      refine wm_ldc (v := (-100000)) C wt_X8_198 dX8_buy_g0.2.2.2.2.2.2.2.2.1 ?_
      exact wm_iret C hrt hf dX8_buy_g0.2.2.2.2.2.2.2.2.2.1
    · have hf := (if_neg c4).symm.trans hf
      refine wm_iload_n 2 C dX8_buy_g0.2.2.2.2.2.1 rfl ?_
      refine wm_iconst (v := 1) C dX8_buy_g0.2.2.2.2.2.2.1 (by decide) ?_
      refine wm_icmp_le (tgt := 19) C dX8_buy_g0.2.2.2.2.2.2.2.1 (by decide) (fun c5 => ?_) (fun c5 => ?_)
      · have hf := (if_pos c5).symm.trans hf
        refine wm_iconst (v := (-1)) C dX8_buy_g0.2.2.2.2.2.2.2.2.2.2.1 (by decide) ?_
        refine wm_istore_n (lv1 := [(3, .int (-1)), (0, .ref (A 0)), (1, .int v1), (2, .int v2)]) C dX8_buy_g0.2.2.2.2.2.2.2.2.2.2.2 (by decide) rfl ?_
        refine wm_iconst (v := 0) C dX8_buy_g1.1 (by decide) ?_
        refine wm_istore (lv1 := [(4, .int 0), (3, .int (-1)), (0, .ref (A 0)), (1, .int v1), (2, .int v2)]) C dX8_buy_g1.2.1 (by decide) rfl ?_
        refine wm_iconst (v := 0) C dX8_buy_g1.2.2.1 (by decide) ?_
        refine wm_istore (lv1 := [(5, .int 0), (4, .int 0), (3, .int (-1)), (0, .ref (A 0)), (1, .int v1), (2, .int v2)]) C dX8_buy_g1.2.2.2.1 (by decide) rfl ?_
        refine wm_pick [3, 4, 5, 2, 1, 0] rfl ?_
        exact (hl27 _ hb84 FU) _ _ _ _ _ _ hf
      · have hf := (if_neg c5).symm.trans hf
        refine wm_ldc (v := (-100000)) C wt_X8_198 dX8_buy_g0.2.2.2.2.2.2.2.2.1 ?_
        exact wm_iret C hrt hf dX8_buy_g0.2.2.2.2.2.2.2.2.2.1
set_option maxHeartbeats 4000000 in
set_option maxRecDepth 100000 in
theorem c_X8_lowestTerms {l : Launch} {D : va_G} {cA : Nat → ClassId} {A : Nat → Nat} {Pl : List Nat} (hPl : ∀ q, 0 ≤ q → q < 63 → q ∈ Pl) (v0 : Int32) (v1 : Int32) (v2 : Int32) (M : Mem) (out : (Int64 × Mem)) (ho : f_X8_lowestTerms v0 v1 v2 M = some out) : CtL l D cA A Pl yX8_lowestTerms cX8_lowestTerms 7 1 [.int v0, .int v1, .int v2] M out := by
  refine ct_L (by decide) (Nat.le_of_ble_eq_true rfl) (fun p e s m args below meth c C hrt => ?_)
  have hl8 : ∀ (k39 : Int32 → Int32 → Int32 → Int32 → Mem → Option (Int64 × Mem)) (hk39 : ∀ (v0 : Int32) (v1 : Int32) (v2 : Int32) (v3 : Int32) (M : Mem), k39 v0 v1 v2 v3 M = some out → WM p l e (RM 1) s m args below meth c 0 0 (MQ below (QL D cA A Pl out) args s 0 0 (FA A Pl)) D cA A Pl (FA A Pl) 7 M 39 [(0, .int v0), (1, .int v1), (2, .int v2), (3, .int v3)] []) (n : Nat), ∀ (v0 : Int32) (v1 : Int32) (v2 : Int32) (v3 : Int32) (v4 : Int32) (v5 : Int32) (M : Mem), f_X8_lowestTerms_l8 k39 n v0 v1 v2 v3 v4 v5 M = some out → WM p l e (RM 1) s m args below meth c 0 0 (MQ below (QL D cA A Pl out) args s 0 0 (FA A Pl)) D cA A Pl (FA A Pl) 7 M 8 [(0, .int v0), (1, .int v1), (2, .int v2), (3, .int v3), (4, .int v4), (5, .int v5)] [] := by
    intro k39 hk39 n
    induction n with
    | zero => intro v0 v1 v2 v3 v4 v5 M hf; rw [f_X8_lowestTerms_l8] at hf; cases hf
    | succ n hr =>
      intro v0 v1 v2 v3 v4 v5 M hf
      rw [f_X8_lowestTerms_l8] at hf
      refine wm_iload 5 C dX8_lowestTerms_g0.2.2.2.2.2.2.1 rfl ?_
      refine wm_bipush (v := 64) C dX8_lowestTerms_g0.2.2.2.2.2.2.2.1 (by decide) ?_
      refine wm_icmp_ge (tgt := 39) C dX8_lowestTerms_g0.2.2.2.2.2.2.2.2.1 (by decide) (fun c1 => ?_) (fun c1 => ?_)
      · have hf := (if_pos c1).symm.trans hf
        refine wm_pick [0, 1, 2, 3] rfl ?_
        exact hk39 _ _ _ _ _ hf
      · have hf := (if_neg c1).symm.trans hf
        refine wm_iload 4 C dX8_lowestTerms_g0.2.2.2.2.2.2.2.2.2.1 rfl ?_
        refine wm_if_eq (tgt := 39) C dX8_lowestTerms_g0.2.2.2.2.2.2.2.2.2.2.1 (by decide) (fun c2 => ?_) (fun c2 => ?_)
        · have hf := (if_pos c2).symm.trans hf
          refine wm_pick [0, 1, 2, 3] rfl ?_
          exact hk39 _ _ _ _ _ hf
        · have hf := (if_neg c2).symm.trans hf
          refine wm_iload_n 3 C dX8_lowestTerms_g0.2.2.2.2.2.2.2.2.2.2.2 rfl ?_
          refine wm_iload 4 C dX8_lowestTerms_g1.1 rfl ?_
          obtain ⟨h3, hf⟩ := ckd hf
          refine wm_irem C (nz0 h3) dX8_lowestTerms_g1.2.1 ?_
          refine wm_istore (lv1 := [(6, .int (jrem v3 v4)), (0, .int v0), (1, .int v1), (2, .int v2), (3, .int v3), (4, .int v4), (5, .int v5)]) C dX8_lowestTerms_g1.2.2.1 (by decide) rfl ?_
          refine wm_iload 5 C dX8_lowestTerms_g1.2.2.2.1 rfl ?_
          refine wm_istore_n (lv1 := [(3, .int v4), (6, .int (jrem v3 v4)), (0, .int v0), (1, .int v1), (2, .int v2), (4, .int v4), (5, .int v5)]) C dX8_lowestTerms_g1.2.2.2.2.1 (by decide) rfl ?_
          refine wm_iload 1 C dX8_lowestTerms_g1.2.2.2.2.2.1 rfl ?_
          refine wm_istore (lv1 := [(4, .int (jrem v3 v4)), (3, .int v4), (6, .int (jrem v3 v4)), (0, .int v0), (1, .int v1), (2, .int v2), (5, .int v5)]) C dX8_lowestTerms_g1.2.2.2.2.2.2.1 (by decide) rfl ?_
          refine wm_iinc (lv1 := [(5, .int (v5 + 1)), (4, .int (jrem v3 v4)), (3, .int v4), (6, .int (jrem v3 v4)), (0, .int v0), (1, .int v1), (2, .int v2)]) (v := (v5 + 1)) 6 C dX8_lowestTerms_g1.2.2.2.2.2.2.2.1 rfl (by first | rfl | decide) (by decide) rfl ?_
          refine wm_goto (tgt := 8) C dX8_lowestTerms_g1.2.2.2.2.2.2.2.2.1 (by decide) ?_
          refine wm_pick [4, 5, 6, 2, 1, 0] rfl ?_
          exact hr _ _ _ _ _ _ _ hf
  have hb39 : ∀ (v0 : Int32) (v1 : Int32) (v2 : Int32) (v3 : Int32) (M : Mem), f_X8_lowestTerms_b39 v0 v1 v2 v3 M = some out → WM p l e (RM 1) s m args below meth c 0 0 (MQ below (QL D cA A Pl out) args s 0 0 (FA A Pl)) D cA A Pl (FA A Pl) 7 M 39 [(0, .int v0), (1, .int v1), (2, .int v2), (3, .int v3)] [] := by
    intro v0 v1 v2 v3 M hf
    unfold f_X8_lowestTerms_b39 at hf
    refine wm_iload_n 1 C dX8_lowestTerms_g1.2.2.2.2.2.2.2.2.2.1 rfl ?_
    refine wm_if_eq (tgt := 47) C dX8_lowestTerms_g1.2.2.2.2.2.2.2.2.2.2.1 (by decide) (fun c4 => ?_) (fun c4 => ?_)
    · have hf := (if_pos c4).symm.trans hf
      refine wm_ldc2 (v := (-4611686018427387904)) C wt_X8_243 dX8_lowestTerms_g2.2.1 ?_
      exact wm_lret C hrt hf dX8_lowestTerms_g2.2.2.1
    · have hf := (if_neg c4).symm.trans hf
      refine wm_iload_n 3 C dX8_lowestTerms_g1.2.2.2.2.2.2.2.2.2.2.2 rfl ?_
      refine wm_if_ne (tgt := 51) C dX8_lowestTerms_g2.1 (by decide) (fun c5 => ?_) (fun c5 => ?_)
      · have hf := (if_neg c5).symm.trans hf
        refine wm_iload_n 2 C dX8_lowestTerms_g2.2.2.2.1 rfl ?_
        refine wm_if_ne (tgt := 59) C dX8_lowestTerms_g2.2.2.2.2.1 (by decide) (fun c6 => ?_) (fun c6 => ?_)
        · have hf := (if_neg c6).symm.trans hf
          refine wm_iload_n 1 C dX8_lowestTerms_g2.2.2.2.2.2.2.2.1 rfl ?_
          refine wm_iload_n 3 C dX8_lowestTerms_g2.2.2.2.2.2.2.2.2.1 rfl ?_
          obtain ⟨h7, hf⟩ := ckd hf
          refine wm_idiv C (nz0 h7) dX8_lowestTerms_g2.2.2.2.2.2.2.2.2.2.1 ?_
          refine wm_i2l C dX8_lowestTerms_g2.2.2.2.2.2.2.2.2.2.2.1 ?_
          exact wm_lret C hrt hf dX8_lowestTerms_g2.2.2.2.2.2.2.2.2.2.2.2
        · have hf := (if_pos c6).symm.trans hf
          refine wm_iload_n 0 C dX8_lowestTerms_g2.2.2.2.2.2.1 rfl ?_
          refine wm_goto (tgt := 60) C dX8_lowestTerms_g2.2.2.2.2.2.2.1 (by decide) ?_
          refine wm_iload_n 3 C dX8_lowestTerms_g2.2.2.2.2.2.2.2.2.1 rfl ?_
          obtain ⟨h8, hf⟩ := ckd hf
          refine wm_idiv C (nz0 h8) dX8_lowestTerms_g2.2.2.2.2.2.2.2.2.2.1 ?_
          refine wm_i2l C dX8_lowestTerms_g2.2.2.2.2.2.2.2.2.2.2.1 ?_
          exact wm_lret C hrt hf dX8_lowestTerms_g2.2.2.2.2.2.2.2.2.2.2.2
      · have hf := (if_pos c5).symm.trans hf
        refine wm_ldc2 (v := (-4611686018427387904)) C wt_X8_243 dX8_lowestTerms_g2.2.1 ?_
        exact wm_lret C hrt hf dX8_lowestTerms_g2.2.2.1
  have hf := ho
  unfold f_X8_lowestTerms at hf
  refine wm_iload_n 0 C dX8_lowestTerms_g0.1 rfl ?_
  refine wm_istore_n (lv1 := [(3, .int v0), (0, .int v0), (1, .int v1), (2, .int v2)]) C dX8_lowestTerms_g0.2.1 (by decide) rfl ?_
  refine wm_iload_n 2 C dX8_lowestTerms_g0.2.2.1 rfl ?_
  refine wm_istore (lv1 := [(4, .int v1), (3, .int v0), (0, .int v0), (1, .int v1), (2, .int v2)]) C dX8_lowestTerms_g0.2.2.2.1 (by decide) rfl ?_
  refine wm_iconst (v := 0) C dX8_lowestTerms_g0.2.2.2.2.1 (by decide) ?_
  refine wm_istore (lv1 := [(5, .int 0), (4, .int v1), (3, .int v0), (0, .int v0), (1, .int v1), (2, .int v2)]) C dX8_lowestTerms_g0.2.2.2.2.2.1 (by decide) rfl ?_
  refine wm_pick [3, 4, 5, 2, 1, 0] rfl ?_
  exact (hl8 _ hb39 FU) _ _ _ _ _ _ _ hf
set_option maxHeartbeats 4000000 in
set_option maxRecDepth 100000 in
theorem c_X8_share {l : Launch} {D : va_G} {cA : Nat → ClassId} {A : Nat → Nat} {Pl : List Nat} (hPl : ∀ q, 0 ≤ q → q < 63 → q ∈ Pl) (v1 : Int32) (M : Mem) (out : (Int64 × Mem)) (ho : f_X8_share v1 M = some out) : CtL l D cA A Pl yX8_share cX8_share 2 108 [.ref (A 0), .int v1] M out := by
  refine ct_L (by decide) (Nat.le_of_ble_eq_true rfl) (fun p e s m args below meth c C hrt => ?_)
  have hf := ho
  unfold f_X8_share at hf
  refine wm_iload_n 1 C dX8_share_g0.1 rfl ?_
  refine wm_if_lt (tgt := 9) C dX8_share_g0.2.1 (by decide) (fun c1 => ?_) (fun c1 => ?_)
  · have hf := (if_pos c1).symm.trans hf
    refine wm_ldc2 (v := (-4611686018427387904)) C wt_X8_243 dX8_share_g0.2.2.2.2.2.1 ?_
    exact wm_lret C hrt hf dX8_share_g0.2.2.2.2.2.2.1
  · have hf := (if_neg c1).symm.trans hf
    refine wm_iload_n 1 C dX8_share_g0.2.2.1 rfl ?_
    refine wm_iconst (v := 1) C dX8_share_g0.2.2.2.1 (by decide) ?_
    refine wm_icmp_le (tgt := 13) C dX8_share_g0.2.2.2.2.1 (by decide) (fun c2 => ?_) (fun c2 => ?_)
    · have hf := (if_pos c2).symm.trans hf
      refine wm_aload_n 0 C dX8_share_g0.2.2.2.2.2.2.2.1 rfl ?_
      refine wm_get (ci := 7) (k := 8) (v := .ref (A 45)) C (hPl 0 (by decide) (by decide)) rfl rfl (by decide) wt_X8_89 iwX8 rfl dX8_share_g0.2.2.2.2.2.2.2.2.1 ?_
      refine wm_iconst (v := (-1)) C dX8_share_g0.2.2.2.2.2.2.2.2.2.1 (by decide) ?_
      refine wm_iconst (v := (-1)) C dX8_share_g0.2.2.2.2.2.2.2.2.2.2.1 (by decide) ?_
      obtain ⟨o3, ho4, hf⟩ := bnd hf
      refine wm_callVv (As := [.int (-1), .int (-1)]) (ci := 2) C (c_X3_seek hPl _ _ _ _ ho4) mi_X3_seek wt_X8_215 (hPl 45 (by decide) (by decide)) rfl rfl rfl rfl (by decide) (by decide) (Nat.le_of_ble_eq_true rfl) dX8_share_g0.2.2.2.2.2.2.2.2.2.2.2 ?_
      refine wm_aload_n 0 C dX8_share_g1.1 rfl ?_
      refine wm_get (ci := 7) (k := 7) (v := .ref (A 43)) C (hPl 0 (by decide) (by decide)) rfl rfl (by decide) wt_X8_82 iwX8 rfl dX8_share_g1.2.1 ?_
      refine wm_aload_n 0 C dX8_share_g1.2.2.1 rfl ?_
      refine wm_get (ci := 7) (k := 8) (v := .ref (A 45)) C (hPl 0 (by decide) (by decide)) rfl rfl (by decide) wt_X8_89 iwX8 rfl dX8_share_g1.2.2.2.1 ?_
      refine wm_get (ci := 2) (k := 4) (v := .int (o3 45 4)) C (hPl 45 (by decide) (by decide)) rfl rfl (by decide) wt_X8_219 iwX3 rfl dX8_share_g1.2.2.2.2.1 ?_
      obtain ⟨o5, ho6, hf⟩ := bnd hf
      refine wm_callVv (As := [.int (o3 45 4)]) (ci := 3) C (c_X4_play hPl _ _ _ ho6) mi_X4_play wt_X8_190 (hPl 43 (by decide) (by decide)) rfl rfl rfl rfl (by decide) (by decide) (Nat.le_of_ble_eq_true rfl) dX8_share_g1.2.2.2.2.2.1 ?_
      refine wm_aload_n 0 C dX8_share_g1.2.2.2.2.2.2.1 rfl ?_
      refine wm_get (ci := 7) (k := 7) (v := .ref (A 43)) C (hPl 0 (by decide) (by decide)) rfl rfl (by decide) wt_X8_82 iwX8 rfl dX8_share_g1.2.2.2.2.2.2.2.1 ?_
      refine wm_get (ci := 3) (k := 4) (v := .int (o5 43 4)) C (hPl 43 (by decide) (by decide)) rfl rfl (by decide) wt_X8_245 iwX4 rfl dX8_share_g1.2.2.2.2.2.2.2.2.1 ?_
      refine wm_aload_n 0 C dX8_share_g1.2.2.2.2.2.2.2.2.2.1 rfl ?_
      refine wm_get (ci := 7) (k := 7) (v := .ref (A 43)) C (hPl 0 (by decide) (by decide)) rfl rfl (by decide) wt_X8_82 iwX8 rfl dX8_share_g1.2.2.2.2.2.2.2.2.2.2.1 ?_
      refine wm_get (ci := 3) (k := 3) (v := .int (o5 43 3)) C (hPl 43 (by decide) (by decide)) rfl rfl (by decide) wt_X8_196 iwX4 rfl dX8_share_g1.2.2.2.2.2.2.2.2.2.2.2 ?_
      refine wm_iload_n 1 C dX8_share_g2.1 rfl ?_
      obtain ⟨o7, ho8, hf⟩ := bnd hf
      refine wm_callSl (As := [.int (o5 43 4), .int (o5 43 3), .int v1]) C (c_X8_lowestTerms hPl _ _ _ _ _ ho8) mi_X8_lowestTerms wt_X8_248 rfl rfl (by decide) (by decide) (Nat.le_of_ble_eq_true rfl) dX8_share_g2.2.1 ?_
      exact wm_lret C hrt hf dX8_share_g2.2.2
    · have hf := (if_neg c2).symm.trans hf
      refine wm_ldc2 (v := (-4611686018427387904)) C wt_X8_243 dX8_share_g0.2.2.2.2.2.1 ?_
      exact wm_lret C hrt hf dX8_share_g0.2.2.2.2.2.2.1
set_option maxHeartbeats 4000000 in
set_option maxRecDepth 100000 in
theorem c_X8_isSheet {l : Launch} {D : va_G} {cA : Nat → ClassId} {A : Nat → Nat} {Pl : List Nat} (hPl : ∀ q, 0 ≤ q → q < 63 → q ∈ Pl) (v0 : Int32) (M : Mem) (out : (Int32 × Mem)) (ho : f_X8_isSheet v0 M = some out) : CtI l D cA A Pl yX8_isSheet cX8_isSheet 1 1 .boolean [.int v0] M out := by
  refine ct_I (by decide) (Nat.le_of_ble_eq_true rfl) (fun p e s m args below meth c C hrt => ?_)
  have hf := ho
  unfold f_X8_isSheet at hf
  refine wm_iload_n 0 C dX8_isSheet_g0.1 rfl ?_
  refine wm_if_lt (tgt := 13) C dX8_isSheet_g0.2.1 (by decide) (fun c1 => ?_) (fun c1 => ?_)
  · have hf := (if_pos c1).symm.trans hf
    refine wm_iconst (v := 0) C dX8_isSheet_g0.2.2.2.2.2.2.2.1 (by decide) ?_
    exact wm_zret C hrt rfl hf dX8_isSheet_g0.2.2.2.2.2.2.2.2
  · have hf := (if_neg c1).symm.trans hf
    refine wm_iload_n 0 C dX8_isSheet_g0.2.2.1 rfl ?_
    refine wm_iconst (v := 4) C dX8_isSheet_g0.2.2.2.1 (by decide) ?_
    refine wm_icmp_ge (tgt := 13) C dX8_isSheet_g0.2.2.2.2.1 (by decide) (fun c2 => ?_) (fun c2 => ?_)
    · have hf := (if_pos c2).symm.trans hf
      refine wm_iconst (v := 0) C dX8_isSheet_g0.2.2.2.2.2.2.2.1 (by decide) ?_
      exact wm_zret C hrt rfl hf dX8_isSheet_g0.2.2.2.2.2.2.2.2
    · have hf := (if_neg c2).symm.trans hf
      refine wm_iconst (v := 1) C dX8_isSheet_g0.2.2.2.2.2.1 (by decide) ?_
      refine wm_goto (tgt := 14) C dX8_isSheet_g0.2.2.2.2.2.2.1 (by decide) ?_
      exact wm_zret C hrt rfl hf dX8_isSheet_g0.2.2.2.2.2.2.2.2
set_option maxHeartbeats 4000000 in
set_option maxRecDepth 100000 in
theorem c_X6_isMissing {l : Launch} {D : va_G} {cA : Nat → ClassId} {A : Nat → Nat} {Pl : List Nat} (hPl : ∀ q, 0 ≤ q → q < 63 → q ∈ Pl) (q0 : Nat) (M : Mem) (out : (Int32 × Mem)) (ho : f_X6_isMissing q0 M = some out) : CtI l D cA A Pl yX6_isMissing cX6_isMissing 1 1 .boolean [.ref (A q0)] M out := by
  refine ct_I (by decide) (Nat.le_of_ble_eq_true rfl) (fun p e s m args below meth c C hrt => ?_)
  have hf := ho
  unfold f_X6_isMissing at hf
  refine wm_aload_n 0 C dX6_isMissing_g0.1 rfl ?_
  obtain ⟨h1, hf⟩ := ckd hf
  refine wm_get (ci := 5) (k := 0) (v := .int (M q0 0)) C (kr5 hPl (eq_of_beq h1)) (eq_of_beq h1) rfl (by decide) wt_X6_11 iwX6 rfl dX6_isMissing_g0.2.1 ?_
  refine wm_iconst (v := (-1)) C dX6_isMissing_g0.2.2.1 (by decide) ?_
  refine wm_icmp_ne (tgt := 12) C dX6_isMissing_g0.2.2.2.1 (by decide) (fun c2 => ?_) (fun c2 => ?_)
  · have hf := (if_neg c2).symm.trans hf
    refine wm_iconst (v := 0) C dX6_isMissing_g0.2.2.2.2.2.2.1 (by decide) ?_
    exact wm_zret C hrt rfl hf dX6_isMissing_g0.2.2.2.2.2.2.2
  · have hf := (if_pos c2).symm.trans hf
    refine wm_iconst (v := 1) C dX6_isMissing_g0.2.2.2.2.1 (by decide) ?_
    refine wm_goto (tgt := 13) C dX6_isMissing_g0.2.2.2.2.2.1 (by decide) ?_
    exact wm_zret C hrt rfl hf dX6_isMissing_g0.2.2.2.2.2.2.2
set_option maxHeartbeats 4000000 in
set_option maxRecDepth 100000 in
theorem c_X0_suppose {l : Launch} {D : va_G} {cA : Nat → ClassId} {A : Nat → Nat} {Pl : List Nat} (hPl : ∀ q, 0 ≤ q → q < 63 → q ∈ Pl) (v1 : Int32) (v2 : Int32) (M : Mem) (out : Mem) (ho : f_X0_suppose v1 v2 M = some out) : CtV l D cA A Pl yX0_suppose cX0_suppose 3 2 [.ref (A 36), .int v1, .int v2] M out := by
  refine ct_V (by decide) (Nat.le_of_ble_eq_true rfl) (fun p e s m args below meth c C hrt => ?_)
  have hf := ho
  unfold f_X0_suppose at hf
  refine wm_iload_n 1 C dX0_suppose_g0.1 rfl ?_
  by_cases c1 : v1 = 1
  · have hf := (if_pos c1).symm.trans hf
    refine wm_tswI (tgt := 36) (off := 35) C dX0_suppose_g0.2.1 c1 (by decide) (by decide) (by decide) (by decide) ?_
    refine wm_aload_n 0 C dX0_suppose_g0.2.2.1 rfl ?_
    refine wm_iload_n 2 C dX0_suppose_g0.2.2.2.1 rfl ?_
    refine wm_put (ci := 0) (k := 2) (x := v2) C (hPl 36 (by decide) (by decide)) rfl rfl (by decide) wt_X0_9 iwX0 tyX0_ok nmX0 rfl rfl rfl rfl (fun _ => rfl) (Nat.le_of_ble_eq_true rfl) dX0_suppose_g0.2.2.2.2.1 ?_
    refine wm_goto (tgt := 78) C dX0_suppose_g0.2.2.2.2.2.1 (by decide) ?_
    exact wm_vret C hrt hf dX0_suppose_g2
  · have hf := (if_neg c1).symm.trans hf
    by_cases c2 : v1 = 2
    · have hf := (if_pos c2).symm.trans hf
      refine wm_tswI (tgt := 44) (off := 43) C dX0_suppose_g0.2.1 c2 (by decide) (by decide) (by decide) (by decide) ?_
      refine wm_aload_n 0 C dX0_suppose_g0.2.2.2.2.2.2.1 rfl ?_
      refine wm_iload_n 2 C dX0_suppose_g0.2.2.2.2.2.2.2.1 rfl ?_
      refine wm_put (ci := 0) (k := 3) (x := v2) C (hPl 36 (by decide) (by decide)) rfl rfl (by decide) wt_X0_15 iwX0 tyX0_ok nmX0 rfl rfl rfl rfl (fun _ => rfl) (Nat.le_of_ble_eq_true rfl) dX0_suppose_g0.2.2.2.2.2.2.2.2.1 ?_
      refine wm_goto (tgt := 78) C dX0_suppose_g0.2.2.2.2.2.2.2.2.2.1 (by decide) ?_
      exact wm_vret C hrt hf dX0_suppose_g2
    · have hf := (if_neg c2).symm.trans hf
      by_cases c3 : v1 = 3
      · have hf := (if_pos c3).symm.trans hf
        refine wm_tswI (tgt := 52) (off := 51) C dX0_suppose_g0.2.1 c3 (by decide) (by decide) (by decide) (by decide) ?_
        refine wm_aload_n 0 C dX0_suppose_g0.2.2.2.2.2.2.2.2.2.2.1 rfl ?_
        refine wm_iload_n 2 C dX0_suppose_g0.2.2.2.2.2.2.2.2.2.2.2 rfl ?_
        refine wm_put (ci := 0) (k := 4) (x := v2) C (hPl 36 (by decide) (by decide)) rfl rfl (by decide) wt_X0_18 iwX0 tyX0_ok nmX0 rfl rfl rfl rfl (fun _ => rfl) (Nat.le_of_ble_eq_true rfl) dX0_suppose_g1.1 ?_
        refine wm_goto (tgt := 78) C dX0_suppose_g1.2.1 (by decide) ?_
        exact wm_vret C hrt hf dX0_suppose_g2
      · have hf := (if_neg c3).symm.trans hf
        by_cases c4 : v1 = 4
        · have hf := (if_pos c4).symm.trans hf
          refine wm_tswI (tgt := 60) (off := 59) C dX0_suppose_g0.2.1 c4 (by decide) (by decide) (by decide) (by decide) ?_
          refine wm_aload_n 0 C dX0_suppose_g1.2.2.1 rfl ?_
          refine wm_get (ci := 0) (k := 5) (v := .ref (A 37)) C (hPl 36 (by decide) (by decide)) rfl rfl (by decide) wt_X0_21 iwX0 rfl dX0_suppose_g1.2.2.2.1 ?_
          refine wm_iconst (v := 0) C dX0_suppose_g1.2.2.2.2.1 (by decide) ?_
          refine wm_iload_n 2 C dX0_suppose_g1.2.2.2.2.2.1 rfl ?_
          refine wm_iast (n := 2) (j := 0) (x := v2) C (hPl 37 (by decide) (by decide)) rfl rfl rfl (by decide) (by decide) dX0_suppose_g1.2.2.2.2.2.2.1 ?_
          refine wm_goto (tgt := 78) C dX0_suppose_g1.2.2.2.2.2.2.2.1 (by decide) ?_
          exact wm_vret C hrt hf dX0_suppose_g2
        · have hf := (if_neg c4).symm.trans hf
          by_cases c5 : v1 = 5
          · have hf := (if_pos c5).symm.trans hf
            refine wm_tswI (tgt := 70) (off := 69) C dX0_suppose_g0.2.1 c5 (by decide) (by decide) (by decide) (by decide) ?_
            refine wm_aload_n 0 C dX0_suppose_g1.2.2.2.2.2.2.2.2.1 rfl ?_
            refine wm_iload_n 2 C dX0_suppose_g1.2.2.2.2.2.2.2.2.2.1 rfl ?_
            obtain ⟨o6, ho7, hf⟩ := bnd hf
            refine wm_callVv (As := [.int v2]) (ci := 0) C (c_X0_ruleBy hPl _ _ _ ho7) mi_X0_ruleBy wt_X0_86 (hPl 36 (by decide) (by decide)) rfl rfl rfl rfl (by decide) (by decide) (Nat.le_of_ble_eq_true rfl) dX0_suppose_g1.2.2.2.2.2.2.2.2.2.2.1 ?_
            refine wm_goto (tgt := 78) C dX0_suppose_g1.2.2.2.2.2.2.2.2.2.2.2 (by decide) ?_
            exact wm_vret C hrt hf dX0_suppose_g2
          · have hf := (if_neg c5).symm.trans hf
            have nc1 : ¬ (v1).toInt = 1 := lv_neT c1 (by decide)
            have nc2 : ¬ (v1).toInt = 2 := lv_neT c2 (by decide)
            have nc3 : ¬ (v1).toInt = 3 := lv_neT c3 (by decide)
            have nc4 : ¬ (v1).toInt = 4 := lv_neT c4 (by decide)
            have nc5 : ¬ (v1).toInt = 5 := lv_neT c5 (by decide)
            refine wm_tswO (tgt := 78) C dX0_suppose_g0.2.1 (by omega) (by decide) ?_
            exact wm_vret C hrt hf dX0_suppose_g2
set_option maxHeartbeats 4000000 in
set_option maxRecDepth 100000 in
theorem c_X0_firstOtherwise {l : Launch} {D : va_G} {cA : Nat → ClassId} {A : Nat → Nat} {Pl : List Nat} (hPl : ∀ q, 0 ≤ q → q < 63 → q ∈ Pl) (q1 : Nat) (q2 : Nat) (M : Mem) (out : (Int32 × Mem)) (ho : f_X0_firstOtherwise q1 q2 M = some out) : CtI l D cA A Pl yX0_firstOtherwise cX0_firstOtherwise 5 6 .int [.ref (A 36), .ref (A q1), .ref (A q2)] M out := by
  refine ct_I (by decide) (Nat.le_of_ble_eq_true rfl) (fun p e s m args below meth c C hrt => ?_)
  have hb24 : ∀ (r : Nat → Nat → Int32 → Mem → Option (Int32 × Mem)) (hr : ∀ (q1 : Nat) (q2 : Nat) (v3 : Int32) (M : Mem), r q1 q2 v3 M = some out → WM p l e (RM 6) s m args below meth c 0 0 (MQ below (QI D cA A Pl out) args s 0 0 (FA A Pl)) D cA A Pl (FA A Pl) 5 M 2 [(0, .ref (A 36)), (1, .ref (A q1)), (2, .ref (A q2)), (3, .int v3)] []), ∀ (q1 : Nat) (q2 : Nat) (v3 : Int32) (s0 : Int32) (M : Mem), f_X0_firstOtherwise_b24 r q1 q2 v3 s0 M = some out → WM p l e (RM 6) s m args below meth c 0 0 (MQ below (QI D cA A Pl out) args s 0 0 (FA A Pl)) D cA A Pl (FA A Pl) 5 M 24 [(0, .ref (A 36)), (1, .ref (A q1)), (2, .ref (A q2)), (3, .int v3)] [.int s0] := by
    intro r hr q1 q2 v3 s0 M hf
    unfold f_X0_firstOtherwise_b24 at hf
    refine wm_istore (lv1 := [(4, .int s0), (0, .ref (A 36)), (1, .ref (A q1)), (2, .ref (A q2)), (3, .int v3)]) C dX0_firstOtherwise_g1.2.2.1 (by decide) rfl ?_
    refine wm_aload_n 2 C dX0_firstOtherwise_g1.2.2.2.1 rfl ?_
    obtain ⟨h1, hf⟩ := ckd hf
    refine wm_get (ci := 5) (k := 2) (v := .ref (A (q1 + 1))) C (kr5 hPl (eq_of_beq h1)) (eq_of_beq h1) rfl (by decide) wt_X0_132 iwX6 rfl dX0_firstOtherwise_g1.2.2.2.2.1 ?_
    refine wm_iload_n 4 C dX0_firstOtherwise_g1.2.2.2.2.2.1 rfl ?_
    obtain ⟨h2, hf⟩ := ckd hf
    obtain ⟨h3, hf⟩ := ckd hf
    refine wm_iald (n := (ln (q1 + 1))) (j := (v3).toNatClampNeg) (v := (M (q1 + 1) (v3).toNatClampNeg)) C (kr10 hPl (eq_of_beq h2)) (eq_of_beq h2) rfl rfl h3 rfl rfl dX0_firstOtherwise_g1.2.2.2.2.2.2.1 ?_
    refine wm_iload 0 C dX0_firstOtherwise_g1.2.2.2.2.2.2.2.1 rfl ?_
    refine wm_icmp_eq (tgt := 39) C dX0_firstOtherwise_g1.2.2.2.2.2.2.2.2.1 (by decide) (fun c4 => ?_) (fun c4 => ?_)
    · have hf := (if_pos c4).symm.trans hf
      refine wm_iinc (lv1 := [(3, .int (v3 + 1)), (4, .int s0), (0, .ref (A 36)), (1, .ref (A q1)), (2, .ref (A q2))]) (v := (v3 + 1)) 4 C dX0_firstOtherwise_g1.2.2.2.2.2.2.2.2.2.2.2 rfl (by first | rfl | decide) (by decide) rfl ?_
      refine wm_goto (tgt := 2) C dX0_firstOtherwise_g2.1 (by decide) ?_
      refine wm_pick [2, 3, 4, 0] rfl ?_
      exact hr _ _ _ _ hf
    · have hf := (if_neg c4).symm.trans hf
      refine wm_iload_n 4 C dX0_firstOtherwise_g1.2.2.2.2.2.2.2.2.2.1 rfl ?_
      exact wm_iret C hrt hf dX0_firstOtherwise_g1.2.2.2.2.2.2.2.2.2.2.1
  have hl2 : ∀ (n : Nat), ∀ (q1 : Nat) (q2 : Nat) (v3 : Int32) (M : Mem), f_X0_firstOtherwise_l2 n q1 q2 v3 M = some out → WM p l e (RM 6) s m args below meth c 0 0 (MQ below (QI D cA A Pl out) args s 0 0 (FA A Pl)) D cA A Pl (FA A Pl) 5 M 2 [(0, .ref (A 36)), (1, .ref (A q1)), (2, .ref (A q2)), (3, .int v3)] [] := by
    intro n
    induction n with
    | zero => intro q1 q2 v3 M hf; rw [f_X0_firstOtherwise_l2] at hf; cases hf
    | succ n hr =>
      intro q1 q2 v3 M hf
      rw [f_X0_firstOtherwise_l2] at hf
      refine wm_iload_n 3 C dX0_firstOtherwise_g0.2.2.1 rfl ?_
      refine wm_iconst (v := 2) C dX0_firstOtherwise_g0.2.2.2.1 (by decide) ?_
      refine wm_icmp_ge (tgt := 45) C dX0_firstOtherwise_g0.2.2.2.2.1 (by decide) (fun c5 => ?_) (fun c5 => ?_)
      · have hf := (if_pos c5).symm.trans hf
        refine wm_iconst (v := (-1)) C dX0_firstOtherwise_g2.2.1 (by decide) ?_
        exact wm_iret C hrt hf dX0_firstOtherwise_g2.2.2
      · have hf := (if_neg c5).symm.trans hf
        refine wm_aload_n 0 C dX0_firstOtherwise_g0.2.2.2.2.2.1 rfl ?_
        refine wm_iload_n 3 C dX0_firstOtherwise_g0.2.2.2.2.2.2.1 rfl ?_
        refine wm_aload_n 2 C dX0_firstOtherwise_g0.2.2.2.2.2.2.2.1 rfl ?_
        obtain ⟨o6, ho7, hf⟩ := bnd hf
        refine wm_callVi (As := [.int v3, .ref (A q2)]) (ci := 0) C (c_X0_isCooked hPl _ _ _ _ ho7) mi_X0_isCooked wt_X0_124 (hPl 36 (by decide) (by decide)) rfl rfl rfl rfl (by decide) (by decide) (Nat.le_of_ble_eq_true rfl) dX0_firstOtherwise_g0.2.2.2.2.2.2.2.2.1 ?_
        refine wm_if_eq (tgt := 23) C dX0_firstOtherwise_g0.2.2.2.2.2.2.2.2.2.1 (by decide) (fun c8 => ?_) (fun c8 => ?_)
        · have hf := (if_pos c8).symm.trans hf
          refine wm_iconst (v := (-1)) C dX0_firstOtherwise_g1.2.1 (by decide) ?_
          exact (hb24 _ hr) _ _ _ _ _ hf
        · have hf := (if_neg c8).symm.trans hf
          refine wm_aload_n 0 C dX0_firstOtherwise_g0.2.2.2.2.2.2.2.2.2.2.1 rfl ?_
          obtain ⟨o9, ho10, hf⟩ := bnd hf
          refine wm_callVi (As := []) (ci := 0) C (c_X0_worth hPl  _ _ ho10) mi_X0_worth wt_X0_128 (hPl 36 (by decide) (by decide)) rfl rfl rfl rfl (by decide) (by decide) (Nat.le_of_ble_eq_true rfl) dX0_firstOtherwise_g0.2.2.2.2.2.2.2.2.2.2.2 ?_
          refine wm_goto (tgt := 24) C dX0_firstOtherwise_g1.1 (by decide) ?_
          exact (hb24 _ hr) _ _ _ _ _ hf
  have hf := ho
  unfold f_X0_firstOtherwise at hf
  refine wm_iconst (v := 0) C dX0_firstOtherwise_g0.1 (by decide) ?_
  refine wm_istore_n (lv1 := [(3, .int 0), (0, .ref (A 36)), (1, .ref (A q1)), (2, .ref (A q2))]) C dX0_firstOtherwise_g0.2.1 (by decide) rfl ?_
  refine wm_pick [1, 2, 3, 0] rfl ?_
  exact (hl2 FU) _ _ _ _ hf
set_option maxHeartbeats 4000000 in
set_option maxRecDepth 100000 in
theorem c_X8_guess {l : Launch} {D : va_G} {cA : Nat → ClassId} {A : Nat → Nat} {Pl : List Nat} (hPl : ∀ q, 0 ≤ q → q < 63 → q ∈ Pl) (v1 : Int32) (v2 : Int32) (v3 : Int32) (q4 : Nat) (v5 : Int32) (M : Mem) (out : (Int32 × Mem)) (ho : f_X8_guess v1 v2 v3 q4 v5 M = some out) : CtI l D cA A Pl yX8_guess cX8_guess 10 7 .int [.ref (A 0), .int v1, .int v2, .int v3, .ref (A q4), .int v5] M out := by
  refine ct_I (by decide) (Nat.le_of_ble_eq_true rfl) (fun p e s m args below meth c C hrt => ?_)
  have hb99 : ∀ (r : Int32 → Int32 → Int32 → Nat → Int32 → Int32 → Int32 → Int32 → Int32 → Mem → Option (Int32 × Mem)) (hr : ∀ (v1 : Int32) (v2 : Int32) (v3 : Int32) (q4 : Nat) (v5 : Int32) (v6 : Int32) (v7 : Int32) (v8 : Int32) (v9 : Int32) (M : Mem), r v1 v2 v3 q4 v5 v6 v7 v8 v9 M = some out → WM p l e (RM 7) s m args below meth c 0 0 (MQ below (QI D cA A Pl out) args s 0 0 (FA A Pl)) D cA A Pl (FA A Pl) 10 M 12 [(0, .ref (A 0)), (1, .int v1), (2, .int v2), (3, .int v3), (4, .ref (A q4)), (5, .int v5), (6, .int v6), (7, .int v7), (8, .int v8), (9, .int v9)] []) (k105 : Int32 → Int32 → Int32 → Int32 → Mem → Option (Int32 × Mem)) (hk105 : ∀ (v3 : Int32) (v6 : Int32) (v7 : Int32) (v8 : Int32) (M : Mem), k105 v3 v6 v7 v8 M = some out → WM p l e (RM 7) s m args below meth c 0 0 (MQ below (QI D cA A Pl out) args s 0 0 (FA A Pl)) D cA A Pl (FA A Pl) 10 M 105 [(3, .int v3), (6, .int v6), (7, .int v7), (8, .int v8)] []), ∀ (v1 : Int32) (v2 : Int32) (v3 : Int32) (q4 : Nat) (v5 : Int32) (v6 : Int32) (v7 : Int32) (v8 : Int32) (v9 : Int32) (M : Mem), f_X8_guess_b99 r k105 v1 v2 v3 q4 v5 v6 v7 v8 v9 M = some out → WM p l e (RM 7) s m args below meth c 0 0 (MQ below (QI D cA A Pl out) args s 0 0 (FA A Pl)) D cA A Pl (FA A Pl) 10 M 99 [(0, .ref (A 0)), (1, .int v1), (2, .int v2), (3, .int v3), (4, .ref (A q4)), (5, .int v5), (6, .int v6), (7, .int v7), (8, .int v8), (9, .int v9)] [] := by
    intro r hr k105 hk105 v1 v2 v3 q4 v5 v6 v7 v8 v9 M hf
    unfold f_X8_guess_b99 at hf
    refine wm_iinc (lv1 := [(9, .int (v9 + 1)), (0, .ref (A 0)), (1, .int v1), (2, .int v2), (3, .int v3), (4, .ref (A q4)), (5, .int v5), (6, .int v6), (7, .int v7), (8, .int v8)]) (v := (v9 + 1)) 9 C dX8_guess_g4.2.2.1 rfl (by first | rfl | decide) (by decide) rfl ?_
    refine wm_goto (tgt := 12) C dX8_guess_g4.2.2.2.1 (by decide) ?_
    refine wm_pick [1, 2, 3, 4, 5, 6, 7, 8, 9, 0] rfl ?_
    exact hr _ _ _ _ _ _ _ _ _ _ hf
  have hb97 : ∀ (r : Int32 → Int32 → Int32 → Nat → Int32 → Int32 → Int32 → Int32 → Int32 → Mem → Option (Int32 × Mem)) (hr : ∀ (v1 : Int32) (v2 : Int32) (v3 : Int32) (q4 : Nat) (v5 : Int32) (v6 : Int32) (v7 : Int32) (v8 : Int32) (v9 : Int32) (M : Mem), r v1 v2 v3 q4 v5 v6 v7 v8 v9 M = some out → WM p l e (RM 7) s m args below meth c 0 0 (MQ below (QI D cA A Pl out) args s 0 0 (FA A Pl)) D cA A Pl (FA A Pl) 10 M 12 [(0, .ref (A 0)), (1, .int v1), (2, .int v2), (3, .int v3), (4, .ref (A q4)), (5, .int v5), (6, .int v6), (7, .int v7), (8, .int v8), (9, .int v9)] []) (k105 : Int32 → Int32 → Int32 → Int32 → Mem → Option (Int32 × Mem)) (hk105 : ∀ (v3 : Int32) (v6 : Int32) (v7 : Int32) (v8 : Int32) (M : Mem), k105 v3 v6 v7 v8 M = some out → WM p l e (RM 7) s m args below meth c 0 0 (MQ below (QI D cA A Pl out) args s 0 0 (FA A Pl)) D cA A Pl (FA A Pl) 10 M 105 [(3, .int v3), (6, .int v6), (7, .int v7), (8, .int v8)] []), ∀ (v1 : Int32) (v2 : Int32) (v3 : Int32) (q4 : Nat) (v5 : Int32) (v6 : Int32) (v7 : Int32) (v9 : Int32) (s0 : Int32) (M : Mem), f_X8_guess_b97 r k105 v1 v2 v3 q4 v5 v6 v7 v9 s0 M = some out → WM p l e (RM 7) s m args below meth c 0 0 (MQ below (QI D cA A Pl out) args s 0 0 (FA A Pl)) D cA A Pl (FA A Pl) 10 M 97 [(0, .ref (A 0)), (1, .int v1), (2, .int v2), (3, .int v3), (4, .ref (A q4)), (5, .int v5), (6, .int v6), (7, .int v7), (9, .int v9)] [.int s0] := by
    intro r hr k105 hk105 v1 v2 v3 q4 v5 v6 v7 v9 s0 M hf
    unfold f_X8_guess_b97 at hf
    refine wm_istore (lv1 := [(8, .int s0), (0, .ref (A 0)), (1, .int v1), (2, .int v2), (3, .int v3), (4, .ref (A q4)), (5, .int v5), (6, .int v6), (7, .int v7), (9, .int v9)]) C dX8_guess_g4.2.1 (by decide) rfl ?_
    refine wm_pick [1, 2, 3, 4, 5, 6, 7, 8, 0, 9] rfl ?_
    exact (hb99 _ hr _ hk105) _ _ _ _ _ _ _ _ _ _ hf
  have hb39 : ∀ (r : Int32 → Int32 → Int32 → Nat → Int32 → Int32 → Int32 → Int32 → Int32 → Mem → Option (Int32 × Mem)) (hr : ∀ (v1 : Int32) (v2 : Int32) (v3 : Int32) (q4 : Nat) (v5 : Int32) (v6 : Int32) (v7 : Int32) (v8 : Int32) (v9 : Int32) (M : Mem), r v1 v2 v3 q4 v5 v6 v7 v8 v9 M = some out → WM p l e (RM 7) s m args below meth c 0 0 (MQ below (QI D cA A Pl out) args s 0 0 (FA A Pl)) D cA A Pl (FA A Pl) 10 M 12 [(0, .ref (A 0)), (1, .int v1), (2, .int v2), (3, .int v3), (4, .ref (A q4)), (5, .int v5), (6, .int v6), (7, .int v7), (8, .int v8), (9, .int v9)] []) (k105 : Int32 → Int32 → Int32 → Int32 → Mem → Option (Int32 × Mem)) (hk105 : ∀ (v3 : Int32) (v6 : Int32) (v7 : Int32) (v8 : Int32) (M : Mem), k105 v3 v6 v7 v8 M = some out → WM p l e (RM 7) s m args below meth c 0 0 (MQ below (QI D cA A Pl out) args s 0 0 (FA A Pl)) D cA A Pl (FA A Pl) 10 M 105 [(3, .int v3), (6, .int v6), (7, .int v7), (8, .int v8)] []), ∀ (v1 : Int32) (v2 : Int32) (v3 : Int32) (q4 : Nat) (v5 : Int32) (v6 : Int32) (v7 : Int32) (v8 : Int32) (v9 : Int32) (s2 : Int32) (M : Mem), f_X8_guess_b39 r k105 v1 v2 v3 q4 v5 v6 v7 v8 v9 s2 M = some out → WM p l e (RM 7) s m args below meth c 0 0 (MQ below (QI D cA A Pl out) args s 0 0 (FA A Pl)) D cA A Pl (FA A Pl) 10 M 39 [(0, .ref (A 0)), (1, .int v1), (2, .int v2), (3, .int v3), (4, .ref (A q4)), (5, .int v5), (6, .int v6), (7, .int v7), (8, .int v8), (9, .int v9)] [.int s2, .ref (A 1), .ref (A 36)] := by
    intro r hr k105 hk105 v1 v2 v3 q4 v5 v6 v7 v8 v9 s2 M hf
    unfold f_X8_guess_b39 at hf
    obtain ⟨o1, ho2, hf⟩ := bnd hf
    refine wm_callVv (As := [.ref (A 1), .int s2]) (ci := 0) C (c_X0_takeUp hPl _ _ _ ho2) mi_X0_takeUp wt_X8_140 (hPl 36 (by decide) (by decide)) rfl rfl rfl rfl (by decide) (by decide) (Nat.le_of_ble_eq_true rfl) dX8_guess_g1.2.2.2.2.2.2.2.2.2.1 ?_
    refine wm_aload_n 0 C dX8_guess_g1.2.2.2.2.2.2.2.2.2.2.1 rfl ?_
    refine wm_get (ci := 7) (k := 6) (v := .ref (A 36)) C (hPl 0 (by decide) (by decide)) rfl rfl (by decide) wt_X8_73 iwX8 rfl dX8_guess_g1.2.2.2.2.2.2.2.2.2.2.2 ?_
    refine wm_iload_n 1 C dX8_guess_g2.1 rfl ?_
    refine wm_iload 9 C dX8_guess_g2.2.1 rfl ?_
    obtain ⟨o3, ho4, hf⟩ := bnd hf
    refine wm_callVv (As := [.int v1, .int v9]) (ci := 0) C (c_X0_suppose hPl _ _ _ _ ho4) mi_X0_suppose wt_X8_316 (hPl 36 (by decide) (by decide)) rfl rfl rfl rfl (by decide) (by decide) (Nat.le_of_ble_eq_true rfl) dX8_guess_g2.2.2.1 ?_
    refine wm_aload_n 0 C dX8_guess_g2.2.2.2.1 rfl ?_
    refine wm_get (ci := 7) (k := 6) (v := .ref (A 36)) C (hPl 0 (by decide) (by decide)) rfl rfl (by decide) wt_X8_73 iwX8 rfl dX8_guess_g2.2.2.2.2.1 ?_
    refine wm_aload 4 C dX8_guess_g2.2.2.2.2.2.1 rfl ?_
    refine wm_aload_n 0 C dX8_guess_g2.2.2.2.2.2.2.1 rfl ?_
    refine wm_get (ci := 7) (k := 0) (v := .ref (A 1)) C (hPl 0 (by decide) (by decide)) rfl rfl (by decide) wt_X8_10 iwX8 rfl dX8_guess_g2.2.2.2.2.2.2.2.1 ?_
    refine wm_get (ci := 1) (k := 0) (v := .ref (A 2)) C (hPl 1 (by decide) (by decide)) rfl rfl (by decide) wt_X8_104 iwX1 rfl dX8_guess_g2.2.2.2.2.2.2.2.2.1 ?_
    obtain ⟨o5, ho6, hf⟩ := bnd hf
    refine wm_callVi (As := [.ref (A q4), .ref (A 2)]) (ci := 0) C (c_X0_firstOtherwise hPl _ _ _ _ ho6) mi_X0_firstOtherwise wt_X8_264 (hPl 36 (by decide) (by decide)) rfl rfl rfl rfl (by decide) (by decide) (Nat.le_of_ble_eq_true rfl) dX8_guess_g2.2.2.2.2.2.2.2.2.2.1 ?_
    refine wm_iconst (v := (-1)) C dX8_guess_g2.2.2.2.2.2.2.2.2.2.2.1 (by decide) ?_
    refine wm_icmp_ne (tgt := 99) C dX8_guess_g2.2.2.2.2.2.2.2.2.2.2.2 (by decide) (fun c7 => ?_) (fun c7 => ?_)
    · have hf := (if_neg c7).symm.trans hf
      exact (hb99 _ hr _ hk105) _ _ _ _ _ _ _ _ _ _ hf
    · have hf := (if_pos c7).symm.trans hf
      refine wm_iload 6 C dX8_guess_g3.1 rfl ?_
      refine wm_iconst (v := 1) C dX8_guess_g3.2.1 (by decide) ?_
      refine wm_iload 9 C dX8_guess_g3.2.2.1 rfl ?_
      refine wm_ishl C dX8_guess_g3.2.2.2.1 ?_
      refine wm_ior C dX8_guess_g3.2.2.2.2.1 ?_
      refine wm_istore (lv1 := [(6, .int (v6 ||| (jshl 1 v9))), (0, .ref (A 0)), (1, .int v1), (2, .int v2), (3, .int v3), (4, .ref (A q4)), (5, .int v5), (7, .int v7), (8, .int v8), (9, .int v9)]) C dX8_guess_g3.2.2.2.2.2.1 (by decide) rfl ?_
      refine wm_iinc (lv1 := [(7, .int (v7 + 1)), (6, .int (v6 ||| (jshl 1 v9))), (0, .ref (A 0)), (1, .int v1), (2, .int v2), (3, .int v3), (4, .ref (A q4)), (5, .int v5), (8, .int v8), (9, .int v9)]) (v := (v7 + 1)) 7 C dX8_guess_g3.2.2.2.2.2.2.1 rfl (by first | rfl | decide) (by decide) rfl ?_
      refine wm_iload 8 C dX8_guess_g3.2.2.2.2.2.2.2.1 rfl ?_
      refine wm_iconst (v := (-1)) C dX8_guess_g3.2.2.2.2.2.2.2.2.1 (by decide) ?_
      refine wm_icmp_ne (tgt := 95) C dX8_guess_g3.2.2.2.2.2.2.2.2.2.1 (by decide) (fun c8 => ?_) (fun c8 => ?_)
      · have hf := (if_neg c8).symm.trans hf
        refine wm_iload 8 C dX8_guess_g4.1 rfl ?_
        refine wm_pick [2, 3, 4, 5, 6, 7, 1, 0, 9] rfl ?_
        exact (hb97 _ hr _ hk105) _ _ _ _ _ _ _ _ _ _ hf
      · have hf := (if_pos c8).symm.trans hf
        refine wm_iload 9 C dX8_guess_g3.2.2.2.2.2.2.2.2.2.2.1 rfl ?_
        refine wm_goto (tgt := 97) C dX8_guess_g3.2.2.2.2.2.2.2.2.2.2.2 (by decide) ?_
        refine wm_pick [2, 3, 4, 5, 6, 7, 1, 0, 9] rfl ?_
        exact (hb97 _ hr _ hk105) _ _ _ _ _ _ _ _ _ _ hf
  have hl12 : ∀ (k105 : Int32 → Int32 → Int32 → Int32 → Mem → Option (Int32 × Mem)) (hk105 : ∀ (v3 : Int32) (v6 : Int32) (v7 : Int32) (v8 : Int32) (M : Mem), k105 v3 v6 v7 v8 M = some out → WM p l e (RM 7) s m args below meth c 0 0 (MQ below (QI D cA A Pl out) args s 0 0 (FA A Pl)) D cA A Pl (FA A Pl) 10 M 105 [(3, .int v3), (6, .int v6), (7, .int v7), (8, .int v8)] []) (n : Nat), ∀ (v1 : Int32) (v2 : Int32) (v3 : Int32) (q4 : Nat) (v5 : Int32) (v6 : Int32) (v7 : Int32) (v8 : Int32) (v9 : Int32) (M : Mem), f_X8_guess_l12 k105 n v1 v2 v3 q4 v5 v6 v7 v8 v9 M = some out → WM p l e (RM 7) s m args below meth c 0 0 (MQ below (QI D cA A Pl out) args s 0 0 (FA A Pl)) D cA A Pl (FA A Pl) 10 M 12 [(0, .ref (A 0)), (1, .int v1), (2, .int v2), (3, .int v3), (4, .ref (A q4)), (5, .int v5), (6, .int v6), (7, .int v7), (8, .int v8), (9, .int v9)] [] := by
    intro k105 hk105 n
    induction n with
    | zero => intro v1 v2 v3 q4 v5 v6 v7 v8 v9 M hf; rw [f_X8_guess_l12] at hf; cases hf
    | succ n hr =>
      intro v1 v2 v3 q4 v5 v6 v7 v8 v9 M hf
      rw [f_X8_guess_l12] at hf
      refine wm_iload 9 C dX8_guess_g0.2.2.2.2.2.2.2.2.1 rfl ?_
      refine wm_iload_n 2 C dX8_guess_g0.2.2.2.2.2.2.2.2.2.1 rfl ?_
      refine wm_icmp_ge (tgt := 105) C dX8_guess_g0.2.2.2.2.2.2.2.2.2.2.1 (by decide) (fun c11 => ?_) (fun c11 => ?_)
      · have hf := (if_pos c11).symm.trans hf
        refine wm_pick [3, 6, 7, 8] rfl ?_
        exact hk105 _ _ _ _ _ hf
      · have hf := (if_neg c11).symm.trans hf
        refine wm_aload_n 0 C dX8_guess_g0.2.2.2.2.2.2.2.2.2.2.2 rfl ?_
        refine wm_get (ci := 7) (k := 6) (v := .ref (A 36)) C (hPl 0 (by decide) (by decide)) rfl rfl (by decide) wt_X8_73 iwX8 rfl dX8_guess_g1.1 ?_
        refine wm_aload_n 0 C dX8_guess_g1.2.1 rfl ?_
        refine wm_get (ci := 7) (k := 0) (v := .ref (A 1)) C (hPl 0 (by decide) (by decide)) rfl rfl (by decide) wt_X8_10 iwX8 rfl dX8_guess_g1.2.2.1 ?_
        refine wm_iload_n 1 C dX8_guess_g1.2.2.2.1 rfl ?_
        refine wm_bipush (v := 6) C dX8_guess_g1.2.2.2.2.1 (by decide) ?_
        refine wm_icmp_ne (tgt := 37) C dX8_guess_g1.2.2.2.2.2.1 (by decide) (fun c12 => ?_) (fun c12 => ?_)
        · have hf := (if_neg c12).symm.trans hf
          refine wm_iload 5 C dX8_guess_g1.2.2.2.2.2.2.2.2.1 rfl ?_
          exact (hb39 _ hr _ hk105) _ _ _ _ _ _ _ _ _ _ _ hf
        · have hf := (if_pos c12).symm.trans hf
          refine wm_iload 9 C dX8_guess_g1.2.2.2.2.2.2.1 rfl ?_
          refine wm_goto (tgt := 39) C dX8_guess_g1.2.2.2.2.2.2.2.1 (by decide) ?_
          exact (hb39 _ hr _ hk105) _ _ _ _ _ _ _ _ _ _ _ hf
  have hb105 : ∀ (v3 : Int32) (v6 : Int32) (v7 : Int32) (v8 : Int32) (M : Mem), f_X8_guess_b105 v3 v6 v7 v8 M = some out → WM p l e (RM 7) s m args below meth c 0 0 (MQ below (QI D cA A Pl out) args s 0 0 (FA A Pl)) D cA A Pl (FA A Pl) 10 M 105 [(3, .int v3), (6, .int v6), (7, .int v7), (8, .int v8)] [] := by
    intro v3 v6 v7 v8 M hf
    unfold f_X8_guess_b105 at hf
    refine wm_iload_n 0 C dX8_guess_g4.2.2.2.2.1 rfl ?_
    refine wm_if_ne (tgt := 114) C dX8_guess_g4.2.2.2.2.2.1 (by decide) (fun c9 => ?_) (fun c9 => ?_)
    · have hf := (if_neg c9).symm.trans hf
      refine wm_iload_n 0 C dX8_guess_g4.2.2.2.2.2.2.2.2.1 rfl ?_
      refine wm_iconst (v := 1) C dX8_guess_g4.2.2.2.2.2.2.2.2.2.1 (by decide) ?_
      refine wm_icmp_ne (tgt := 124) C dX8_guess_g4.2.2.2.2.2.2.2.2.2.2.1 (by decide) (fun c10 => ?_) (fun c10 => ?_)
      · have hf := (if_neg c10).symm.trans hf
        refine wm_iload 3 C dX8_guess_g5.2.1 rfl ?_
        exact wm_iret C hrt hf dX8_guess_g5.2.2
      · have hf := (if_pos c10).symm.trans hf
        refine wm_iload 2 C dX8_guess_g4.2.2.2.2.2.2.2.2.2.2.2 rfl ?_
        refine wm_goto (tgt := 126) C dX8_guess_g5.1 (by decide) ?_
        exact wm_iret C hrt hf dX8_guess_g5.2.2
    · have hf := (if_pos c9).symm.trans hf
      refine wm_iload 1 C dX8_guess_g4.2.2.2.2.2.2.1 rfl ?_
      refine wm_goto (tgt := 126) C dX8_guess_g4.2.2.2.2.2.2.2.1 (by decide) ?_
      exact wm_iret C hrt hf dX8_guess_g5.2.2
  have hf := ho
  unfold f_X8_guess at hf
  refine wm_iconst (v := 0) C dX8_guess_g0.1 (by decide) ?_
  refine wm_istore (lv1 := [(6, .int 0), (0, .ref (A 0)), (1, .int v1), (2, .int v2), (3, .int v3), (4, .ref (A q4)), (5, .int v5)]) C dX8_guess_g0.2.1 (by decide) rfl ?_
  refine wm_iconst (v := 0) C dX8_guess_g0.2.2.1 (by decide) ?_
  refine wm_istore (lv1 := [(7, .int 0), (6, .int 0), (0, .ref (A 0)), (1, .int v1), (2, .int v2), (3, .int v3), (4, .ref (A q4)), (5, .int v5)]) C dX8_guess_g0.2.2.2.1 (by decide) rfl ?_
  refine wm_iconst (v := (-1)) C dX8_guess_g0.2.2.2.2.1 (by decide) ?_
  refine wm_istore (lv1 := [(8, .int (-1)), (7, .int 0), (6, .int 0), (0, .ref (A 0)), (1, .int v1), (2, .int v2), (3, .int v3), (4, .ref (A q4)), (5, .int v5)]) C dX8_guess_g0.2.2.2.2.2.1 (by decide) rfl ?_
  refine wm_iconst (v := 0) C dX8_guess_g0.2.2.2.2.2.2.1 (by decide) ?_
  refine wm_istore (lv1 := [(9, .int 0), (8, .int (-1)), (7, .int 0), (6, .int 0), (0, .ref (A 0)), (1, .int v1), (2, .int v2), (3, .int v3), (4, .ref (A q4)), (5, .int v5)]) C dX8_guess_g0.2.2.2.2.2.2.2.1 (by decide) rfl ?_
  refine wm_pick [4, 5, 6, 7, 8, 9, 3, 2, 1, 0] rfl ?_
  exact (hl12 _ hb105 FU) _ _ _ _ _ _ _ _ _ _ hf
set_option maxHeartbeats 4000000 in
set_option maxRecDepth 100000 in
theorem c_X8_tells {l : Launch} {D : va_G} {cA : Nat → ClassId} {A : Nat → Nat} {Pl : List Nat} (hPl : ∀ q, 0 ≤ q → q < 63 → q ∈ Pl) (v1 : Int32) (v2 : Int32) (v3 : Int32) (M : Mem) (out : (Int32 × Mem)) (ho : f_X8_tells v1 v2 v3 M = some out) : CtI l D cA A Pl yX8_tells cX8_tells 5 8 .int [.ref (A 0), .int v1, .int v2, .int v3] M out := by
  refine ct_I (by decide) (Nat.le_of_ble_eq_true rfl) (fun p e s m args below meth c C hrt => ?_)
  have hf := ho
  unfold f_X8_tells at hf
  refine wm_iload_n 1 C dX8_tells_g0.1 rfl ?_
  obtain ⟨o1, ho2, hf⟩ := bnd hf
  refine wm_callSi (As := [.int v1]) C (c_X8_isSheet hPl _ _ _ ho2) mi_X8_isSheet wt_X8_252 rfl rfl (by decide) (by decide) (Nat.le_of_ble_eq_true rfl) dX8_tells_g0.2.1 ?_
  refine wm_if_eq (tgt := 28) C dX8_tells_g0.2.2.1 (by decide) (fun c3 => ?_) (fun c3 => ?_)
  · have hf := (if_pos c3).symm.trans hf
    refine wm_bipush (v := (-2)) C dX8_tells_g1.2.1 (by decide) ?_
    exact wm_iret C hrt hf dX8_tells_g1.2.2.1
  · have hf := (if_neg c3).symm.trans hf
    refine wm_aload_n 0 C dX8_tells_g0.2.2.2.1 rfl ?_
    refine wm_get (ci := 7) (k := 0) (v := .ref (A 1)) C (hPl 0 (by decide) (by decide)) rfl rfl (by decide) wt_X8_10 iwX8 rfl dX8_tells_g0.2.2.2.2.1 ?_
    refine wm_iload_n 2 C dX8_tells_g0.2.2.2.2.2.1 rfl ?_
    obtain ⟨o4, ho5, hf⟩ := bnd hf
    refine wm_callVi (As := [.int v2]) (ci := 1) C (c_X1_hasDish hPl _ _ _ ho5) mi_X1_hasDish wt_X8_134 (hPl 1 (by decide) (by decide)) rfl rfl rfl rfl (by decide) (by decide) (Nat.le_of_ble_eq_true rfl) dX8_tells_g0.2.2.2.2.2.2.1 ?_
    refine wm_if_eq (tgt := 28) C dX8_tells_g0.2.2.2.2.2.2.2.1 (by decide) (fun c6 => ?_) (fun c6 => ?_)
    · have hf := (if_pos c6).symm.trans hf
      refine wm_bipush (v := (-2)) C dX8_tells_g1.2.1 (by decide) ?_
      exact wm_iret C hrt hf dX8_tells_g1.2.2.1
    · have hf := (if_neg c6).symm.trans hf
      refine wm_iload_n 3 C dX8_tells_g0.2.2.2.2.2.2.2.2.1 rfl ?_
      refine wm_if_lt (tgt := 28) C dX8_tells_g0.2.2.2.2.2.2.2.2.2.1 (by decide) (fun c7 => ?_) (fun c7 => ?_)
      · have hf := (if_pos c7).symm.trans hf
        refine wm_bipush (v := (-2)) C dX8_tells_g1.2.1 (by decide) ?_
        exact wm_iret C hrt hf dX8_tells_g1.2.2.1
      · have hf := (if_neg c7).symm.trans hf
        refine wm_iload_n 3 C dX8_tells_g0.2.2.2.2.2.2.2.2.2.2.1 rfl ?_
        refine wm_bipush (v := 8) C dX8_tells_g0.2.2.2.2.2.2.2.2.2.2.2 (by decide) ?_
        refine wm_icmp_le (tgt := 31) C dX8_tells_g1.1 (by decide) (fun c8 => ?_) (fun c8 => ?_)
        · have hf := (if_pos c8).symm.trans hf
          refine wm_aload_n 0 C dX8_tells_g1.2.2.2.1 rfl ?_
          refine wm_get (ci := 7) (k := 9) (v := .ref (A 54)) C (hPl 0 (by decide) (by decide)) rfl rfl (by decide) wt_X8_42 iwX8 rfl dX8_tells_g1.2.2.2.2.1 ?_
          refine wm_iload_n 1 C dX8_tells_g1.2.2.2.2.2.1 rfl ?_
          obtain ⟨h9, hf⟩ := ckd hf
          refine wm_aald54 (j := (v1).toNatClampNeg) C (hPl 54 (by decide) (by decide)) h9 rfl dX8_tells_g1.2.2.2.2.2.2.1 ?_
          refine wm_astore (lv1 := [(4, .ref (A (55 + 2 * (v1).toNatClampNeg))), (0, .ref (A 0)), (1, .int v1), (2, .int v2), (3, .int v3)]) C dX8_tells_g1.2.2.2.2.2.2.2.1 (by decide) rfl ?_
          refine wm_aload 0 C dX8_tells_g1.2.2.2.2.2.2.2.2.1 rfl ?_
          obtain ⟨o10, ho11, hf⟩ := bnd hf
          obtain ⟨h12, hf⟩ := ckd hf
          refine wm_callVi (As := []) (ci := 5) C (c_X6_isMissing hPl _ _ _ ho11) mi_X6_isMissing wt_X8_255 (kr5 hPl (eq_of_beq h12)) (eq_of_beq h12) rfl rfl rfl (by decide) (by decide) (Nat.le_of_ble_eq_true rfl) dX8_tells_g1.2.2.2.2.2.2.2.2.2.1 ?_
          refine wm_if_eq (tgt := 50) C dX8_tells_g1.2.2.2.2.2.2.2.2.2.2.1 (by decide) (fun c13 => ?_) (fun c13 => ?_)
          · have hf := (if_pos c13).symm.trans hf
            refine wm_aload 0 C dX8_tells_g2.2.1 rfl ?_
            refine wm_get (ci := 5) (k := 1) (v := .int (o10.2 (55 + 2 * (v1).toNatClampNeg) 1)) C (kr5 hPl (eq_of_beq h12)) (eq_of_beq h12) rfl (by decide) wt_X8_259 iwX6 rfl dX8_tells_g2.2.2.1 ?_
            refine wm_iconst (v := 2) C dX8_tells_g2.2.2.2.1 (by decide) ?_
            refine wm_icmp_eq (tgt := 62) C dX8_tells_g2.2.2.2.2.1 (by decide) (fun c14 => ?_) (fun c14 => ?_)
            · have hf := (if_pos c14).symm.trans hf
              refine wm_iload_n 4 C dX8_tells_g2.2.2.2.2.2.2.2.1 rfl ?_
              by_cases c15 : v3 = 1
              · have hf := (if_pos c15).symm.trans hf
                refine wm_tswI (tgt := 108) (off := 45) C dX8_tells_g2.2.2.2.2.2.2.2.2.1 c15 (by decide) (by decide) (by decide) (by decide) ?_
                refine wm_aload_n 1 C dX8_tells_g2.2.2.2.2.2.2.2.2.2.1 rfl ?_
                refine wm_iconst (v := 1) C dX8_tells_g2.2.2.2.2.2.2.2.2.2.2.1 (by decide) ?_
                refine wm_bipush (v := 6) C dX8_tells_g2.2.2.2.2.2.2.2.2.2.2.2 (by decide) ?_
                refine wm_iconst (v := 0) C dX8_tells_g3.1 (by decide) ?_
                refine wm_aload 0 C dX8_tells_g3.2.1 rfl ?_
                refine wm_iload_n 3 C dX8_tells_g3.2.2.1 rfl ?_
                obtain ⟨o16, ho17, hf⟩ := bnd hf
                refine wm_callVi (As := [.int 1, .int 6, .int 0, .ref (A (55 + 2 * (v1).toNatClampNeg)), .int v2]) (ci := 7) C (c_X8_guess hPl _ _ _ _ _ _ _ ho17) mi_X8_guess wt_X8_260 (hPl 0 (by decide) (by decide)) rfl rfl rfl rfl (by decide) (by decide) (Nat.le_of_ble_eq_true rfl) dX8_tells_g3.2.2.2.1 ?_
                exact wm_iret C hrt hf dX8_tells_g3.2.2.2.2.1
              · have hf := (if_neg c15).symm.trans hf
                by_cases c18 : v3 = 2
                · have hf := (if_pos c18).symm.trans hf
                  refine wm_tswI (tgt := 120) (off := 57) C dX8_tells_g2.2.2.2.2.2.2.2.2.1 c18 (by decide) (by decide) (by decide) (by decide) ?_
                  refine wm_aload_n 1 C dX8_tells_g3.2.2.2.2.2.1 rfl ?_
                  refine wm_iconst (v := 2) C dX8_tells_g3.2.2.2.2.2.2.1 (by decide) ?_
                  refine wm_bipush (v := 10) C dX8_tells_g3.2.2.2.2.2.2.2.1 (by decide) ?_
                  refine wm_iconst (v := 0) C dX8_tells_g3.2.2.2.2.2.2.2.2.1 (by decide) ?_
                  refine wm_aload 0 C dX8_tells_g3.2.2.2.2.2.2.2.2.2.1 rfl ?_
                  refine wm_iload_n 3 C dX8_tells_g3.2.2.2.2.2.2.2.2.2.2.1 rfl ?_
                  obtain ⟨o19, ho20, hf⟩ := bnd hf
                  refine wm_callVi (As := [.int 2, .int 10, .int 0, .ref (A (55 + 2 * (v1).toNatClampNeg)), .int v2]) (ci := 7) C (c_X8_guess hPl _ _ _ _ _ _ _ ho20) mi_X8_guess wt_X8_260 (hPl 0 (by decide) (by decide)) rfl rfl rfl rfl (by decide) (by decide) (Nat.le_of_ble_eq_true rfl) dX8_tells_g3.2.2.2.2.2.2.2.2.2.2.2 ?_
                  exact wm_iret C hrt hf dX8_tells_g4.1
                · have hf := (if_neg c18).symm.trans hf
                  by_cases c21 : v3 = 3
                  · have hf := (if_pos c21).symm.trans hf
                    refine wm_tswI (tgt := 132) (off := 69) C dX8_tells_g2.2.2.2.2.2.2.2.2.1 c21 (by decide) (by decide) (by decide) (by decide) ?_
                    refine wm_aload_n 1 C dX8_tells_g4.2.1 rfl ?_
                    refine wm_iconst (v := 3) C dX8_tells_g4.2.2.1 (by decide) ?_
                    refine wm_bipush (v := 100) C dX8_tells_g4.2.2.2.1 (by decide) ?_
                    refine wm_iconst (v := 1) C dX8_tells_g4.2.2.2.2.1 (by decide) ?_
                    refine wm_aload 0 C dX8_tells_g4.2.2.2.2.2.1 rfl ?_
                    refine wm_iload_n 3 C dX8_tells_g4.2.2.2.2.2.2.1 rfl ?_
                    obtain ⟨o22, ho23, hf⟩ := bnd hf
                    refine wm_callVi (As := [.int 3, .int 100, .int 1, .ref (A (55 + 2 * (v1).toNatClampNeg)), .int v2]) (ci := 7) C (c_X8_guess hPl _ _ _ _ _ _ _ ho23) mi_X8_guess wt_X8_260 (hPl 0 (by decide) (by decide)) rfl rfl rfl rfl (by decide) (by decide) (Nat.le_of_ble_eq_true rfl) dX8_tells_g4.2.2.2.2.2.2.2.1 ?_
                    exact wm_iret C hrt hf dX8_tells_g4.2.2.2.2.2.2.2.2.1
                  · have hf := (if_neg c21).symm.trans hf
                    by_cases c24 : v3 = 4
                    · have hf := (if_pos c24).symm.trans hf
                      refine wm_tswI (tgt := 144) (off := 81) C dX8_tells_g2.2.2.2.2.2.2.2.2.1 c24 (by decide) (by decide) (by decide) (by decide) ?_
                      refine wm_aload_n 1 C dX8_tells_g4.2.2.2.2.2.2.2.2.2.1 rfl ?_
                      refine wm_iconst (v := 3) C dX8_tells_g4.2.2.2.2.2.2.2.2.2.2.1 (by decide) ?_
                      refine wm_bipush (v := 100) C dX8_tells_g4.2.2.2.2.2.2.2.2.2.2.2 (by decide) ?_
                      refine wm_iconst (v := 2) C dX8_tells_g5.1 (by decide) ?_
                      refine wm_aload 0 C dX8_tells_g5.2.1 rfl ?_
                      refine wm_iload_n 3 C dX8_tells_g5.2.2.1 rfl ?_
                      obtain ⟨o25, ho26, hf⟩ := bnd hf
                      refine wm_callVi (As := [.int 3, .int 100, .int 2, .ref (A (55 + 2 * (v1).toNatClampNeg)), .int v2]) (ci := 7) C (c_X8_guess hPl _ _ _ _ _ _ _ ho26) mi_X8_guess wt_X8_260 (hPl 0 (by decide) (by decide)) rfl rfl rfl rfl (by decide) (by decide) (Nat.le_of_ble_eq_true rfl) dX8_tells_g5.2.2.2.1 ?_
                      exact wm_iret C hrt hf dX8_tells_g5.2.2.2.2.1
                    · have hf := (if_neg c24).symm.trans hf
                      by_cases c27 : v3 = 5
                      · have hf := (if_pos c27).symm.trans hf
                        refine wm_tswI (tgt := 156) (off := 93) C dX8_tells_g2.2.2.2.2.2.2.2.2.1 c27 (by decide) (by decide) (by decide) (by decide) ?_
                        refine wm_aload_n 1 C dX8_tells_g5.2.2.2.2.2.1 rfl ?_
                        refine wm_iconst (v := 4) C dX8_tells_g5.2.2.2.2.2.2.1 (by decide) ?_
                        refine wm_bipush (v := 100) C dX8_tells_g5.2.2.2.2.2.2.2.1 (by decide) ?_
                        refine wm_iconst (v := 1) C dX8_tells_g5.2.2.2.2.2.2.2.2.1 (by decide) ?_
                        refine wm_aload 0 C dX8_tells_g5.2.2.2.2.2.2.2.2.2.1 rfl ?_
                        refine wm_iload_n 3 C dX8_tells_g5.2.2.2.2.2.2.2.2.2.2.1 rfl ?_
                        obtain ⟨o28, ho29, hf⟩ := bnd hf
                        refine wm_callVi (As := [.int 4, .int 100, .int 1, .ref (A (55 + 2 * (v1).toNatClampNeg)), .int v2]) (ci := 7) C (c_X8_guess hPl _ _ _ _ _ _ _ ho29) mi_X8_guess wt_X8_260 (hPl 0 (by decide) (by decide)) rfl rfl rfl rfl (by decide) (by decide) (Nat.le_of_ble_eq_true rfl) dX8_tells_g5.2.2.2.2.2.2.2.2.2.2.2 ?_
                        exact wm_iret C hrt hf dX8_tells_g6.1
                      · have hf := (if_neg c27).symm.trans hf
                        by_cases c30 : v3 = 6
                        · have hf := (if_pos c30).symm.trans hf
                          refine wm_tswI (tgt := 168) (off := 105) C dX8_tells_g2.2.2.2.2.2.2.2.2.1 c30 (by decide) (by decide) (by decide) (by decide) ?_
                          refine wm_aload_n 1 C dX8_tells_g6.2.1 rfl ?_
                          refine wm_iconst (v := 4) C dX8_tells_g6.2.2.1 (by decide) ?_
                          refine wm_bipush (v := 100) C dX8_tells_g6.2.2.2.1 (by decide) ?_
                          refine wm_iconst (v := 2) C dX8_tells_g6.2.2.2.2.1 (by decide) ?_
                          refine wm_aload 0 C dX8_tells_g6.2.2.2.2.2.1 rfl ?_
                          refine wm_iload_n 3 C dX8_tells_g6.2.2.2.2.2.2.1 rfl ?_
                          obtain ⟨o31, ho32, hf⟩ := bnd hf
                          refine wm_callVi (As := [.int 4, .int 100, .int 2, .ref (A (55 + 2 * (v1).toNatClampNeg)), .int v2]) (ci := 7) C (c_X8_guess hPl _ _ _ _ _ _ _ ho32) mi_X8_guess wt_X8_260 (hPl 0 (by decide) (by decide)) rfl rfl rfl rfl (by decide) (by decide) (Nat.le_of_ble_eq_true rfl) dX8_tells_g6.2.2.2.2.2.2.2.1 ?_
                          exact wm_iret C hrt hf dX8_tells_g6.2.2.2.2.2.2.2.2.1
                        · have hf := (if_neg c30).symm.trans hf
                          by_cases c33 : v3 = 7
                          · have hf := (if_pos c33).symm.trans hf
                            refine wm_tswI (tgt := 180) (off := 117) C dX8_tells_g2.2.2.2.2.2.2.2.2.1 c33 (by decide) (by decide) (by decide) (by decide) ?_
                            refine wm_aload_n 1 C dX8_tells_g6.2.2.2.2.2.2.2.2.2.1 rfl ?_
                            refine wm_iconst (v := 5) C dX8_tells_g6.2.2.2.2.2.2.2.2.2.2.1 (by decide) ?_
                            refine wm_aload_n 1 C dX8_tells_g6.2.2.2.2.2.2.2.2.2.2.2 rfl ?_
                            refine wm_get (ci := 7) (k := 4) (v := .int (o10.2 0 4)) C (hPl 0 (by decide) (by decide)) rfl rfl (by decide) wt_X8_29 iwX8 rfl dX8_tells_g7.1 ?_
                            refine wm_iconst (v := 0) C dX8_tells_g7.2.1 (by decide) ?_
                            refine wm_aload 0 C dX8_tells_g7.2.2.1 rfl ?_
                            refine wm_iload_n 3 C dX8_tells_g7.2.2.2.1 rfl ?_
                            obtain ⟨o34, ho35, hf⟩ := bnd hf
                            refine wm_callVi (As := [.int 5, .int (o10.2 0 4), .int 0, .ref (A (55 + 2 * (v1).toNatClampNeg)), .int v2]) (ci := 7) C (c_X8_guess hPl _ _ _ _ _ _ _ ho35) mi_X8_guess wt_X8_260 (hPl 0 (by decide) (by decide)) rfl rfl rfl rfl (by decide) (by decide) (Nat.le_of_ble_eq_true rfl) dX8_tells_g7.2.2.2.2.1 ?_
                            exact wm_iret C hrt hf dX8_tells_g7.2.2.2.2.2.1
                          · have hf := (if_neg c33).symm.trans hf
                            by_cases c36 : v3 = 8
                            · have hf := (if_pos c36).symm.trans hf
                              refine wm_tswI (tgt := 194) (off := 131) C dX8_tells_g2.2.2.2.2.2.2.2.2.1 c36 (by decide) (by decide) (by decide) (by decide) ?_
                              refine wm_aload_n 1 C dX8_tells_g7.2.2.2.2.2.2.1 rfl ?_
                              refine wm_bipush (v := 6) C dX8_tells_g7.2.2.2.2.2.2.2.1 (by decide) ?_
                              refine wm_aload_n 1 C dX8_tells_g7.2.2.2.2.2.2.2.2.1 rfl ?_
                              refine wm_get (ci := 7) (k := 0) (v := .ref (A 1)) C (hPl 0 (by decide) (by decide)) rfl rfl (by decide) wt_X8_10 iwX8 rfl dX8_tells_g7.2.2.2.2.2.2.2.2.2.1 ?_
                              refine wm_get (ci := 1) (k := 6) (v := .int (o10.2 1 6)) C (hPl 1 (by decide) (by decide)) rfl rfl (by decide) wt_X8_209 iwX1 rfl dX8_tells_g7.2.2.2.2.2.2.2.2.2.2.1 ?_
                              refine wm_iconst (v := 0) C dX8_tells_g7.2.2.2.2.2.2.2.2.2.2.2 (by decide) ?_
                              refine wm_aload 0 C dX8_tells_g8.1 rfl ?_
                              refine wm_iload_n 3 C dX8_tells_g8.2.1 rfl ?_
                              obtain ⟨o37, ho38, hf⟩ := bnd hf
                              refine wm_callVi (As := [.int 6, .int (o10.2 1 6), .int 0, .ref (A (55 + 2 * (v1).toNatClampNeg)), .int v2]) (ci := 7) C (c_X8_guess hPl _ _ _ _ _ _ _ ho38) mi_X8_guess wt_X8_260 (hPl 0 (by decide) (by decide)) rfl rfl rfl rfl (by decide) (by decide) (Nat.le_of_ble_eq_true rfl) dX8_tells_g8.2.2.1 ?_
                              exact wm_iret C hrt hf dX8_tells_g8.2.2.2.1
                            · have hf := (if_neg c36).symm.trans hf
                              have nc15 : ¬ (v3).toInt = 1 := lv_neT c15 (by decide)
                              have nc18 : ¬ (v3).toInt = 2 := lv_neT c18 (by decide)
                              have nc21 : ¬ (v3).toInt = 3 := lv_neT c21 (by decide)
                              have nc24 : ¬ (v3).toInt = 4 := lv_neT c24 (by decide)
                              have nc27 : ¬ (v3).toInt = 5 := lv_neT c27 (by decide)
                              have nc30 : ¬ (v3).toInt = 6 := lv_neT c30 (by decide)
                              have nc33 : ¬ (v3).toInt = 7 := lv_neT c33 (by decide)
                              have nc36 : ¬ (v3).toInt = 8 := lv_neT c36 (by decide)
                              refine wm_tswO (tgt := 212) C dX8_tells_g2.2.2.2.2.2.2.2.2.1 (by omega) (by decide) ?_
                              refine wm_aload_n 1 C dX8_tells_g8.2.2.2.2.1 rfl ?_
                              refine wm_get (ci := 7) (k := 6) (v := .ref (A 36)) C (hPl 0 (by decide) (by decide)) rfl rfl (by decide) wt_X8_73 iwX8 rfl dX8_tells_g8.2.2.2.2.2.1 ?_
                              refine wm_aload_n 1 C dX8_tells_g8.2.2.2.2.2.2.1 rfl ?_
                              refine wm_get (ci := 7) (k := 0) (v := .ref (A 1)) C (hPl 0 (by decide) (by decide)) rfl rfl (by decide) wt_X8_10 iwX8 rfl dX8_tells_g8.2.2.2.2.2.2.2.1 ?_
                              refine wm_iload_n 3 C dX8_tells_g8.2.2.2.2.2.2.2.2.1 rfl ?_
                              obtain ⟨o39, ho40, hf⟩ := bnd hf
                              refine wm_callVv (As := [.ref (A 1), .int v2]) (ci := 0) C (c_X0_takeUp hPl _ _ _ ho40) mi_X0_takeUp wt_X8_140 (hPl 36 (by decide) (by decide)) rfl rfl rfl rfl (by decide) (by decide) (Nat.le_of_ble_eq_true rfl) dX8_tells_g8.2.2.2.2.2.2.2.2.2.1 ?_
                              refine wm_aload_n 1 C dX8_tells_g8.2.2.2.2.2.2.2.2.2.2.1 rfl ?_
                              refine wm_get (ci := 7) (k := 6) (v := .ref (A 36)) C (hPl 0 (by decide) (by decide)) rfl rfl (by decide) wt_X8_73 iwX8 rfl dX8_tells_g8.2.2.2.2.2.2.2.2.2.2.2 ?_
                              refine wm_aload 0 C dX8_tells_g9.1 rfl ?_
                              refine wm_aload_n 1 C dX8_tells_g9.2.1 rfl ?_
                              refine wm_get (ci := 7) (k := 0) (v := .ref (A 1)) C (hPl 0 (by decide) (by decide)) rfl rfl (by decide) wt_X8_10 iwX8 rfl dX8_tells_g9.2.2.1 ?_
                              refine wm_get (ci := 1) (k := 0) (v := .ref (A 2)) C (hPl 1 (by decide) (by decide)) rfl rfl (by decide) wt_X8_104 iwX1 rfl dX8_tells_g9.2.2.2.1 ?_
                              obtain ⟨o41, ho42, hf⟩ := bnd hf
                              refine wm_callVi (As := [.ref (A (55 + 2 * (v1).toNatClampNeg)), .ref (A 2)]) (ci := 0) C (c_X0_firstOtherwise hPl _ _ _ _ ho42) mi_X0_firstOtherwise wt_X8_264 (hPl 36 (by decide) (by decide)) rfl rfl rfl rfl (by decide) (by decide) (Nat.le_of_ble_eq_true rfl) dX8_tells_g9.2.2.2.2.1 ?_
                              exact wm_iret C hrt hf dX8_tells_g9.2.2.2.2.2
            · have hf := (if_neg c14).symm.trans hf
              refine wm_bipush (v := (-2)) C dX8_tells_g2.2.2.2.2.2.1 (by decide) ?_
              exact wm_iret C hrt hf dX8_tells_g2.2.2.2.2.2.2.1
          · have hf := (if_neg c13).symm.trans hf
            refine wm_bipush (v := (-11)) C dX8_tells_g1.2.2.2.2.2.2.2.2.2.2.2 (by decide) ?_
            exact wm_iret C hrt hf dX8_tells_g2.1
        · have hf := (if_neg c8).symm.trans hf
          refine wm_bipush (v := (-2)) C dX8_tells_g1.2.1 (by decide) ?_
          exact wm_iret C hrt hf dX8_tells_g1.2.2.1
set_option maxHeartbeats 4000000 in
set_option maxRecDepth 100000 in
theorem c_X6_become {l : Launch} {D : va_G} {cA : Nat → ClassId} {A : Nat → Nat} {Pl : List Nat} (hPl : ∀ q, 0 ≤ q → q < 63 → q ∈ Pl) (q0 : Nat) (v1 : Int32) (v2 : Int32) (M : Mem) (out : Mem) (ho : f_X6_become q0 v1 v2 M = some out) : CtV l D cA A Pl yX6_become cX6_become 4 1 [.ref (A q0), .int v1, .int v2] M out := by
  refine ct_V (by decide) (Nat.le_of_ble_eq_true rfl) (fun p e s m args below meth c C hrt => ?_)
  have hl12 : ∀ (n : Nat), ∀ (q0 : Nat) (v3 : Int32) (M : Mem), f_X6_become_l12 n q0 v3 M = some out → WM p l e (RM 1) s m args below meth c 0 0 (MQ below (QV D cA A Pl out) args s 0 0 (FA A Pl)) D cA A Pl (FA A Pl) 4 M 12 [(0, .ref (A q0)), (3, .int v3)] [] := by
    intro n
    induction n with
    | zero => intro q0 v3 M hf; rw [f_X6_become_l12] at hf; cases hf
    | succ n hr =>
      intro q0 v3 M hf
      rw [f_X6_become_l12] at hf
      refine wm_iload_n 1 C dX6_become_g0.2.2.2.2.2.2.2.2.1 rfl ?_
      refine wm_bipush (v := 40) C dX6_become_g0.2.2.2.2.2.2.2.2.2.1 (by decide) ?_
      refine wm_icmp_ge (tgt := 31) C dX6_become_g0.2.2.2.2.2.2.2.2.2.2.1 (by decide) (fun c2 => ?_) (fun c2 => ?_)
      · have hf := (if_pos c2).symm.trans hf
        exact wm_vret C hrt hf dX6_become_g1.2.2.2.2.2.2
      · have hf := (if_neg c2).symm.trans hf
        refine wm_aload_n 0 C dX6_become_g0.2.2.2.2.2.2.2.2.2.2.2 rfl ?_
        obtain ⟨h3, hf⟩ := ckd hf
        refine wm_get (ci := 5) (k := 2) (v := .ref (A (q0 + 1))) C (kr5 hPl (eq_of_beq h3)) (eq_of_beq h3) rfl (by decide) wt_X6_18 iwX6 rfl dX6_become_g1.1 ?_
        refine wm_iload_n 1 C dX6_become_g1.2.1 rfl ?_
        refine wm_iconst (v := 0) C dX6_become_g1.2.2.1 (by decide) ?_
        obtain ⟨h4, hf⟩ := ckd hf
        obtain ⟨h5, hf⟩ := ckd hf
        refine wm_iast (n := (ln (q0 + 1))) (j := (v3).toNatClampNeg) (x := 0) C (kr10 hPl (eq_of_beq h4)) (eq_of_beq h4) rfl rfl h5 rfl dX6_become_g1.2.2.2.1 ?_
        refine wm_iinc (lv1 := [(3, .int (v3 + 1)), (0, .ref (A q0))]) (v := (v3 + 1)) 1 C dX6_become_g1.2.2.2.2.1 rfl (by first | rfl | decide) (by decide) rfl ?_
        refine wm_goto (tgt := 12) C dX6_become_g1.2.2.2.2.2.1 (by decide) ?_
        refine wm_pick [1, 0] rfl ?_
        exact hr _ _ _ hf
  have hf := ho
  unfold f_X6_become at hf
  refine wm_aload_n 0 C dX6_become_g0.1 rfl ?_
  refine wm_iload_n 1 C dX6_become_g0.2.1 rfl ?_
  obtain ⟨h1, hf⟩ := ckd hf
  refine wm_put (ci := 5) (k := 0) (x := v1) C (kr5 hPl (eq_of_beq h1)) (eq_of_beq h1) rfl (by decide) wt_X6_11 iwX6 tyX6_ok nmX6 rfl rfl rfl rfl (fun _ => rfl) (Nat.le_of_ble_eq_true rfl) dX6_become_g0.2.2.1 ?_
  refine wm_aload_n 0 C dX6_become_g0.2.2.2.1 rfl ?_
  refine wm_iload_n 2 C dX6_become_g0.2.2.2.2.1 rfl ?_
  refine wm_put (ci := 5) (k := 1) (x := v2) C (kr5 hPl (eq_of_beq h1)) (eq_of_beq h1) rfl (by decide) wt_X6_15 iwX6 tyX6_ok nmX6 rfl rfl rfl rfl (fun _ => rfl) (Nat.le_of_ble_eq_true rfl) dX6_become_g0.2.2.2.2.2.1 ?_
  refine wm_iconst (v := 0) C dX6_become_g0.2.2.2.2.2.2.1 (by decide) ?_
  refine wm_istore_n (lv1 := [(3, .int 0), (0, .ref (A q0)), (1, .int v1), (2, .int v2)]) C dX6_become_g0.2.2.2.2.2.2.2.1 (by decide) rfl ?_
  refine wm_pick [1, 0] rfl ?_
  exact (hl12 FU) _ _ _ hf
set_option maxHeartbeats 4000000 in
set_option maxRecDepth 100000 in
theorem c_X6_hasItem {l : Launch} {D : va_G} {cA : Nat → ClassId} {A : Nat → Nat} {Pl : List Nat} (hPl : ∀ q, 0 ≤ q → q < 63 → q ∈ Pl) (q0 : Nat) (v1 : Int32) (M : Mem) (out : (Int32 × Mem)) (ho : f_X6_hasItem q0 v1 M = some out) : CtI l D cA A Pl yX6_hasItem cX6_hasItem 2 1 .boolean [.ref (A q0), .int v1] M out := by
  refine ct_I (by decide) (Nat.le_of_ble_eq_true rfl) (fun p e s m args below meth c C hrt => ?_)
  have hf := ho
  unfold f_X6_hasItem at hf
  refine wm_iload_n 1 C dX6_hasItem_g0.1 rfl ?_
  refine wm_if_lt (tgt := 16) C dX6_hasItem_g0.2.1 (by decide) (fun c1 => ?_) (fun c1 => ?_)
  · have hf := (if_pos c1).symm.trans hf
    refine wm_iconst (v := 0) C dX6_hasItem_g0.2.2.2.2.2.2.2.2.1 (by decide) ?_
    exact wm_zret C hrt rfl hf dX6_hasItem_g0.2.2.2.2.2.2.2.2.2
  · have hf := (if_neg c1).symm.trans hf
    refine wm_iload_n 1 C dX6_hasItem_g0.2.2.1 rfl ?_
    refine wm_aload_n 0 C dX6_hasItem_g0.2.2.2.1 rfl ?_
    obtain ⟨h2, hf⟩ := ckd hf
    refine wm_get (ci := 5) (k := 1) (v := .int (M q0 1)) C (kr5 hPl (eq_of_beq h2)) (eq_of_beq h2) rfl (by decide) wt_X6_15 iwX6 rfl dX6_hasItem_g0.2.2.2.2.1 ?_
    refine wm_icmp_ge (tgt := 16) C dX6_hasItem_g0.2.2.2.2.2.1 (by decide) (fun c3 => ?_) (fun c3 => ?_)
    · have hf := (if_pos c3).symm.trans hf
      refine wm_iconst (v := 0) C dX6_hasItem_g0.2.2.2.2.2.2.2.2.1 (by decide) ?_
      exact wm_zret C hrt rfl hf dX6_hasItem_g0.2.2.2.2.2.2.2.2.2
    · have hf := (if_neg c3).symm.trans hf
      refine wm_iconst (v := 1) C dX6_hasItem_g0.2.2.2.2.2.2.1 (by decide) ?_
      refine wm_goto (tgt := 17) C dX6_hasItem_g0.2.2.2.2.2.2.2.1 (by decide) ?_
      exact wm_zret C hrt rfl hf dX6_hasItem_g0.2.2.2.2.2.2.2.2.2
set_option maxHeartbeats 4000000 in
set_option maxRecDepth 100000 in
theorem c_X6_put {l : Launch} {D : va_G} {cA : Nat → ClassId} {A : Nat → Nat} {Pl : List Nat} (hPl : ∀ q, 0 ≤ q → q < 63 → q ∈ Pl) (q0 : Nat) (v1 : Int32) (v2 : Int32) (M : Mem) (out : Mem) (ho : f_X6_put q0 v1 v2 M = some out) : CtV l D cA A Pl yX6_put cX6_put 3 2 [.ref (A q0), .int v1, .int v2] M out := by
  refine ct_V (by decide) (Nat.le_of_ble_eq_true rfl) (fun p e s m args below meth c C hrt => ?_)
  have hf := ho
  unfold f_X6_put at hf
  refine wm_aload_n 0 C dX6_put_g0.1 rfl ?_
  refine wm_iload_n 1 C dX6_put_g0.2.1 rfl ?_
  obtain ⟨o1, ho2, hf⟩ := bnd hf
  obtain ⟨h3, hf⟩ := ckd hf
  refine wm_callVi (As := [.int v1]) (ci := 5) C (c_X6_hasItem hPl _ _ _ _ ho2) mi_X6_hasItem wt_X6_22 (kr5 hPl (eq_of_beq h3)) (eq_of_beq h3) rfl rfl rfl (by decide) (by decide) (Nat.le_of_ble_eq_true rfl) dX6_put_g0.2.2.1 ?_
  refine wm_if_eq (tgt := 40) C dX6_put_g0.2.2.2.1 (by decide) (fun c4 => ?_) (fun c4 => ?_)
  · have hf := (if_pos c4).symm.trans hf
    exact wm_vret C hrt hf dX6_put_g1.2.2.2.2.2.2.2.2.2.2
  · have hf := (if_neg c4).symm.trans hf
    refine wm_aload_n 0 C dX6_put_g0.2.2.2.2.1 rfl ?_
    refine wm_get (ci := 5) (k := 2) (v := .ref (A (q0 + 1))) C (kr5 hPl (eq_of_beq h3)) (eq_of_beq h3) rfl (by decide) wt_X6_18 iwX6 rfl dX6_put_g0.2.2.2.2.2.1 ?_
    refine wm_iload_n 1 C dX6_put_g0.2.2.2.2.2.2.1 rfl ?_
    refine wm_aload_n 0 C dX6_put_g0.2.2.2.2.2.2.2.1 rfl ?_
    refine wm_get (ci := 5) (k := 0) (v := .int (o1.2 q0 0)) C (kr5 hPl (eq_of_beq h3)) (eq_of_beq h3) rfl (by decide) wt_X6_11 iwX6 rfl dX6_put_g0.2.2.2.2.2.2.2.2.1 ?_
    refine wm_if_ne (tgt := 25) C dX6_put_g0.2.2.2.2.2.2.2.2.2.1 (by decide) (fun c5 => ?_) (fun c5 => ?_)
    · have hf := (if_neg c5).symm.trans hf
      refine wm_aload_n 0 C dX6_put_g1.2.1 rfl ?_
      refine wm_get (ci := 5) (k := 0) (v := .int (o1.2 q0 0)) C (kr5 hPl (eq_of_beq h3)) (eq_of_beq h3) rfl (by decide) wt_X6_11 iwX6 rfl dX6_put_g1.2.2.1 ?_
      refine wm_iconst (v := 1) C dX6_put_g1.2.2.2.1 (by decide) ?_
      refine wm_icmp_ne (tgt := 38) C dX6_put_g1.2.2.2.2.1 (by decide) (fun c6 => ?_) (fun c6 => ?_)
      · have hf := (if_neg c6).symm.trans hf
        refine wm_iload_n 2 C dX6_put_g1.2.2.2.2.2.2.2.2.1 rfl ?_
        obtain ⟨h7, hf⟩ := ckd hf
        obtain ⟨h8, hf⟩ := ckd hf
        refine wm_iast (n := (ln (q0 + 1))) (j := (v1).toNatClampNeg) (x := v2) C (kr10 hPl (eq_of_beq h7)) (eq_of_beq h7) rfl rfl h8 rfl dX6_put_g1.2.2.2.2.2.2.2.2.2.1 ?_
        exact wm_vret C hrt hf dX6_put_g1.2.2.2.2.2.2.2.2.2.2
      · have hf := (if_pos c6).symm.trans hf
        refine wm_iload_n 2 C dX6_put_g1.2.2.2.2.2.1 rfl ?_
        refine wm_i2s C dX6_put_g1.2.2.2.2.2.2.1 ?_
        refine wm_goto (tgt := 39) C dX6_put_g1.2.2.2.2.2.2.2.1 (by decide) ?_
        obtain ⟨h9, hf⟩ := ckd hf
        obtain ⟨h10, hf⟩ := ckd hf
        refine wm_iast (n := (ln (q0 + 1))) (j := (v1).toNatClampNeg) (x := ((v2).toInt16.toInt32)) C (kr10 hPl (eq_of_beq h9)) (eq_of_beq h9) rfl rfl h10 rfl dX6_put_g1.2.2.2.2.2.2.2.2.2.1 ?_
        exact wm_vret C hrt hf dX6_put_g1.2.2.2.2.2.2.2.2.2.2
    · have hf := (if_pos c5).symm.trans hf
      refine wm_iload_n 2 C dX6_put_g0.2.2.2.2.2.2.2.2.2.2.1 rfl ?_
      refine wm_i2b C dX6_put_g0.2.2.2.2.2.2.2.2.2.2.2 ?_
      refine wm_goto (tgt := 39) C dX6_put_g1.1 (by decide) ?_
      obtain ⟨h11, hf⟩ := ckd hf
      obtain ⟨h12, hf⟩ := ckd hf
      refine wm_iast (n := (ln (q0 + 1))) (j := (v1).toNatClampNeg) (x := ((v2).toInt8.toInt32)) C (kr10 hPl (eq_of_beq h11)) (eq_of_beq h11) rfl rfl h12 rfl dX6_put_g1.2.2.2.2.2.2.2.2.2.1 ?_
      exact wm_vret C hrt hf dX6_put_g1.2.2.2.2.2.2.2.2.2.2
set_option maxHeartbeats 4000000 in
set_option maxRecDepth 100000 in
theorem c_X8_film {l : Launch} {D : va_G} {cA : Nat → ClassId} {A : Nat → Nat} {Pl : List Nat} (hPl : ∀ q, 0 ≤ q → q < 63 → q ∈ Pl) (v1 : Int32) (v2 : Int32) (M : Mem) (out : (Int32 × Mem)) (ho : f_X8_film v1 v2 M = some out) : CtI l D cA A Pl yX8_film cX8_film 7 6 .int [.ref (A 0), .int v1, .int v2] M out := by
  refine ct_I (by decide) (Nat.le_of_ble_eq_true rfl) (fun p e s m args below meth c C hrt => ?_)
  have hb110 : ∀ (r : Nat → Int32 → Int32 → Mem → Option (Int32 × Mem)) (hr : ∀ (q3 : Nat) (v4 : Int32) (v5 : Int32) (M : Mem), r q3 v4 v5 M = some out → WM p l e (RM 6) s m args below meth c 0 0 (MQ below (QI D cA A Pl out) args s 0 0 (FA A Pl)) D cA A Pl (FA A Pl) 7 M 52 [(0, .ref (A 0)), (3, .ref (A q3)), (4, .int v4), (5, .int v5)] []), ∀ (q3 : Nat) (v5 : Int32) (s0 : Int32) (s1 : Int32) (M : Mem), f_X8_film_b110 r q3 v5 s0 s1 M = some out → WM p l e (RM 6) s m args below meth c 0 0 (MQ below (QI D cA A Pl out) args s 0 0 (FA A Pl)) D cA A Pl (FA A Pl) 7 M 110 [(0, .ref (A 0)), (3, .ref (A q3)), (5, .int v5)] [.int s1, .int s0] := by
    intro r hr q3 v5 s0 s1 M hf
    unfold f_X8_film_b110 at hf
    refine wm_iadd C dX8_film_g4.2.2.2.2.2.2.2.2.1 ?_
    refine wm_istore (lv1 := [(4, .int (s0 + s1)), (0, .ref (A 0)), (3, .ref (A q3)), (5, .int v5)]) C dX8_film_g4.2.2.2.2.2.2.2.2.2.1 (by decide) rfl ?_
    refine wm_iinc (lv1 := [(5, .int (v5 + 1)), (4, .int (s0 + s1)), (0, .ref (A 0)), (3, .ref (A q3))]) (v := (v5 + 1)) 3 C dX8_film_g4.2.2.2.2.2.2.2.2.2.2.1 rfl (by first | rfl | decide) (by decide) rfl ?_
    refine wm_goto (tgt := 52) C dX8_film_g4.2.2.2.2.2.2.2.2.2.2.2 (by decide) ?_
    refine wm_pick [2, 3, 1, 0] rfl ?_
    exact hr _ _ _ _ hf
  have hb95 : ∀ (r : Nat → Int32 → Int32 → Mem → Option (Int32 × Mem)) (hr : ∀ (q3 : Nat) (v4 : Int32) (v5 : Int32) (M : Mem), r q3 v4 v5 M = some out → WM p l e (RM 6) s m args below meth c 0 0 (MQ below (QI D cA A Pl out) args s 0 0 (FA A Pl)) D cA A Pl (FA A Pl) 7 M 52 [(0, .ref (A 0)), (3, .ref (A q3)), (4, .int v4), (5, .int v5)] []), ∀ (q3 : Nat) (v4 : Int32) (v5 : Int32) (v6 : Int32) (s0 : Nat) (s1 : Int32) (s2 : Int32) (M : Mem), f_X8_film_b95 r q3 v4 v5 v6 s0 s1 s2 M = some out → WM p l e (RM 6) s m args below meth c 0 0 (MQ below (QI D cA A Pl out) args s 0 0 (FA A Pl)) D cA A Pl (FA A Pl) 7 M 95 [(0, .ref (A 0)), (3, .ref (A q3)), (4, .int v4), (5, .int v5), (6, .int v6)] [.int s2, .int s1, .ref (A s0)] := by
    intro r hr q3 v4 v5 v6 s0 s1 s2 M hf
    unfold f_X8_film_b95 at hf
    obtain ⟨o19, ho20, hf⟩ := bnd hf
    obtain ⟨h21, hf⟩ := ckd hf
    refine wm_callVv (As := [.int s1, .int s2]) (ci := 5) C (c_X6_put hPl _ _ _ _ _ ho20) mi_X6_put wt_X8_271 (kr5 hPl (eq_of_beq h21)) (eq_of_beq h21) rfl rfl rfl (by decide) (by decide) (Nat.le_of_ble_eq_true rfl) dX8_film_g4.2.1 ?_
    refine wm_iload 2 C dX8_film_g4.2.2.1 rfl ?_
    refine wm_iload 4 C dX8_film_g4.2.2.2.1 rfl ?_
    refine wm_if_eq (tgt := 109) C dX8_film_g4.2.2.2.2.1 (by decide) (fun c22 => ?_) (fun c22 => ?_)
    · have hf := (if_pos c22).symm.trans hf
      refine wm_iconst (v := 0) C dX8_film_g4.2.2.2.2.2.2.2.1 (by decide) ?_
      refine wm_pick [0, 1, 3] rfl ?_
      exact (hb110 _ hr) _ _ _ _ _ hf
    · have hf := (if_neg c22).symm.trans hf
      refine wm_iconst (v := 1) C dX8_film_g4.2.2.2.2.2.1 (by decide) ?_
      refine wm_goto (tgt := 110) C dX8_film_g4.2.2.2.2.2.2.1 (by decide) ?_
      refine wm_pick [0, 1, 3] rfl ?_
      exact (hb110 _ hr) _ _ _ _ _ hf
  have hl52 : ∀ (n : Nat), ∀ (q3 : Nat) (v4 : Int32) (v5 : Int32) (M : Mem), f_X8_film_l52 n q3 v4 v5 M = some out → WM p l e (RM 6) s m args below meth c 0 0 (MQ below (QI D cA A Pl out) args s 0 0 (FA A Pl)) D cA A Pl (FA A Pl) 7 M 52 [(0, .ref (A 0)), (3, .ref (A q3)), (4, .int v4), (5, .int v5)] [] := by
    intro n
    induction n with
    | zero => intro q3 v4 v5 M hf; rw [f_X8_film_l52] at hf; cases hf
    | succ n hr =>
      intro q3 v4 v5 M hf
      rw [f_X8_film_l52] at hf
      refine wm_iload 3 C dX8_film_g2.2.2.2.2.2.1 rfl ?_
      refine wm_iconst (v := 2) C dX8_film_g2.2.2.2.2.2.2.1 (by decide) ?_
      refine wm_icmp_ge (tgt := 119) C dX8_film_g2.2.2.2.2.2.2.2.1 (by decide) (fun c13 => ?_) (fun c13 => ?_)
      · have hf := (if_pos c13).symm.trans hf
        refine wm_iload 2 C dX8_film_g5.1 rfl ?_
        exact wm_iret C hrt hf dX8_film_g5.2
      · have hf := (if_neg c13).symm.trans hf
        refine wm_aload_n 0 C dX8_film_g2.2.2.2.2.2.2.2.2.1 rfl ?_
        refine wm_get (ci := 7) (k := 6) (v := .ref (A 36)) C (hPl 0 (by decide) (by decide)) rfl rfl (by decide) wt_X8_73 iwX8 rfl dX8_film_g2.2.2.2.2.2.2.2.2.2.1 ?_
        refine wm_iload 3 C dX8_film_g2.2.2.2.2.2.2.2.2.2.2.1 rfl ?_
        refine wm_aload_n 0 C dX8_film_g2.2.2.2.2.2.2.2.2.2.2.2 rfl ?_
        refine wm_get (ci := 7) (k := 0) (v := .ref (A 1)) C (hPl 0 (by decide) (by decide)) rfl rfl (by decide) wt_X8_10 iwX8 rfl dX8_film_g3.1 ?_
        refine wm_get (ci := 1) (k := 0) (v := .ref (A 2)) C (hPl 1 (by decide) (by decide)) rfl rfl (by decide) wt_X8_104 iwX1 rfl dX8_film_g3.2.1 ?_
        obtain ⟨o14, ho15, hf⟩ := bnd hf
        refine wm_callVi (As := [.int v5, .ref (A 2)]) (ci := 0) C (c_X0_isCooked hPl _ _ _ _ ho15) mi_X0_isCooked wt_X8_177 (hPl 36 (by decide) (by decide)) rfl rfl rfl rfl (by decide) (by decide) (Nat.le_of_ble_eq_true rfl) dX8_film_g3.2.2.1 ?_
        refine wm_istore (lv1 := [(6, .int o14.1), (0, .ref (A 0)), (3, .ref (A q3)), (4, .int v4), (5, .int v5)]) C dX8_film_g3.2.2.2.1 (by decide) rfl ?_
        refine wm_aload_n 2 C dX8_film_g3.2.2.2.2.1 rfl ?_
        refine wm_iload 4 C dX8_film_g3.2.2.2.2.2.1 rfl ?_
        refine wm_iload 0 C dX8_film_g3.2.2.2.2.2.2.1 rfl ?_
        refine wm_if_eq (tgt := 94) C dX8_film_g3.2.2.2.2.2.2.2.1 (by decide) (fun c16 => ?_) (fun c16 => ?_)
        · have hf := (if_pos c16).symm.trans hf
          refine wm_iconst (v := (-1)) C dX8_film_g4.1 (by decide) ?_
          refine wm_pick [1, 2, 3, 4, 0] rfl ?_
          exact (hb95 _ hr) _ _ _ _ _ _ _ _ hf
        · have hf := (if_neg c16).symm.trans hf
          refine wm_aload_n 1 C dX8_film_g3.2.2.2.2.2.2.2.2.1 rfl ?_
          refine wm_get (ci := 7) (k := 6) (v := .ref (A 36)) C (hPl 0 (by decide) (by decide)) rfl rfl (by decide) wt_X8_73 iwX8 rfl dX8_film_g3.2.2.2.2.2.2.2.2.2.1 ?_
          obtain ⟨o17, ho18, hf⟩ := bnd hf
          refine wm_callVi (As := []) (ci := 0) C (c_X0_worth hPl  _ _ ho18) mi_X0_worth wt_X8_168 (hPl 36 (by decide) (by decide)) rfl rfl rfl rfl (by decide) (by decide) (Nat.le_of_ble_eq_true rfl) dX8_film_g3.2.2.2.2.2.2.2.2.2.2.1 ?_
          refine wm_goto (tgt := 95) C dX8_film_g3.2.2.2.2.2.2.2.2.2.2.2 (by decide) ?_
          refine wm_pick [1, 2, 3, 4, 0] rfl ?_
          exact (hb95 _ hr) _ _ _ _ _ _ _ _ hf
  have hf := ho
  unfold f_X8_film at hf
  refine wm_iload_n 1 C dX8_film_g0.1 rfl ?_
  obtain ⟨o1, ho2, hf⟩ := bnd hf
  refine wm_callSi (As := [.int v1]) C (c_X8_isSheet hPl _ _ _ ho2) mi_X8_isSheet wt_X8_252 rfl rfl (by decide) (by decide) (Nat.le_of_ble_eq_true rfl) dX8_film_g0.2.1 ?_
  refine wm_if_eq (tgt := 18) C dX8_film_g0.2.2.1 (by decide) (fun c3 => ?_) (fun c3 => ?_)
  · have hf := (if_pos c3).symm.trans hf
    refine wm_bipush (v := (-2)) C dX8_film_g0.2.2.2.2.2.2.2.2.1 (by decide) ?_
    exact wm_iret C hrt hf dX8_film_g0.2.2.2.2.2.2.2.2.2.1
  · have hf := (if_neg c3).symm.trans hf
    refine wm_aload_n 0 C dX8_film_g0.2.2.2.1 rfl ?_
    refine wm_get (ci := 7) (k := 0) (v := .ref (A 1)) C (hPl 0 (by decide) (by decide)) rfl rfl (by decide) wt_X8_10 iwX8 rfl dX8_film_g0.2.2.2.2.1 ?_
    refine wm_iload_n 2 C dX8_film_g0.2.2.2.2.2.1 rfl ?_
    obtain ⟨o4, ho5, hf⟩ := bnd hf
    refine wm_callVi (As := [.int v2]) (ci := 1) C (c_X1_hasDish hPl _ _ _ ho5) mi_X1_hasDish wt_X8_134 (hPl 1 (by decide) (by decide)) rfl rfl rfl rfl (by decide) (by decide) (Nat.le_of_ble_eq_true rfl) dX8_film_g0.2.2.2.2.2.2.1 ?_
    refine wm_if_ne (tgt := 21) C dX8_film_g0.2.2.2.2.2.2.2.1 (by decide) (fun c6 => ?_) (fun c6 => ?_)
    · have hf := (if_neg c6).symm.trans hf
      refine wm_aload_n 0 C dX8_film_g0.2.2.2.2.2.2.2.2.2.2.1 rfl ?_
      refine wm_get (ci := 7) (k := 9) (v := .ref (A 54)) C (hPl 0 (by decide) (by decide)) rfl rfl (by decide) wt_X8_42 iwX8 rfl dX8_film_g0.2.2.2.2.2.2.2.2.2.2.2 ?_
      refine wm_iload_n 1 C dX8_film_g1.1 rfl ?_
      obtain ⟨h7, hf⟩ := ckd hf
      refine wm_aald54 (j := (v1).toNatClampNeg) C (hPl 54 (by decide) (by decide)) h7 rfl dX8_film_g1.2.1 ?_
      refine wm_astore_n (lv1 := [(3, .ref (A (55 + 2 * (v1).toNatClampNeg))), (0, .ref (A 0)), (1, .int v1), (2, .int v2)]) C dX8_film_g1.2.2.1 (by decide) rfl ?_
      refine wm_aload_n 0 C dX8_film_g1.2.2.2.1 rfl ?_
      refine wm_iconst (v := 2) C dX8_film_g1.2.2.2.2.1 (by decide) ?_
      refine wm_iconst (v := 2) C dX8_film_g1.2.2.2.2.2.1 (by decide) ?_
      obtain ⟨o8, ho9, hf⟩ := bnd hf
      obtain ⟨h10, hf⟩ := ckd hf
      refine wm_callVv (As := [.int 2, .int 2]) (ci := 5) C (c_X6_become hPl _ _ _ _ _ ho9) mi_X6_become wt_X8_268 (kr5 hPl (eq_of_beq h10)) (eq_of_beq h10) rfl rfl rfl (by decide) (by decide) (Nat.le_of_ble_eq_true rfl) dX8_film_g1.2.2.2.2.2.2.1 ?_
      refine wm_aload_n 1 C dX8_film_g1.2.2.2.2.2.2.2.1 rfl ?_
      refine wm_get (ci := 7) (k := 6) (v := .ref (A 36)) C (hPl 0 (by decide) (by decide)) rfl rfl (by decide) wt_X8_73 iwX8 rfl dX8_film_g1.2.2.2.2.2.2.2.2.1 ?_
      refine wm_aload_n 1 C dX8_film_g1.2.2.2.2.2.2.2.2.2.1 rfl ?_
      refine wm_get (ci := 7) (k := 0) (v := .ref (A 1)) C (hPl 0 (by decide) (by decide)) rfl rfl (by decide) wt_X8_10 iwX8 rfl dX8_film_g1.2.2.2.2.2.2.2.2.2.2.1 ?_
      refine wm_iload_n 3 C dX8_film_g1.2.2.2.2.2.2.2.2.2.2.2 rfl ?_
      obtain ⟨o11, ho12, hf⟩ := bnd hf
      refine wm_callVv (As := [.ref (A 1), .int v2]) (ci := 0) C (c_X0_takeUp hPl _ _ _ ho12) mi_X0_takeUp wt_X8_140 (hPl 36 (by decide) (by decide)) rfl rfl rfl rfl (by decide) (by decide) (Nat.le_of_ble_eq_true rfl) dX8_film_g2.1 ?_
      refine wm_iconst (v := 0) C dX8_film_g2.2.1 (by decide) ?_
      refine wm_istore (lv1 := [(4, .int 0), (3, .ref (A (55 + 2 * (v1).toNatClampNeg))), (0, .ref (A 0)), (1, .int v1), (2, .int v2)]) C dX8_film_g2.2.2.1 (by decide) rfl ?_
      refine wm_iconst (v := 0) C dX8_film_g2.2.2.2.1 (by decide) ?_
      refine wm_istore (lv1 := [(5, .int 0), (4, .int 0), (3, .ref (A (55 + 2 * (v1).toNatClampNeg))), (0, .ref (A 0)), (1, .int v1), (2, .int v2)]) C dX8_film_g2.2.2.2.2.1 (by decide) rfl ?_
      refine wm_pick [3, 2, 1, 0] rfl ?_
      exact (hl52 FU) _ _ _ _ hf
    · have hf := (if_pos c6).symm.trans hf
      refine wm_bipush (v := (-2)) C dX8_film_g0.2.2.2.2.2.2.2.2.1 (by decide) ?_
      exact wm_iret C hrt hf dX8_film_g0.2.2.2.2.2.2.2.2.2.1
set_option maxHeartbeats 4000000 in
set_option maxRecDepth 100000 in
theorem c_X4_draw {l : Launch} {D : va_G} {cA : Nat → ClassId} {A : Nat → Nat} {Pl : List Nat} (hPl : ∀ q, 0 ≤ q → q < 63 → q ∈ Pl) (v1 : Int32) (M : Mem) (out : (Int32 × Mem)) (ho : f_X4_draw v1 M = some out) : CtI l D cA A Pl yX4_draw cX4_draw 5 7 .int [.ref (A 43), .int v1] M out := by
  refine ct_I (by decide) (Nat.le_of_ble_eq_true rfl) (fun p e s m args below meth c C hrt => ?_)
  have hb51 : ∀ (r : Int32 → Int32 → Mem → Option (Int32 × Mem)) (hr : ∀ (v2 : Int32) (v3 : Int32) (M : Mem), r v2 v3 M = some out → WM p l e (RM 7) s m args below meth c 0 0 (MQ below (QI D cA A Pl out) args s 0 0 (FA A Pl)) D cA A Pl (FA A Pl) 5 M 8 [(0, .ref (A 43)), (2, .int v2), (3, .int v3)] []) (k57 : Mem → Option (Int32 × Mem)) (hk57 : ∀  (M : Mem), k57  M = some out → WM p l e (RM 7) s m args below meth c 0 0 (MQ below (QI D cA A Pl out) args s 0 0 (FA A Pl)) D cA A Pl (FA A Pl) 5 M 57 [(0, .ref (A 43))] []), ∀ (v2 : Int32) (v3 : Int32) (M : Mem), f_X4_draw_b51 r k57 v2 v3 M = some out → WM p l e (RM 7) s m args below meth c 0 0 (MQ below (QI D cA A Pl out) args s 0 0 (FA A Pl)) D cA A Pl (FA A Pl) 5 M 51 [(0, .ref (A 43)), (2, .int v2), (3, .int v3)] [] := by
    intro r hr k57 hk57 v2 v3 M hf
    unfold f_X4_draw_b51 at hf
    refine wm_iinc (lv1 := [(3, .int (v3 + 1)), (0, .ref (A 43)), (2, .int v2)]) (v := (v3 + 1)) 2 C dX4_draw_g2.2.2.2.2.2.2.2.2.1 rfl (by first | rfl | decide) (by decide) rfl ?_
    refine wm_goto (tgt := 8) C dX4_draw_g2.2.2.2.2.2.2.2.2.2.1 (by decide) ?_
    refine wm_pick [1, 2, 0] rfl ?_
    exact hr _ _ _ hf
  have hl8 : ∀ (k57 : Mem → Option (Int32 × Mem)) (hk57 : ∀  (M : Mem), k57  M = some out → WM p l e (RM 7) s m args below meth c 0 0 (MQ below (QI D cA A Pl out) args s 0 0 (FA A Pl)) D cA A Pl (FA A Pl) 5 M 57 [(0, .ref (A 43))] []) (n : Nat), ∀ (v2 : Int32) (v3 : Int32) (M : Mem), f_X4_draw_l8 k57 n v2 v3 M = some out → WM p l e (RM 7) s m args below meth c 0 0 (MQ below (QI D cA A Pl out) args s 0 0 (FA A Pl)) D cA A Pl (FA A Pl) 5 M 8 [(0, .ref (A 43)), (2, .int v2), (3, .int v3)] [] := by
    intro k57 hk57 n
    induction n with
    | zero => intro v2 v3 M hf; rw [f_X4_draw_l8] at hf; cases hf
    | succ n hr =>
      intro v2 v3 M hf
      rw [f_X4_draw_l8] at hf
      refine wm_iload_n 2 C dX4_draw_g0.2.2.2.2.2.2.1 rfl ?_
      refine wm_aload_n 0 C dX4_draw_g0.2.2.2.2.2.2.2.1 rfl ?_
      refine wm_get (ci := 3) (k := 0) (v := .ref (A 1)) C (hPl 43 (by decide) (by decide)) rfl rfl (by decide) wt_X4_28 iwX4 rfl dX4_draw_g0.2.2.2.2.2.2.2.2.1 ?_
      refine wm_get (ci := 1) (k := 6) (v := .int (M 1 6)) C (hPl 1 (by decide) (by decide)) rfl rfl (by decide) wt_X4_64 iwX1 rfl dX4_draw_g0.2.2.2.2.2.2.2.2.2.1 ?_
      refine wm_icmp_ge (tgt := 57) C dX4_draw_g0.2.2.2.2.2.2.2.2.2.2.1 (by decide) (fun c3 => ?_) (fun c3 => ?_)
      · have hf := (if_pos c3).symm.trans hf
        refine wm_pick [0] rfl ?_
        exact hk57 _ hf
      · have hf := (if_neg c3).symm.trans hf
        refine wm_iload_n 1 C dX4_draw_g0.2.2.2.2.2.2.2.2.2.2.2 rfl ?_
        refine wm_ldc (v := 1103515245) C wt_X4_75 dX4_draw_g1.1 ?_
        refine wm_imul C dX4_draw_g1.2.1 ?_
        refine wm_sipush (v := 12345) C dX4_draw_g1.2.2.1 (by decide) ?_
        refine wm_iadd C dX4_draw_g1.2.2.2.1 ?_
        refine wm_istore_n (lv1 := [(2, .int ((v2 * 1103515245) + 12345)), (0, .ref (A 43)), (3, .int v3)]) C dX4_draw_g1.2.2.2.2.1 (by decide) rfl ?_
        refine wm_iload_n 0 C dX4_draw_g1.2.2.2.2.2.1 rfl ?_
        refine wm_bipush (v := 9) C dX4_draw_g1.2.2.2.2.2.2.1 (by decide) ?_
        refine wm_iushr C dX4_draw_g1.2.2.2.2.2.2.2.1 ?_
        refine wm_iconst (v := 3) C dX4_draw_g1.2.2.2.2.2.2.2.2.1 (by decide) ?_
        refine wm_irem C (by decide) dX4_draw_g1.2.2.2.2.2.2.2.2.2.1 ?_
        refine wm_iconst (v := 1) C dX4_draw_g1.2.2.2.2.2.2.2.2.2.2.1 (by decide) ?_
        refine wm_isub C dX4_draw_g1.2.2.2.2.2.2.2.2.2.2.2 ?_
        refine wm_istore (lv1 := [(4, .int ((jrem (jushr ((v2 * 1103515245) + 12345) 9) 3) - 1)), (2, .int ((v2 * 1103515245) + 12345)), (0, .ref (A 43)), (3, .int v3)]) C dX4_draw_g2.1 (by decide) rfl ?_
        refine wm_iload 0 C dX4_draw_g2.2.1 rfl ?_
        refine wm_if_lt (tgt := 51) C dX4_draw_g2.2.2.1 (by decide) (fun c4 => ?_) (fun c4 => ?_)
        · have hf := (if_pos c4).symm.trans hf
          refine wm_pick [2, 1, 3] rfl ?_
          exact (hb51 _ hr _ hk57) _ _ _ hf
        · have hf := (if_neg c4).symm.trans hf
          refine wm_aload_n 2 C dX4_draw_g2.2.2.2.1 rfl ?_
          refine wm_iload_n 3 C dX4_draw_g2.2.2.2.2.1 rfl ?_
          refine wm_iload 0 C dX4_draw_g2.2.2.2.2.2.1 rfl ?_
          obtain ⟨o5, ho6, hf⟩ := bnd hf
          refine wm_callVi (As := [.int v3, .int ((jrem (jushr ((v2 * 1103515245) + 12345) 9) 3) - 1)]) (ci := 3) C (c_X4_goOn hPl _ _ _ _ ho6) mi_X4_goOn wt_X4_71 (hPl 43 (by decide) (by decide)) rfl rfl rfl rfl (by decide) (by decide) (Nat.le_of_ble_eq_true rfl) dX4_draw_g2.2.2.2.2.2.2.1 ?_
          refine wm_pop C dX4_draw_g2.2.2.2.2.2.2.2.1 rfl ?_
          refine wm_pick [2, 1, 3] rfl ?_
          exact (hb51 _ hr _ hk57) _ _ _ hf
  have hb57 : ∀  (M : Mem), f_X4_draw_b57  M = some out → WM p l e (RM 7) s m args below meth c 0 0 (MQ below (QI D cA A Pl out) args s 0 0 (FA A Pl)) D cA A Pl (FA A Pl) 5 M 57 [(0, .ref (A 43))] [] := by
    intro  M hf
    unfold f_X4_draw_b57 at hf
    refine wm_aload_n 0 C dX4_draw_g2.2.2.2.2.2.2.2.2.2.2.1 rfl ?_
    refine wm_get (ci := 3) (k := 3) (v := .int (M 43 3)) C (hPl 43 (by decide) (by decide)) rfl rfl (by decide) wt_X4_15 iwX4 rfl dX4_draw_g2.2.2.2.2.2.2.2.2.2.2.2 ?_
    refine wm_aload_n 0 C dX4_draw_g3.1 rfl ?_
    refine wm_get (ci := 3) (k := 5) (v := .int (M 43 5)) C (hPl 43 (by decide) (by decide)) rfl rfl (by decide) wt_X4_22 iwX4 rfl dX4_draw_g3.2.1 ?_
    refine wm_isub C dX4_draw_g3.2.2.1 ?_
    exact wm_iret C hrt hf dX4_draw_g3.2.2.2
  have hf := ho
  unfold f_X4_draw at hf
  refine wm_aload_n 0 C dX4_draw_g0.1 rfl ?_
  obtain ⟨o1, ho2, hf⟩ := bnd hf
  refine wm_callVv (As := []) (ci := 3) C (c_X4_begin hPl  _ _ ho2) mi_X4_begin wt_X4_61 (hPl 43 (by decide) (by decide)) rfl rfl rfl rfl (by decide) (by decide) (Nat.le_of_ble_eq_true rfl) dX4_draw_g0.2.1 ?_
  refine wm_iload_n 1 C dX4_draw_g0.2.2.1 rfl ?_
  refine wm_istore_n (lv1 := [(2, .int v1), (0, .ref (A 43)), (1, .int v1)]) C dX4_draw_g0.2.2.2.1 (by decide) rfl ?_
  refine wm_iconst (v := 0) C dX4_draw_g0.2.2.2.2.1 (by decide) ?_
  refine wm_istore_n (lv1 := [(3, .int 0), (2, .int v1), (0, .ref (A 43)), (1, .int v1)]) C dX4_draw_g0.2.2.2.2.2.1 (by decide) rfl ?_
  refine wm_pick [2, 1, 0] rfl ?_
  exact (hl8 _ hb57 FU) _ _ _ hf
set_option maxHeartbeats 4000000 in
set_option maxRecDepth 100000 in
theorem c_X8_drawn {l : Launch} {D : va_G} {cA : Nat → ClassId} {A : Nat → Nat} {Pl : List Nat} (hPl : ∀ q, 0 ≤ q → q < 63 → q ∈ Pl) (v1 : Int32) (M : Mem) (out : (Int32 × Mem)) (ho : f_X8_drawn v1 M = some out) : CtI l D cA A Pl yX8_drawn cX8_drawn 2 8 .int [.ref (A 0), .int v1] M out := by
  refine ct_I (by decide) (Nat.le_of_ble_eq_true rfl) (fun p e s m args below meth c C hrt => ?_)
  have hf := ho
  unfold f_X8_drawn at hf
  refine wm_aload_n 0 C dX8_drawn_g0.1 rfl ?_
  refine wm_get (ci := 7) (k := 7) (v := .ref (A 43)) C (hPl 0 (by decide) (by decide)) rfl rfl (by decide) wt_X8_82 iwX8 rfl dX8_drawn_g0.2.1 ?_
  refine wm_iload_n 1 C dX8_drawn_g0.2.2.1 rfl ?_
  obtain ⟨o1, ho2, hf⟩ := bnd hf
  refine wm_callVi (As := [.int v1]) (ci := 3) C (c_X4_draw hPl _ _ _ ho2) mi_X4_draw wt_X8_274 (hPl 43 (by decide) (by decide)) rfl rfl rfl rfl (by decide) (by decide) (Nat.le_of_ble_eq_true rfl) dX8_drawn_g0.2.2.2.1 ?_
  exact wm_iret C hrt hf dX8_drawn_g0.2.2.2.2
set_option maxHeartbeats 4000000 in
set_option maxRecDepth 100000 in
theorem c_X8_chance {l : Launch} {D : va_G} {cA : Nat → ClassId} {A : Nat → Nat} {Pl : List Nat} (hPl : ∀ q, 0 ≤ q → q < 63 → q ∈ Pl) (v1 : Int32) (v2 : Int32) (v3 : Int32) (v4 : Int32) (M : Mem) (out : (Int64 × Mem)) (ho : f_X8_chance v1 v2 v3 v4 M = some out) : CtL l D cA A Pl yX8_chance cX8_chance 7 8 [.ref (A 0), .int v1, .int v2, .int v3, .int v4] M out := by
  refine ct_L (by decide) (Nat.le_of_ble_eq_true rfl) (fun p e s m args below meth c C hrt => ?_)
  have hb70 : ∀ (r : Int32 → Int32 → Int32 → Int32 → Int32 → Int32 → Mem → Option (Int64 × Mem)) (hr : ∀ (v1 : Int32) (v2 : Int32) (v3 : Int32) (v4 : Int32) (v5 : Int32) (v6 : Int32) (M : Mem), r v1 v2 v3 v4 v5 v6 M = some out → WM p l e (RM 8) s m args below meth c 0 0 (MQ below (QL D cA A Pl out) args s 0 0 (FA A Pl)) D cA A Pl (FA A Pl) 7 M 46 [(0, .ref (A 0)), (1, .int v1), (2, .int v2), (3, .int v3), (4, .int v4), (5, .int v5), (6, .int v6)] []) (k76 : Int32 → Int32 → Int32 → Mem → Option (Int64 × Mem)) (hk76 : ∀ (v2 : Int32) (v4 : Int32) (v5 : Int32) (M : Mem), k76 v2 v4 v5 M = some out → WM p l e (RM 8) s m args below meth c 0 0 (MQ below (QL D cA A Pl out) args s 0 0 (FA A Pl)) D cA A Pl (FA A Pl) 7 M 76 [(2, .int v2), (4, .int v4), (5, .int v5)] []), ∀ (v1 : Int32) (v2 : Int32) (v3 : Int32) (v4 : Int32) (v5 : Int32) (v6 : Int32) (M : Mem), f_X8_chance_b70 r k76 v1 v2 v3 v4 v5 v6 M = some out → WM p l e (RM 8) s m args below meth c 0 0 (MQ below (QL D cA A Pl out) args s 0 0 (FA A Pl)) D cA A Pl (FA A Pl) 7 M 70 [(0, .ref (A 0)), (1, .int v1), (2, .int v2), (3, .int v3), (4, .int v4), (5, .int v5), (6, .int v6)] [] := by
    intro r hr k76 hk76 v1 v2 v3 v4 v5 v6 M hf
    unfold f_X8_chance_b70 at hf
    refine wm_iinc (lv1 := [(6, .int (v6 + 1)), (0, .ref (A 0)), (1, .int v1), (2, .int v2), (3, .int v3), (4, .int v4), (5, .int v5)]) (v := (v6 + 1)) 6 C dX8_chance_g2.2.2.2.2.2.2.2.2.2.2.2 rfl (by first | rfl | decide) (by decide) rfl ?_
    refine wm_goto (tgt := 46) C dX8_chance_g3.1 (by decide) ?_
    refine wm_pick [1, 2, 3, 4, 5, 6, 0] rfl ?_
    exact hr _ _ _ _ _ _ _ hf
  have hl46 : ∀ (k76 : Int32 → Int32 → Int32 → Mem → Option (Int64 × Mem)) (hk76 : ∀ (v2 : Int32) (v4 : Int32) (v5 : Int32) (M : Mem), k76 v2 v4 v5 M = some out → WM p l e (RM 8) s m args below meth c 0 0 (MQ below (QL D cA A Pl out) args s 0 0 (FA A Pl)) D cA A Pl (FA A Pl) 7 M 76 [(2, .int v2), (4, .int v4), (5, .int v5)] []) (n : Nat), ∀ (v1 : Int32) (v2 : Int32) (v3 : Int32) (v4 : Int32) (v5 : Int32) (v6 : Int32) (M : Mem), f_X8_chance_l46 k76 n v1 v2 v3 v4 v5 v6 M = some out → WM p l e (RM 8) s m args below meth c 0 0 (MQ below (QL D cA A Pl out) args s 0 0 (FA A Pl)) D cA A Pl (FA A Pl) 7 M 46 [(0, .ref (A 0)), (1, .int v1), (2, .int v2), (3, .int v3), (4, .int v4), (5, .int v5), (6, .int v6)] [] := by
    intro k76 hk76 n
    induction n with
    | zero => intro v1 v2 v3 v4 v5 v6 M hf; rw [f_X8_chance_l46] at hf; cases hf
    | succ n hr =>
      intro v1 v2 v3 v4 v5 v6 M hf
      rw [f_X8_chance_l46] at hf
      refine wm_iload 6 C dX8_chance_g1.2.2.2.2.2.2.2.2.2.2.2 rfl ?_
      refine wm_iload_n 2 C dX8_chance_g2.1 rfl ?_
      refine wm_icmp_ge (tgt := 76) C dX8_chance_g2.2.1 (by decide) (fun c7 => ?_) (fun c7 => ?_)
      · have hf := (if_pos c7).symm.trans hf
        refine wm_pick [2, 4, 5] rfl ?_
        exact hk76 _ _ _ _ hf
      · have hf := (if_neg c7).symm.trans hf
        refine wm_aload_n 0 C dX8_chance_g2.2.2.1 rfl ?_
        refine wm_get (ci := 7) (k := 7) (v := .ref (A 43)) C (hPl 0 (by decide) (by decide)) rfl rfl (by decide) wt_X8_82 iwX8 rfl dX8_chance_g2.2.2.2.1 ?_
        refine wm_iload_n 1 C dX8_chance_g2.2.2.2.2.1 rfl ?_
        refine wm_iload 6 C dX8_chance_g2.2.2.2.2.2.1 rfl ?_
        refine wm_iadd C dX8_chance_g2.2.2.2.2.2.2.1 ?_
        obtain ⟨o8, ho9, hf⟩ := bnd hf
        refine wm_callVi (As := [.int (v1 + v6)]) (ci := 3) C (c_X4_draw hPl _ _ _ ho9) mi_X4_draw wt_X8_274 (hPl 43 (by decide) (by decide)) rfl rfl rfl rfl (by decide) (by decide) (Nat.le_of_ble_eq_true rfl) dX8_chance_g2.2.2.2.2.2.2.2.1 ?_
        refine wm_iload_n 3 C dX8_chance_g2.2.2.2.2.2.2.2.2.1 rfl ?_
        refine wm_icmp_lt (tgt := 70) C dX8_chance_g2.2.2.2.2.2.2.2.2.2.1 (by decide) (fun c10 => ?_) (fun c10 => ?_)
        · have hf := (if_pos c10).symm.trans hf
          exact (hb70 _ hr _ hk76) _ _ _ _ _ _ _ hf
        · have hf := (if_neg c10).symm.trans hf
          refine wm_iinc (lv1 := [(5, .int (v5 + 1)), (0, .ref (A 0)), (1, .int v1), (2, .int v2), (3, .int v3), (4, .int v4), (6, .int v6)]) (v := (v5 + 1)) 5 C dX8_chance_g2.2.2.2.2.2.2.2.2.2.2.1 rfl (by first | rfl | decide) (by decide) rfl ?_
          refine wm_pick [1, 2, 3, 4, 5, 0, 6] rfl ?_
          exact (hb70 _ hr _ hk76) _ _ _ _ _ _ _ hf
  have hb76 : ∀ (v2 : Int32) (v4 : Int32) (v5 : Int32) (M : Mem), f_X8_chance_b76 v2 v4 v5 M = some out → WM p l e (RM 8) s m args below meth c 0 0 (MQ below (QL D cA A Pl out) args s 0 0 (FA A Pl)) D cA A Pl (FA A Pl) 7 M 76 [(2, .int v2), (4, .int v4), (5, .int v5)] [] := by
    intro v2 v4 v5 M hf
    unfold f_X8_chance_b76 at hf
    refine wm_iload 2 C dX8_chance_g3.2.1 rfl ?_
    refine wm_iload_n 0 C dX8_chance_g3.2.2.1 rfl ?_
    refine wm_iload 1 C dX8_chance_g3.2.2.2.1 rfl ?_
    obtain ⟨o11, ho12, hf⟩ := bnd hf
    refine wm_callSl (As := [.int v5, .int v2, .int v4]) C (c_X8_lowestTerms hPl _ _ _ _ _ ho12) mi_X8_lowestTerms wt_X8_248 rfl rfl (by decide) (by decide) (Nat.le_of_ble_eq_true rfl) dX8_chance_g3.2.2.2.2.1 ?_
    exact wm_lret C hrt hf dX8_chance_g3.2.2.2.2.2
  have hf := ho
  unfold f_X8_chance at hf
  refine wm_iload_n 2 C dX8_chance_g0.1 rfl ?_
  refine wm_iconst (v := 1) C dX8_chance_g0.2.1 (by decide) ?_
  refine wm_icmp_lt (tgt := 36) C dX8_chance_g0.2.2.1 (by decide) (fun c1 => ?_) (fun c1 => ?_)
  · have hf := (if_pos c1).symm.trans hf
    refine wm_ldc2 (v := (-4611686018427387904)) C wt_X8_243 dX8_chance_g1.2.2.2.2.2.1 ?_
    exact wm_lret C hrt hf dX8_chance_g1.2.2.2.2.2.2.1
  · have hf := (if_neg c1).symm.trans hf
    refine wm_iload_n 2 C dX8_chance_g0.2.2.2.1 rfl ?_
    refine wm_bipush (v := 20) C dX8_chance_g0.2.2.2.2.1 (by decide) ?_
    refine wm_icmp_gt (tgt := 36) C dX8_chance_g0.2.2.2.2.2.1 (by decide) (fun c2 => ?_) (fun c2 => ?_)
    · have hf := (if_pos c2).symm.trans hf
      refine wm_ldc2 (v := (-4611686018427387904)) C wt_X8_243 dX8_chance_g1.2.2.2.2.2.1 ?_
      exact wm_lret C hrt hf dX8_chance_g1.2.2.2.2.2.2.1
    · have hf := (if_neg c2).symm.trans hf
      refine wm_iload_n 3 C dX8_chance_g0.2.2.2.2.2.2.1 rfl ?_
      refine wm_sipush (v := (-9999)) C dX8_chance_g0.2.2.2.2.2.2.2.1 (by decide) ?_
      refine wm_icmp_lt (tgt := 36) C dX8_chance_g0.2.2.2.2.2.2.2.2.1 (by decide) (fun c3 => ?_) (fun c3 => ?_)
      · have hf := (if_pos c3).symm.trans hf
        refine wm_ldc2 (v := (-4611686018427387904)) C wt_X8_243 dX8_chance_g1.2.2.2.2.2.1 ?_
        exact wm_lret C hrt hf dX8_chance_g1.2.2.2.2.2.2.1
      · have hf := (if_neg c3).symm.trans hf
        refine wm_iload_n 3 C dX8_chance_g0.2.2.2.2.2.2.2.2.2.1 rfl ?_
        refine wm_sipush (v := 9999) C dX8_chance_g0.2.2.2.2.2.2.2.2.2.2.1 (by decide) ?_
        refine wm_icmp_gt (tgt := 36) C dX8_chance_g0.2.2.2.2.2.2.2.2.2.2.2 (by decide) (fun c4 => ?_) (fun c4 => ?_)
        · have hf := (if_pos c4).symm.trans hf
          refine wm_ldc2 (v := (-4611686018427387904)) C wt_X8_243 dX8_chance_g1.2.2.2.2.2.1 ?_
          exact wm_lret C hrt hf dX8_chance_g1.2.2.2.2.2.2.1
        · have hf := (if_neg c4).symm.trans hf
          refine wm_iload 4 C dX8_chance_g1.1 rfl ?_
          refine wm_if_lt (tgt := 36) C dX8_chance_g1.2.1 (by decide) (fun c5 => ?_) (fun c5 => ?_)
          · have hf := (if_pos c5).symm.trans hf
            refine wm_ldc2 (v := (-4611686018427387904)) C wt_X8_243 dX8_chance_g1.2.2.2.2.2.1 ?_
            exact wm_lret C hrt hf dX8_chance_g1.2.2.2.2.2.2.1
          · have hf := (if_neg c5).symm.trans hf
            refine wm_iload 4 C dX8_chance_g1.2.2.1 rfl ?_
            refine wm_iconst (v := 1) C dX8_chance_g1.2.2.2.1 (by decide) ?_
            refine wm_icmp_le (tgt := 40) C dX8_chance_g1.2.2.2.2.1 (by decide) (fun c6 => ?_) (fun c6 => ?_)
            · have hf := (if_pos c6).symm.trans hf
              refine wm_iconst (v := 0) C dX8_chance_g1.2.2.2.2.2.2.2.1 (by decide) ?_
              refine wm_istore (lv1 := [(5, .int 0), (0, .ref (A 0)), (1, .int v1), (2, .int v2), (3, .int v3), (4, .int v4)]) C dX8_chance_g1.2.2.2.2.2.2.2.2.1 (by decide) rfl ?_
              refine wm_iconst (v := 0) C dX8_chance_g1.2.2.2.2.2.2.2.2.2.1 (by decide) ?_
              refine wm_istore (lv1 := [(6, .int 0), (5, .int 0), (0, .ref (A 0)), (1, .int v1), (2, .int v2), (3, .int v3), (4, .int v4)]) C dX8_chance_g1.2.2.2.2.2.2.2.2.2.2.1 (by decide) rfl ?_
              refine wm_pick [2, 3, 4, 5, 6, 1, 0] rfl ?_
              exact (hl46 _ hb76 FU) _ _ _ _ _ _ _ hf
            · have hf := (if_neg c6).symm.trans hf
              refine wm_ldc2 (v := (-4611686018427387904)) C wt_X8_243 dX8_chance_g1.2.2.2.2.2.1 ?_
              exact wm_lret C hrt hf dX8_chance_g1.2.2.2.2.2.2.1
set_option maxHeartbeats 4000000 in
set_option maxRecDepth 100000 in
theorem c_X1_become_1 {l : Launch} {D : va_G} {cA : Nat → ClassId} {A : Nat → Nat} {Pl : List Nat} (hPl : ∀ q, 0 ≤ q → q < 63 → q ∈ Pl) (M : Mem) (out : Mem) (ho : f_X1_become_1 M = some out) : CtV l D cA A Pl yX1_become cX1_become 2 1 [.ref (A 1), .ref (A 8)] M out := by
  refine ct_V (by decide) (Nat.le_of_ble_eq_true rfl) (fun p e s m args below meth c C hrt => ?_)
  have hf := ho
  unfold f_X1_become_1 at hf
  refine wm_aload_n 1 C dX1_become_g0.1 rfl ?_
  refine wm_get (ci := 1) (k := 0) (v := .ref (A 9)) C (hPl 8 (by decide) (by decide)) rfl rfl (by decide) wt_X1_9 iwX1 rfl dX1_become_g0.2.1 ?_
  refine wm_iconst (v := 0) C dX1_become_g0.2.2.1 (by decide) ?_
  refine wm_aload_n 0 C dX1_become_g0.2.2.2.1 rfl ?_
  refine wm_get (ci := 1) (k := 0) (v := .ref (A 2)) C (hPl 1 (by decide) (by decide)) rfl rfl (by decide) wt_X1_9 iwX1 rfl dX1_become_g0.2.2.2.2.1 ?_
  refine wm_iconst (v := 0) C dX1_become_g0.2.2.2.2.2.1 (by decide) ?_
  refine wm_bipush (v := 12) C dX1_become_g0.2.2.2.2.2.2.1 (by decide) ?_
  refine wm_copy (ja := 0) (jb := 0) (jn := 12) (na := 12) (nb := 12) C wt_X1_52 (hPl 9 (by decide) (by decide)) rfl rfl rfl (hPl 2 (by decide) (by decide)) rfl rfl rfl rfl (by decide) (by decide) (by decide) (Nat.le_of_ble_eq_true rfl) (by decide) dX1_become_g0.2.2.2.2.2.2.2.1 ?_
  refine wm_aload_n 1 C dX1_become_g0.2.2.2.2.2.2.2.2.1 rfl ?_
  refine wm_get (ci := 1) (k := 1) (v := .ref (A 10)) C (hPl 8 (by decide) (by decide)) rfl rfl (by decide) wt_X1_15 iwX1 (by first | rfl | simp [fld, mu, upd, mcp]) dX1_become_g0.2.2.2.2.2.2.2.2.2.1 ?_
  refine wm_iconst (v := 0) C dX1_become_g0.2.2.2.2.2.2.2.2.2.2.1 (by decide) ?_
  refine wm_aload_n 0 C dX1_become_g0.2.2.2.2.2.2.2.2.2.2.2 rfl ?_
  refine wm_get (ci := 1) (k := 1) (v := .ref (A 3)) C (hPl 1 (by decide) (by decide)) rfl rfl (by decide) wt_X1_15 iwX1 (by first | rfl | simp [fld, mu, upd, mcp]) dX1_become_g1.1 ?_
  refine wm_iconst (v := 0) C dX1_become_g1.2.1 (by decide) ?_
  refine wm_iconst (v := 2) C dX1_become_g1.2.2.1 (by decide) ?_
  refine wm_copy (ja := 0) (jb := 0) (jn := 2) (na := 2) (nb := 2) C wt_X1_52 (hPl 10 (by decide) (by decide)) rfl rfl rfl (hPl 3 (by decide) (by decide)) rfl rfl rfl rfl (by decide) (by decide) (by decide) (Nat.le_of_ble_eq_true rfl) (by decide) dX1_become_g1.2.2.2.1 ?_
  refine wm_aload_n 1 C dX1_become_g1.2.2.2.2.1 rfl ?_
  refine wm_get (ci := 1) (k := 2) (v := .ref (A 11)) C (hPl 8 (by decide) (by decide)) rfl rfl (by decide) wt_X1_18 iwX1 (by first | rfl | simp [fld, mu, upd, mcp]) dX1_become_g1.2.2.2.2.2.1 ?_
  refine wm_iconst (v := 0) C dX1_become_g1.2.2.2.2.2.2.1 (by decide) ?_
  refine wm_aload_n 0 C dX1_become_g1.2.2.2.2.2.2.2.1 rfl ?_
  refine wm_get (ci := 1) (k := 2) (v := .ref (A 4)) C (hPl 1 (by decide) (by decide)) rfl rfl (by decide) wt_X1_18 iwX1 (by first | rfl | simp [fld, mu, upd, mcp]) dX1_become_g1.2.2.2.2.2.2.2.2.1 ?_
  refine wm_iconst (v := 0) C dX1_become_g1.2.2.2.2.2.2.2.2.2.1 (by decide) ?_
  refine wm_bipush (v := 6) C dX1_become_g1.2.2.2.2.2.2.2.2.2.2.1 (by decide) ?_
  refine wm_copy (ja := 0) (jb := 0) (jn := 6) (na := 6) (nb := 6) C wt_X1_52 (hPl 11 (by decide) (by decide)) rfl rfl rfl (hPl 4 (by decide) (by decide)) rfl rfl rfl rfl (by decide) (by decide) (by decide) (Nat.le_of_ble_eq_true rfl) (by decide) dX1_become_g1.2.2.2.2.2.2.2.2.2.2.2 ?_
  refine wm_aload_n 1 C dX1_become_g2.1 rfl ?_
  refine wm_get (ci := 1) (k := 3) (v := .ref (A 12)) C (hPl 8 (by decide) (by decide)) rfl rfl (by decide) wt_X1_21 iwX1 (by first | rfl | simp [fld, mu, upd, mcp]) dX1_become_g2.2.1 ?_
  refine wm_iconst (v := 0) C dX1_become_g2.2.2.1 (by decide) ?_
  refine wm_aload_n 0 C dX1_become_g2.2.2.2.1 rfl ?_
  refine wm_get (ci := 1) (k := 3) (v := .ref (A 5)) C (hPl 1 (by decide) (by decide)) rfl rfl (by decide) wt_X1_21 iwX1 (by first | rfl | simp [fld, mu, upd, mcp]) dX1_become_g2.2.2.2.2.1 ?_
  refine wm_iconst (v := 0) C dX1_become_g2.2.2.2.2.2.1 (by decide) ?_
  refine wm_bipush (v := 6) C dX1_become_g2.2.2.2.2.2.2.1 (by decide) ?_
  refine wm_copy (ja := 0) (jb := 0) (jn := 6) (na := 6) (nb := 6) C wt_X1_52 (hPl 12 (by decide) (by decide)) rfl rfl rfl (hPl 5 (by decide) (by decide)) rfl rfl rfl rfl (by decide) (by decide) (by decide) (Nat.le_of_ble_eq_true rfl) (by decide) dX1_become_g2.2.2.2.2.2.2.2.1 ?_
  refine wm_aload_n 1 C dX1_become_g2.2.2.2.2.2.2.2.2.1 rfl ?_
  refine wm_get (ci := 1) (k := 4) (v := .ref (A 13)) C (hPl 8 (by decide) (by decide)) rfl rfl (by decide) wt_X1_24 iwX1 (by first | rfl | simp [fld, mu, upd, mcp]) dX1_become_g2.2.2.2.2.2.2.2.2.2.1 ?_
  refine wm_iconst (v := 0) C dX1_become_g2.2.2.2.2.2.2.2.2.2.2.1 (by decide) ?_
  refine wm_aload_n 0 C dX1_become_g2.2.2.2.2.2.2.2.2.2.2.2 rfl ?_
  refine wm_get (ci := 1) (k := 4) (v := .ref (A 6)) C (hPl 1 (by decide) (by decide)) rfl rfl (by decide) wt_X1_24 iwX1 (by first | rfl | simp [fld, mu, upd, mcp]) dX1_become_g3.1 ?_
  refine wm_iconst (v := 0) C dX1_become_g3.2.1 (by decide) ?_
  refine wm_bipush (v := 6) C dX1_become_g3.2.2.1 (by decide) ?_
  refine wm_copy (ja := 0) (jb := 0) (jn := 6) (na := 6) (nb := 6) C wt_X1_52 (hPl 13 (by decide) (by decide)) rfl rfl rfl (hPl 6 (by decide) (by decide)) rfl rfl rfl rfl (by decide) (by decide) (by decide) (Nat.le_of_ble_eq_true rfl) (by decide) dX1_become_g3.2.2.2.1 ?_
  refine wm_aload_n 1 C dX1_become_g3.2.2.2.2.1 rfl ?_
  refine wm_get (ci := 1) (k := 5) (v := .ref (A 14)) C (hPl 8 (by decide) (by decide)) rfl rfl (by decide) wt_X1_27 iwX1 (by first | rfl | simp [fld, mu, upd, mcp]) dX1_become_g3.2.2.2.2.2.1 ?_
  refine wm_iconst (v := 0) C dX1_become_g3.2.2.2.2.2.2.1 (by decide) ?_
  refine wm_aload_n 0 C dX1_become_g3.2.2.2.2.2.2.2.1 rfl ?_
  refine wm_get (ci := 1) (k := 5) (v := .ref (A 7)) C (hPl 1 (by decide) (by decide)) rfl rfl (by decide) wt_X1_27 iwX1 (by first | rfl | simp [fld, mu, upd, mcp]) dX1_become_g3.2.2.2.2.2.2.2.2.1 ?_
  refine wm_iconst (v := 0) C dX1_become_g3.2.2.2.2.2.2.2.2.2.1 (by decide) ?_
  refine wm_bipush (v := 6) C dX1_become_g3.2.2.2.2.2.2.2.2.2.2.1 (by decide) ?_
  refine wm_copy (ja := 0) (jb := 0) (jn := 6) (na := 6) (nb := 6) C wt_X1_52 (hPl 14 (by decide) (by decide)) rfl rfl rfl (hPl 7 (by decide) (by decide)) rfl rfl rfl rfl (by decide) (by decide) (by decide) (Nat.le_of_ble_eq_true rfl) (by decide) dX1_become_g3.2.2.2.2.2.2.2.2.2.2.2 ?_
  refine wm_aload_n 0 C dX1_become_g4.1 rfl ?_
  refine wm_aload_n 1 C dX1_become_g4.2.1 rfl ?_
  refine wm_get (ci := 1) (k := 6) (v := .int (M 8 6)) C (hPl 8 (by decide) (by decide)) rfl rfl (by decide) wt_X1_30 iwX1 (by first | rfl | simp [fld, mu, upd, mcp]) dX1_become_g4.2.2.1 ?_
  refine wm_put (ci := 1) (k := 6) (x := (M 8 6)) C (hPl 1 (by decide) (by decide)) rfl rfl (by decide) wt_X1_30 iwX1 tyX1_ok nmX1 rfl rfl rfl rfl (fun _ => rfl) (Nat.le_of_ble_eq_true rfl) dX1_become_g4.2.2.2.1 ?_
  refine wm_aload_n 0 C dX1_become_g4.2.2.2.2.1 rfl ?_
  refine wm_aload_n 1 C dX1_become_g4.2.2.2.2.2.1 rfl ?_
  refine wm_get (ci := 1) (k := 7) (v := .int (M 8 7)) C (hPl 8 (by decide) (by decide)) rfl rfl (by decide) wt_X1_34 iwX1 (by first | rfl | simp [fld, mu, upd, mcp]) dX1_become_g4.2.2.2.2.2.2.1 ?_
  refine wm_put (ci := 1) (k := 7) (x := (M 8 7)) C (hPl 1 (by decide) (by decide)) rfl rfl (by decide) wt_X1_34 iwX1 tyX1_ok nmX1 rfl rfl rfl rfl (fun _ => rfl) (Nat.le_of_ble_eq_true rfl) dX1_become_g4.2.2.2.2.2.2.2.1 ?_
  refine wm_aload_n 0 C dX1_become_g4.2.2.2.2.2.2.2.2.1 rfl ?_
  refine wm_aload_n 1 C dX1_become_g4.2.2.2.2.2.2.2.2.2.1 rfl ?_
  refine wm_get (ci := 1) (k := 8) (v := .int (M 8 8)) C (hPl 8 (by decide) (by decide)) rfl rfl (by decide) wt_X1_37 iwX1 (by first | rfl | simp [fld, mu, upd, mcp]) dX1_become_g4.2.2.2.2.2.2.2.2.2.2.1 ?_
  refine wm_put (ci := 1) (k := 8) (x := (M 8 8)) C (hPl 1 (by decide) (by decide)) rfl rfl (by decide) wt_X1_37 iwX1 tyX1_ok nmX1 rfl rfl rfl rfl (fun _ => rfl) (Nat.le_of_ble_eq_true rfl) dX1_become_g4.2.2.2.2.2.2.2.2.2.2.2 ?_
  exact wm_vret C hrt hf dX1_become_g5
set_option maxHeartbeats 4000000 in
set_option maxRecDepth 100000 in
theorem c_X1_become_8 {l : Launch} {D : va_G} {cA : Nat → ClassId} {A : Nat → Nat} {Pl : List Nat} (hPl : ∀ q, 0 ≤ q → q < 63 → q ∈ Pl) (M : Mem) (out : Mem) (ho : f_X1_become_8 M = some out) : CtV l D cA A Pl yX1_become cX1_become 2 1 [.ref (A 8), .ref (A 1)] M out := by
  refine ct_V (by decide) (Nat.le_of_ble_eq_true rfl) (fun p e s m args below meth c C hrt => ?_)
  have hf := ho
  unfold f_X1_become_8 at hf
  refine wm_aload_n 1 C dX1_become_g0.1 rfl ?_
  refine wm_get (ci := 1) (k := 0) (v := .ref (A 2)) C (hPl 1 (by decide) (by decide)) rfl rfl (by decide) wt_X1_9 iwX1 rfl dX1_become_g0.2.1 ?_
  refine wm_iconst (v := 0) C dX1_become_g0.2.2.1 (by decide) ?_
  refine wm_aload_n 0 C dX1_become_g0.2.2.2.1 rfl ?_
  refine wm_get (ci := 1) (k := 0) (v := .ref (A 9)) C (hPl 8 (by decide) (by decide)) rfl rfl (by decide) wt_X1_9 iwX1 rfl dX1_become_g0.2.2.2.2.1 ?_
  refine wm_iconst (v := 0) C dX1_become_g0.2.2.2.2.2.1 (by decide) ?_
  refine wm_bipush (v := 12) C dX1_become_g0.2.2.2.2.2.2.1 (by decide) ?_
  refine wm_copy (ja := 0) (jb := 0) (jn := 12) (na := 12) (nb := 12) C wt_X1_52 (hPl 2 (by decide) (by decide)) rfl rfl rfl (hPl 9 (by decide) (by decide)) rfl rfl rfl rfl (by decide) (by decide) (by decide) (Nat.le_of_ble_eq_true rfl) (by decide) dX1_become_g0.2.2.2.2.2.2.2.1 ?_
  refine wm_aload_n 1 C dX1_become_g0.2.2.2.2.2.2.2.2.1 rfl ?_
  refine wm_get (ci := 1) (k := 1) (v := .ref (A 3)) C (hPl 1 (by decide) (by decide)) rfl rfl (by decide) wt_X1_15 iwX1 (by first | rfl | simp [fld, mu, upd, mcp]) dX1_become_g0.2.2.2.2.2.2.2.2.2.1 ?_
  refine wm_iconst (v := 0) C dX1_become_g0.2.2.2.2.2.2.2.2.2.2.1 (by decide) ?_
  refine wm_aload_n 0 C dX1_become_g0.2.2.2.2.2.2.2.2.2.2.2 rfl ?_
  refine wm_get (ci := 1) (k := 1) (v := .ref (A 10)) C (hPl 8 (by decide) (by decide)) rfl rfl (by decide) wt_X1_15 iwX1 (by first | rfl | simp [fld, mu, upd, mcp]) dX1_become_g1.1 ?_
  refine wm_iconst (v := 0) C dX1_become_g1.2.1 (by decide) ?_
  refine wm_iconst (v := 2) C dX1_become_g1.2.2.1 (by decide) ?_
  refine wm_copy (ja := 0) (jb := 0) (jn := 2) (na := 2) (nb := 2) C wt_X1_52 (hPl 3 (by decide) (by decide)) rfl rfl rfl (hPl 10 (by decide) (by decide)) rfl rfl rfl rfl (by decide) (by decide) (by decide) (Nat.le_of_ble_eq_true rfl) (by decide) dX1_become_g1.2.2.2.1 ?_
  refine wm_aload_n 1 C dX1_become_g1.2.2.2.2.1 rfl ?_
  refine wm_get (ci := 1) (k := 2) (v := .ref (A 4)) C (hPl 1 (by decide) (by decide)) rfl rfl (by decide) wt_X1_18 iwX1 (by first | rfl | simp [fld, mu, upd, mcp]) dX1_become_g1.2.2.2.2.2.1 ?_
  refine wm_iconst (v := 0) C dX1_become_g1.2.2.2.2.2.2.1 (by decide) ?_
  refine wm_aload_n 0 C dX1_become_g1.2.2.2.2.2.2.2.1 rfl ?_
  refine wm_get (ci := 1) (k := 2) (v := .ref (A 11)) C (hPl 8 (by decide) (by decide)) rfl rfl (by decide) wt_X1_18 iwX1 (by first | rfl | simp [fld, mu, upd, mcp]) dX1_become_g1.2.2.2.2.2.2.2.2.1 ?_
  refine wm_iconst (v := 0) C dX1_become_g1.2.2.2.2.2.2.2.2.2.1 (by decide) ?_
  refine wm_bipush (v := 6) C dX1_become_g1.2.2.2.2.2.2.2.2.2.2.1 (by decide) ?_
  refine wm_copy (ja := 0) (jb := 0) (jn := 6) (na := 6) (nb := 6) C wt_X1_52 (hPl 4 (by decide) (by decide)) rfl rfl rfl (hPl 11 (by decide) (by decide)) rfl rfl rfl rfl (by decide) (by decide) (by decide) (Nat.le_of_ble_eq_true rfl) (by decide) dX1_become_g1.2.2.2.2.2.2.2.2.2.2.2 ?_
  refine wm_aload_n 1 C dX1_become_g2.1 rfl ?_
  refine wm_get (ci := 1) (k := 3) (v := .ref (A 5)) C (hPl 1 (by decide) (by decide)) rfl rfl (by decide) wt_X1_21 iwX1 (by first | rfl | simp [fld, mu, upd, mcp]) dX1_become_g2.2.1 ?_
  refine wm_iconst (v := 0) C dX1_become_g2.2.2.1 (by decide) ?_
  refine wm_aload_n 0 C dX1_become_g2.2.2.2.1 rfl ?_
  refine wm_get (ci := 1) (k := 3) (v := .ref (A 12)) C (hPl 8 (by decide) (by decide)) rfl rfl (by decide) wt_X1_21 iwX1 (by first | rfl | simp [fld, mu, upd, mcp]) dX1_become_g2.2.2.2.2.1 ?_
  refine wm_iconst (v := 0) C dX1_become_g2.2.2.2.2.2.1 (by decide) ?_
  refine wm_bipush (v := 6) C dX1_become_g2.2.2.2.2.2.2.1 (by decide) ?_
  refine wm_copy (ja := 0) (jb := 0) (jn := 6) (na := 6) (nb := 6) C wt_X1_52 (hPl 5 (by decide) (by decide)) rfl rfl rfl (hPl 12 (by decide) (by decide)) rfl rfl rfl rfl (by decide) (by decide) (by decide) (Nat.le_of_ble_eq_true rfl) (by decide) dX1_become_g2.2.2.2.2.2.2.2.1 ?_
  refine wm_aload_n 1 C dX1_become_g2.2.2.2.2.2.2.2.2.1 rfl ?_
  refine wm_get (ci := 1) (k := 4) (v := .ref (A 6)) C (hPl 1 (by decide) (by decide)) rfl rfl (by decide) wt_X1_24 iwX1 (by first | rfl | simp [fld, mu, upd, mcp]) dX1_become_g2.2.2.2.2.2.2.2.2.2.1 ?_
  refine wm_iconst (v := 0) C dX1_become_g2.2.2.2.2.2.2.2.2.2.2.1 (by decide) ?_
  refine wm_aload_n 0 C dX1_become_g2.2.2.2.2.2.2.2.2.2.2.2 rfl ?_
  refine wm_get (ci := 1) (k := 4) (v := .ref (A 13)) C (hPl 8 (by decide) (by decide)) rfl rfl (by decide) wt_X1_24 iwX1 (by first | rfl | simp [fld, mu, upd, mcp]) dX1_become_g3.1 ?_
  refine wm_iconst (v := 0) C dX1_become_g3.2.1 (by decide) ?_
  refine wm_bipush (v := 6) C dX1_become_g3.2.2.1 (by decide) ?_
  refine wm_copy (ja := 0) (jb := 0) (jn := 6) (na := 6) (nb := 6) C wt_X1_52 (hPl 6 (by decide) (by decide)) rfl rfl rfl (hPl 13 (by decide) (by decide)) rfl rfl rfl rfl (by decide) (by decide) (by decide) (Nat.le_of_ble_eq_true rfl) (by decide) dX1_become_g3.2.2.2.1 ?_
  refine wm_aload_n 1 C dX1_become_g3.2.2.2.2.1 rfl ?_
  refine wm_get (ci := 1) (k := 5) (v := .ref (A 7)) C (hPl 1 (by decide) (by decide)) rfl rfl (by decide) wt_X1_27 iwX1 (by first | rfl | simp [fld, mu, upd, mcp]) dX1_become_g3.2.2.2.2.2.1 ?_
  refine wm_iconst (v := 0) C dX1_become_g3.2.2.2.2.2.2.1 (by decide) ?_
  refine wm_aload_n 0 C dX1_become_g3.2.2.2.2.2.2.2.1 rfl ?_
  refine wm_get (ci := 1) (k := 5) (v := .ref (A 14)) C (hPl 8 (by decide) (by decide)) rfl rfl (by decide) wt_X1_27 iwX1 (by first | rfl | simp [fld, mu, upd, mcp]) dX1_become_g3.2.2.2.2.2.2.2.2.1 ?_
  refine wm_iconst (v := 0) C dX1_become_g3.2.2.2.2.2.2.2.2.2.1 (by decide) ?_
  refine wm_bipush (v := 6) C dX1_become_g3.2.2.2.2.2.2.2.2.2.2.1 (by decide) ?_
  refine wm_copy (ja := 0) (jb := 0) (jn := 6) (na := 6) (nb := 6) C wt_X1_52 (hPl 7 (by decide) (by decide)) rfl rfl rfl (hPl 14 (by decide) (by decide)) rfl rfl rfl rfl (by decide) (by decide) (by decide) (Nat.le_of_ble_eq_true rfl) (by decide) dX1_become_g3.2.2.2.2.2.2.2.2.2.2.2 ?_
  refine wm_aload_n 0 C dX1_become_g4.1 rfl ?_
  refine wm_aload_n 1 C dX1_become_g4.2.1 rfl ?_
  refine wm_get (ci := 1) (k := 6) (v := .int (M 1 6)) C (hPl 1 (by decide) (by decide)) rfl rfl (by decide) wt_X1_30 iwX1 (by first | rfl | simp [fld, mu, upd, mcp]) dX1_become_g4.2.2.1 ?_
  refine wm_put (ci := 1) (k := 6) (x := (M 1 6)) C (hPl 8 (by decide) (by decide)) rfl rfl (by decide) wt_X1_30 iwX1 tyX1_ok nmX1 rfl rfl rfl rfl (fun _ => rfl) (Nat.le_of_ble_eq_true rfl) dX1_become_g4.2.2.2.1 ?_
  refine wm_aload_n 0 C dX1_become_g4.2.2.2.2.1 rfl ?_
  refine wm_aload_n 1 C dX1_become_g4.2.2.2.2.2.1 rfl ?_
  refine wm_get (ci := 1) (k := 7) (v := .int (M 1 7)) C (hPl 1 (by decide) (by decide)) rfl rfl (by decide) wt_X1_34 iwX1 (by first | rfl | simp [fld, mu, upd, mcp]) dX1_become_g4.2.2.2.2.2.2.1 ?_
  refine wm_put (ci := 1) (k := 7) (x := (M 1 7)) C (hPl 8 (by decide) (by decide)) rfl rfl (by decide) wt_X1_34 iwX1 tyX1_ok nmX1 rfl rfl rfl rfl (fun _ => rfl) (Nat.le_of_ble_eq_true rfl) dX1_become_g4.2.2.2.2.2.2.2.1 ?_
  refine wm_aload_n 0 C dX1_become_g4.2.2.2.2.2.2.2.2.1 rfl ?_
  refine wm_aload_n 1 C dX1_become_g4.2.2.2.2.2.2.2.2.2.1 rfl ?_
  refine wm_get (ci := 1) (k := 8) (v := .int (M 1 8)) C (hPl 1 (by decide) (by decide)) rfl rfl (by decide) wt_X1_37 iwX1 (by first | rfl | simp [fld, mu, upd, mcp]) dX1_become_g4.2.2.2.2.2.2.2.2.2.2.1 ?_
  refine wm_put (ci := 1) (k := 8) (x := (M 1 8)) C (hPl 8 (by decide) (by decide)) rfl rfl (by decide) wt_X1_37 iwX1 tyX1_ok nmX1 rfl rfl rfl rfl (fun _ => rfl) (Nat.le_of_ble_eq_true rfl) dX1_become_g4.2.2.2.2.2.2.2.2.2.2.2 ?_
  exact wm_vret C hrt hf dX1_become_g5
set_option maxHeartbeats 4000000 in
set_option maxRecDepth 100000 in
theorem c_X8_image {l : Launch} {D : va_G} {cA : Nat → ClassId} {A : Nat → Nat} {Pl : List Nat} (hPl : ∀ q, 0 ≤ q → q < 63 → q ∈ Pl) (M : Mem) (out : (Int32 × Mem)) (ho : f_X8_image M = some out) : CtI l D cA A Pl yX8_image cX8_image 1 2 .int [.ref (A 0)] M out := by
  refine ct_I (by decide) (Nat.le_of_ble_eq_true rfl) (fun p e s m args below meth c C hrt => ?_)
  have hf := ho
  unfold f_X8_image at hf
  refine wm_aload_n 0 C dX8_image_g0.1 rfl ?_
  refine wm_get (ci := 7) (k := 1) (v := .ref (A 8)) C (hPl 0 (by decide) (by decide)) rfl rfl (by decide) wt_X8_16 iwX8 rfl dX8_image_g0.2.1 ?_
  refine wm_aload_n 0 C dX8_image_g0.2.2.1 rfl ?_
  refine wm_get (ci := 7) (k := 0) (v := .ref (A 1)) C (hPl 0 (by decide) (by decide)) rfl rfl (by decide) wt_X8_10 iwX8 rfl dX8_image_g0.2.2.2.1 ?_
  obtain ⟨o1, ho2, hf⟩ := bnd hf
  refine wm_callVv (As := [.ref (A 1)]) (ci := 1) C (c_X1_become_8 hPl  _ _ ho2) mi_X1_become wt_X8_277 (hPl 8 (by decide) (by decide)) rfl rfl rfl rfl (by decide) (by decide) (Nat.le_of_ble_eq_true rfl) dX8_image_g0.2.2.2.2.1 ?_
  refine wm_aload_n 0 C dX8_image_g0.2.2.2.2.2.1 rfl ?_
  refine wm_iconst (v := 1) C dX8_image_g0.2.2.2.2.2.2.1 (by decide) ?_
  refine wm_put (ci := 7) (k := 2) (x := 1) C (hPl 0 (by decide) (by decide)) rfl rfl (by decide) wt_X8_19 iwX8 tyX8_ok nmX8 rfl rfl rfl rfl (fun _ => rfl) (Nat.le_of_ble_eq_true rfl) dX8_image_g0.2.2.2.2.2.2.2.1 ?_
  refine wm_aload_n 0 C dX8_image_g0.2.2.2.2.2.2.2.2.1 rfl ?_
  refine wm_get (ci := 7) (k := 0) (v := .ref (A 1)) C (hPl 0 (by decide) (by decide)) rfl rfl (by decide) wt_X8_10 iwX8 (by first | rfl | simp [fld, mu, upd, mcp]) dX8_image_g0.2.2.2.2.2.2.2.2.2.1 ?_
  refine wm_get (ci := 1) (k := 6) (v := .int (o1 1 6)) C (hPl 1 (by decide) (by decide)) rfl rfl (by decide) wt_X8_209 iwX1 (by first | rfl | simp [fld, mu, upd, mcp]) dX8_image_g0.2.2.2.2.2.2.2.2.2.2.1 ?_
  exact wm_iret C hrt hf dX8_image_g0.2.2.2.2.2.2.2.2.2.2.2
set_option maxHeartbeats 4000000 in
set_option maxRecDepth 100000 in
theorem c_X8_back {l : Launch} {D : va_G} {cA : Nat → ClassId} {A : Nat → Nat} {Pl : List Nat} (hPl : ∀ q, 0 ≤ q → q < 63 → q ∈ Pl) (M : Mem) (out : (Int32 × Mem)) (ho : f_X8_back M = some out) : CtI l D cA A Pl yX8_back cX8_back 1 2 .int [.ref (A 0)] M out := by
  refine ct_I (by decide) (Nat.le_of_ble_eq_true rfl) (fun p e s m args below meth c C hrt => ?_)
  have hf := ho
  unfold f_X8_back at hf
  refine wm_aload_n 0 C dX8_back_g0.1 rfl ?_
  refine wm_get (ci := 7) (k := 2) (v := .int (M 0 2)) C (hPl 0 (by decide) (by decide)) rfl rfl (by decide) wt_X8_19 iwX8 rfl dX8_back_g0.2.1 ?_
  refine wm_if_ne (tgt := 10) C dX8_back_g0.2.2.1 (by decide) (fun c1 => ?_) (fun c1 => ?_)
  · have hf := (if_neg c1).symm.trans hf
    refine wm_aload_n 0 C dX8_back_g0.2.2.2.2.2.1 rfl ?_
    refine wm_get (ci := 7) (k := 0) (v := .ref (A 1)) C (hPl 0 (by decide) (by decide)) rfl rfl (by decide) wt_X8_10 iwX8 rfl dX8_back_g0.2.2.2.2.2.2.1 ?_
    refine wm_aload_n 0 C dX8_back_g0.2.2.2.2.2.2.2.1 rfl ?_
    refine wm_get (ci := 7) (k := 1) (v := .ref (A 8)) C (hPl 0 (by decide) (by decide)) rfl rfl (by decide) wt_X8_16 iwX8 rfl dX8_back_g0.2.2.2.2.2.2.2.2.1 ?_
    obtain ⟨o2, ho3, hf⟩ := bnd hf
    refine wm_callVv (As := [.ref (A 8)]) (ci := 1) C (c_X1_become_1 hPl  _ _ ho3) mi_X1_become wt_X8_277 (hPl 1 (by decide) (by decide)) rfl rfl rfl rfl (by decide) (by decide) (Nat.le_of_ble_eq_true rfl) dX8_back_g0.2.2.2.2.2.2.2.2.2.1 ?_
    refine wm_aload_n 0 C dX8_back_g0.2.2.2.2.2.2.2.2.2.2.1 rfl ?_
    refine wm_get (ci := 7) (k := 0) (v := .ref (A 1)) C (hPl 0 (by decide) (by decide)) rfl rfl (by decide) wt_X8_10 iwX8 rfl dX8_back_g0.2.2.2.2.2.2.2.2.2.2.2 ?_
    refine wm_get (ci := 1) (k := 6) (v := .int (o2 1 6)) C (hPl 1 (by decide) (by decide)) rfl rfl (by decide) wt_X8_209 iwX1 rfl dX8_back_g1.1 ?_
    exact wm_iret C hrt hf dX8_back_g1.2
  · have hf := (if_pos c1).symm.trans hf
    refine wm_bipush (v := (-3)) C dX8_back_g0.2.2.2.1 (by decide) ?_
    exact wm_iret C hrt hf dX8_back_g0.2.2.2.2.1
set_option maxHeartbeats 4000000 in
set_option maxRecDepth 100000 in
theorem c_X8_count {l : Launch} {D : va_G} {cA : Nat → ClassId} {A : Nat → Nat} {Pl : List Nat} (hPl : ∀ q, 0 ≤ q → q < 63 → q ∈ Pl) (v1 : Int32) (M : Mem) (out : (Int32 × Mem)) (ho : f_X8_count v1 M = some out) : CtI l D cA A Pl yX8_count cX8_count 2 2 .int [.ref (A 0), .int v1] M out := by
  refine ct_I (by decide) (Nat.le_of_ble_eq_true rfl) (fun p e s m args below meth c C hrt => ?_)
  have hf := ho
  unfold f_X8_count at hf
  refine wm_iload_n 1 C dX8_count_g0.1 rfl ?_
  by_cases c1 : v1 = 0
  · have hf := (if_pos c1).symm.trans hf
    refine wm_tswI (tgt := 40) (off := 39) C dX8_count_g0.2.1 c1 (by decide) (by decide) (by decide) (by decide) ?_
    refine wm_aload_n 0 C dX8_count_g0.2.2.1 rfl ?_
    refine wm_get (ci := 7) (k := 0) (v := .ref (A 1)) C (hPl 0 (by decide) (by decide)) rfl rfl (by decide) wt_X8_10 iwX8 rfl dX8_count_g0.2.2.2.1 ?_
    refine wm_get (ci := 1) (k := 6) (v := .int (M 1 6)) C (hPl 1 (by decide) (by decide)) rfl rfl (by decide) wt_X8_209 iwX1 rfl dX8_count_g0.2.2.2.2.1 ?_
    exact wm_iret C hrt hf dX8_count_g0.2.2.2.2.2.1
  · have hf := (if_neg c1).symm.trans hf
    by_cases c2 : v1 = 1
    · have hf := (if_pos c2).symm.trans hf
      refine wm_tswI (tgt := 48) (off := 47) C dX8_count_g0.2.1 c2 (by decide) (by decide) (by decide) (by decide) ?_
      refine wm_aload_n 0 C dX8_count_g0.2.2.2.2.2.2.1 rfl ?_
      refine wm_get (ci := 7) (k := 0) (v := .ref (A 1)) C (hPl 0 (by decide) (by decide)) rfl rfl (by decide) wt_X8_10 iwX8 rfl dX8_count_g0.2.2.2.2.2.2.2.1 ?_
      refine wm_iconst (v := 0) C dX8_count_g0.2.2.2.2.2.2.2.2.1 (by decide) ?_
      obtain ⟨o3, ho4, hf⟩ := bnd hf
      refine wm_callVi (As := [.int 0]) (ci := 1) C (c_X1_storeOf hPl _ _ _ ho4) mi_X1_storeOf wt_X8_280 (hPl 1 (by decide) (by decide)) rfl rfl rfl rfl (by decide) (by decide) (Nat.le_of_ble_eq_true rfl) dX8_count_g0.2.2.2.2.2.2.2.2.2.1 ?_
      refine wm_aload_n 0 C dX8_count_g0.2.2.2.2.2.2.2.2.2.2.1 rfl ?_
      refine wm_get (ci := 7) (k := 0) (v := .ref (A 1)) C (hPl 0 (by decide) (by decide)) rfl rfl (by decide) wt_X8_10 iwX8 rfl dX8_count_g0.2.2.2.2.2.2.2.2.2.2.2 ?_
      refine wm_iconst (v := 1) C dX8_count_g1.1 (by decide) ?_
      obtain ⟨o5, ho6, hf⟩ := bnd hf
      refine wm_callVi (As := [.int 1]) (ci := 1) C (c_X1_storeOf hPl _ _ _ ho6) mi_X1_storeOf wt_X8_280 (hPl 1 (by decide) (by decide)) rfl rfl rfl rfl (by decide) (by decide) (Nat.le_of_ble_eq_true rfl) dX8_count_g1.2.1 ?_
      refine wm_iadd C dX8_count_g1.2.2.1 ?_
      exact wm_iret C hrt hf dX8_count_g1.2.2.2.1
    · have hf := (if_neg c2).symm.trans hf
      by_cases c7 : v1 = 2
      · have hf := (if_pos c7).symm.trans hf
        refine wm_tswI (tgt := 66) (off := 65) C dX8_count_g0.2.1 c7 (by decide) (by decide) (by decide) (by decide) ?_
        refine wm_aload_n 0 C dX8_count_g1.2.2.2.2.1 rfl ?_
        refine wm_get (ci := 7) (k := 0) (v := .ref (A 1)) C (hPl 0 (by decide) (by decide)) rfl rfl (by decide) wt_X8_10 iwX8 rfl dX8_count_g1.2.2.2.2.2.1 ?_
        refine wm_get (ci := 1) (k := 7) (v := .int (M 1 7)) C (hPl 1 (by decide) (by decide)) rfl rfl (by decide) wt_X8_101 iwX1 rfl dX8_count_g1.2.2.2.2.2.2.1 ?_
        exact wm_iret C hrt hf dX8_count_g1.2.2.2.2.2.2.2.1
      · have hf := (if_neg c7).symm.trans hf
        by_cases c8 : v1 = 3
        · have hf := (if_pos c8).symm.trans hf
          refine wm_tswI (tgt := 74) (off := 73) C dX8_count_g0.2.1 c8 (by decide) (by decide) (by decide) (by decide) ?_
          refine wm_aload_n 0 C dX8_count_g1.2.2.2.2.2.2.2.2.1 rfl ?_
          refine wm_get (ci := 7) (k := 4) (v := .int (M 0 4)) C (hPl 0 (by decide) (by decide)) rfl rfl (by decide) wt_X8_29 iwX8 rfl dX8_count_g1.2.2.2.2.2.2.2.2.2.1 ?_
          exact wm_iret C hrt hf dX8_count_g1.2.2.2.2.2.2.2.2.2.2.1
        · have hf := (if_neg c8).symm.trans hf
          by_cases c9 : v1 = 4
          · have hf := (if_pos c9).symm.trans hf
            refine wm_tswI (tgt := 79) (off := 78) C dX8_count_g0.2.1 c9 (by decide) (by decide) (by decide) (by decide) ?_
            refine wm_aload_n 0 C dX8_count_g1.2.2.2.2.2.2.2.2.2.2.2 rfl ?_
            refine wm_get (ci := 7) (k := 5) (v := .ref (A 34)) C (hPl 0 (by decide) (by decide)) rfl rfl (by decide) wt_X8_36 iwX8 rfl dX8_count_g2.1 ?_
            refine wm_get (ci := 4) (k := 1) (v := .int (M 34 1)) C (hPl 34 (by decide) (by decide)) rfl rfl (by decide) wt_X8_171 iwX5 rfl dX8_count_g2.2.1 ?_
            exact wm_iret C hrt hf dX8_count_g2.2.2.1
          · have hf := (if_neg c9).symm.trans hf
            by_cases c10 : v1 = 5
            · have hf := (if_pos c10).symm.trans hf
              refine wm_tswI (tgt := 87) (off := 86) C dX8_count_g0.2.1 c10 (by decide) (by decide) (by decide) (by decide) ?_
              refine wm_aload_n 0 C dX8_count_g2.2.2.2.1 rfl ?_
              refine wm_get (ci := 7) (k := 0) (v := .ref (A 1)) C (hPl 0 (by decide) (by decide)) rfl rfl (by decide) wt_X8_10 iwX8 rfl dX8_count_g2.2.2.2.2.1 ?_
              refine wm_get (ci := 1) (k := 8) (v := .int (M 1 8)) C (hPl 1 (by decide) (by decide)) rfl rfl (by decide) wt_X8_174 iwX1 rfl dX8_count_g2.2.2.2.2.2.1 ?_
              exact wm_iret C hrt hf dX8_count_g2.2.2.2.2.2.2.1
            · have hf := (if_neg c10).symm.trans hf
              have nc1 : ¬ (v1).toInt = 0 := lv_neT c1 (by decide)
              have nc2 : ¬ (v1).toInt = 1 := lv_neT c2 (by decide)
              have nc7 : ¬ (v1).toInt = 2 := lv_neT c7 (by decide)
              have nc8 : ¬ (v1).toInt = 3 := lv_neT c8 (by decide)
              have nc9 : ¬ (v1).toInt = 4 := lv_neT c9 (by decide)
              have nc10 : ¬ (v1).toInt = 5 := lv_neT c10 (by decide)
              refine wm_tswO (tgt := 95) C dX8_count_g0.2.1 (by omega) (by decide) ?_
              refine wm_bipush (v := (-2)) C dX8_count_g2.2.2.2.2.2.2.2.1 (by decide) ?_
              exact wm_iret C hrt hf dX8_count_g2.2.2.2.2.2.2.2.2
set_option maxHeartbeats 4000000 in
set_option maxRecDepth 100000 in
theorem c_X8_sheet {l : Launch} {D : va_G} {cA : Nat → ClassId} {A : Nat → Nat} {Pl : List Nat} (hPl : ∀ q, 0 ≤ q → q < 63 → q ∈ Pl) (v1 : Int32) (v2 : Int32) (v3 : Int32) (M : Mem) (out : (Int32 × Mem)) (ho : f_X8_sheet v1 v2 v3 M = some out) : CtI l D cA A Pl yX8_sheet cX8_sheet 4 2 .int [.ref (A 0), .int v1, .int v2, .int v3] M out := by
  refine ct_I (by decide) (Nat.le_of_ble_eq_true rfl) (fun p e s m args below meth c C hrt => ?_)
  have hf := ho
  unfold f_X8_sheet at hf
  refine wm_iload_n 1 C dX8_sheet_g0.1 rfl ?_
  obtain ⟨o1, ho2, hf⟩ := bnd hf
  refine wm_callSi (As := [.int v1]) C (c_X8_isSheet hPl _ _ _ ho2) mi_X8_isSheet wt_X8_252 rfl rfl (by decide) (by decide) (Nat.le_of_ble_eq_true rfl) dX8_sheet_g0.2.1 ?_
  refine wm_if_eq (tgt := 17) C dX8_sheet_g0.2.2.1 (by decide) (fun c3 => ?_) (fun c3 => ?_)
  · have hf := (if_pos c3).symm.trans hf
    refine wm_bipush (v := (-2)) C dX8_sheet_g0.2.2.2.2.2.2.2.2.2.1 (by decide) ?_
    exact wm_iret C hrt hf dX8_sheet_g0.2.2.2.2.2.2.2.2.2.2.1
  · have hf := (if_neg c3).symm.trans hf
    refine wm_iload_n 2 C dX8_sheet_g0.2.2.2.1 rfl ?_
    refine wm_iconst (v := (-1)) C dX8_sheet_g0.2.2.2.2.1 (by decide) ?_
    refine wm_icmp_lt (tgt := 17) C dX8_sheet_g0.2.2.2.2.2.1 (by decide) (fun c4 => ?_) (fun c4 => ?_)
    · have hf := (if_pos c4).symm.trans hf
      refine wm_bipush (v := (-2)) C dX8_sheet_g0.2.2.2.2.2.2.2.2.2.1 (by decide) ?_
      exact wm_iret C hrt hf dX8_sheet_g0.2.2.2.2.2.2.2.2.2.2.1
    · have hf := (if_neg c4).symm.trans hf
      refine wm_iload_n 2 C dX8_sheet_g0.2.2.2.2.2.2.1 rfl ?_
      refine wm_iconst (v := 2) C dX8_sheet_g0.2.2.2.2.2.2.2.1 (by decide) ?_
      refine wm_icmp_le (tgt := 20) C dX8_sheet_g0.2.2.2.2.2.2.2.2.1 (by decide) (fun c5 => ?_) (fun c5 => ?_)
      · have hf := (if_pos c5).symm.trans hf
        refine wm_iload_n 2 C dX8_sheet_g0.2.2.2.2.2.2.2.2.2.2.2 rfl ?_
        refine wm_iconst (v := (-1)) C dX8_sheet_g1.1 (by decide) ?_
        refine wm_icmp_ne (tgt := 38) C dX8_sheet_g1.2.1 (by decide) (fun c6 => ?_) (fun c6 => ?_)
        · have hf := (if_neg c6).symm.trans hf
          refine wm_iload_n 3 C dX8_sheet_g1.2.2.2.2.2.2.2.2.2.2.2 rfl ?_
          refine wm_bipush (v := 40) C dX8_sheet_g2.1 (by decide) ?_
          refine wm_icmp_le (tgt := 47) C dX8_sheet_g2.2.1 (by decide) (fun c7 => ?_) (fun c7 => ?_)
          · have hf := (if_pos c7).symm.trans hf
            refine wm_iload_n 3 C dX8_sheet_g2.2.2.2.2.1 rfl ?_
            refine wm_if_ge (tgt := 54) C dX8_sheet_g2.2.2.2.2.2.1 (by decide) (fun c8 => ?_) (fun c8 => ?_)
            · have hf := (if_pos c8).symm.trans hf
              refine wm_aload_n 0 C dX8_sheet_g2.2.2.2.2.2.2.2.2.1 rfl ?_
              refine wm_get (ci := 7) (k := 9) (v := .ref (A 54)) C (hPl 0 (by decide) (by decide)) rfl rfl (by decide) wt_X8_42 iwX8 rfl dX8_sheet_g2.2.2.2.2.2.2.2.2.2.1 ?_
              refine wm_iload_n 1 C dX8_sheet_g2.2.2.2.2.2.2.2.2.2.2.1 rfl ?_
              obtain ⟨h9, hf⟩ := ckd hf
              refine wm_aald54 (j := (v1).toNatClampNeg) C (hPl 54 (by decide) (by decide)) h9 rfl dX8_sheet_g2.2.2.2.2.2.2.2.2.2.2.2 ?_
              refine wm_iload_n 2 C dX8_sheet_g3.1 rfl ?_
              refine wm_iload_n 3 C dX8_sheet_g3.2.1 rfl ?_
              obtain ⟨o10, ho11, hf⟩ := bnd hf
              obtain ⟨h12, hf⟩ := ckd hf
              refine wm_callVv (As := [.int v2, .int v3]) (ci := 5) C (c_X6_become hPl _ _ _ _ _ ho11) mi_X6_become wt_X8_268 (kr5 hPl (eq_of_beq h12)) (eq_of_beq h12) rfl rfl rfl (by decide) (by decide) (Nat.le_of_ble_eq_true rfl) dX8_sheet_g3.2.2.1 ?_
              refine wm_iconst (v := 1) C dX8_sheet_g3.2.2.2.1 (by decide) ?_
              exact wm_iret C hrt hf dX8_sheet_g3.2.2.2.2
            · have hf := (if_neg c8).symm.trans hf
              refine wm_bipush (v := (-14)) C dX8_sheet_g2.2.2.2.2.2.2.1 (by decide) ?_
              exact wm_iret C hrt hf dX8_sheet_g2.2.2.2.2.2.2.2.1
          · have hf := (if_neg c7).symm.trans hf
            refine wm_bipush (v := (-2)) C dX8_sheet_g2.2.2.1 (by decide) ?_
            exact wm_iret C hrt hf dX8_sheet_g2.2.2.2.1
        · have hf := (if_pos c6).symm.trans hf
          refine wm_aload_n 0 C dX8_sheet_g1.2.2.1 rfl ?_
          refine wm_get (ci := 7) (k := 9) (v := .ref (A 54)) C (hPl 0 (by decide) (by decide)) rfl rfl (by decide) wt_X8_42 iwX8 rfl dX8_sheet_g1.2.2.2.1 ?_
          refine wm_iload_n 1 C dX8_sheet_g1.2.2.2.2.1 rfl ?_
          obtain ⟨h13, hf⟩ := ckd hf
          refine wm_aald54 (j := (v1).toNatClampNeg) C (hPl 54 (by decide) (by decide)) h13 rfl dX8_sheet_g1.2.2.2.2.2.1 ?_
          refine wm_iconst (v := (-1)) C dX8_sheet_g1.2.2.2.2.2.2.1 (by decide) ?_
          refine wm_iconst (v := 0) C dX8_sheet_g1.2.2.2.2.2.2.2.1 (by decide) ?_
          obtain ⟨o14, ho15, hf⟩ := bnd hf
          obtain ⟨h16, hf⟩ := ckd hf
          refine wm_callVv (As := [.int (-1), .int 0]) (ci := 5) C (c_X6_become hPl _ _ _ _ _ ho15) mi_X6_become wt_X8_268 (kr5 hPl (eq_of_beq h16)) (eq_of_beq h16) rfl rfl rfl (by decide) (by decide) (Nat.le_of_ble_eq_true rfl) dX8_sheet_g1.2.2.2.2.2.2.2.2.1 ?_
          refine wm_iconst (v := 1) C dX8_sheet_g1.2.2.2.2.2.2.2.2.2.1 (by decide) ?_
          exact wm_iret C hrt hf dX8_sheet_g1.2.2.2.2.2.2.2.2.2.2.1
      · have hf := (if_neg c5).symm.trans hf
        refine wm_bipush (v := (-2)) C dX8_sheet_g0.2.2.2.2.2.2.2.2.2.1 (by decide) ?_
        exact wm_iret C hrt hf dX8_sheet_g0.2.2.2.2.2.2.2.2.2.2.1
set_option maxHeartbeats 4000000 in
set_option maxRecDepth 100000 in
theorem c_X8_cell {l : Launch} {D : va_G} {cA : Nat → ClassId} {A : Nat → Nat} {Pl : List Nat} (hPl : ∀ q, 0 ≤ q → q < 63 → q ∈ Pl) (v1 : Int32) (v2 : Int32) (v3 : Int32) (M : Mem) (out : (Int32 × Mem)) (ho : f_X8_cell v1 v2 v3 M = some out) : CtI l D cA A Pl yX8_cell cX8_cell 5 3 .int [.ref (A 0), .int v1, .int v2, .int v3] M out := by
  refine ct_I (by decide) (Nat.le_of_ble_eq_true rfl) (fun p e s m args below meth c C hrt => ?_)
  have hf := ho
  unfold f_X8_cell at hf
  refine wm_iload_n 1 C dX8_cell_g0.1 rfl ?_
  obtain ⟨o1, ho2, hf⟩ := bnd hf
  refine wm_callSi (As := [.int v1]) C (c_X8_isSheet hPl _ _ _ ho2) mi_X8_isSheet wt_X8_252 rfl rfl (by decide) (by decide) (Nat.le_of_ble_eq_true rfl) dX8_cell_g0.2.1 ?_
  refine wm_if_ne (tgt := 10) C dX8_cell_g0.2.2.1 (by decide) (fun c3 => ?_) (fun c3 => ?_)
  · have hf := (if_neg c3).symm.trans hf
    refine wm_aload_n 0 C dX8_cell_g0.2.2.2.2.2.1 rfl ?_
    refine wm_get (ci := 7) (k := 9) (v := .ref (A 54)) C (hPl 0 (by decide) (by decide)) rfl rfl (by decide) wt_X8_42 iwX8 rfl dX8_cell_g0.2.2.2.2.2.2.1 ?_
    refine wm_iload_n 1 C dX8_cell_g0.2.2.2.2.2.2.2.1 rfl ?_
    obtain ⟨h4, hf⟩ := ckd hf
    refine wm_aald54 (j := (v1).toNatClampNeg) C (hPl 54 (by decide) (by decide)) h4 rfl dX8_cell_g0.2.2.2.2.2.2.2.2.1 ?_
    refine wm_astore (lv1 := [(4, .ref (A (55 + 2 * (v1).toNatClampNeg))), (0, .ref (A 0)), (1, .int v1), (2, .int v2), (3, .int v3)]) C dX8_cell_g0.2.2.2.2.2.2.2.2.2.1 (by decide) rfl ?_
    refine wm_aload 0 C dX8_cell_g0.2.2.2.2.2.2.2.2.2.2.1 rfl ?_
    obtain ⟨o5, ho6, hf⟩ := bnd hf
    obtain ⟨h7, hf⟩ := ckd hf
    refine wm_callVi (As := []) (ci := 5) C (c_X6_isMissing hPl _ _ _ ho6) mi_X6_isMissing wt_X8_255 (kr5 hPl (eq_of_beq h7)) (eq_of_beq h7) rfl rfl rfl (by decide) (by decide) (Nat.le_of_ble_eq_true rfl) dX8_cell_g0.2.2.2.2.2.2.2.2.2.2.2 ?_
    refine wm_if_eq (tgt := 29) C dX8_cell_g1.1 (by decide) (fun c8 => ?_) (fun c8 => ?_)
    · have hf := (if_pos c8).symm.trans hf
      refine wm_aload 0 C dX8_cell_g1.2.2.2.1 rfl ?_
      refine wm_iload_n 3 C dX8_cell_g1.2.2.2.2.1 rfl ?_
      obtain ⟨o9, ho10, hf⟩ := bnd hf
      refine wm_callVi (As := [.int v2]) (ci := 5) C (c_X6_hasItem hPl _ _ _ _ ho10) mi_X6_hasItem wt_X8_283 (kr5 hPl (eq_of_beq h7)) (eq_of_beq h7) rfl rfl rfl (by decide) (by decide) (Nat.le_of_ble_eq_true rfl) dX8_cell_g1.2.2.2.2.2.1 ?_
      refine wm_if_ne (tgt := 41) C dX8_cell_g1.2.2.2.2.2.2.1 (by decide) (fun c11 => ?_) (fun c11 => ?_)
      · have hf := (if_neg c11).symm.trans hf
        refine wm_aload 0 C dX8_cell_g1.2.2.2.2.2.2.2.2.2.1 rfl ?_
        refine wm_iload_n 3 C dX8_cell_g1.2.2.2.2.2.2.2.2.2.2.1 rfl ?_
        refine wm_iload_n 4 C dX8_cell_g1.2.2.2.2.2.2.2.2.2.2.2 rfl ?_
        obtain ⟨o12, ho13, hf⟩ := bnd hf
        refine wm_callVv (As := [.int v2, .int v3]) (ci := 5) C (c_X6_put hPl _ _ _ _ _ ho13) mi_X6_put wt_X8_271 (kr5 hPl (eq_of_beq h7)) (eq_of_beq h7) rfl rfl rfl (by decide) (by decide) (Nat.le_of_ble_eq_true rfl) dX8_cell_g2.1 ?_
        refine wm_iconst (v := 1) C dX8_cell_g2.2.1 (by decide) ?_
        exact wm_iret C hrt hf dX8_cell_g2.2.2
      · have hf := (if_pos c11).symm.trans hf
        refine wm_bipush (v := (-12)) C dX8_cell_g1.2.2.2.2.2.2.2.1 (by decide) ?_
        exact wm_iret C hrt hf dX8_cell_g1.2.2.2.2.2.2.2.2.1
    · have hf := (if_neg c8).symm.trans hf
      refine wm_bipush (v := (-11)) C dX8_cell_g1.2.1 (by decide) ?_
      exact wm_iret C hrt hf dX8_cell_g1.2.2.1
  · have hf := (if_pos c3).symm.trans hf
    refine wm_bipush (v := (-2)) C dX8_cell_g0.2.2.2.1 (by decide) ?_
    exact wm_iret C hrt hf dX8_cell_g0.2.2.2.2.1
set_option maxHeartbeats 4000000 in
set_option maxRecDepth 100000 in
theorem c_X6_hasRun {l : Launch} {D : va_G} {cA : Nat → ClassId} {A : Nat → Nat} {Pl : List Nat} (hPl : ∀ q, 0 ≤ q → q < 63 → q ∈ Pl) (q0 : Nat) (v1 : Int32) (v2 : Int32) (M : Mem) (out : (Int32 × Mem)) (ho : f_X6_hasRun q0 v1 v2 M = some out) : CtI l D cA A Pl yX6_hasRun cX6_hasRun 3 1 .boolean [.ref (A q0), .int v1, .int v2] M out := by
  refine ct_I (by decide) (Nat.le_of_ble_eq_true rfl) (fun p e s m args below meth c C hrt => ?_)
  have hf := ho
  unfold f_X6_hasRun at hf
  refine wm_iload_n 1 C dX6_hasRun_g0.1 rfl ?_
  refine wm_if_lt (tgt := 30) C dX6_hasRun_g0.2.1 (by decide) (fun c1 => ?_) (fun c1 => ?_)
  · have hf := (if_pos c1).symm.trans hf
    refine wm_iconst (v := 0) C dX6_hasRun_g1.2.2.2.2.1 (by decide) ?_
    exact wm_zret C hrt rfl hf dX6_hasRun_g1.2.2.2.2.2
  · have hf := (if_neg c1).symm.trans hf
    refine wm_iload_n 2 C dX6_hasRun_g0.2.2.1 rfl ?_
    refine wm_if_lt (tgt := 30) C dX6_hasRun_g0.2.2.2.1 (by decide) (fun c2 => ?_) (fun c2 => ?_)
    · have hf := (if_pos c2).symm.trans hf
      refine wm_iconst (v := 0) C dX6_hasRun_g1.2.2.2.2.1 (by decide) ?_
      exact wm_zret C hrt rfl hf dX6_hasRun_g1.2.2.2.2.2
    · have hf := (if_neg c2).symm.trans hf
      refine wm_iload_n 1 C dX6_hasRun_g0.2.2.2.2.1 rfl ?_
      refine wm_aload_n 0 C dX6_hasRun_g0.2.2.2.2.2.1 rfl ?_
      obtain ⟨h3, hf⟩ := ckd hf
      refine wm_get (ci := 5) (k := 1) (v := .int (M q0 1)) C (kr5 hPl (eq_of_beq h3)) (eq_of_beq h3) rfl (by decide) wt_X6_15 iwX6 rfl dX6_hasRun_g0.2.2.2.2.2.2.1 ?_
      refine wm_icmp_gt (tgt := 30) C dX6_hasRun_g0.2.2.2.2.2.2.2.1 (by decide) (fun c4 => ?_) (fun c4 => ?_)
      · have hf := (if_pos c4).symm.trans hf
        refine wm_iconst (v := 0) C dX6_hasRun_g1.2.2.2.2.1 (by decide) ?_
        exact wm_zret C hrt rfl hf dX6_hasRun_g1.2.2.2.2.2
      · have hf := (if_neg c4).symm.trans hf
        refine wm_iload_n 2 C dX6_hasRun_g0.2.2.2.2.2.2.2.2.1 rfl ?_
        refine wm_aload_n 0 C dX6_hasRun_g0.2.2.2.2.2.2.2.2.2.1 rfl ?_
        refine wm_get (ci := 5) (k := 1) (v := .int (M q0 1)) C (kr5 hPl (eq_of_beq h3)) (eq_of_beq h3) rfl (by decide) wt_X6_15 iwX6 rfl dX6_hasRun_g0.2.2.2.2.2.2.2.2.2.2.1 ?_
        refine wm_iload_n 1 C dX6_hasRun_g0.2.2.2.2.2.2.2.2.2.2.2 rfl ?_
        refine wm_isub C dX6_hasRun_g1.1 ?_
        refine wm_icmp_gt (tgt := 30) C dX6_hasRun_g1.2.1 (by decide) (fun c5 => ?_) (fun c5 => ?_)
        · have hf := (if_pos c5).symm.trans hf
          refine wm_iconst (v := 0) C dX6_hasRun_g1.2.2.2.2.1 (by decide) ?_
          exact wm_zret C hrt rfl hf dX6_hasRun_g1.2.2.2.2.2
        · have hf := (if_neg c5).symm.trans hf
          refine wm_iconst (v := 1) C dX6_hasRun_g1.2.2.1 (by decide) ?_
          refine wm_goto (tgt := 31) C dX6_hasRun_g1.2.2.2.1 (by decide) ?_
          exact wm_zret C hrt rfl hf dX6_hasRun_g1.2.2.2.2.2
set_option maxHeartbeats 4000000 in
set_option maxRecDepth 100000 in
theorem c_X8_copy {l : Launch} {D : va_G} {cA : Nat → ClassId} {A : Nat → Nat} {Pl : List Nat} (hPl : ∀ q, 0 ≤ q → q < 63 → q ∈ Pl) (v1 : Int32) (v2 : Int32) (v3 : Int32) (v4 : Int32) (v5 : Int32) (M : Mem) (out : (Int32 × Mem)) (ho : f_X8_copy v1 v2 v3 v4 v5 M = some out) : CtI l D cA A Pl yX8_copy cX8_copy 8 2 .int [.ref (A 0), .int v1, .int v2, .int v3, .int v4, .int v5] M out := by
  refine ct_I (by decide) (Nat.le_of_ble_eq_true rfl) (fun p e s m args below meth c C hrt => ?_)
  have hf := ho
  unfold f_X8_copy at hf
  refine wm_iload_n 1 C dX8_copy_g0.1 rfl ?_
  obtain ⟨o1, ho2, hf⟩ := bnd hf
  refine wm_callSi (As := [.int v1]) C (c_X8_isSheet hPl _ _ _ ho2) mi_X8_isSheet wt_X8_252 rfl rfl (by decide) (by decide) (Nat.le_of_ble_eq_true rfl) dX8_copy_g0.2.1 ?_
  refine wm_if_eq (tgt := 14) C dX8_copy_g0.2.2.1 (by decide) (fun c3 => ?_) (fun c3 => ?_)
  · have hf := (if_pos c3).symm.trans hf
    refine wm_bipush (v := (-2)) C dX8_copy_g0.2.2.2.2.2.2.1 (by decide) ?_
    exact wm_iret C hrt hf dX8_copy_g0.2.2.2.2.2.2.2.1
  · have hf := (if_neg c3).symm.trans hf
    refine wm_iload_n 3 C dX8_copy_g0.2.2.2.1 rfl ?_
    obtain ⟨o4, ho5, hf⟩ := bnd hf
    refine wm_callSi (As := [.int v3]) C (c_X8_isSheet hPl _ _ _ ho5) mi_X8_isSheet wt_X8_252 rfl rfl (by decide) (by decide) (Nat.le_of_ble_eq_true rfl) dX8_copy_g0.2.2.2.2.1 ?_
    refine wm_if_ne (tgt := 17) C dX8_copy_g0.2.2.2.2.2.1 (by decide) (fun c6 => ?_) (fun c6 => ?_)
    · have hf := (if_neg c6).symm.trans hf
      refine wm_aload_n 0 C dX8_copy_g0.2.2.2.2.2.2.2.2.1 rfl ?_
      refine wm_get (ci := 7) (k := 9) (v := .ref (A 54)) C (hPl 0 (by decide) (by decide)) rfl rfl (by decide) wt_X8_42 iwX8 rfl dX8_copy_g0.2.2.2.2.2.2.2.2.2.1 ?_
      refine wm_iload_n 1 C dX8_copy_g0.2.2.2.2.2.2.2.2.2.2.1 rfl ?_
      obtain ⟨h7, hf⟩ := ckd hf
      refine wm_aald54 (j := (v1).toNatClampNeg) C (hPl 54 (by decide) (by decide)) h7 rfl dX8_copy_g0.2.2.2.2.2.2.2.2.2.2.2 ?_
      refine wm_astore (lv1 := [(6, .ref (A (55 + 2 * (v1).toNatClampNeg))), (0, .ref (A 0)), (1, .int v1), (2, .int v2), (3, .int v3), (4, .int v4), (5, .int v5)]) C dX8_copy_g1.1 (by decide) rfl ?_
      refine wm_aload_n 1 C dX8_copy_g1.2.1 rfl ?_
      refine wm_get (ci := 7) (k := 9) (v := .ref (A 54)) C (hPl 0 (by decide) (by decide)) rfl rfl (by decide) wt_X8_42 iwX8 rfl dX8_copy_g1.2.2.1 ?_
      refine wm_iload_n 4 C dX8_copy_g1.2.2.2.1 rfl ?_
      obtain ⟨h8, hf⟩ := ckd hf
      refine wm_aald54 (j := (v3).toNatClampNeg) C (hPl 54 (by decide) (by decide)) h8 rfl dX8_copy_g1.2.2.2.2.1 ?_
      refine wm_astore (lv1 := [(7, .ref (A (55 + 2 * (v3).toNatClampNeg))), (6, .ref (A (55 + 2 * (v1).toNatClampNeg))), (0, .ref (A 0)), (1, .int v1), (2, .int v2), (3, .int v3), (4, .int v4), (5, .int v5)]) C dX8_copy_g1.2.2.2.2.2.1 (by decide) rfl ?_
      refine wm_aload 1 C dX8_copy_g1.2.2.2.2.2.2.1 rfl ?_
      obtain ⟨o9, ho10, hf⟩ := bnd hf
      obtain ⟨h11, hf⟩ := ckd hf
      refine wm_callVi (As := []) (ci := 5) C (c_X6_isMissing hPl _ _ _ ho10) mi_X6_isMissing wt_X8_255 (kr5 hPl (eq_of_beq h11)) (eq_of_beq h11) rfl rfl rfl (by decide) (by decide) (Nat.le_of_ble_eq_true rfl) dX8_copy_g1.2.2.2.2.2.2.2.1 ?_
      refine wm_if_ne (tgt := 49) C dX8_copy_g1.2.2.2.2.2.2.2.2.1 (by decide) (fun c12 => ?_) (fun c12 => ?_)
      · have hf := (if_neg c12).symm.trans hf
        refine wm_bipush (v := (-11)) C dX8_copy_g2.1 (by decide) ?_
        exact wm_iret C hrt hf dX8_copy_g2.2.1
      · have hf := (if_pos c12).symm.trans hf
        refine wm_aload 0 C dX8_copy_g1.2.2.2.2.2.2.2.2.2.1 rfl ?_
        obtain ⟨o13, ho14, hf⟩ := bnd hf
        obtain ⟨h15, hf⟩ := ckd hf
        refine wm_callVi (As := []) (ci := 5) C (c_X6_isMissing hPl _ _ _ ho14) mi_X6_isMissing wt_X8_255 (kr5 hPl (eq_of_beq h15)) (eq_of_beq h15) rfl rfl rfl (by decide) (by decide) (Nat.le_of_ble_eq_true rfl) dX8_copy_g1.2.2.2.2.2.2.2.2.2.2.1 ?_
        refine wm_if_eq (tgt := 52) C dX8_copy_g1.2.2.2.2.2.2.2.2.2.2.2 (by decide) (fun c16 => ?_) (fun c16 => ?_)
        · have hf := (if_pos c16).symm.trans hf
          refine wm_aload 1 C dX8_copy_g2.2.2.1 rfl ?_
          refine wm_get (ci := 5) (k := 0) (v := .int (o13.2 (55 + 2 * (v1).toNatClampNeg) 0)) C (kr5 hPl (eq_of_beq h11)) (eq_of_beq h11) rfl (by decide) wt_X8_286 iwX6 rfl dX8_copy_g2.2.2.2.1 ?_
          refine wm_aload 0 C dX8_copy_g2.2.2.2.2.1 rfl ?_
          refine wm_get (ci := 5) (k := 0) (v := .int (o13.2 (55 + 2 * (v3).toNatClampNeg) 0)) C (kr5 hPl (eq_of_beq h15)) (eq_of_beq h15) rfl (by decide) wt_X8_286 iwX6 rfl dX8_copy_g2.2.2.2.2.2.1 ?_
          refine wm_icmp_eq (tgt := 68) C dX8_copy_g2.2.2.2.2.2.2.1 (by decide) (fun c17 => ?_) (fun c17 => ?_)
          · have hf := (if_pos c17).symm.trans hf
            refine wm_aload 1 C dX8_copy_g2.2.2.2.2.2.2.2.2.2.1 rfl ?_
            refine wm_iload_n 4 C dX8_copy_g2.2.2.2.2.2.2.2.2.2.2.1 rfl ?_
            refine wm_iload 7 C dX8_copy_g2.2.2.2.2.2.2.2.2.2.2.2 rfl ?_
            obtain ⟨o18, ho19, hf⟩ := bnd hf
            refine wm_callVi (As := [.int v2, .int v5]) (ci := 5) C (c_X6_hasRun hPl _ _ _ _ _ ho19) mi_X6_hasRun wt_X8_289 (kr5 hPl (eq_of_beq h11)) (eq_of_beq h11) rfl rfl rfl (by decide) (by decide) (Nat.le_of_ble_eq_true rfl) dX8_copy_g3.1 ?_
            refine wm_if_eq (tgt := 91) C dX8_copy_g3.2.1 (by decide) (fun c20 => ?_) (fun c20 => ?_)
            · have hf := (if_pos c20).symm.trans hf
              refine wm_bipush (v := (-12)) C dX8_copy_g3.2.2.2.2.2.2.2.1 (by decide) ?_
              exact wm_iret C hrt hf dX8_copy_g3.2.2.2.2.2.2.2.2.1
            · have hf := (if_neg c20).symm.trans hf
              refine wm_aload 0 C dX8_copy_g3.2.2.1 rfl ?_
              refine wm_iload 6 C dX8_copy_g3.2.2.2.1 rfl ?_
              refine wm_iload 7 C dX8_copy_g3.2.2.2.2.1 rfl ?_
              obtain ⟨o21, ho22, hf⟩ := bnd hf
              refine wm_callVi (As := [.int v4, .int v5]) (ci := 5) C (c_X6_hasRun hPl _ _ _ _ _ ho22) mi_X6_hasRun wt_X8_289 (kr5 hPl (eq_of_beq h15)) (eq_of_beq h15) rfl rfl rfl (by decide) (by decide) (Nat.le_of_ble_eq_true rfl) dX8_copy_g3.2.2.2.2.2.1 ?_
              refine wm_if_ne (tgt := 94) C dX8_copy_g3.2.2.2.2.2.2.1 (by decide) (fun c23 => ?_) (fun c23 => ?_)
              · have hf := (if_neg c23).symm.trans hf
                refine wm_aload 1 C dX8_copy_g3.2.2.2.2.2.2.2.2.2.1 rfl ?_
                refine wm_get (ci := 5) (k := 2) (v := .ref (A ((55 + 2 * (v1).toNatClampNeg) + 1))) C (kr5 hPl (eq_of_beq h11)) (eq_of_beq h11) rfl (by decide) wt_X8_293 iwX6 rfl dX8_copy_g3.2.2.2.2.2.2.2.2.2.2.1 ?_
                refine wm_iload_n 4 C dX8_copy_g3.2.2.2.2.2.2.2.2.2.2.2 rfl ?_
                refine wm_aload 0 C dX8_copy_g4.1 rfl ?_
                refine wm_get (ci := 5) (k := 2) (v := .ref (A ((55 + 2 * (v3).toNatClampNeg) + 1))) C (kr5 hPl (eq_of_beq h15)) (eq_of_beq h15) rfl (by decide) wt_X8_293 iwX6 rfl dX8_copy_g4.2.1 ?_
                refine wm_iload 6 C dX8_copy_g4.2.2.1 rfl ?_
                refine wm_iload 7 C dX8_copy_g4.2.2.2.1 rfl ?_
                obtain ⟨h24, hf⟩ := ckd hf
                obtain ⟨h25, hf⟩ := ckd hf
                obtain ⟨h26, hf⟩ := ckd hf
                refine wm_copy (ja := (v2).toNatClampNeg) (jb := (v4).toNatClampNeg) (jn := (v5).toNatClampNeg) (na := (ln ((55 + 2 * (v1).toNatClampNeg) + 1))) (nb := (ln ((55 + 2 * (v3).toNatClampNeg) + 1))) C wt_X8_203 (kr10 hPl (eq_of_beq h24)) (eq_of_beq h24) rfl rfl (kr10 hPl (eq_of_beq h25)) (eq_of_beq h25) rfl rfl h26 rfl rfl rfl (Nat.le_of_ble_eq_true rfl) (by decide) dX8_copy_g4.2.2.2.2.1 ?_
                refine wm_iload 7 C dX8_copy_g4.2.2.2.2.2.1 rfl ?_
                exact wm_iret C hrt hf dX8_copy_g4.2.2.2.2.2.2
              · have hf := (if_pos c23).symm.trans hf
                refine wm_bipush (v := (-12)) C dX8_copy_g3.2.2.2.2.2.2.2.1 (by decide) ?_
                exact wm_iret C hrt hf dX8_copy_g3.2.2.2.2.2.2.2.2.1
          · have hf := (if_neg c17).symm.trans hf
            refine wm_bipush (v := (-13)) C dX8_copy_g2.2.2.2.2.2.2.2.1 (by decide) ?_
            exact wm_iret C hrt hf dX8_copy_g2.2.2.2.2.2.2.2.2.1
        · have hf := (if_neg c16).symm.trans hf
          refine wm_bipush (v := (-11)) C dX8_copy_g2.1 (by decide) ?_
          exact wm_iret C hrt hf dX8_copy_g2.2.1
    · have hf := (if_pos c6).symm.trans hf
      refine wm_bipush (v := (-2)) C dX8_copy_g0.2.2.2.2.2.2.1 (by decide) ?_
      exact wm_iret C hrt hf dX8_copy_g0.2.2.2.2.2.2.2.1
set_option maxHeartbeats 4000000 in
set_option maxRecDepth 100000 in
theorem c_X8_dishes {l : Launch} {D : va_G} {cA : Nat → ClassId} {A : Nat → Nat} {Pl : List Nat} (hPl : ∀ q, 0 ≤ q → q < 63 → q ∈ Pl) (v1 : Int32) (v2 : Int32) (v3 : Int32) (v4 : Int32) (M : Mem) (out : (Int32 × Mem)) (ho : f_X8_dishes v1 v2 v3 v4 M = some out) : CtI l D cA A Pl yX8_dishes cX8_dishes 9 3 .int [.ref (A 0), .int v1, .int v2, .int v3, .int v4] M out := by
  refine ct_I (by decide) (Nat.le_of_ble_eq_true rfl) (fun p e s m args below meth c C hrt => ?_)
  have hb139 : ∀ (r : Int32 → Int32 → Nat → Int32 → Int32 → Mem → Option (Int32 × Mem)) (hr : ∀ (v3 : Int32) (v4 : Int32) (q5 : Nat) (v6 : Int32) (v7 : Int32) (M : Mem), r v3 v4 q5 v6 v7 M = some out → WM p l e (RM 3) s m args below meth c 0 0 (MQ below (QI D cA A Pl out) args s 0 0 (FA A Pl)) D cA A Pl (FA A Pl) 9 M 68 [(0, .ref (A 0)), (3, .int v3), (4, .int v4), (5, .ref (A q5)), (6, .int v6), (7, .int v7)] []), ∀ (v3 : Int32) (v4 : Int32) (q5 : Nat) (v6 : Int32) (v7 : Int32) (M : Mem), f_X8_dishes_b139 r v3 v4 q5 v6 v7 M = some out → WM p l e (RM 3) s m args below meth c 0 0 (MQ below (QI D cA A Pl out) args s 0 0 (FA A Pl)) D cA A Pl (FA A Pl) 9 M 139 [(0, .ref (A 0)), (3, .int v3), (4, .int v4), (5, .ref (A q5)), (6, .int v6), (7, .int v7)] [] := by
    intro r hr v3 v4 q5 v6 v7 M hf
    unfold f_X8_dishes_b139 at hf
    refine wm_iinc (lv1 := [(7, .int (v7 + 1)), (0, .ref (A 0)), (3, .int v3), (4, .int v4), (5, .ref (A q5)), (6, .int v6)]) (v := (v7 + 1)) 5 C dX8_dishes_g6.2.2.2.1 rfl (by first | rfl | decide) (by decide) rfl ?_
    refine wm_goto (tgt := 68) C dX8_dishes_g6.2.2.2.2.1 (by decide) ?_
    refine wm_pick [1, 2, 3, 4, 5, 0] rfl ?_
    exact hr _ _ _ _ _ _ hf
  have hl68 : ∀ (n : Nat), ∀ (v3 : Int32) (v4 : Int32) (q5 : Nat) (v6 : Int32) (v7 : Int32) (M : Mem), f_X8_dishes_l68 n v3 v4 q5 v6 v7 M = some out → WM p l e (RM 3) s m args below meth c 0 0 (MQ below (QI D cA A Pl out) args s 0 0 (FA A Pl)) D cA A Pl (FA A Pl) 9 M 68 [(0, .ref (A 0)), (3, .int v3), (4, .int v4), (5, .ref (A q5)), (6, .int v6), (7, .int v7)] [] := by
    intro n
    induction n with
    | zero => intro v3 v4 q5 v6 v7 M hf; rw [f_X8_dishes_l68] at hf; cases hf
    | succ n hr =>
      intro v3 v4 q5 v6 v7 M hf
      rw [f_X8_dishes_l68] at hf
      refine wm_iload 5 C dX8_dishes_g2.2.2.2.2.2.2.2.2.2.2.2 rfl ?_
      refine wm_iload 2 C dX8_dishes_g3.1 rfl ?_
      refine wm_icmp_ge (tgt := 145) C dX8_dishes_g3.2.1 (by decide) (fun c14 => ?_) (fun c14 => ?_)
      · have hf := (if_pos c14).symm.trans hf
        refine wm_iload 4 C dX8_dishes_g6.2.2.2.2.2.1 rfl ?_
        exact wm_iret C hrt hf dX8_dishes_g6.2.2.2.2.2.2
      · have hf := (if_neg c14).symm.trans hf
        refine wm_aload 3 C dX8_dishes_g3.2.2.1 rfl ?_
        refine wm_iload_n 1 C dX8_dishes_g3.2.2.2.1 rfl ?_
        refine wm_iconst (v := 3) C dX8_dishes_g3.2.2.2.2.1 (by decide) ?_
        refine wm_iload 5 C dX8_dishes_g3.2.2.2.2.2.1 rfl ?_
        refine wm_imul C dX8_dishes_g3.2.2.2.2.2.2.1 ?_
        refine wm_iconst (v := 3) C dX8_dishes_g3.2.2.2.2.2.2.2.1 (by decide) ?_
        refine wm_iadd C dX8_dishes_g3.2.2.2.2.2.2.2.2.1 ?_
        obtain ⟨o15, ho16, hf⟩ := bnd hf
        obtain ⟨h17, hf⟩ := ckd hf
        refine wm_callVi (As := [.int v3, .int ((3 * v7) + 3)]) (ci := 5) C (c_X6_hasRun hPl _ _ _ _ _ ho16) mi_X6_hasRun wt_X8_289 (kr5 hPl (eq_of_beq h17)) (eq_of_beq h17) rfl rfl rfl (by decide) (by decide) (Nat.le_of_ble_eq_true rfl) dX8_dishes_g3.2.2.2.2.2.2.2.2.2.1 ?_
        refine wm_if_ne (tgt := 93) C dX8_dishes_g3.2.2.2.2.2.2.2.2.2.2.1 (by decide) (fun c18 => ?_) (fun c18 => ?_)
        · have hf := (if_neg c18).symm.trans hf
          refine wm_iload_n 1 C dX8_dishes_g4.2.1 rfl ?_
          refine wm_iconst (v := 3) C dX8_dishes_g4.2.2.1 (by decide) ?_
          refine wm_iload 5 C dX8_dishes_g4.2.2.2.1 rfl ?_
          refine wm_imul C dX8_dishes_g4.2.2.2.2.1 ?_
          refine wm_iadd C dX8_dishes_g4.2.2.2.2.2.1 ?_
          refine wm_istore (lv1 := [(8, .int (v3 + (3 * v7))), (0, .ref (A 0)), (3, .int v3), (4, .int v4), (5, .ref (A q5)), (6, .int v6), (7, .int v7)]) C dX8_dishes_g4.2.2.2.2.2.2.1 (by decide) rfl ?_
          refine wm_aload_n 1 C dX8_dishes_g4.2.2.2.2.2.2.2.1 rfl ?_
          refine wm_aload 4 C dX8_dishes_g4.2.2.2.2.2.2.2.2.1 rfl ?_
          refine wm_get (ci := 5) (k := 2) (v := .ref (A (q5 + 1))) C (kr5 hPl (eq_of_beq h17)) (eq_of_beq h17) rfl (by decide) wt_X8_293 iwX6 rfl dX8_dishes_g4.2.2.2.2.2.2.2.2.2.1 ?_
          refine wm_iload 0 C dX8_dishes_g4.2.2.2.2.2.2.2.2.2.2.1 rfl ?_
          obtain ⟨h19, hf⟩ := ckd hf
          obtain ⟨h20, hf⟩ := ckd hf
          refine wm_iald (n := (ln (q5 + 1))) (j := ((v3 + (3 * v7))).toNatClampNeg) (v := (o15.2 (q5 + 1) ((v3 + (3 * v7))).toNatClampNeg)) C (kr10 hPl (eq_of_beq h19)) (eq_of_beq h19) rfl rfl h20 rfl rfl dX8_dishes_g4.2.2.2.2.2.2.2.2.2.2.2 ?_
          refine wm_aload 4 C dX8_dishes_g5.1 rfl ?_
          refine wm_get (ci := 5) (k := 2) (v := .ref (A (q5 + 1))) C (kr5 hPl (eq_of_beq h17)) (eq_of_beq h17) rfl (by decide) wt_X8_293 iwX6 rfl dX8_dishes_g5.2.1 ?_
          refine wm_iload 0 C dX8_dishes_g5.2.2.1 rfl ?_
          refine wm_iconst (v := 1) C dX8_dishes_g5.2.2.2.1 (by decide) ?_
          refine wm_iadd C dX8_dishes_g5.2.2.2.2.1 ?_
          obtain ⟨h21, hf⟩ := ckd hf
          refine wm_iald (n := (ln (q5 + 1))) (j := (((v3 + (3 * v7)) + 1)).toNatClampNeg) (v := (o15.2 (q5 + 1) (((v3 + (3 * v7)) + 1)).toNatClampNeg)) C (kr10 hPl (eq_of_beq h19)) (eq_of_beq h19) rfl rfl h21 rfl rfl dX8_dishes_g5.2.2.2.2.2.1 ?_
          refine wm_aload 4 C dX8_dishes_g5.2.2.2.2.2.2.1 rfl ?_
          refine wm_get (ci := 5) (k := 2) (v := .ref (A (q5 + 1))) C (kr5 hPl (eq_of_beq h17)) (eq_of_beq h17) rfl (by decide) wt_X8_293 iwX6 rfl dX8_dishes_g5.2.2.2.2.2.2.2.1 ?_
          refine wm_iload 0 C dX8_dishes_g5.2.2.2.2.2.2.2.2.1 rfl ?_
          refine wm_iconst (v := 2) C dX8_dishes_g5.2.2.2.2.2.2.2.2.2.1 (by decide) ?_
          refine wm_iadd C dX8_dishes_g5.2.2.2.2.2.2.2.2.2.2.1 ?_
          obtain ⟨h22, hf⟩ := ckd hf
          refine wm_iald (n := (ln (q5 + 1))) (j := (((v3 + (3 * v7)) + 2)).toNatClampNeg) (v := (o15.2 (q5 + 1) (((v3 + (3 * v7)) + 2)).toNatClampNeg)) C (kr10 hPl (eq_of_beq h19)) (eq_of_beq h19) rfl rfl h22 rfl rfl dX8_dishes_g5.2.2.2.2.2.2.2.2.2.2.2 ?_
          obtain ⟨o23, ho24, hf⟩ := bnd hf
          refine wm_callVi (As := [.int (o15.2 (q5 + 1) ((v3 + (3 * v7))).toNatClampNeg), .int (o15.2 (q5 + 1) (((v3 + (3 * v7)) + 1)).toNatClampNeg), .int (o15.2 (q5 + 1) (((v3 + (3 * v7)) + 2)).toNatClampNeg)]) (ci := 7) C (c_X8_dish hPl _ _ _ _ _ ho24) mi_X8_dish wt_X8_296 (hPl 0 (by decide) (by decide)) rfl rfl rfl rfl (by decide) (by decide) (Nat.le_of_ble_eq_true rfl) dX8_dishes_g6.1 ?_
          refine wm_if_lt (tgt := 139) C dX8_dishes_g6.2.1 (by decide) (fun c25 => ?_) (fun c25 => ?_)
          · have hf := (if_pos c25).symm.trans hf
            refine wm_pick [1, 2, 3, 4, 5, 6] rfl ?_
            exact (hb139 _ hr) _ _ _ _ _ _ hf
          · have hf := (if_neg c25).symm.trans hf
            refine wm_iinc (lv1 := [(6, .int (v6 + 1)), (8, .int (v3 + (3 * v7))), (0, .ref (A 0)), (3, .int v3), (4, .int v4), (5, .ref (A q5)), (7, .int v7)]) (v := (v6 + 1)) 5 C dX8_dishes_g6.2.2.1 rfl (by first | rfl | decide) (by decide) rfl ?_
            refine wm_pick [2, 3, 4, 5, 0, 6] rfl ?_
            exact (hb139 _ hr) _ _ _ _ _ _ hf
        · have hf := (if_pos c18).symm.trans hf
          refine wm_bipush (v := (-12)) C dX8_dishes_g3.2.2.2.2.2.2.2.2.2.2.2 (by decide) ?_
          exact wm_iret C hrt hf dX8_dishes_g4.1
  have hf := ho
  unfold f_X8_dishes at hf
  refine wm_iload_n 1 C dX8_dishes_g0.1 rfl ?_
  obtain ⟨o1, ho2, hf⟩ := bnd hf
  refine wm_callSi (As := [.int v1]) C (c_X8_isSheet hPl _ _ _ ho2) mi_X8_isSheet wt_X8_252 rfl rfl (by decide) (by decide) (Nat.le_of_ble_eq_true rfl) dX8_dishes_g0.2.1 ?_
  refine wm_if_eq (tgt := 28) C dX8_dishes_g0.2.2.1 (by decide) (fun c3 => ?_) (fun c3 => ?_)
  · have hf := (if_pos c3).symm.trans hf
    refine wm_bipush (v := (-2)) C dX8_dishes_g1.2.1 (by decide) ?_
    exact wm_iret C hrt hf dX8_dishes_g1.2.2.1
  · have hf := (if_neg c3).symm.trans hf
    refine wm_iload_n 2 C dX8_dishes_g0.2.2.2.1 rfl ?_
    refine wm_if_lt (tgt := 28) C dX8_dishes_g0.2.2.2.2.1 (by decide) (fun c4 => ?_) (fun c4 => ?_)
    · have hf := (if_pos c4).symm.trans hf
      refine wm_bipush (v := (-2)) C dX8_dishes_g1.2.1 (by decide) ?_
      exact wm_iret C hrt hf dX8_dishes_g1.2.2.1
    · have hf := (if_neg c4).symm.trans hf
      refine wm_iload_n 2 C dX8_dishes_g0.2.2.2.2.2.1 rfl ?_
      refine wm_iconst (v := 2) C dX8_dishes_g0.2.2.2.2.2.2.1 (by decide) ?_
      refine wm_icmp_gt (tgt := 28) C dX8_dishes_g0.2.2.2.2.2.2.2.1 (by decide) (fun c5 => ?_) (fun c5 => ?_)
      · have hf := (if_pos c5).symm.trans hf
        refine wm_bipush (v := (-2)) C dX8_dishes_g1.2.1 (by decide) ?_
        exact wm_iret C hrt hf dX8_dishes_g1.2.2.1
      · have hf := (if_neg c5).symm.trans hf
        refine wm_iload 4 C dX8_dishes_g0.2.2.2.2.2.2.2.2.1 rfl ?_
        refine wm_if_lt (tgt := 28) C dX8_dishes_g0.2.2.2.2.2.2.2.2.2.1 (by decide) (fun c6 => ?_) (fun c6 => ?_)
        · have hf := (if_pos c6).symm.trans hf
          refine wm_bipush (v := (-2)) C dX8_dishes_g1.2.1 (by decide) ?_
          exact wm_iret C hrt hf dX8_dishes_g1.2.2.1
        · have hf := (if_neg c6).symm.trans hf
          refine wm_iload 4 C dX8_dishes_g0.2.2.2.2.2.2.2.2.2.2.1 rfl ?_
          refine wm_bipush (v := 6) C dX8_dishes_g0.2.2.2.2.2.2.2.2.2.2.2 (by decide) ?_
          refine wm_icmp_le (tgt := 31) C dX8_dishes_g1.1 (by decide) (fun c7 => ?_) (fun c7 => ?_)
          · have hf := (if_pos c7).symm.trans hf
            refine wm_aload_n 0 C dX8_dishes_g1.2.2.2.1 rfl ?_
            refine wm_get (ci := 7) (k := 9) (v := .ref (A 54)) C (hPl 0 (by decide) (by decide)) rfl rfl (by decide) wt_X8_42 iwX8 rfl dX8_dishes_g1.2.2.2.2.1 ?_
            refine wm_iload_n 1 C dX8_dishes_g1.2.2.2.2.2.1 rfl ?_
            obtain ⟨h8, hf⟩ := ckd hf
            refine wm_aald54 (j := (v1).toNatClampNeg) C (hPl 54 (by decide) (by decide)) h8 rfl dX8_dishes_g1.2.2.2.2.2.2.1 ?_
            refine wm_astore (lv1 := [(5, .ref (A (55 + 2 * (v1).toNatClampNeg))), (0, .ref (A 0)), (1, .int v1), (2, .int v2), (3, .int v3), (4, .int v4)]) C dX8_dishes_g1.2.2.2.2.2.2.2.1 (by decide) rfl ?_
            refine wm_aload 0 C dX8_dishes_g1.2.2.2.2.2.2.2.2.1 rfl ?_
            obtain ⟨o9, ho10, hf⟩ := bnd hf
            obtain ⟨h11, hf⟩ := ckd hf
            refine wm_callVi (As := []) (ci := 5) C (c_X6_isMissing hPl _ _ _ ho10) mi_X6_isMissing wt_X8_255 (kr5 hPl (eq_of_beq h11)) (eq_of_beq h11) rfl rfl rfl (by decide) (by decide) (Nat.le_of_ble_eq_true rfl) dX8_dishes_g1.2.2.2.2.2.2.2.2.2.1 ?_
            refine wm_if_eq (tgt := 50) C dX8_dishes_g1.2.2.2.2.2.2.2.2.2.2.1 (by decide) (fun c12 => ?_) (fun c12 => ?_)
            · have hf := (if_pos c12).symm.trans hf
              refine wm_aload 0 C dX8_dishes_g2.2.1 rfl ?_
              refine wm_get (ci := 5) (k := 0) (v := .int (o9.2 (55 + 2 * (v1).toNatClampNeg) 0)) C (kr5 hPl (eq_of_beq h11)) (eq_of_beq h11) rfl (by decide) wt_X8_286 iwX6 rfl dX8_dishes_g2.2.2.1 ?_
              refine wm_iload_n 3 C dX8_dishes_g2.2.2.2.1 rfl ?_
              refine wm_icmp_eq (tgt := 62) C dX8_dishes_g2.2.2.2.2.1 (by decide) (fun c13 => ?_) (fun c13 => ?_)
              · have hf := (if_pos c13).symm.trans hf
                refine wm_iconst (v := 0) C dX8_dishes_g2.2.2.2.2.2.2.2.1 (by decide) ?_
                refine wm_istore (lv1 := [(6, .int 0), (5, .ref (A (55 + 2 * (v1).toNatClampNeg))), (0, .ref (A 0)), (1, .int v1), (2, .int v2), (3, .int v3), (4, .int v4)]) C dX8_dishes_g2.2.2.2.2.2.2.2.2.1 (by decide) rfl ?_
                refine wm_iconst (v := 0) C dX8_dishes_g2.2.2.2.2.2.2.2.2.2.1 (by decide) ?_
                refine wm_istore (lv1 := [(7, .int 0), (6, .int 0), (5, .ref (A (55 + 2 * (v1).toNatClampNeg))), (0, .ref (A 0)), (1, .int v1), (2, .int v2), (3, .int v3), (4, .int v4)]) C dX8_dishes_g2.2.2.2.2.2.2.2.2.2.2.1 (by decide) rfl ?_
                refine wm_pick [3, 6, 7, 2, 1, 0] rfl ?_
                exact (hl68 FU) _ _ _ _ _ _ hf
              · have hf := (if_neg c13).symm.trans hf
                refine wm_bipush (v := (-13)) C dX8_dishes_g2.2.2.2.2.2.1 (by decide) ?_
                exact wm_iret C hrt hf dX8_dishes_g2.2.2.2.2.2.2.1
            · have hf := (if_neg c12).symm.trans hf
              refine wm_bipush (v := (-11)) C dX8_dishes_g1.2.2.2.2.2.2.2.2.2.2.2 (by decide) ?_
              exact wm_iret C hrt hf dX8_dishes_g2.1
          · have hf := (if_neg c7).symm.trans hf
            refine wm_bipush (v := (-2)) C dX8_dishes_g1.2.1 (by decide) ?_
            exact wm_iret C hrt hf dX8_dishes_g1.2.2.1
set_option maxHeartbeats 4000000 in
set_option maxRecDepth 100000 in
theorem c_X2_isUnder {l : Launch} {D : va_G} {cA : Nat → ClassId} {A : Nat → Nat} {Pl : List Nat} (v0 : Int32) (v1 : Int32) (M : Mem) (out : (Int32 × Mem)) (ho : f_X2_isUnder v0 v1 M = some out) : CtI l D cA A Pl yX2_isUnder cX2_isUnder 4 1 .boolean [.int v0, .int v1] M out := by
  refine ct_I (by decide) (Nat.le_of_ble_eq_true rfl) (fun p e s m args below meth c C hrt => ?_)
  have hl4 : ∀ (n : Nat), ∀ (v1 : Int32) (v2 : Int32) (v3 : Int32) (M : Mem), f_X2_isUnder_l4 n v1 v2 v3 M = some out → WM p l e (RM 1) s m args below meth c 0 0 (MQ below (QI D cA A Pl out) args s 0 0 (FA A Pl)) D cA A Pl (FA A Pl) 4 M 4 [(1, .int v1), (2, .int v2), (3, .int v3)] [] := by
    intro n
    induction n with
    | zero => intro v1 v2 v3 M hf; rw [f_X2_isUnder_l4] at hf; cases hf
    | succ n hr =>
      intro v1 v2 v3 M hf
      rw [f_X2_isUnder_l4] at hf
      refine wm_iload_n 2 C dX2_isUnder_g0.2.2.2.2.1 rfl ?_
      refine wm_bipush (v := 6) C dX2_isUnder_g0.2.2.2.2.2.1 (by decide) ?_
      refine wm_icmp_ge (tgt := 39) C dX2_isUnder_g0.2.2.2.2.2.2.1 (by decide) (fun c1 => ?_) (fun c1 => ?_)
      · have hf := (if_pos c1).symm.trans hf
        refine wm_iconst (v := 0) C dX2_isUnder_g1.2.2.2.2.2.2.2.2.2.2.2 (by decide) ?_
        exact wm_zret C hrt rfl hf dX2_isUnder_g2
      · have hf := (if_neg c1).symm.trans hf
        refine wm_iload_n 1 C dX2_isUnder_g0.2.2.2.2.2.2.2.1 rfl ?_
        refine wm_if_lt (tgt := 39) C dX2_isUnder_g0.2.2.2.2.2.2.2.2.1 (by decide) (fun c2 => ?_) (fun c2 => ?_)
        · have hf := (if_pos c2).symm.trans hf
          refine wm_iconst (v := 0) C dX2_isUnder_g1.2.2.2.2.2.2.2.2.2.2.2 (by decide) ?_
          exact wm_zret C hrt rfl hf dX2_isUnder_g2
        · have hf := (if_neg c2).symm.trans hf
          refine wm_iload_n 1 C dX2_isUnder_g0.2.2.2.2.2.2.2.2.2.1 rfl ?_
          refine wm_bipush (v := 6) C dX2_isUnder_g0.2.2.2.2.2.2.2.2.2.2.1 (by decide) ?_
          refine wm_icmp_ge (tgt := 39) C dX2_isUnder_g0.2.2.2.2.2.2.2.2.2.2.2 (by decide) (fun c3 => ?_) (fun c3 => ?_)
          · have hf := (if_pos c3).symm.trans hf
            refine wm_iconst (v := 0) C dX2_isUnder_g1.2.2.2.2.2.2.2.2.2.2.2 (by decide) ?_
            exact wm_zret C hrt rfl hf dX2_isUnder_g2
          · have hf := (if_neg c3).symm.trans hf
            refine wm_iload_n 1 C dX2_isUnder_g1.1 rfl ?_
            refine wm_iload_n 0 C dX2_isUnder_g1.2.1 rfl ?_
            refine wm_icmp_ne (tgt := 27) C dX2_isUnder_g1.2.2.1 (by decide) (fun c4 => ?_) (fun c4 => ?_)
            · have hf := (if_neg c4).symm.trans hf
              refine wm_getsNX2_18 C rfl dX2_isUnder_g1.2.2.2.2.2.1 ?_
              refine wm_iload_n 1 C dX2_isUnder_g1.2.2.2.2.2.2.1 rfl ?_
              obtain ⟨h5, hf⟩ := ckd hf
              refine wm_tld2001 (v := (stv 2001 (v2).toNatClampNeg)) C h5 rfl dX2_isUnder_g1.2.2.2.2.2.2.2.1 ?_
              refine wm_istore_n (lv1 := [(2, .int (stv 2001 (v2).toNatClampNeg)), (1, .int v1), (3, .int v3)]) C dX2_isUnder_g1.2.2.2.2.2.2.2.2.1 (by decide) rfl ?_
              refine wm_iinc (lv1 := [(3, .int (v3 + 1)), (2, .int (stv 2001 (v2).toNatClampNeg)), (1, .int v1)]) (v := (v3 + 1)) 2 C dX2_isUnder_g1.2.2.2.2.2.2.2.2.2.1 rfl (by first | rfl | decide) (by decide) rfl ?_
              refine wm_goto (tgt := 4) C dX2_isUnder_g1.2.2.2.2.2.2.2.2.2.2.1 (by decide) ?_
              refine wm_pick [2, 1, 0] rfl ?_
              exact hr _ _ _ _ hf
            · have hf := (if_pos c4).symm.trans hf
              refine wm_iconst (v := 1) C dX2_isUnder_g1.2.2.2.1 (by decide) ?_
              exact wm_zret C hrt rfl hf dX2_isUnder_g1.2.2.2.2.1
  have hf := ho
  unfold f_X2_isUnder at hf
  refine wm_iload_n 0 C dX2_isUnder_g0.1 rfl ?_
  refine wm_istore_n (lv1 := [(2, .int v0), (0, .int v0), (1, .int v1)]) C dX2_isUnder_g0.2.1 (by decide) rfl ?_
  refine wm_iconst (v := 0) C dX2_isUnder_g0.2.2.1 (by decide) ?_
  refine wm_istore_n (lv1 := [(3, .int 0), (2, .int v0), (0, .int v0), (1, .int v1)]) C dX2_isUnder_g0.2.2.2.1 (by decide) rfl ?_
  refine wm_pick [3, 1, 0] rfl ?_
  exact (hl4 FU) _ _ _ _ hf
set_option maxHeartbeats 4000000 in
set_option maxRecDepth 100000 in
theorem c_X8_taken {l : Launch} {D : va_G} {cA : Nat → ClassId} {A : Nat → Nat} {Pl : List Nat} (hPl : ∀ q, 0 ≤ q → q < 63 → q ∈ Pl) (v1 : Int32) (v2 : Int32) (M : Mem) (out : (Int32 × Mem)) (ho : f_X8_taken v1 v2 M = some out) : CtI l D cA A Pl yX8_taken cX8_taken 3 2 .int [.ref (A 0), .int v1, .int v2] M out := by
  refine ct_I (by decide) (Nat.le_of_ble_eq_true rfl) (fun p e s m args below meth c C hrt => ?_)
  have hf := ho
  unfold f_X8_taken at hf
  refine wm_iload_n 2 C dX8_taken_g0.1 rfl ?_
  refine wm_if_lt (tgt := 10) C dX8_taken_g0.2.1 (by decide) (fun c1 => ?_) (fun c1 => ?_)
  · have hf := (if_pos c1).symm.trans hf
    refine wm_bipush (v := (-2)) C dX8_taken_g0.2.2.2.2.2.1 (by decide) ?_
    exact wm_iret C hrt hf dX8_taken_g0.2.2.2.2.2.2.1
  · have hf := (if_neg c1).symm.trans hf
    refine wm_iload_n 2 C dX8_taken_g0.2.2.1 rfl ?_
    refine wm_bipush (v := 6) C dX8_taken_g0.2.2.2.1 (by decide) ?_
    refine wm_icmp_lt (tgt := 13) C dX8_taken_g0.2.2.2.2.1 (by decide) (fun c2 => ?_) (fun c2 => ?_)
    · have hf := (if_pos c2).symm.trans hf
      refine wm_aload_n 0 C dX8_taken_g0.2.2.2.2.2.2.2.1 rfl ?_
      refine wm_get (ci := 7) (k := 0) (v := .ref (A 1)) C (hPl 0 (by decide) (by decide)) rfl rfl (by decide) wt_X8_10 iwX8 rfl dX8_taken_g0.2.2.2.2.2.2.2.2.1 ?_
      refine wm_iload_n 1 C dX8_taken_g0.2.2.2.2.2.2.2.2.2.1 rfl ?_
      obtain ⟨o3, ho4, hf⟩ := bnd hf
      refine wm_callVi (As := [.int v1]) (ci := 1) C (c_X1_hasDish hPl _ _ _ ho4) mi_X1_hasDish wt_X8_134 (hPl 1 (by decide) (by decide)) rfl rfl rfl rfl (by decide) (by decide) (Nat.le_of_ble_eq_true rfl) dX8_taken_g0.2.2.2.2.2.2.2.2.2.2.1 ?_
      refine wm_if_ne (tgt := 27) C dX8_taken_g0.2.2.2.2.2.2.2.2.2.2.2 (by decide) (fun c5 => ?_) (fun c5 => ?_)
      · have hf := (if_neg c5).symm.trans hf
        refine wm_aload_n 0 C dX8_taken_g1.2.2.1 rfl ?_
        refine wm_get (ci := 7) (k := 0) (v := .ref (A 1)) C (hPl 0 (by decide) (by decide)) rfl rfl (by decide) wt_X8_10 iwX8 rfl dX8_taken_g1.2.2.2.1 ?_
        refine wm_get (ci := 1) (k := 2) (v := .ref (A 4)) C (hPl 1 (by decide) (by decide)) rfl rfl (by decide) wt_X8_299 iwX1 rfl dX8_taken_g1.2.2.2.2.1 ?_
        refine wm_iload_n 1 C dX8_taken_g1.2.2.2.2.2.1 rfl ?_
        obtain ⟨h6, hf⟩ := ckd hf
        refine wm_iald (n := 6) (j := (v1).toNatClampNeg) (v := (o3.2 4 (v1).toNatClampNeg)) C (hPl 4 (by decide) (by decide)) rfl rfl rfl h6 rfl rfl dX8_taken_g1.2.2.2.2.2.2.1 ?_
        refine wm_iload_n 2 C dX8_taken_g1.2.2.2.2.2.2.2.1 rfl ?_
        obtain ⟨o7, ho8, hf⟩ := bnd hf
        refine wm_callSi (As := [.int (o3.2 4 (v1).toNatClampNeg), .int v2]) C (c_X2_isUnder  _ _ _ _ ho8) mi_X2_isUnder wt_X8_302 rfl rfl (by decide) (by decide) (Nat.le_of_ble_eq_true rfl) dX8_taken_g1.2.2.2.2.2.2.2.2.1 ?_
        refine wm_if_eq (tgt := 55) C dX8_taken_g1.2.2.2.2.2.2.2.2.2.1 (by decide) (fun c9 => ?_) (fun c9 => ?_)
        · have hf := (if_pos c9).symm.trans hf
          refine wm_bipush (v := (-13)) C dX8_taken_g2.2.2.2.2.1 (by decide) ?_
          exact wm_iret C hrt hf dX8_taken_g2.2.2.2.2.2
        · have hf := (if_neg c9).symm.trans hf
          refine wm_aload_n 0 C dX8_taken_g1.2.2.2.2.2.2.2.2.2.2.1 rfl ?_
          refine wm_get (ci := 7) (k := 0) (v := .ref (A 1)) C (hPl 0 (by decide) (by decide)) rfl rfl (by decide) wt_X8_10 iwX8 rfl dX8_taken_g1.2.2.2.2.2.2.2.2.2.2.2 ?_
          refine wm_get (ci := 1) (k := 3) (v := .ref (A 5)) C (hPl 1 (by decide) (by decide)) rfl rfl (by decide) wt_X8_114 iwX1 rfl dX8_taken_g2.1 ?_
          refine wm_iload_n 1 C dX8_taken_g2.2.1 rfl ?_
          refine wm_iald (n := 6) (j := (v1).toNatClampNeg) (v := (o7.2 5 (v1).toNatClampNeg)) C (hPl 5 (by decide) (by decide)) rfl rfl rfl h6 rfl rfl dX8_taken_g2.2.2.1 ?_
          refine wm_goto (tgt := 57) C dX8_taken_g2.2.2.2.1 (by decide) ?_
          exact wm_iret C hrt hf dX8_taken_g2.2.2.2.2.2
      · have hf := (if_pos c5).symm.trans hf
        refine wm_bipush (v := (-11)) C dX8_taken_g1.1 (by decide) ?_
        exact wm_iret C hrt hf dX8_taken_g1.2.1
    · have hf := (if_neg c2).symm.trans hf
      refine wm_bipush (v := (-2)) C dX8_taken_g0.2.2.2.2.2.1 (by decide) ?_
      exact wm_iret C hrt hf dX8_taken_g0.2.2.2.2.2.2.1
