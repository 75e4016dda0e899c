/-! CALLS out of a constructor, over a memory; constants -/
theorem SO.cg {F : Nat → Prop} {A A1 : Nat → Nat} {U : State} {H : Heap} (h : SO F A U H) (hA : ∀ q, 1000 ≤ q → A1 q = A q) : SO F A1 U H := by
  unfold SO at h ⊢
  rw [show (fun i => A1 (1000 + i)) = (fun i => A (1000 + i)) from funext (fun i => hA _ (by omega)), show (fun i => A1 (1100 + i)) = (fun i => A (1100 + i)) from funext (fun i => hA _ (by omega)), hA 2000 (by omega), hA 2001 (by omega)]
  obtain ⟨a, b, c, d, r⟩ := h
  exact ⟨a, b, c, fun i x hx => by rw [hA _ (by omega)]; exact d i x hx, r⟩
theorem dd_of {F : Nat → Prop} {A : Nat → Nat} {Pl : List Nat} {cA : Nat → ClassId} {M : Mem} (h : va_D F (enc cA A M Pl)) : DD F A Pl := by
  refine ⟨fun i j p q hp hq e => ?_, fun p hp => ?_⟩
  · exact h.1 i j (A p, mcell cA A (M p) p) (A q, mcell cA A (M q) q) (by unfold enc; rw [List.getElem?_map, hp]; rfl) (by unfold enc; rw [List.getElem?_map, hq]; rfl) e
  · obtain ⟨i, -, hi⟩ := enc_get (cA := cA) (A := A) (M := M) hp
    exact h.2 i _ hi
theorem va_A_enc {A : Nat → Nat} {Pl : List Nat} {cA : Nat → ClassId} {M : Mem} {sz q : Nat} (h : FA A Pl q) : va_A (enc cA A M Pl) sz q := by
  obtain ⟨p, hp, rfl⟩ := h
  obtain ⟨i, -, hi⟩ := enc_get (cA := cA) (A := A) (M := M) hp
  exact Or.inl ⟨i, _, hi⟩
theorem arrV_cg {c : ClassId} {n : Nat} {f g : Nat → Value} (h : ∀ j, j < n → f j = g j) : arrV c n f = arrV c n g := by
  unfold arrV
  congr 2
  funext j
  exact h j.val j.isLt
section WXC
variable {p : Program} {l : Launch} {e : Env} {R : Room} {s : State} {m : MethodId} {args : Array Value} {below : List Frame} {meth : Method} {c : Code} {cells slots : Nat} {Q : State → Prop}
variable {cc : ByteArray} {own : String} {nL : Nat} {D : va_G} {cA : Nat → ClassId} {F : Nat → Prop} {ws : va_W} {pc : Nat} {lv : List (Nat × Value)} {st : List Value} {A : Nat → Nat} {Pl : List Nat} {M : Mem} {Rw : va_W}
/-- a row of references, the same as far as it goes -/
theorem wx_cgq {i n a : Nat} {c0 : ClassId} {f g : Nat → Option Nat} {ws' : va_W} (he : ws[i]? = some (a, .inl (c0, n, .inr (.inr (.inr (.inr f)))))) (hg : ∀ j, j < n → f j = g j) (hset : ws.set i (a, .inl (c0, n, .inr (.inr (.inr (.inr g))))) = ws') (kk : WX p l e R s m args below meth c cells slots Q D F nL ws' pc lv st) : WX p l e R s m args below meth c cells slots Q D F nL ws pc lv st := by
  subst hset
  intro H locs hP hD hS ls hl
  have hcell : vp_cell c0 (n, .inr (.inr (.inr (.inr f)))) = vp_cell c0 (n, .inr (.inr (.inr (.inr g)))) := by
    rw [vp_cell_q, vp_cell_q]
    exact arrV_cg (fun j hj => by rw [hg j hj])
  refine kk H locs (fun k q hk => ?_) ?_ hS ls hl
  · rw [List.getElem?_set] at hk
    by_cases ek : i = k
    · subst ek
      rw [if_pos rfl] at hk
      split at hk
      · cases hk
        have := hP i _ he
        show H[a]? = some (vp_cell c0 _)
        rw [← hcell]
        exact this
      · cases hk
    · rw [if_neg ek] at hk
      exact hP k q hk
  · have hm : (ws.set i (a, .inl (c0, n, .inr (.inr (.inr (.inr g)))))).map Prod.fst = ws.map Prod.fst := by
      apply List.ext_getElem?
      intro k
      rw [List.getElem?_map, List.getElem?_map, List.getElem?_set]
      by_cases ek : i = k
      · subst ek
        rw [if_pos rfl, if_pos (List.getElem?_eq_some_iff.mp he).1, he]
        rfl
      · rw [if_neg ek]
    have hd := D_mem.mp hD
    refine D_mem.mpr ⟨by rw [hm]; exact hd.1, fun q hq => ?_⟩
    have : q.1 ∈ ws.map Prod.fst := by rw [← hm]; exact List.mem_map.mpr ⟨q, hq, rfl⟩
    obtain ⟨x, hx, hx1⟩ := List.mem_map.mp this
    rw [← hx1]
    exact hd.2 x hx
theorem wx_ldcs {q idx : Nat} {tx : String} (C : CxX p s m args meth c cc own nL D cA F) (hSO : SO F A s s.heap) (hx : sIdx[q - 1000]? = some (own, idx, tx) ∧ 1000 ≤ q) (hdg : decode cc pc = .ok (.ldc idx, 2)) (kk : WX p l e R s m args below meth c cells slots Q D F nL ws (pc + 2) lv (.ref (A q) :: st)) : WX p l e R s m args below meth c cells slots Q D F nL ws pc lv st := by
  intro H locs hP hD hS ls hl
  have hr := hSO.2.2.2.1 (q - 1000) _ hx.1
  have e : 1000 + (q - 1000) = q := by omega
  rw [e] at hr
  exact va_ldcS C.1.1 C.1.2.1 C.1.2.2.2 hr hdg (kk H locs hP hD hS ls hl)
theorem wx_callKi {y : MethodName} {cb : ByteArray} {nM h idx n i : Nat} {rt : FieldType} {As stk : List Value} {r : Int32} (C : CxX p s m args meth c cc own nL D cA F) (hSO : SO F A s s.heap) (hi : i < 13) (hy : y.cls = RJ0) (hM : CtI l D cA A [] y cb nM h rt (.ref (A (1000 + i)) :: As) M (r, M)) (hmi : MIV y cb nM (some rt) n) (hml : Cond.methodLink own idx y ∈ WT) (hn : As.length = n) (hst : stk = As.reverse ++ .ref (A (1000 + i)) :: st) (hR : h + 1 ≤ R.frames ∧ 8 + (nM + 11) + 64 * h ≤ R.locals) (hcs : cells ≤ R.cells ∧ slots ≤ R.slots) (hcat : (st.map fun v => v.category).sum ≤ 8) (hdg : decode cc pc = .ok (.invokevirtual idx, 3)) (kk : WX p l e R s m args below meth c cells slots Q D F nL ws (pc + 3) lv (.int r :: st)) : WX p l e R s m args below meth c cells slots Q D F nL ws pc lv stk := by
  subst hst
  intro H locs hP hD hS ls hl
  have hrec := vk_recv hSO.2.2.1 hi hS
  rw [show "java/lang/String" = y.cls from hy.symm] at hrec
  have hno : ∀ q, ¬ FA A [] q := fun q ⟨p, hp, _⟩ => absurd hp List.not_mem_nil
  refine va_calli (va_runV (As := As) (rest := st) (nL := nL) ⟨C.1.1, C.1.2.1, C.1.2.2.1, C.1.2.2.2, C.2.1⟩ hM ⟨callB_of n C.2.1 (ws_in hmi.1) rfl rfl rfl (C.2.1 _ hmi.2.2.2.1) (C.2.1 _ hml) ⟨hmi.2.2.2.2.1.1, hmi.2.2.2.2.1.2, hmi.2.2.2.2.2⟩ hR, C.2.1 _ hmi.2.1, C.2.1 _ hmi.2.2.1⟩ ⟨pre_blind, hrec, fun U hU hW => ⟨rfl, fun k q hk => absurd hk (by simp [enc]), va_K.moved hW.alike C.2.2.2.1, ⟨fun i j p q h => absurd h (by simp), fun p hp => absurd hp List.not_mem_nil⟩, by rw [hU]; exact SO.narrow (SO.warm hW (hSO.kept hS.2.1)) (fun q hq => absurd hq (hno q))⟩⟩ rfl hn hl.1 rfl (lv_room hcat) hdg hcs) hS (fun q _ hq => absurd hq (hno q)) (fun q hq => absurd hq (hno q)) (fun r2 u t H1 locs1 ht hvm hw hB hz hk hS1 => ?_)
  have hw1 : r2 = r := hw
  subst hw1
  exact kk H1 locs1 (P_mem.mpr (fun q hq => by have hx := P_mem.mp hP q hq; exact hx.kept (hk _ hx.lt (hno _)))) hD hS1 ls hl
theorem wx_callEi {y : MethodName} {cb : ByteArray} {nM h idx n ci q N : Nat} {T : u_T} {rt : FieldType} {As stk : List Value} {out : Int32 × Mem} (C : CxX p s m args meth c cc own nL D cA F) (hSO : SO F A s s.heap) (hM : CtI l D cA A Pl y cb nM h rt (.ref (A q) :: As) M out) (hmi : MIV y cb nM (some rt) n) (hml : Cond.methodLink own idx y ∈ WT) (hp : q ∈ Pl) (hci : kd q = ci) (hcl : vwCl[ci]? = some (y.cls, T, N)) (hn : As.length = n) (hst : stk = As.reverse ++ .ref (A q) :: st) (hR : h + 1 ≤ R.frames ∧ 8 + (nM + 11) + 64 * h ≤ R.locals) (hcs : cells ≤ R.cells ∧ slots ≤ R.slots) (hcat : (st.map fun v => v.category).sum ≤ 8) (hdg : decode cc pc = .ok (.invokevirtual idx, 3)) (kk : WX p l e R s m args below meth c cells slots Q D F nL (enc cA A out.2 Pl ++ Rw) (pc + 3) lv (.int out.1 :: st)) : WX p l e R s m args below meth c cells slots Q D F nL (enc cA A M Pl ++ Rw) pc lv stk := by
  subst hst
  intro H locs hP hD hS ls hl
  have hF := free_F hD hS C.2.2.2.2.1
  have hPc : va_P D vwCl (enc cA A M Pl) H := P_mem.mpr (fun q hq => P_mem.mp hP q (List.mem_append_left _ hq))
  have hDc : va_D F (enc cA A M Pl) := D_mem.mpr ⟨by have := (D_mem.mp hD).1; rw [List.map_append, List.pairwise_append] at this; exact this.1, fun q hq => (D_mem.mp hD).2 q (List.mem_append_left _ hq)⟩
  have hDD := dd_of hDc
  obtain ⟨i0, -, hi0⟩ := enc_get (cA := cA) (A := A) (M := M) hp
  have hc9 : ci < 9 := (List.getElem?_eq_some_iff.mp hcl).1
  rw [mc_obj hci hc9] at hi0
  have hrec := va_recv C.2.2.2.1 hPc hcl hi0
  refine va_calli (va_runV (As := As) (rest := st) (nL := nL) ⟨C.1.1, C.1.2.1, C.1.2.2.1, C.1.2.2.2, C.2.1⟩ hM ⟨callB_of n C.2.1 (ws_in hmi.1) rfl rfl rfl (C.2.1 _ hmi.2.2.2.1) (C.2.1 _ hml) ⟨hmi.2.2.2.2.1.1, hmi.2.2.2.2.1.2, hmi.2.2.2.2.2⟩ hR, C.2.1 _ hmi.2.1, C.2.1 _ hmi.2.2.1⟩ ⟨pre_blind, hrec, fun U hU hW => ⟨rfl, by rw [hU]; exact hPc, va_K.moved hW.alike C.2.2.2.1, dd_fa hDD, by rw [hU]; exact SO.narrow (SO.warm hW (hSO.kept hS.2.1)) (fa_F hDD)⟩⟩ rfl hn hl.1 rfl (lv_room hcat) hdg hcs) hS (fun q _ hq => fa_F hDD q hq) (fa_F hDD) (fun r u t H1 locs1 ht hvm hw hB hz hk hS1 => ?_)
  have hw1 : r = out.1 := hw
  subst hw1
  rw [ht] at hB
  obtain ⟨a1, a2⟩ := wx_frame (w1 := enc cA A out.2 Pl) hP hD (fun q h1 h2 => hk q h1 (fun h3 => h2 (va_A_enc h3))) hB (enc_D (F := va_A (enc cA A M Pl) H.size) ⟨hDD.1, fun p hp => va_A_enc ⟨p, hp, rfl⟩⟩) hF
  exact kk H1 locs1 a1 a2 hS1 ls hl
theorem wx_callEv {y : MethodName} {cb : ByteArray} {nM h idx n ci q N : Nat} {T : u_T} {As stk : List Value} {out : Mem} (C : CxX p s m args meth c cc own nL D cA F) (hSO : SO F A s s.heap) (hM : CtV l D cA A Pl y cb nM h (.ref (A q) :: As) M out) (hmi : MIV y cb nM none n) (hml : Cond.methodLink own idx y ∈ WT) (hp : q ∈ Pl) (hci : kd q = ci) (hcl : vwCl[ci]? = some (y.cls, T, N)) (hn : As.length = n) (hst : stk = As.reverse ++ .ref (A q) :: st) (hR : h + 1 ≤ R.frames ∧ 8 + (nM + 11) + 64 * h ≤ R.locals) (hcs : cells ≤ R.cells ∧ slots ≤ R.slots) (hcat : (st.map fun v => v.category).sum ≤ 8) (hdg : decode cc pc = .ok (.invokevirtual idx, 3)) (kk : WX p l e R s m args below meth c cells slots Q D F nL (enc cA A out Pl ++ Rw) (pc + 3) lv st) : WX p l e R s m args below meth c cells slots Q D F nL (enc cA A M Pl ++ Rw) pc lv stk := by
  subst hst
  intro H locs hP hD hS ls hl
  have hF := free_F hD hS C.2.2.2.2.1
  have hPc : va_P D vwCl (enc cA A M Pl) H := P_mem.mpr (fun q hq => P_mem.mp hP q (List.mem_append_left _ hq))
  have hDc : va_D F (enc cA A M Pl) := D_mem.mpr ⟨by have := (D_mem.mp hD).1; rw [List.map_append, List.pairwise_append] at this; exact this.1, fun q hq => (D_mem.mp hD).2 q (List.mem_append_left _ hq)⟩
  have hDD := dd_of hDc
  obtain ⟨i0, -, hi0⟩ := enc_get (cA := cA) (A := A) (M := M) hp
  have hc9 : ci < 9 := (List.getElem?_eq_some_iff.mp hcl).1
  rw [mc_obj hci hc9] at hi0
  have hrec := va_recv C.2.2.2.1 hPc hcl hi0
  refine va_callv (va_runV (As := As) (rest := st) (nL := nL) ⟨C.1.1, C.1.2.1, C.1.2.2.1, C.1.2.2.2, C.2.1⟩ hM ⟨callB_of n C.2.1 (ws_in hmi.1) rfl rfl rfl (C.2.1 _ hmi.2.2.2.1) (C.2.1 _ hml) ⟨hmi.2.2.2.2.1.1, hmi.2.2.2.2.1.2, hmi.2.2.2.2.2⟩ hR, C.2.1 _ hmi.2.1, C.2.1 _ hmi.2.2.1⟩ ⟨pre_blind, hrec, fun U hU hW => ⟨rfl, by rw [hU]; exact hPc, va_K.moved hW.alike C.2.2.2.1, dd_fa hDD, by rw [hU]; exact SO.narrow (SO.warm hW (hSO.kept hS.2.1)) (fa_F hDD)⟩⟩ rfl hn hl.1 rfl (lv_room hcat) hdg hcs) hS (fun q _ hq => fa_F hDD q hq) (fa_F hDD) (fun u t H1 locs1 ht hvm hw hB hz hk hS1 => ?_)
  rw [ht] at hB
  obtain ⟨a1, a2⟩ := wx_frame (w1 := enc cA A out Pl) hP hD (fun q h1 h2 => hk q h1 (fun h3 => h2 (va_A_enc h3))) hB (enc_D (F := va_A (enc cA A M Pl) H.size) ⟨hDD.1, fun p hp => va_A_enc ⟨p, hp, rfl⟩⟩) hF
  exact kk H1 locs1 a1 a2 hS1 ls hl
/-- to the memory's judgement, and back -/
theorem wx_wm (C : CxX p s m args meth c cc own nL D cA F) (hSO : SO F A s s.heap) (kk : DD F A Pl → Cx p s m args meth c cc own nL D cA A Pl F → WM p l e R s m args below meth c cells slots Q D cA A Pl F nL M pc lv st) : WX p l e R s m args below meth c cells slots Q D F nL (enc cA A M Pl) pc lv st :=
  fun H locs hP hD hS ls hl => kk (dd_of hD) ⟨C.1, C.2.1, C.2.2.1, C.2.2.2.1, dd_of hD, hSO⟩ H locs hP hS ls hl
theorem wm_wx (hD : DD F A Pl) (kk : WX p l e R s m args below meth c cells slots Q D F nL (enc cA A M Pl) pc lv st) : WM p l e R s m args below meth c cells slots Q D cA A Pl F nL M pc lv st :=
  fun H locs hP hS ls hl => kk H locs hP (enc_D hD) hS ls hl
end WXC
