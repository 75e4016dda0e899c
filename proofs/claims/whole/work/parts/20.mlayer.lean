/-! THE MACHINE OVER A MEMORY: the cells are made of (place -> numbers); a row an instruction -/
/-- what an object of class ci at place p holds: f its numbers, A the addresses of places -/
def fld (ci p : Nat) (A : Nat → Nat) (f : Nat → Int32) : List Value := match ci with
  | 0 => [.ref (A 15), .ref (A (f 1).toNatClampNeg), .int (f 2), .int (f 3), .int (f 4), .ref (A 37), .ref (A 38), .int (f 7), .ref (A 39), .ref (A 40), .ref (A 41), .ref (A 42), .int (f 12), .int (f 13), .int (f 14), .int (f 15)]
  | 1 => [.ref (A (p + 1)), .ref (A (p + 2)), .ref (A (p + 3)), .ref (A (p + 4)), .ref (A (p + 5)), .ref (A (p + 6)), .int (f 6), .int (f 7), .int (f 8)]
  | 2 => [.ref (A 1), .ref (A 36), .ref (A 46), .int (f 3), .int (f 4), .int (f 5), .int (f 6), .int (f 7), .int (f 8), .int (f 9), .int (f 10)]
  | 3 => [.ref (A 1), .ref (A 36), .ref (A 44), .int (f 3), .int (f 4), .int (f 5), .int (f 6)]
  | 4 => [.ref (A 35), .int (f 1), .int (f 2), .int (f 3), .int (f 4), .int (f 5), .int (f 6)]
  | 5 => [.int (f 0), .int (f 1), .ref (A (p + 1))]
  | 6 => [.ref (A (p + 1)), .ref (A (p + 2)), .int (f 2)]
  | 7 => [.ref (A 1), .ref (A 8), .int (f 2), .ref (A 15), .int (f 4), .ref (A 34), .ref (A 36), .ref (A 43), .ref (A 45), .ref (A 54)]
  | _ => [.int (f 0), .ref (A 101), .ref (A 102), .int (f 3), .int (f 4), .ref (A 103), .int (f 6), .int (f 7), .ref (A 104), .ref (A 105), .ref (A 106), .ref (A 107), .int (f 12), .int (f 13), .int (f 14), .int (f 15), .int (f 16), .int (f 17), .int (f 18), .int (f 19), .int (f 20), .int (f 21), .int (f 22), .int (f 23), .long (f 24).toInt64, .int (f 25), .int (f 26), .int (f 27), .ref (A 108), .ref (A 109), .int (f 30), .int (f 31), .int (f 32), .int (f 33), .int (f 34), .int (f 35), .int (f 36), .int (f 37), .ref (A 110), .ref (A 111), .ref (A 112), .ref (A 113), .int (f 42), .int (f 43), .int (f 44), .ref (A 114), .ref (A 115), .ref (A 116), .ref (A 117)]
def mcell (cA : Nat → ClassId) (A : Nat → Nat) (f : Nat → Int32) (p : Nat) : va_E :=
  if kd p < 9 then .inr (kd p, fld (kd p) p A f)
  else if kd p = 11 ∨ kd p = 21 then .inl (cA 1, ln p, .inl f)
  else if kd p = 12 then .inl (cA 2, ln p, .inr (.inr (.inr (.inr (fun i => some (A (16 + 3 * i)))))))
  else if kd p = 13 then .inl (cA 3, ln p, .inr (.inr (.inr (.inr (fun i => some (A (55 + 2 * i)))))))
  else if kd p = 14 then .inl (cA 4, ln p, .inr (.inr (.inr (.inr (fun i => some (A (47 + i)))))))
  else .inl (cA 0, ln p, .inl f)
def enc (cA : Nat → ClassId) (A : Nat → Nat) (M : Mem) (Pl : List Nat) : va_W := Pl.map (fun p => (A p, mcell cA A (M p) p))
def tyL (cA : Nat → ClassId) : List (ClassId × FieldType) := [(cA 0, .int), (cA 1, .boolean), (cA 2, .object RX7), (cA 3, .object RX6), (cA 4, .array .int)]
/-- the places are apart, and of a kind -/
def DD (F : Nat → Prop) (A : Nat → Nat) (Pl : List Nat) : Prop := (∀ i j p q : Nat, Pl[i]? = some p → Pl[j]? = some q → A p = A q → i = j) ∧ ∀ p, p ∈ Pl → F (A p)
def FA (A : Nat → Nat) (Pl : List Nat) : Nat → Prop := fun q => ∃ p, p ∈ Pl ∧ q = A p
/-- the good words of the tables -/
def WT : List Cond := lw_tbl.filter goodWord
theorem wtm (i : Nat) {w : Cond} (h : lw_tbl[i]? = some w ∧ goodWord w = true) : w ∈ WT := List.mem_filter.mpr ⟨List.mem_of_getElem? h.1, h.2⟩
theorem wt_good {w : Cond} (h : w ∈ WT) : goodWord w = true := (List.mem_filter.mp h).2
def WS (y : MethodName) (cb : ByteArray) (nM : Nat) (rt : Option FieldType) : List Cond := Cond.code y cb nM rt :: WT
def RM (h : Nat) : Room := { frames := h, cells := 0, slots := 0, locals := 64 * h }
/-- the constants that the code reads: two rows of numbers, the texts, links to a nest mate's rows -/
def sLens : List Nat := strs.map (fun s => s.length)
def sByts : List (List Int32) := strs.map (fun s => s.map (fun c => Int32.ofNat c))
def sIdx : List (String × Nat × String) := [(RX5, 90, "part"), (RX5, 100, "much"), (RX5, 102, "kitchen"), (RX5, 104, "hour"), (RX5, 106, "number"), (RX5, 108, "pride"), (RX5, 110, "feeds"), (RX5, 112, "tolls"), (RX5, 114, "signs"), (RX5, 116, "or"), (RX5, 118, "and"), (RX5, 120, "not"), (RX8, 48, "feeds much * 2 ; tolls much ; signs 1 ;")]
def SO (F : Nat → Prop) (A : Nat → Nat) (U : State) (H : Heap) : Prop :=
  (va_Z RX8 "POWERS" "[I" (.ref (A 2000)) F U H ∧ va_T .int (A 2000) 6 (fun j => .int (stv 2000 j)) F U H) ∧
  (va_Z RX8 "UNDER" "[I" (.ref (A 2001)) F U H ∧ va_T .int (A 2001) 6 (fun j => .int (stv 2001 j)) F U H) ∧
  vk_S 13 sLens sByts (fun i => A (1000 + i)) (fun i => A (1100 + i)) F U H ∧
  (∀ i x, sIdx[i]? = some x → vk_R x.1 x.2.1 x.2.2 (A (1000 + i)) U) ∧
  va_Nw (.fieldLinkNest RX1 40 RX8 "POWERS" "[I" RX8) U ∧ va_Nw (.fieldLinkNest RX2 18 RX8 "UNDER" "[I" RX8) U ∧
  va_Z RJ0 "COMPACT_STRINGS" "Z" (.int 1) F U H ∧ va_Zq "jdk/internal/util/Preconditions" "SIOOBE_FORMATTER" "Ljava/util/function/BiFunction;" F U H
theorem SO.same {F : Nat → Prop} {A : Nat → Nat} {u U : State} {H : Heap} (hv : u.vm = U.vm) (h : SO F A u H) : SO F A U H := by
  obtain ⟨⟨a1, a2⟩, ⟨b1, b2⟩, c, d, e1, e2, f1, f2⟩ := h
  have ha : u.vm.Alike U.vm := by rw [hv]; exact Vm.Alike.refl _
  exact ⟨⟨va_Z.moved ha a1, va_T.moved ha a2⟩, ⟨va_Z.moved ha b1, va_T.moved ha b2⟩, vk_S.moved ha c, fun i x hx => vk_R.same hv.symm (d i x hx), va_Nw.same rfl hv e1, va_Nw.same rfl hv e2, va_Z.moved ha f1, va_Zq.moved ha f2⟩
theorem SO.warm {F : Nat → Prop} {A : Nat → Nat} {s U : State} {H : Heap} (hW : s.WarmedH U.vm) (h : SO F A s H) : SO F A U H := by
  obtain ⟨⟨a1, a2⟩, ⟨b1, b2⟩, c, d, e1, e2, f1, f2⟩ := h
  have ha : s.vm.Alike U.vm := hW.alike
  exact ⟨⟨va_Z.moved ha a1, va_T.moved ha a2⟩, ⟨va_Z.moved ha b1, va_T.moved ha b2⟩, vk_S.moved ha c, fun i x hx => vk_R.warm hW (d i x hx), va_Nw.warmF hW e1, va_Nw.warmF hW e2, va_Z.moved ha f1, va_Zq.moved ha f2⟩
theorem SO.kept {F : Nat → Prop} {A : Nat → Nat} {U : State} {H H1 : Heap} (h : SO F A U H) (hq : ∀ a : Nat, a < H.size → ¬ F a → H1[a]? = H[a]?) : SO F A U H1 := by
  obtain ⟨⟨a1, a2⟩, ⟨b1, b2⟩, c, d, e1, e2, f1, f2⟩ := h
  exact ⟨⟨a1.kept hq, a2.kept hq⟩, ⟨b1.kept hq, b2.kept hq⟩, c.kept hq, d, e1, e2, f1.kept hq, f2.kept hq⟩
theorem SO.narrow {F G : Nat → Prop} {A : Nat → Nat} {U : State} {H : Heap} (h : SO F A U H) (hq : ∀ q, G q → F q) : SO G A U H := by
  obtain ⟨⟨a1, a2⟩, ⟨b1, b2⟩, c, d, e1, e2, f1, f2⟩ := h
  exact ⟨⟨a1.narrow hq, a2.narrow hq⟩, ⟨b1.narrow hq, b2.narrow hq⟩, c.narrow hq, d, e1, e2, f1.narrow hq, f2.narrow hq⟩
/-- what holds throughout a method -/
def Cx (p : Program) (s : State) (m : MethodId) (args : Array Value) (meth : Method) (c : Code) (cc : ByteArray) (own : String) (nL : Nat) (D : va_G) (cA : Nat → ClassId) (A : Nat → Nat) (Pl : List Nat) (F : Nat → Prop) : Prop :=
  (p.tables.exec = Jvm.exec ∧ c.code = cc ∧ c.maxLocals = nL ∧ s.vm.findClass own = some m.cls) ∧ (∀ w ∈ WT, w.before args s = true) ∧ meth.locks = false ∧ va_K D vwCl (tyL cA) s ∧ DD F A Pl ∧ SO F A s s.heap
def WM (p : Program) (l : Launch) (e : Env) (R : Room) (s : State) (m : MethodId) (args : Array Value) (below : List Frame) (meth : Method) (c : Code) (cells slots : Nat) (Q : State → Prop) (D : va_G) (cA : Nat → ClassId) (A : Nat → Nat) (Pl : List Nat) (F : Nat → Prop) (nL : Nat) (M : Mem) (pc : Nat) (lv : List (Nat × Value)) (st : List Value) : Prop :=
  ∀ (H : Heap) (locs : List Loc), va_P D vwCl (enc cA A M Pl) H → va_S F s.heap H locs → ∀ ls : Array Slot, lv_has ls nL lv → W p l e R s m args below meth c H locs cells slots Q (F0 m pc ls st)
theorem ckd {α : Type} {b : Bool} {x : Option α} {o : α} (h : ck b x = some o) : b = true ∧ x = some o := by
  unfold ck at h
  by_cases hb : b = true
  · rw [if_pos hb] at h; exact ⟨hb, h⟩
  · rw [if_neg hb] at h; cases h
theorem bnd {α β : Type} {x : Option α} {f : α → Option β} {o : β} (h : x.bind f = some o) : ∃ a, x = some a ∧ f a = some o := Option.bind_eq_some_iff.mp h
theorem inb_vp {i : Int32} {n : Nat} (h : inb i n = true) : vp_in i n := by
  unfold inb at h
  have := Bool.and_eq_true_iff.mp h
  intro q
  rcases q with q | q
  · exact of_decide_eq_true this.1 q
  · exact Nat.not_lt.mpr q (of_decide_eq_true this.2)
theorem zb_v {x : Int32} (h : zb x = true) : x = 0 ∨ x = 1 := by
  unfold zb at h
  rcases Bool.or_eq_true_iff.mp h with h | h
  · exact Or.inl (eq_of_beq h)
  · exact Or.inr (eq_of_beq h)
theorem zb_n {x : Int32} (h : zb x = true) : narrow .boolean (.int x) = .int x := by
  rcases zb_v h with rfl | rfl <;> rfl
theorem zb_f {x : Int32} (h : zb x = true) : fits .boolean (.int x) = true := by
  rcases zb_v h with rfl | rfl <;> rfl
theorem zb_p {x : Int32} (h : zb x = true) : vp_nar .boolean x = x := by
  rcases zb_v h with rfl | rfl <;> rfl
theorem nz0 {x : Int32} (h : (!(x == 0)) = true) : ¬ x = 0 := by
  intro e; subst e; exact absurd h (by decide)
theorem nzl0 {x : Int64} (h : (!(x == 0)) = true) : ¬ x = 0 := by
  intro e; subst e; exact absurd h (by decide)
theorem rsw {n : Nat} (h : n < 63) : (Int32.ofNat n).toNatClampNeg = n := nI_clamp (by omega)
-- lists of cells
theorem enc_get {cA : Nat → ClassId} {A : Nat → Nat} {M : Mem} {Pl : List Nat} {p : Nat} (h : p ∈ Pl) : ∃ i : Nat, Pl[i]? = some p ∧ (enc cA A M Pl)[i]? = some (A p, mcell cA A (M p) p) := by
  obtain ⟨i, hi⟩ := List.getElem?_of_mem h
  exact ⟨i, hi, by unfold enc; rw [List.getElem?_map, hi]; rfl⟩
theorem enc_D {cA : Nat → ClassId} {A : Nat → Nat} {M : Mem} {Pl : List Nat} {F : Nat → Prop} (h : DD F A Pl) : va_D F (enc cA A M Pl) := by
  refine ⟨fun i j x y hx hy e => ?_, fun k x hx => ?_⟩
  · unfold enc at hx hy
    rw [List.getElem?_map] at hx hy
    cases hp : Pl[i]? with
    | none => rw [hp] at hx; cases hx
    | some p =>
      cases hq : Pl[j]? with
      | none => rw [hq] at hy; cases hy
      | some q =>
        rw [hp] at hx; rw [hq] at hy
        cases hx; cases hy
        exact h.1 i j p q hp hq e
  · unfold enc at hx
    rw [List.getElem?_map] at hx
    cases hp : Pl[k]? with
    | none => rw [hp] at hx; cases hx
    | some p =>
      rw [hp] at hx
      cases hx
      exact h.2 p (List.mem_of_getElem? hp)
theorem enc_set {cA : Nat → ClassId} {A : Nat → Nat} {M M1 : Mem} {Pl : List Nat} {F : Nat → Prop} {p i : Nat} (h : DD F A Pl) (hi : Pl[i]? = some p) (ho : ∀ q, q ≠ p → M1 q = M q) {x : va_E} (hx : x = mcell cA A (M1 p) p) : (enc cA A M Pl).set i (A p, x) = enc cA A M1 Pl := by
  apply List.ext_getElem?
  intro j
  unfold enc
  rw [List.getElem?_set, List.getElem?_map, List.length_map]
  have hl : i < Pl.length := (List.getElem?_eq_some_iff.mp hi).1
  by_cases e : i = j
  · subst e
    rw [if_pos rfl, if_pos hl, List.getElem?_map, hi, hx]
    rfl
  · rw [if_neg e, List.getElem?_map]
    cases hj : Pl[j]? with
    | none => rfl
    | some q =>
      have hq : q ≠ p := by
        intro hq
        subst hq
        exact e (h.1 i j q q hi hj rfl)
      simp only [Option.map_some]
      rw [ho q hq]
theorem mu_same {M : Mem} {p k : Nat} {v : Int32} : mu M p k v p = upd (M p) k v := if_pos rfl
theorem mu_ne {M : Mem} {p q k : Nat} {v : Int32} (h : q ≠ p) : mu M p k v q = M q := if_neg h
theorem mc_obj {cA : Nat → ClassId} {A : Nat → Nat} {f : Nat → Int32} {p ci : Nat} (h : kd p = ci) (hc : ci < 9) : mcell cA A f p = .inr (ci, fld ci p A f) := by
  unfold mcell
  rw [h, if_pos hc]
def isI (K : Nat) : Bool := K == 10 || K == 20 || K == 30
def isZ (K : Nat) : Bool := K == 11 || K == 21
theorem mc_int {cA : Nat → ClassId} {A : Nat → Nat} {f : Nat → Int32} {p K : Nat} (h : kd p = K) (hc : isI K = true) : mcell cA A f p = .inl (cA 0, ln p, .inl f) := by
  have hK : K = 10 ∨ K = 20 ∨ K = 30 := by
    simp only [isI, Bool.or_eq_true, beq_iff_eq] at hc
    omega
  unfold mcell
  rw [h]
  rcases hK with rfl | rfl | rfl <;> rfl
theorem mc_bool {cA : Nat → ClassId} {A : Nat → Nat} {f : Nat → Int32} {p K : Nat} (h : kd p = K) (hc : isZ K = true) : mcell cA A f p = .inl (cA 1, ln p, .inl f) := by
  have hK : K = 11 ∨ K = 21 := by
    simp only [isZ, Bool.or_eq_true, beq_iff_eq] at hc
    omega
  unfold mcell
  rw [h]
  rcases hK with rfl | rfl <;> rfl
section ML
variable {p : Program} {l : Launch} {e : Env} {R : Room} {s : State} {m : MethodId} {args : Array Value} {below : List Frame} {meth : Method} {c : Code} {cells slots : Nat} {Q : State → Prop}
variable {cc : ByteArray} {own : String} {nL : Nat} {D : va_G} {cA : Nat → ClassId} {A : Nat → Nat} {Pl : List Nat} {F : Nat → Prop} {M : Mem} {pc : Nat} {lv : List (Nat × Value)} {st : List Value}
theorem wm_pick {lv1 : List (Nat × Value)} (ks : List Nat) (h : lv_pick lv ks = lv1) (kk : WM p l e R s m args below meth c cells slots Q D cA A Pl F nL M pc lv1 st) : WM p l e R s m args below meth c cells slots Q D cA A Pl F nL M pc lv st :=
  fun H locs hP hS ls hl => kk H locs hP hS ls (lv_sub hl ks h)
theorem wm_iconst {n : Int} {v : Int32} (C : Cx p s m args meth c cc own nL D cA A Pl F) (hdg : decode cc pc = .ok (.iconst n, 1)) (hv : Int32.ofInt n = v) (kk : WM p l e R s m args below meth c cells slots Q D cA A Pl F nL M (pc + 1) lv (.int v :: st)) : WM p l e R s m args below meth c cells slots Q D cA A Pl F nL M pc lv st :=
  fun H locs hP hS ls hl => lv_iconst C.1.1 C.1.2.1 hdg hv (kk H locs hP hS ls hl)
theorem wm_bipush {n : Int} {v : Int32} (C : Cx p s m args meth c cc own nL D cA A Pl F) (hdg : decode cc pc = .ok (.bipush n, 2)) (hv : (Int8.ofInt n).toInt32 = v) (kk : WM p l e R s m args below meth c cells slots Q D cA A Pl F nL M (pc + 2) lv (.int v :: st)) : WM p l e R s m args below meth c cells slots Q D cA A Pl F nL M pc lv st :=
  fun H locs hP hS ls hl => lv_bipush C.1.1 C.1.2.1 hdg hv (kk H locs hP hS ls hl)
theorem wm_sipush {n : Int} {v : Int32} (C : Cx p s m args meth c cc own nL D cA A Pl F) (hdg : decode cc pc = .ok (.sipush n, 3)) (hv : (Int16.ofInt n).toInt32 = v) (kk : WM p l e R s m args below meth c cells slots Q D cA A Pl F nL M (pc + 3) lv (.int v :: st)) : WM p l e R s m args below meth c cells slots Q D cA A Pl F nL M pc lv st :=
  fun H locs hP hS ls hl => lv_sipush C.1.1 C.1.2.1 hdg hv (kk H locs hP hS ls hl)
theorem wm_lconst {n : Fin 2} {v : Int64} (C : Cx p s m args meth c cc own nL D cA A Pl F) (hdg : decode cc pc = .ok (.lconst n, 1)) (hv : Int64.ofNat (n : Nat) = v) (kk : WM p l e R s m args below meth c cells slots Q D cA A Pl F nL M (pc + 1) lv (.long v :: st)) : WM p l e R s m args below meth c cells slots Q D cA A Pl F nL M pc lv st :=
  fun H locs hP hS ls hl => lv_lconst C.1.1 C.1.2.1 hdg hv (kk H locs hP hS ls hl)
theorem wm_iadd {x y : Int32} (C : Cx p s m args meth c cc own nL D cA A Pl F) (hdg : decode cc pc = .ok (.iadd, 1)) (kk : WM p l e R s m args below meth c cells slots Q D cA A Pl F nL M (pc + 1) lv (.int (x + y) :: st)) : WM p l e R s m args below meth c cells slots Q D cA A Pl F nL M pc lv (.int y :: .int x :: st) :=
  fun H locs hP hS ls hl => lv_iadd C.1.1 C.1.2.1 hdg (kk H locs hP hS ls hl)
theorem wm_isub {x y : Int32} (C : Cx p s m args meth c cc own nL D cA A Pl F) (hdg : decode cc pc = .ok (.isub, 1)) (kk : WM p l e R s m args below meth c cells slots Q D cA A Pl F nL M (pc + 1) lv (.int (x - y) :: st)) : WM p l e R s m args below meth c cells slots Q D cA A Pl F nL M pc lv (.int y :: .int x :: st) :=
  fun H locs hP hS ls hl => lv_isub C.1.1 C.1.2.1 hdg (kk H locs hP hS ls hl)
theorem wm_imul {x y : Int32} (C : Cx p s m args meth c cc own nL D cA A Pl F) (hdg : decode cc pc = .ok (.imul, 1)) (kk : WM p l e R s m args below meth c cells slots Q D cA A Pl F nL M (pc + 1) lv (.int (x * y) :: st)) : WM p l e R s m args below meth c cells slots Q D cA A Pl F nL M pc lv (.int y :: .int x :: st) :=
  fun H locs hP hS ls hl => lv_imul C.1.1 C.1.2.1 hdg (kk H locs hP hS ls hl)
theorem wm_iand {x y : Int32} (C : Cx p s m args meth c cc own nL D cA A Pl F) (hdg : decode cc pc = .ok (.iand, 1)) (kk : WM p l e R s m args below meth c cells slots Q D cA A Pl F nL M (pc + 1) lv (.int (x &&& y) :: st)) : WM p l e R s m args below meth c cells slots Q D cA A Pl F nL M pc lv (.int y :: .int x :: st) :=
  fun H locs hP hS ls hl => lv_iand C.1.1 C.1.2.1 hdg (kk H locs hP hS ls hl)
theorem wm_ior {x y : Int32} (C : Cx p s m args meth c cc own nL D cA A Pl F) (hdg : decode cc pc = .ok (.ior, 1)) (kk : WM p l e R s m args below meth c cells slots Q D cA A Pl F nL M (pc + 1) lv (.int (x ||| y) :: st)) : WM p l e R s m args below meth c cells slots Q D cA A Pl F nL M pc lv (.int y :: .int x :: st) :=
  fun H locs hP hS ls hl => lv_ior C.1.1 C.1.2.1 hdg (kk H locs hP hS ls hl)
theorem wm_ladd {x y : Int64} (C : Cx p s m args meth c cc own nL D cA A Pl F) (hdg : decode cc pc = .ok (.ladd, 1)) (kk : WM p l e R s m args below meth c cells slots Q D cA A Pl F nL M (pc + 1) lv (.long (x + y) :: st)) : WM p l e R s m args below meth c cells slots Q D cA A Pl F nL M pc lv (.long y :: .long x :: st) :=
  fun H locs hP hS ls hl => lv_ladd C.1.1 C.1.2.1 hdg (kk H locs hP hS ls hl)
theorem wm_lsub {x y : Int64} (C : Cx p s m args meth c cc own nL D cA A Pl F) (hdg : decode cc pc = .ok (.lsub, 1)) (kk : WM p l e R s m args below meth c cells slots Q D cA A Pl F nL M (pc + 1) lv (.long (x - y) :: st)) : WM p l e R s m args below meth c cells slots Q D cA A Pl F nL M pc lv (.long y :: .long x :: st) :=
  fun H locs hP hS ls hl => lv_lsub C.1.1 C.1.2.1 hdg (kk H locs hP hS ls hl)
theorem wm_lmul {x y : Int64} (C : Cx p s m args meth c cc own nL D cA A Pl F) (hdg : decode cc pc = .ok (.lmul, 1)) (kk : WM p l e R s m args below meth c cells slots Q D cA A Pl F nL M (pc + 1) lv (.long (x * y) :: st)) : WM p l e R s m args below meth c cells slots Q D cA A Pl F nL M pc lv (.long y :: .long x :: st) :=
  fun H locs hP hS ls hl => lv_lmul C.1.1 C.1.2.1 hdg (kk H locs hP hS ls hl)
theorem wm_ishl {x y : Int32} (C : Cx p s m args meth c cc own nL D cA A Pl F) (hdg : decode cc pc = .ok (.ishl, 1)) (kk : WM p l e R s m args below meth c cells slots Q D cA A Pl F nL M (pc + 1) lv (.int (jshl x y) :: st)) : WM p l e R s m args below meth c cells slots Q D cA A Pl F nL M pc lv (.int y :: .int x :: st) :=
  fun H locs hP hS ls hl => lv_ishl C.1.1 C.1.2.1 hdg (kk H locs hP hS ls hl)
theorem wm_iushr {x y : Int32} (C : Cx p s m args meth c cc own nL D cA A Pl F) (hdg : decode cc pc = .ok (.iushr, 1)) (kk : WM p l e R s m args below meth c cells slots Q D cA A Pl F nL M (pc + 1) lv (.int (jushr x y) :: st)) : WM p l e R s m args below meth c cells slots Q D cA A Pl F nL M pc lv (.int y :: .int x :: st) :=
  fun H locs hP hS ls hl => lv_iushr C.1.1 C.1.2.1 hdg rfl (kk H locs hP hS ls hl)
theorem wm_idiv {x y : Int32} (C : Cx p s m args meth c cc own nL D cA A Pl F) (hne : ¬ y = 0) (hdg : decode cc pc = .ok (.idiv, 1)) (kk : WM p l e R s m args below meth c cells slots Q D cA A Pl F nL M (pc + 1) lv (.int (x / y) :: st)) : WM p l e R s m args below meth c cells slots Q D cA A Pl F nL M pc lv (.int y :: .int x :: st) :=
  fun H locs hP hS ls hl => lv_idiv C.1.1 C.1.2.1 hdg hne (kk H locs hP hS ls hl)
theorem wm_irem {x y : Int32} (C : Cx p s m args meth c cc own nL D cA A Pl F) (hne : ¬ y = 0) (hdg : decode cc pc = .ok (.irem, 1)) (kk : WM p l e R s m args below meth c cells slots Q D cA A Pl F nL M (pc + 1) lv (.int (jrem x y) :: st)) : WM p l e R s m args below meth c cells slots Q D cA A Pl F nL M pc lv (.int y :: .int x :: st) :=
  fun H locs hP hS ls hl => lv_irem C.1.1 C.1.2.1 hdg hne (kk H locs hP hS ls hl)
theorem wm_ldiv {x y : Int64} (C : Cx p s m args meth c cc own nL D cA A Pl F) (hne : ¬ y = 0) (hdg : decode cc pc = .ok (.ldiv, 1)) (kk : WM p l e R s m args below meth c cells slots Q D cA A Pl F nL M (pc + 1) lv (.long (x / y) :: st)) : WM p l e R s m args below meth c cells slots Q D cA A Pl F nL M pc lv (.long y :: .long x :: st) :=
  fun H locs hP hS ls hl => lv_ldiv C.1.1 C.1.2.1 hdg hne (kk H locs hP hS ls hl)
theorem wm_lrem {x y : Int64} (C : Cx p s m args meth c cc own nL D cA A Pl F) (hne : ¬ y = 0) (hdg : decode cc pc = .ok (.lrem, 1)) (kk : WM p l e R s m args below meth c cells slots Q D cA A Pl F nL M (pc + 1) lv (.long (jlrem x y) :: st)) : WM p l e R s m args below meth c cells slots Q D cA A Pl F nL M pc lv (.long y :: .long x :: st) :=
  fun H locs hP hS ls hl => lv_lrem C.1.1 C.1.2.1 hdg hne (kk H locs hP hS ls hl)
theorem wm_lcmp {x y : Int64} (C : Cx p s m args meth c cc own nL D cA A Pl F) (hdg : decode cc pc = .ok (.lcmp, 1)) (kk : WM p l e R s m args below meth c cells slots Q D cA A Pl F nL M (pc + 1) lv (.int (lg_cmp x y) :: st)) : WM p l e R s m args below meth c cells slots Q D cA A Pl F nL M pc lv (.long y :: .long x :: st) :=
  fun H locs hP hS ls hl => W.lcmp C.1.1 C.1.2.1 hdg (kk H locs hP hS ls hl)
theorem wm_ineg {x : Int32} (C : Cx p s m args meth c cc own nL D cA A Pl F) (hdg : decode cc pc = .ok (.ineg, 1)) (kk : WM p l e R s m args below meth c cells slots Q D cA A Pl F nL M (pc + 1) lv (.int (-x) :: st)) : WM p l e R s m args below meth c cells slots Q D cA A Pl F nL M pc lv (.int x :: st) :=
  fun H locs hP hS ls hl => lv_ineg C.1.1 C.1.2.1 hdg (kk H locs hP hS ls hl)
theorem wm_i2b {x : Int32} (C : Cx p s m args meth c cc own nL D cA A Pl F) (hdg : decode cc pc = .ok (.i2b, 1)) (kk : WM p l e R s m args below meth c cells slots Q D cA A Pl F nL M (pc + 1) lv (.int x.toInt8.toInt32 :: st)) : WM p l e R s m args below meth c cells slots Q D cA A Pl F nL M pc lv (.int x :: st) :=
  fun H locs hP hS ls hl => lv_i2b C.1.1 C.1.2.1 hdg rfl (kk H locs hP hS ls hl)
theorem wm_i2s {x : Int32} (C : Cx p s m args meth c cc own nL D cA A Pl F) (hdg : decode cc pc = .ok (.i2s, 1)) (kk : WM p l e R s m args below meth c cells slots Q D cA A Pl F nL M (pc + 1) lv (.int x.toInt16.toInt32 :: st)) : WM p l e R s m args below meth c cells slots Q D cA A Pl F nL M pc lv (.int x :: st) :=
  fun H locs hP hS ls hl => lv_i2s C.1.1 C.1.2.1 hdg rfl (kk H locs hP hS ls hl)
theorem wm_i2l {x : Int32} (C : Cx p s m args meth c cc own nL D cA A Pl F) (hdg : decode cc pc = .ok (.i2l, 1)) (kk : WM p l e R s m args below meth c cells slots Q D cA A Pl F nL M (pc + 1) lv (.long x.toInt64 :: st)) : WM p l e R s m args below meth c cells slots Q D cA A Pl F nL M pc lv (.int x :: st) :=
  fun H locs hP hS ls hl => lv_i2l C.1.1 C.1.2.1 hdg rfl (kk H locs hP hS ls hl)
theorem wm_l2i {x : Int64} (C : Cx p s m args meth c cc own nL D cA A Pl F) (hdg : decode cc pc = .ok (.l2i, 1)) (kk : WM p l e R s m args below meth c cells slots Q D cA A Pl F nL M (pc + 1) lv (.int x.toInt32 :: st)) : WM p l e R s m args below meth c cells slots Q D cA A Pl F nL M pc lv (.long x :: st) :=
  fun H locs hP hS ls hl => lv_l2i C.1.1 C.1.2.1 hdg rfl (kk H locs hP hS ls hl)
theorem wm_dup {v : Value} (C : Cx p s m args meth c cc own nL D cA A Pl F) (hdg : decode cc pc = .ok (.dup, 1)) (hv : v.category = 1) (kk : WM p l e R s m args below meth c cells slots Q D cA A Pl F nL M (pc + 1) lv (v :: v :: st)) : WM p l e R s m args below meth c cells slots Q D cA A Pl F nL M pc lv (v :: st) :=
  fun H locs hP hS ls hl => lv_dup C.1.1 C.1.2.1 hdg hv (kk H locs hP hS ls hl)
theorem wm_dup2 {a b : Value} (C : Cx p s m args meth c cc own nL D cA A Pl F) (hdg : decode cc pc = .ok (.dup2, 1)) (ha : a.category = 1) (hb : b.category = 1) (kk : WM p l e R s m args below meth c cells slots Q D cA A Pl F nL M (pc + 1) lv (a :: b :: a :: b :: st)) : WM p l e R s m args below meth c cells slots Q D cA A Pl F nL M pc lv (a :: b :: st) :=
  fun H locs hP hS ls hl => lv_dup2_11 C.1.1 C.1.2.1 hdg ha hb (kk H locs hP hS ls hl)
theorem wm_dup_x1 {a b : Value} (C : Cx p s m args meth c cc own nL D cA A Pl F) (hdg : decode cc pc = .ok (.dup_x1, 1)) (ha : a.category = 1) (hb : b.category = 1) (kk : WM p l e R s m args below meth c cells slots Q D cA A Pl F nL M (pc + 1) lv (a :: b :: a :: st)) : WM p l e R s m args below meth c cells slots Q D cA A Pl F nL M pc lv (a :: b :: st) :=
  fun H locs hP hS ls hl => lv_dup_x1 C.1.1 C.1.2.1 hdg ha hb (kk H locs hP hS ls hl)
theorem wm_pop {v : Value} (C : Cx p s m args meth c cc own nL D cA A Pl F) (hdg : decode cc pc = .ok (.pop, 1)) (hv : v.category = 1) (kk : WM p l e R s m args below meth c cells slots Q D cA A Pl F nL M (pc + 1) lv st) : WM p l e R s m args below meth c cells slots Q D cA A Pl F nL M pc lv (v :: st) :=
  fun H locs hP hS ls hl => lv_pop C.1.1 C.1.2.1 hdg hv (kk H locs hP hS ls hl)
theorem wm_iload_n (k : Nat) {kf : Fin 4} {x : Int32} (C : Cx p s m args meth c cc own nL D cA A Pl F) (hdg : decode cc pc = .ok (.iload_n kf, 1)) (hk : lv[k]? = some ((kf : Nat), .int x)) (kk : WM p l e R s m args below meth c cells slots Q D cA A Pl F nL M (pc + 1) lv (.int x :: st)) : WM p l e R s m args below meth c cells slots Q D cA A Pl F nL M pc lv st :=
  fun H locs hP hS ls hl => lv_iload_n C.1.1 C.1.2.1 hdg rfl (lv_at hl k hk) (kk H locs hP hS ls hl)
theorem wm_iload (k : Nat) {i : Nat} {x : Int32} (C : Cx p s m args meth c cc own nL D cA A Pl F) (hdg : decode cc pc = .ok (.iload i, 2)) (hk : lv[k]? = some (i, .int x)) (kk : WM p l e R s m args below meth c cells slots Q D cA A Pl F nL M (pc + 2) lv (.int x :: st)) : WM p l e R s m args below meth c cells slots Q D cA A Pl F nL M pc lv st :=
  fun H locs hP hS ls hl => lv_iload C.1.1 C.1.2.1 hdg (lv_at hl k hk) (kk H locs hP hS ls hl)
theorem wm_istore_n {lv1 : List (Nat × Value)} {kf : Fin 4} {x : Int32} (C : Cx p s m args meth c cc own nL D cA A Pl F) (hdg : decode cc pc = .ok (.istore_n kf, 1)) (hn : (kf : Nat) < nL) (hv : ((kf : Nat), Value.int x) :: lv.filter (fun q => !(q.1 == (kf : Nat)) && !(q.1 + 1 == (kf : Nat) && q.2.category == 2)) = lv1) (kk : WM p l e R s m args below meth c cells slots Q D cA A Pl F nL M (pc + 1) lv1 st) : WM p l e R s m args below meth c cells slots Q D cA A Pl F nL M pc lv (.int x :: st) :=
  fun H locs hP hS ls hl => lv_istore_n C.1.1 C.1.2.1 hdg rfl hl hn hv (fun ls1 hl1 => kk H locs hP hS ls1 hl1)
theorem wm_istore {lv1 : List (Nat × Value)} {i : Nat} {x : Int32} (C : Cx p s m args meth c cc own nL D cA A Pl F) (hdg : decode cc pc = .ok (.istore i, 2)) (hn : i < nL) (hv : (i, Value.int x) :: lv.filter (fun q => !(q.1 == i) && !(q.1 + 1 == i && q.2.category == 2)) = lv1) (kk : WM p l e R s m args below meth c cells slots Q D cA A Pl F nL M (pc + 2) lv1 st) : WM p l e R s m args below meth c cells slots Q D cA A Pl F nL M pc lv (.int x :: st) :=
  fun H locs hP hS ls hl => lv_istore C.1.1 C.1.2.1 hdg hl hn hv (fun ls1 hl1 => kk H locs hP hS ls1 hl1)
theorem wm_lload_n (k : Nat) {kf : Fin 4} {x : Int64} (C : Cx p s m args meth c cc own nL D cA A Pl F) (hdg : decode cc pc = .ok (.lload_n kf, 1)) (hk : lv[k]? = some ((kf : Nat), .long x)) (kk : WM p l e R s m args below meth c cells slots Q D cA A Pl F nL M (pc + 1) lv (.long x :: st)) : WM p l e R s m args below meth c cells slots Q D cA A Pl F nL M pc lv st :=
  fun H locs hP hS ls hl => lv_lload_n C.1.1 C.1.2.1 hdg rfl (lv_at hl k hk) (kk H locs hP hS ls hl)
theorem wm_lload (k : Nat) {i : Nat} {x : Int64} (C : Cx p s m args meth c cc own nL D cA A Pl F) (hdg : decode cc pc = .ok (.lload i, 2)) (hk : lv[k]? = some (i, .long x)) (kk : WM p l e R s m args below meth c cells slots Q D cA A Pl F nL M (pc + 2) lv (.long x :: st)) : WM p l e R s m args below meth c cells slots Q D cA A Pl F nL M pc lv st :=
  fun H locs hP hS ls hl => lv_lload C.1.1 C.1.2.1 hdg (lv_at hl k hk) (kk H locs hP hS ls hl)
theorem wm_lstore_n {lv1 : List (Nat × Value)} {kf : Fin 4} {x : Int64} (C : Cx p s m args meth c cc own nL D cA A Pl F) (hdg : decode cc pc = .ok (.lstore_n kf, 1)) (hn : (kf : Nat) + 1 < nL) (hv : ((kf : Nat), Value.long x) :: lv.filter (fun q => !(q.1 == (kf : Nat)) && (!(q.1 == (kf : Nat) + 1) && !(q.1 + 1 == (kf : Nat) && q.2.category == 2))) = lv1) (kk : WM p l e R s m args below meth c cells slots Q D cA A Pl F nL M (pc + 1) lv1 st) : WM p l e R s m args below meth c cells slots Q D cA A Pl F nL M pc lv (.long x :: st) :=
  fun H locs hP hS ls hl => lv_lstore_n C.1.1 C.1.2.1 hdg rfl hl hn hv (fun ls1 hl1 => kk H locs hP hS ls1 hl1)
theorem wm_lstore {lv1 : List (Nat × Value)} {i : Nat} {x : Int64} (C : Cx p s m args meth c cc own nL D cA A Pl F) (hdg : decode cc pc = .ok (.lstore i, 2)) (hn : i + 1 < nL) (hv : (i, Value.long x) :: lv.filter (fun q => !(q.1 == i) && (!(q.1 == i + 1) && !(q.1 + 1 == i && q.2.category == 2))) = lv1) (kk : WM p l e R s m args below meth c cells slots Q D cA A Pl F nL M (pc + 2) lv1 st) : WM p l e R s m args below meth c cells slots Q D cA A Pl F nL M pc lv (.long x :: st) :=
  fun H locs hP hS ls hl => lv_lstore C.1.1 C.1.2.1 hdg hl hn hv (fun ls1 hl1 => kk H locs hP hS ls1 hl1)
theorem wm_aload_n (k : Nat) {kf : Fin 4} {x : Nat} (C : Cx p s m args meth c cc own nL D cA A Pl F) (hdg : decode cc pc = .ok (.aload_n kf, 1)) (hk : lv[k]? = some ((kf : Nat), .ref x)) (kk : WM p l e R s m args below meth c cells slots Q D cA A Pl F nL M (pc + 1) lv (.ref x :: st)) : WM p l e R s m args below meth c cells slots Q D cA A Pl F nL M pc lv st :=
  fun H locs hP hS ls hl => lv_aload_n C.1.1 C.1.2.1 hdg rfl (lv_at hl k hk) (kk H locs hP hS ls hl)
theorem wm_aload (k : Nat) {i : Nat} {x : Nat} (C : Cx p s m args meth c cc own nL D cA A Pl F) (hdg : decode cc pc = .ok (.aload i, 2)) (hk : lv[k]? = some (i, .ref x)) (kk : WM p l e R s m args below meth c cells slots Q D cA A Pl F nL M (pc + 2) lv (.ref x :: st)) : WM p l e R s m args below meth c cells slots Q D cA A Pl F nL M pc lv st :=
  fun H locs hP hS ls hl => lv_aload C.1.1 C.1.2.1 hdg (lv_at hl k hk) (kk H locs hP hS ls hl)
theorem wm_astore_n {lv1 : List (Nat × Value)} {kf : Fin 4} {x : Nat} (C : Cx p s m args meth c cc own nL D cA A Pl F) (hdg : decode cc pc = .ok (.astore_n kf, 1)) (hn : (kf : Nat) < nL) (hv : ((kf : Nat), Value.ref x) :: lv.filter (fun q => !(q.1 == (kf : Nat)) && !(q.1 + 1 == (kf : Nat) && q.2.category == 2)) = lv1) (kk : WM p l e R s m args below meth c cells slots Q D cA A Pl F nL M (pc + 1) lv1 st) : WM p l e R s m args below meth c cells slots Q D cA A Pl F nL M pc lv (.ref x :: st) :=
  fun H locs hP hS ls hl => lv_astore_n C.1.1 C.1.2.1 hdg rfl hl hn hv (fun ls1 hl1 => kk H locs hP hS ls1 hl1)
theorem wm_astore {lv1 : List (Nat × Value)} {i : Nat} {x : Nat} (C : Cx p s m args meth c cc own nL D cA A Pl F) (hdg : decode cc pc = .ok (.astore i, 2)) (hn : i < nL) (hv : (i, Value.ref x) :: lv.filter (fun q => !(q.1 == i) && !(q.1 + 1 == i && q.2.category == 2)) = lv1) (kk : WM p l e R s m args below meth c cells slots Q D cA A Pl F nL M (pc + 2) lv1 st) : WM p l e R s m args below meth c cells slots Q D cA A Pl F nL M pc lv (.ref x :: st) :=
  fun H locs hP hS ls hl => lv_astore C.1.1 C.1.2.1 hdg hl hn hv (fun ls1 hl1 => kk H locs hP hS ls1 hl1)
theorem wm_iinc {lv1 : List (Nat × Value)} {i : Nat} {n : Int} {x v : Int32} (k : Nat) (C : Cx p s m args meth c cc own nL D cA A Pl F) (hdg : decode cc pc = .ok (.iinc i n, 3)) (hk : lv[k]? = some (i, .int x)) (hv : x + Int32.ofInt n = v) (hn : i < nL) (hl1 : (i, Value.int v) :: lv.filter (fun q => !(q.1 == i) && !(q.1 + 1 == i && q.2.category == 2)) = lv1) (kk : WM p l e R s m args below meth c cells slots Q D cA A Pl F nL M (pc + 3) lv1 st) : WM p l e R s m args below meth c cells slots Q D cA A Pl F nL M pc lv st :=
  fun H locs hP hS ls hl => lv_iinc C.1.1 C.1.2.1 hdg hl hk hv hn hl1 (fun ls1 hl2 => kk H locs hP hS ls1 hl2)
theorem wm_icmp_eq {x y : Int32} {off : Int} {tgt : Nat} (C : Cx p s m args meth c cc own nL D cA A Pl F) (hdg : decode cc pc = .ok (.if_icmp .eq off, 3)) (ht : (pc : Int) + off = (tgt : Int)) (kt : x = y → WM p l e R s m args below meth c cells slots Q D cA A Pl F nL M tgt lv st) (kf : ¬ x = y → WM p l e R s m args below meth c cells slots Q D cA A Pl F nL M (pc + 3) lv st) : WM p l e R s m args below meth c cells slots Q D cA A Pl F nL M pc lv (.int y :: .int x :: st) :=
  fun H locs hP hS ls hl => lv_icmp_eq C.1.1 C.1.2.1 hdg ht (fun h => kt h H locs hP hS ls hl) (fun h => kf h H locs hP hS ls hl)
theorem wm_if_eq {x : Int32} {off : Int} {tgt : Nat} (C : Cx p s m args meth c cc own nL D cA A Pl F) (hdg : decode cc pc = .ok (.ifCond .eq off, 3)) (ht : (pc : Int) + off = (tgt : Int)) (kt : x = 0 → WM p l e R s m args below meth c cells slots Q D cA A Pl F nL M tgt lv st) (kf : ¬ x = 0 → WM p l e R s m args below meth c cells slots Q D cA A Pl F nL M (pc + 3) lv st) : WM p l e R s m args below meth c cells slots Q D cA A Pl F nL M pc lv (.int x :: st) :=
  fun H locs hP hS ls hl => lv_if_eq C.1.1 C.1.2.1 hdg ht (fun h => kt h H locs hP hS ls hl) (fun h => kf h H locs hP hS ls hl)
theorem wm_icmp_ne {x y : Int32} {off : Int} {tgt : Nat} (C : Cx p s m args meth c cc own nL D cA A Pl F) (hdg : decode cc pc = .ok (.if_icmp .ne off, 3)) (ht : (pc : Int) + off = (tgt : Int)) (kt : ¬ x = y → WM p l e R s m args below meth c cells slots Q D cA A Pl F nL M tgt lv st) (kf : x = y → WM p l e R s m args below meth c cells slots Q D cA A Pl F nL M (pc + 3) lv st) : WM p l e R s m args below meth c cells slots Q D cA A Pl F nL M pc lv (.int y :: .int x :: st) :=
  fun H locs hP hS ls hl => lv_icmp_ne C.1.1 C.1.2.1 hdg ht (fun h => kt h H locs hP hS ls hl) (fun h => kf h H locs hP hS ls hl)
theorem wm_if_ne {x : Int32} {off : Int} {tgt : Nat} (C : Cx p s m args meth c cc own nL D cA A Pl F) (hdg : decode cc pc = .ok (.ifCond .ne off, 3)) (ht : (pc : Int) + off = (tgt : Int)) (kt : ¬ x = 0 → WM p l e R s m args below meth c cells slots Q D cA A Pl F nL M tgt lv st) (kf : x = 0 → WM p l e R s m args below meth c cells slots Q D cA A Pl F nL M (pc + 3) lv st) : WM p l e R s m args below meth c cells slots Q D cA A Pl F nL M pc lv (.int x :: st) :=
  fun H locs hP hS ls hl => lv_if_ne C.1.1 C.1.2.1 hdg ht (fun h => kt h H locs hP hS ls hl) (fun h => kf h H locs hP hS ls hl)
theorem wm_icmp_lt {x y : Int32} {off : Int} {tgt : Nat} (C : Cx p s m args meth c cc own nL D cA A Pl F) (hdg : decode cc pc = .ok (.if_icmp .lt off, 3)) (ht : (pc : Int) + off = (tgt : Int)) (kt : x < y → WM p l e R s m args below meth c cells slots Q D cA A Pl F nL M tgt lv st) (kf : ¬ x < y → WM p l e R s m args below meth c cells slots Q D cA A Pl F nL M (pc + 3) lv st) : WM p l e R s m args below meth c cells slots Q D cA A Pl F nL M pc lv (.int y :: .int x :: st) :=
  fun H locs hP hS ls hl => lv_icmp_lt C.1.1 C.1.2.1 hdg ht (fun h => kt h H locs hP hS ls hl) (fun h => kf h H locs hP hS ls hl)
theorem wm_if_lt {x : Int32} {off : Int} {tgt : Nat} (C : Cx p s m args meth c cc own nL D cA A Pl F) (hdg : decode cc pc = .ok (.ifCond .lt off, 3)) (ht : (pc : Int) + off = (tgt : Int)) (kt : x < 0 → WM p l e R s m args below meth c cells slots Q D cA A Pl F nL M tgt lv st) (kf : ¬ x < 0 → WM p l e R s m args below meth c cells slots Q D cA A Pl F nL M (pc + 3) lv st) : WM p l e R s m args below meth c cells slots Q D cA A Pl F nL M pc lv (.int x :: st) :=
  fun H locs hP hS ls hl => lv_if_lt C.1.1 C.1.2.1 hdg ht (fun h => kt h H locs hP hS ls hl) (fun h => kf h H locs hP hS ls hl)
theorem wm_icmp_ge {x y : Int32} {off : Int} {tgt : Nat} (C : Cx p s m args meth c cc own nL D cA A Pl F) (hdg : decode cc pc = .ok (.if_icmp .ge off, 3)) (ht : (pc : Int) + off = (tgt : Int)) (kt : y ≤ x → WM p l e R s m args below meth c cells slots Q D cA A Pl F nL M tgt lv st) (kf : ¬ y ≤ x → WM p l e R s m args below meth c cells slots Q D cA A Pl F nL M (pc + 3) lv st) : WM p l e R s m args below meth c cells slots Q D cA A Pl F nL M pc lv (.int y :: .int x :: st) :=
  fun H locs hP hS ls hl => lv_icmp_ge C.1.1 C.1.2.1 hdg ht (fun h => kt h H locs hP hS ls hl) (fun h => kf h H locs hP hS ls hl)
theorem wm_if_ge {x : Int32} {off : Int} {tgt : Nat} (C : Cx p s m args meth c cc own nL D cA A Pl F) (hdg : decode cc pc = .ok (.ifCond .ge off, 3)) (ht : (pc : Int) + off = (tgt : Int)) (kt : 0 ≤ x → WM p l e R s m args below meth c cells slots Q D cA A Pl F nL M tgt lv st) (kf : ¬ 0 ≤ x → WM p l e R s m args below meth c cells slots Q D cA A Pl F nL M (pc + 3) lv st) : WM p l e R s m args below meth c cells slots Q D cA A Pl F nL M pc lv (.int x :: st) :=
  fun H locs hP hS ls hl => lv_if_ge C.1.1 C.1.2.1 hdg ht (fun h => kt h H locs hP hS ls hl) (fun h => kf h H locs hP hS ls hl)
theorem wm_icmp_gt {x y : Int32} {off : Int} {tgt : Nat} (C : Cx p s m args meth c cc own nL D cA A Pl F) (hdg : decode cc pc = .ok (.if_icmp .gt off, 3)) (ht : (pc : Int) + off = (tgt : Int)) (kt : y < x → WM p l e R s m args below meth c cells slots Q D cA A Pl F nL M tgt lv st) (kf : ¬ y < x → WM p l e R s m args below meth c cells slots Q D cA A Pl F nL M (pc + 3) lv st) : WM p l e R s m args below meth c cells slots Q D cA A Pl F nL M pc lv (.int y :: .int x :: st) :=
  fun H locs hP hS ls hl => lv_icmp_gt C.1.1 C.1.2.1 hdg ht (fun h => kt h H locs hP hS ls hl) (fun h => kf h H locs hP hS ls hl)
theorem wm_if_gt {x : Int32} {off : Int} {tgt : Nat} (C : Cx p s m args meth c cc own nL D cA A Pl F) (hdg : decode cc pc = .ok (.ifCond .gt off, 3)) (ht : (pc : Int) + off = (tgt : Int)) (kt : 0 < x → WM p l e R s m args below meth c cells slots Q D cA A Pl F nL M tgt lv st) (kf : ¬ 0 < x → WM p l e R s m args below meth c cells slots Q D cA A Pl F nL M (pc + 3) lv st) : WM p l e R s m args below meth c cells slots Q D cA A Pl F nL M pc lv (.int x :: st) :=
  fun H locs hP hS ls hl => lv_if_gt C.1.1 C.1.2.1 hdg ht (fun h => kt h H locs hP hS ls hl) (fun h => kf h H locs hP hS ls hl)
theorem wm_icmp_le {x y : Int32} {off : Int} {tgt : Nat} (C : Cx p s m args meth c cc own nL D cA A Pl F) (hdg : decode cc pc = .ok (.if_icmp .le off, 3)) (ht : (pc : Int) + off = (tgt : Int)) (kt : x ≤ y → WM p l e R s m args below meth c cells slots Q D cA A Pl F nL M tgt lv st) (kf : ¬ x ≤ y → WM p l e R s m args below meth c cells slots Q D cA A Pl F nL M (pc + 3) lv st) : WM p l e R s m args below meth c cells slots Q D cA A Pl F nL M pc lv (.int y :: .int x :: st) :=
  fun H locs hP hS ls hl => lv_icmp_le C.1.1 C.1.2.1 hdg ht (fun h => kt h H locs hP hS ls hl) (fun h => kf h H locs hP hS ls hl)
theorem wm_if_le {x : Int32} {off : Int} {tgt : Nat} (C : Cx p s m args meth c cc own nL D cA A Pl F) (hdg : decode cc pc = .ok (.ifCond .le off, 3)) (ht : (pc : Int) + off = (tgt : Int)) (kt : x ≤ 0 → WM p l e R s m args below meth c cells slots Q D cA A Pl F nL M tgt lv st) (kf : ¬ x ≤ 0 → WM p l e R s m args below meth c cells slots Q D cA A Pl F nL M (pc + 3) lv st) : WM p l e R s m args below meth c cells slots Q D cA A Pl F nL M pc lv (.int x :: st) :=
  fun H locs hP hS ls hl => lv_if_le C.1.1 C.1.2.1 hdg ht (fun h => kt h H locs hP hS ls hl) (fun h => kf h H locs hP hS ls hl)
theorem wm_goto {off : Int} {tgt : Nat} (C : Cx p s m args meth c cc own nL D cA A Pl F) (hdg : decode cc pc = .ok (.goto off, 3)) (ht : (pc : Int) + off = (tgt : Int)) (kk : WM p l e R s m args below meth c cells slots Q D cA A Pl F nL M tgt lv st) : WM p l e R s m args below meth c cells slots Q D cA A Pl F nL M pc lv st :=
  fun H locs hP hS ls hl => lv_goto C.1.1 C.1.2.1 hdg ht (kk H locs hP hS ls hl)
theorem wm_tswI {dflt lo hi : Int} {offs : Array Int} {len : Nat} {x k : Int32} {off : Int} {tgt : Nat} (C : Cx p s m args meth c cc own nL D cA A Pl F) (hdg : decode cc pc = .ok (.tableswitch dflt lo hi offs, len)) (hx : x = k) (h1 : ¬ k.toInt < lo) (h2 : ¬ hi < k.toInt) (ho : offs[(k.toInt - lo).toNat]? = some off) (ht : (pc : Int) + off = (tgt : Int)) (kk : WM p l e R s m args below meth c cells slots Q D cA A Pl F nL M tgt lv st) : WM p l e R s m args below meth c cells slots Q D cA A Pl F nL M pc lv (.int x :: st) := by
  subst hx
  exact fun H locs hP hS ls hl => lv_tableIn C.1.1 C.1.2.1 hdg h1 h2 ho ht (kk H locs hP hS ls hl)
theorem wm_tswO {dflt lo hi : Int} {offs : Array Int} {len : Nat} {x : Int32} {tgt : Nat} (C : Cx p s m args meth c cc own nL D cA A Pl F) (hdg : decode cc pc = .ok (.tableswitch dflt lo hi offs, len)) (h : x.toInt < lo ∨ hi < x.toInt) (ht : (pc : Int) + dflt = (tgt : Int)) (kk : WM p l e R s m args below meth c cells slots Q D cA A Pl F nL M tgt lv st) : WM p l e R s m args below meth c cells slots Q D cA A Pl F nL M pc lv (.int x :: st) :=
  fun H locs hP hS ls hl => lv_tableOut C.1.1 C.1.2.1 hdg h ht (kk H locs hP hS ls hl)
theorem wm_ldc {idx : Nat} {v : Int32} (C : Cx p s m args meth c cc own nL D cA A Pl F) (hw : Cond.constant own idx v ∈ WT) (hdg : decode cc pc = .ok (.ldc idx, 2)) (kk : WM p l e R s m args below meth c cells slots Q D cA A Pl F nL M (pc + 2) lv (.int v :: st)) : WM p l e R s m args below meth c cells slots Q D cA A Pl F nL M pc lv st :=
  fun H locs hP hS ls hl => lv_ldc C.1.1 C.1.2.1 C.1.2.2.2 (C.2.1 _ hw) hdg (kk H locs hP hS ls hl)
theorem wm_ldc_w {idx : Nat} {v : Int32} (C : Cx p s m args meth c cc own nL D cA A Pl F) (hw : Cond.constant own idx v ∈ WT) (hdg : decode cc pc = .ok (.ldc_w idx, 3)) (kk : WM p l e R s m args below meth c cells slots Q D cA A Pl F nL M (pc + 3) lv (.int v :: st)) : WM p l e R s m args below meth c cells slots Q D cA A Pl F nL M pc lv st :=
  fun H locs hP hS ls hl => lv_ldcw C.1.1 C.1.2.1 C.1.2.2.2 (C.2.1 _ hw) hdg (kk H locs hP hS ls hl)
theorem wm_ldc2 {idx : Nat} {v : Int64} (C : Cx p s m args meth c cc own nL D cA A Pl F) (hw : Cond.constantLong own idx v ∈ WT) (hdg : decode cc pc = .ok (.ldc2_w idx, 3)) (kk : WM p l e R s m args below meth c cells slots Q D cA A Pl F nL M (pc + 3) lv (.long v :: st)) : WM p l e R s m args below meth c cells slots Q D cA A Pl F nL M pc lv st :=
  fun H locs hP hS ls hl => lv_ldc2 C.1.1 C.1.2.1 C.1.2.2.2 (C.2.1 _ hw) hdg (kk H locs hP hS ls hl)
theorem wm_ldcs {q idx : Nat} {tx : String} (C : Cx p s m args meth c cc own nL D cA A Pl F) (hx : sIdx[q - 1000]? = some (own, idx, tx) ∧ 1000 ≤ q) (hdg : decode cc pc = .ok (.ldc idx, 2)) (kk : WM p l e R s m args below meth c cells slots Q D cA A Pl F nL M (pc + 2) lv (.ref (A q) :: st)) : WM p l e R s m args below meth c cells slots Q D cA A Pl F nL M pc lv st := by
  intro H locs hP hS ls hl
  have hr := C.2.2.2.2.2.2.2.2.1 (q - 1000) _ hx.1
  have e : 1000 + (q - 1000) = q := by omega
  rw [e] at hr
  exact va_ldcS C.1.1 C.1.2.1 C.1.2.2.2 hr hdg (kk H locs hP hS ls hl)
theorem wm_get {ci k idx q N : Nat} {CN : String} {T : u_T} {v : Value} (C : Cx p s m args meth c cc own nL D cA A Pl F) (hp : q ∈ Pl) (hci : kd q = ci) (hcl : vwCl[ci]? = some (CN, T, N)) (hk : k < N) (hw : Cond.fieldLink own idx (T k).1 (T k).2.1 (T k).2.2.1 ∈ WT) (hu : ∀ w ∈ u_ws CN T N, w ∈ WT) (hv : (fld ci q A (M q))[k]? = some v) (hdg : decode cc pc = .ok (.getfield idx, 3)) (kk : WM p l e R s m args below meth c cells slots Q D cA A Pl F nL M (pc + 3) lv (v :: st)) : WM p l e R s m args below meth c cells slots Q D cA A Pl F nL M pc lv (.ref (A q) :: st) := by
  intro H locs hP hS ls hl
  obtain ⟨i, -, hi⟩ := enc_get (cA := cA) (A := A) (M := M) hp
  have hc9 : ci < 9 := (List.getElem?_eq_some_iff.mp hcl).1
  rw [mc_obj hci hc9] at hi
  exact va_get (D := D) (ref := (T k).1) C.1.1 C.1.2.1 C.2.1 hu C.1.2.2.2 C.2.2.2.1 hP i hi hcl k hk (C.2.1 _ hw) (fun _ h => h) hv hdg (kk H locs hP hS ls hl)
theorem wm_put {ci k idx q N : Nat} {CN : String} {T : u_T} {ty0 : Nat → FieldType} {ty : FieldType} {v : Value} {x : Int32} (C : Cx p s m args meth c cc own nL D cA A Pl F) (hp : q ∈ Pl) (hci : kd q = ci) (hcl : vwCl[ci]? = some (CN, T, N)) (hk : k < N) (hw : Cond.fieldLink own idx (T k).1 (T k).2.1 (T k).2.2.1 ∈ WT) (hu : ∀ w ∈ u_ws CN T N, w ∈ WT) (hty : ∀ k, k < N → parseFieldDescriptor (T k).2.2.1 = some (ty0 k)) (hnm : ∀ a, a < N → ∀ b, b < N → a ≠ b → (T a).2.1 ≠ (T b).2.1) (hfin : (T k).2.2.2 = false) (hd : ty0 k = ty) (hn : narrow ty v = v) (hfit : fits ty v = true) (hset : ∀ f : Nat → Int32, (fld ci q A f).set k v = fld ci q A (upd f k x)) (hlen : k < (fld ci q A (M q)).length) (hdg : decode cc pc = .ok (.putfield idx, 3)) (kk : WM p l e R s m args below meth c cells slots Q D cA A Pl F nL (mu M q k x) (pc + 3) lv st) : WM p l e R s m args below meth c cells slots Q D cA A Pl F nL M pc lv (v :: .ref (A q) :: st) := by
  intro H locs hP hS ls hl
  obtain ⟨i, hi0, hi⟩ := enc_get (cA := cA) (A := A) (M := M) hp
  have hc9 : ci < 9 := (List.getElem?_eq_some_iff.mp hcl).1
  rw [mc_obj hci hc9] at hi
  refine va_put (D := D) (ref := (T k).1) C.1.1 C.1.2.1 C.2.1 hu ty0 hty hnm C.1.2.2.2 C.2.2.2.1 hP (enc_D C.2.2.2.2.1) hS i hi hcl k hk (C.2.1 _ hw) (fun _ h => h) hfin (by rw [hty k hk, hd]) hn hfit hlen hdg (fun H1 locs1 hP1 hD1 hS1 => ?_)
  rw [enc_set (M1 := mu M q k x) C.2.2.2.2.1 hi0 (fun r hr => mu_ne hr) (by rw [mu_same, mc_obj hci hc9, hset])] at hP1
  exact kk H1 locs1 hP1 hS1 ls hl
theorem wm_lswap {x : Int32} {v w : Int64} (h : x.toInt64 = v) (kk : WM p l e R s m args below meth c cells slots Q D cA A Pl F nL M pc lv (.long x.toInt64 :: st)) : WM p l e R s m args below meth c cells slots Q D cA A Pl F nL M pc lv (.long v :: st) := by
  subst h
  exact kk
theorem wm_rswap {x : Int32} {n : Nat} (h : x.toNatClampNeg = n) (kk : WM p l e R s m args below meth c cells slots Q D cA A Pl F nL M pc lv (.ref (A x.toNatClampNeg) :: st)) : WM p l e R s m args below meth c cells slots Q D cA A Pl F nL M pc lv (.ref (A n) :: st) := by
  subst h
  exact kk
theorem wm_iald {n j q K : Nat} {i v : Int32} (C : Cx p s m args meth c cc own nL D cA A Pl F) (hp : q ∈ Pl) (hkd : kd q = K) (hK : isI K = true) (hln : ln q = n) (hin : inb i n = true) (hj : i.toNatClampNeg = j) (hv : M q j = v) (hdg : decode cc pc = .ok (.iaload, 1)) (kk : WM p l e R s m args below meth c cells slots Q D cA A Pl F nL M (pc + 1) lv (.int v :: st)) : WM p l e R s m args below meth c cells slots Q D cA A Pl F nL M pc lv (.int i :: .ref (A q) :: st) := by
  intro H locs hP hS ls hl
  obtain ⟨x, -, hx⟩ := enc_get (cA := cA) (A := A) (M := M) hp
  rw [mc_int hkd hK, hln] at hx
  subst hj hv
  exact va_iald (D := D) C.1.1 C.1.2.1 C.2.2.2.1 hP x 0 hx rfl (inb_vp hin) hdg (kk H locs hP hS ls hl)
theorem wm_iast {n j q K : Nat} {i x : Int32} (C : Cx p s m args meth c cc own nL D cA A Pl F) (hp : q ∈ Pl) (hkd : kd q = K) (hK : isI K = true) (hln : ln q = n) (hin : inb i n = true) (hj : i.toNatClampNeg = j) (hdg : decode cc pc = .ok (.iastore, 1)) (kk : WM p l e R s m args below meth c cells slots Q D cA A Pl F nL (mu M q j x) (pc + 1) lv st) : WM p l e R s m args below meth c cells slots Q D cA A Pl F nL M pc lv (.int x :: .int i :: .ref (A q) :: st) := by
  intro H locs hP hS ls hl
  obtain ⟨z, hz0, hz1⟩ := enc_get (cA := cA) (A := A) (M := M) hp
  rw [mc_int hkd hK, hln] at hz1
  subst hj
  refine va_iast (D := D) C.1.1 C.1.2.1 C.2.2.2.1 hP (enc_D C.2.2.2.2.1) hS z 0 hz1 rfl (inb_vp hin) hdg (fun H1 locs1 hP1 hD1 hS1 => ?_)
  have hP1 := hP1
  rw [enc_set (M1 := mu M q i.toNatClampNeg x) C.2.2.2.2.1 hz0 (fun r hr => mu_ne hr) (by rw [mu_same, mc_int hkd hK, hln])] at hP1
  exact kk H1 locs1 hP1 hS1 ls hl
theorem wm_zald {n j q K : Nat} {i v : Int32} (C : Cx p s m args meth c cc own nL D cA A Pl F) (hp : q ∈ Pl) (hkd : kd q = K) (hK : isZ K = true) (hln : ln q = n) (hin : inb i n = true) (hj : i.toNatClampNeg = j) (hv : M q j = v) (hdg : decode cc pc = .ok (.baload, 1)) (kk : WM p l e R s m args below meth c cells slots Q D cA A Pl F nL M (pc + 1) lv (.int v :: st)) : WM p l e R s m args below meth c cells slots Q D cA A Pl F nL M pc lv (.int i :: .ref (A q) :: st) := by
  intro H locs hP hS ls hl
  obtain ⟨x, -, hx⟩ := enc_get (cA := cA) (A := A) (M := M) hp
  rw [mc_bool hkd hK, hln] at hx
  subst hj hv
  exact va_zald (D := D) C.1.1 C.1.2.1 C.2.2.2.1 hP x 1 hx rfl (inb_vp hin) hdg (kk H locs hP hS ls hl)
theorem wm_zast {n j q K : Nat} {i x : Int32} (C : Cx p s m args meth c cc own nL D cA A Pl F) (hp : q ∈ Pl) (hkd : kd q = K) (hK : isZ K = true) (hln : ln q = n) (hin : inb i n = true) (hj : i.toNatClampNeg = j) (hz : zb x = true) (hdg : decode cc pc = .ok (.bastore, 1)) (kk : WM p l e R s m args below meth c cells slots Q D cA A Pl F nL (mu M q j x) (pc + 1) lv st) : WM p l e R s m args below meth c cells slots Q D cA A Pl F nL M pc lv (.int x :: .int i :: .ref (A q) :: st) := by
  intro H locs hP hS ls hl
  obtain ⟨z, hz0, hz1⟩ := enc_get (cA := cA) (A := A) (M := M) hp
  rw [mc_bool hkd hK, hln] at hz1
  subst hj
  refine va_zast (D := D) C.1.1 C.1.2.1 C.2.2.2.1 hP (enc_D C.2.2.2.2.1) hS z 1 hz1 rfl (inb_vp hin) hdg (fun H1 locs1 hP1 hD1 hS1 => ?_)
  have hP1 := by rw [zb_p hz] at hP1; exact hP1
  rw [enc_set (M1 := mu M q i.toNatClampNeg x) C.2.2.2.2.1 hz0 (fun r hr => mu_ne hr) (by rw [mu_same, mc_bool hkd hK, hln])] at hP1
  exact kk H1 locs1 hP1 hS1 ls hl
theorem wm_aald15 {j : Nat} {i : Int32} (C : Cx p s m args meth c cc own nL D cA A Pl F) (hp : 15 ∈ Pl) (hin : inb i 6 = true) (hj : i.toNatClampNeg = j) (hdg : decode cc pc = .ok (.aaload, 1)) (kk : WM p l e R s m args below meth c cells slots Q D cA A Pl F nL M (pc + 1) lv (.ref (A (16 + 3 * j)) :: st)) : WM p l e R s m args below meth c cells slots Q D cA A Pl F nL M pc lv (.int i :: .ref (A 15) :: st) := by
  intro H locs hP hS ls hl
  obtain ⟨x, -, hx⟩ := enc_get (cA := cA) (A := A) (M := M) hp
  subst hj
  refine va_aldq (D := D) C.1.1 C.1.2.1 C.2.2.2.1 hP x 2 hx rfl (inb_vp hin) hdg ?_
  exact kk H locs hP hS ls hl
theorem wm_aald54 {j : Nat} {i : Int32} (C : Cx p s m args meth c cc own nL D cA A Pl F) (hp : 54 ∈ Pl) (hin : inb i 4 = true) (hj : i.toNatClampNeg = j) (hdg : decode cc pc = .ok (.aaload, 1)) (kk : WM p l e R s m args below meth c cells slots Q D cA A Pl F nL M (pc + 1) lv (.ref (A (55 + 2 * j)) :: st)) : WM p l e R s m args below meth c cells slots Q D cA A Pl F nL M pc lv (.int i :: .ref (A 54) :: st) := by
  intro H locs hP hS ls hl
  obtain ⟨x, -, hx⟩ := enc_get (cA := cA) (A := A) (M := M) hp
  subst hj
  refine va_aldq (D := D) C.1.1 C.1.2.1 C.2.2.2.1 hP x 3 hx rfl (inb_vp hin) hdg ?_
  exact kk H locs hP hS ls hl
theorem wm_alen {q K : Nat} {v : Int32} (C : Cx p s m args meth c cc own nL D cA A Pl F) (hp : q ∈ Pl) (hkd : kd q = K) (hK : isI K = true) (hv : Int32.ofNat (ln q) = v) (hdg : decode cc pc = .ok (.arraylength, 1)) (kk : WM p l e R s m args below meth c cells slots Q D cA A Pl F nL M (pc + 1) lv (.int v :: st)) : WM p l e R s m args below meth c cells slots Q D cA A Pl F nL M pc lv (.ref (A q) :: st) := by
  intro H locs hP hS ls hl
  obtain ⟨x, -, hx⟩ := enc_get (cA := cA) (A := A) (M := M) hp
  rw [mc_int hkd hK] at hx
  exact va_alen (D := D) C.1.1 C.1.2.1 C.2.2.2.1 hP x 0 hx rfl hv hdg (kk H locs hP hS ls hl)
theorem wm_alen15 (C : Cx p s m args meth c cc own nL D cA A Pl F) (hp : 15 ∈ Pl) (hdg : decode cc pc = .ok (.arraylength, 1)) (kk : WM p l e R s m args below meth c cells slots Q D cA A Pl F nL M (pc + 1) lv (.int 6 :: st)) : WM p l e R s m args below meth c cells slots Q D cA A Pl F nL M pc lv (.ref (A 15) :: st) := by
  intro H locs hP hS ls hl
  obtain ⟨x, -, hx⟩ := enc_get (cA := cA) (A := A) (M := M) hp
  exact va_alen (D := D) C.1.1 C.1.2.1 C.2.2.2.1 hP x 2 hx rfl rfl hdg (kk H locs hP hS ls hl)
theorem wm_gets2000 {idx : Nat} (C : Cx p s m args meth c cc own nL D cA A Pl F) (hw : Cond.fieldLink own idx RX8 "POWERS" "[I" ∈ WT) (hdg : decode cc pc = .ok (.getstatic idx, 3)) (kk : WM p l e R s m args below meth c cells slots Q D cA A Pl F nL M (pc + 3) lv (.ref (A 2000) :: st)) : WM p l e R s m args below meth c cells slots Q D cA A Pl F nL M pc lv st := by
  intro H locs hP hS ls hl
  have hS2 : va_S F s.heap H locs := hS
  exact va_gets (C := RX8) C.1.1 C.1.2.1 C.2.2.2.2.2.1.1 hS2 C.1.2.2.2 (C.2.1 _ hw) (fun _ h => h) hdg (kk H locs hP hS ls hl)
theorem wm_getsNX1_40 (C : Cx p s m args meth c cc own nL D cA A Pl F) (ho : own = RX1) (hdg : decode cc pc = .ok (.getstatic 40, 3)) (kk : WM p l e R s m args below meth c cells slots Q D cA A Pl F nL M (pc + 3) lv (.ref (A 2000) :: st)) : WM p l e R s m args below meth c cells slots Q D cA A Pl F nL M pc lv st := by
  subst ho
  exact fun H locs hP hS ls hl => va_getsN (C := RX8) C.1.1 C.1.2.1 C.2.2.2.2.2.1.1 hS C.1.2.2.2 (va_Nw.use rfl C.2.2.2.2.2.2.2.2.2.1) (fun _ h => h) hdg (kk H locs hP hS ls hl)
theorem wm_getsNX2_18 (C : Cx p s m args meth c cc own nL D cA A Pl F) (ho : own = RX2) (hdg : decode cc pc = .ok (.getstatic 18, 3)) (kk : WM p l e R s m args below meth c cells slots Q D cA A Pl F nL M (pc + 3) lv (.ref (A 2001) :: st)) : WM p l e R s m args below meth c cells slots Q D cA A Pl F nL M pc lv st := by
  subst ho
  exact fun H locs hP hS ls hl => va_getsN (C := RX8) C.1.1 C.1.2.1 C.2.2.2.2.2.2.1.1 hS C.1.2.2.2 (va_Nw.use rfl C.2.2.2.2.2.2.2.2.2.2.1) (fun _ h => h) hdg (kk H locs hP hS ls hl)
theorem wm_tld2000 {i v : Int32} (C : Cx p s m args meth c cc own nL D cA A Pl F) (hin : inb i 6 = true) (hv : stv 2000 i.toNatClampNeg = v) (hdg : decode cc pc = .ok (.iaload, 1)) (kk : WM p l e R s m args below meth c cells slots Q D cA A Pl F nL M (pc + 1) lv (.int v :: st)) : WM p l e R s m args below meth c cells slots Q D cA A Pl F nL M pc lv (.int i :: .ref (A 2000) :: st) := by
  subst hv
  exact fun H locs hP hS ls hl => va_ti C.1.1 C.1.2.1 C.2.2.2.2.2.1.2 hS (inb_vp hin) rfl hdg (kk H locs hP hS ls hl)
theorem wm_tlen2000 (C : Cx p s m args meth c cc own nL D cA A Pl F) (hdg : decode cc pc = .ok (.arraylength, 1)) (kk : WM p l e R s m args below meth c cells slots Q D cA A Pl F nL M (pc + 1) lv (.int 6 :: st)) : WM p l e R s m args below meth c cells slots Q D cA A Pl F nL M pc lv (.ref (A 2000) :: st) :=
  fun H locs hP hS ls hl => va_tlen C.1.1 C.1.2.1 C.2.2.2.2.2.1.2 hS rfl hdg (kk H locs hP hS ls hl)
theorem wm_tld2001 {i v : Int32} (C : Cx p s m args meth c cc own nL D cA A Pl F) (hin : inb i 6 = true) (hv : stv 2001 i.toNatClampNeg = v) (hdg : decode cc pc = .ok (.iaload, 1)) (kk : WM p l e R s m args below meth c cells slots Q D cA A Pl F nL M (pc + 1) lv (.int v :: st)) : WM p l e R s m args below meth c cells slots Q D cA A Pl F nL M pc lv (.int i :: .ref (A 2001) :: st) := by
  subst hv
  exact fun H locs hP hS ls hl => va_ti C.1.1 C.1.2.1 C.2.2.2.2.2.2.1.2 hS (inb_vp hin) rfl hdg (kk H locs hP hS ls hl)
theorem wm_tlen2001 (C : Cx p s m args meth c cc own nL D cA A Pl F) (hdg : decode cc pc = .ok (.arraylength, 1)) (kk : WM p l e R s m args below meth c cells slots Q D cA A Pl F nL M (pc + 1) lv (.int 6 :: st)) : WM p l e R s m args below meth c cells slots Q D cA A Pl F nL M pc lv (.ref (A 2001) :: st) :=
  fun H locs hP hS ls hl => va_tlen C.1.1 C.1.2.1 C.2.2.2.2.2.2.1.2 hS rfl hdg (kk H locs hP hS ls hl)
theorem wm_aald46 {j : Nat} {i : Int32} (C : Cx p s m args meth c cc own nL D cA A Pl F) (hp : 46 ∈ Pl) (hin : inb i 7 = true) (hj : i.toNatClampNeg = j) (hdg : decode cc pc = .ok (.aaload, 1)) (kk : WM p l e R s m args below meth c cells slots Q D cA A Pl F nL M (pc + 1) lv (.ref (A (47 + j)) :: st)) : WM p l e R s m args below meth c cells slots Q D cA A Pl F nL M pc lv (.int i :: .ref (A 46) :: st) := by
  intro H locs hP hS ls hl
  obtain ⟨x, -, hx⟩ := enc_get (cA := cA) (A := A) (M := M) hp
  subst hj
  have hlt : i.toNatClampNeg < 7 := Nat.not_le.mp fun q => inb_vp hin (Or.inr q)
  have ha : (enc cA A M Pl)[x]? = some (A 46, .inl (cA 4, 7, .inr (.inr (.inr (.inr (fun i => some (A (47 + i)))))))) := hx
  exact W.aald (v := .ref (A (47 + i.toNatClampNeg))) (ty := .array .int) C.1.1 C.1.2.1 (hP x _ ha) ((C.2.2.2.1.2 4 _ rfl).1 7 (fun j => va_rf (some (A (47 + j))))) rfl (fun q => by cases q) (by show ¬ (i < 0 ∨ (arrV _ _ _).slots.size ≤ _); rw [arrV_size]; exact inb_vp hin) (by show (arrV _ _ _).slots[_]? = _; rw [arrV_read _ _ hlt]; rfl) rfl rfl hdg (kk H locs hP hS ls hl)
theorem wt_Mmax_s : Cond.static Lib.Math.max.name ∈ WT := wtm 610 (by decide +kernel)
theorem wt_Mmax_c : Cond.code Lib.Math.max.name Lib.Math.max.code 2 (some .int) ∈ WT := wtm 611 (by decide +kernel)
theorem wt_Mmin_s : Cond.static Lib.Math.min.name ∈ WT := wtm 631 (by decide +kernel)
theorem wt_Mmin_c : Cond.code Lib.Math.min.name Lib.Math.min.code 2 (some .int) ∈ WT := wtm 632 (by decide +kernel)
theorem wt_M_i : Cond.initialized "java/lang/Math" ∈ WT := wtm 82 (by decide +kernel)
theorem wt_S_i : Cond.initialized "java/lang/System" ∈ WT := wtm 84 (by decide +kernel)
theorem wt_S_n : Cond.native arraycopyName ∈ WT := wtm 698 (by decide +kernel)
theorem wt_S_s : Cond.static arraycopyName ∈ WT := wtm 697 (by decide +kernel)
theorem wm_max {h1 idx : Nat} {x y : Int32} (C : Cx p s m args meth c cc own nL D cA A Pl F) (hw : Cond.methodLink own idx Lib.Math.max.name ∈ WT) (hcat : (st.map fun v => v.category).sum ≤ 8) (hh : 1 ≤ h1) (hdg : decode cc pc = .ok (.invokestatic idx, 3)) (kk : WM p l e (RM h1) s m args below meth c 0 0 Q D cA A Pl F nL M (pc + 3) lv (.int (jmax x y) :: st)) : WM p l e (RM h1) s m args below meth c 0 0 Q D cA A Pl F nL M pc lv (.int y :: .int x :: st) :=
  fun H locs hP hS ls hl => va_mmax C.1.1 C.1.2.1 (C.1.2.2.1.trans hl.1.symm) C.1.2.2.2 (C.2.1 _ hw) (C.2.1 _ wt_Mmax_s) (C.2.1 _ wt_M_i) (C.2.1 _ wt_Mmax_c) hh (by show _ ≤ 64 * h1; omega) (Nat.le_refl _) (Nat.le_refl _) hdg (kk H locs hP hS ls hl)
theorem wm_min {h1 idx : Nat} {x y : Int32} (C : Cx p s m args meth c cc own nL D cA A Pl F) (hw : Cond.methodLink own idx Lib.Math.min.name ∈ WT) (hcat : (st.map fun v => v.category).sum ≤ 8) (hh : 1 ≤ h1) (hdg : decode cc pc = .ok (.invokestatic idx, 3)) (kk : WM p l e (RM h1) s m args below meth c 0 0 Q D cA A Pl F nL M (pc + 3) lv (.int (jmin x y) :: st)) : WM p l e (RM h1) s m args below meth c 0 0 Q D cA A Pl F nL M pc lv (.int y :: .int x :: st) :=
  fun H locs hP hS ls hl => va_mmin C.1.1 C.1.2.1 (C.1.2.2.1.trans hl.1.symm) C.1.2.2.2 (C.2.1 _ hw) (C.2.1 _ wt_Mmin_s) (C.2.1 _ wt_M_i) (C.2.1 _ wt_Mmin_c) hh (by show _ ≤ 64 * h1; omega) (Nat.le_refl _) (Nat.le_refl _) hdg (kk H locs hP hS ls hl)
theorem cpk_of {i : Int32} {na : Nat} {j : Int32} {nb : Nat} {n : Int32} (h : cpk i na j nb n = true) : ¬ i < 0 ∧ ¬ j < 0 ∧ ¬ n < 0 ∧ i.toNatClampNeg + n.toNatClampNeg ≤ na ∧ j.toNatClampNeg + n.toNatClampNeg ≤ nb := by
  unfold cpk at h
  simp only [Bool.and_eq_true, decide_eq_true_eq] at h
  exact ⟨h.1.1.1.1, h.1.1.1.2, h.1.1.2, h.1.2, h.2⟩
theorem mcp_ne {M : Mem} {a i b j n q : Nat} (h : q ≠ b) : mcp M a i b j n q = M q := if_neg h
theorem mcp_same {M : Mem} {a i b j n : Nat} : mcp M a i b j n b = va_cpy (M a) (M b) i j n := if_pos rfl
theorem nfw : nativeFrameWords "java/lang/System" "arraycopy" 5 ≤ 40 := by decide +kernel
theorem wm_copy {h1 idx qa qb Ka Kb na nb ja jb jn : Nat} {i j n : Int32} (C : Cx p s m args meth c cc own nL D cA A Pl F) (hw : Cond.methodLink own idx arraycopyName ∈ WT) (hpa : qa ∈ Pl) (hka : kd qa = Ka) (hKa : isI Ka = true) (hla : ln qa = na) (hpb : qb ∈ Pl) (hkb : kd qb = Kb) (hKb : isI Kb = true) (hlb : ln qb = nb) (hh : cpk i na j nb n = true) (hja : i.toNatClampNeg = ja) (hjb : j.toNatClampNeg = jb) (hjn : n.toNatClampNeg = jn) (hcat : (st.map fun v => v.category).sum ≤ 8) (h1p : 1 ≤ h1) (hdg : decode cc pc = .ok (.invokestatic idx, 3)) (kk : WM p l e (RM h1) s m args below meth c 0 0 Q D cA A Pl F nL (mcp M qa ja qb jb jn) (pc + 3) lv st) : WM p l e (RM h1) s m args below meth c 0 0 Q D cA A Pl F nL M pc lv (.int n :: .int j :: .ref (A qb) :: .int i :: .ref (A qa) :: st) := by
  intro H locs hP hS ls hl
  obtain ⟨x, hx0, hx⟩ := enc_get (cA := cA) (A := A) (M := M) hpa
  obtain ⟨y, hy0, hy⟩ := enc_get (cA := cA) (A := A) (M := M) hpb
  rw [mc_int hka hKa, hla] at hx
  rw [mc_int hkb hKb, hlb] at hy
  subst hja hjb hjn
  obtain ⟨c1, c2, c3, c4, c5⟩ := cpk_of hh
  have hn := nfw
  refine va_copyi (D := D) C.1.1 C.1.2.1 (C.1.2.2.1.trans hl.1.symm) C.1.2.2.2 (C.2.1 _ hw) (C.2.1 _ wt_S_n) (C.2.1 _ wt_S_s) (C.2.1 _ wt_S_i) C.2.2.2.1 hP (enc_D C.2.2.2.2.1) hS x y 0 0 hx hy rfl rfl rfl c1 c2 c3 c4 c5 (fun _ _ => rfl) h1p (by show _ ≤ 64 * h1; omega) hdg (fun H1 locs1 hP1 hD1 hS1 => ?_)
  rw [enc_set (M1 := mcp M qa i.toNatClampNeg qb j.toNatClampNeg n.toNatClampNeg) C.2.2.2.2.1 hy0 (fun r hr => mcp_ne hr) (by rw [mcp_same, mc_int hkb hKb, hlb])] at hP1
  exact kk H1 locs1 hP1 hS1 ls hl
end ML
def Pre (D : va_G) (cA : Nat → ClassId) (A : Nat → Nat) (Pl : List Nat) (M : Mem) (U : State) : Prop := va_P D vwCl (enc cA A M Pl) U.heap ∧ va_K D vwCl (tyL cA) U ∧ DD (FA A Pl) A Pl ∧ SO (FA A Pl) A U U.heap
theorem pre_blind {D : va_G} {cA : Nat → ClassId} {A : Nat → Nat} {Pl : List Nat} {M : Mem} {avs : List Value} : FrameBlind (va_Pc avs (Pre D cA A Pl M)) := fun a U g mk q =>
  ⟨q.1, q.2.1, va_K.moved (u := U) (U := U.calling g mk a) (Vm.Alike.refl U.vm) q.2.2.1, q.2.2.2.1, SO.same (u := U) (U := U.calling g mk a) rfl q.2.2.2.2⟩
/-- what the tables say of a method: an instance's, a static one -/
def MIV (y : MethodName) (cb : ByteArray) (nM : Nat) (rt : Option FieldType) (n : Nat) : Prop := Cond.code y cb nM rt ∈ WT ∧ Cond.instanceMethod y ∈ WT ∧ Cond.selects y.cls y y ∈ WT ∧ Cond.initialized y.cls ∈ WT ∧ (y.cls ≠ "java/lang/invoke/MethodHandle" ∧ y.cls ≠ "java/lang/invoke/VarHandle") ∧ (parseMethodDescriptor y.desc).map (fun d => d.parameters.length) = some n
def MIS (y : MethodName) (cb : ByteArray) (nM : Nat) (rt : Option FieldType) (n : Nat) : Prop := Cond.code y cb nM rt ∈ WT ∧ Cond.static y ∈ WT ∧ Cond.initialized y.cls ∈ WT ∧ (y.cls ≠ "java/lang/invoke/MethodHandle" ∧ y.cls ≠ "java/lang/invoke/VarHandle") ∧ (parseMethodDescriptor y.desc).map (fun d => d.parameters.length) = some n
theorem ws_in {y : MethodName} {cb : ByteArray} {nM : Nat} {rt : Option FieldType} (h : Cond.code y cb nM rt ∈ WT) : GoodIn WT (WS y cb nM rt) := fun w hw => (List.mem_cons.mp hw).elim (fun e => ⟨by rw [e]; exact h, by rw [e]; exact good_of_word (wt_good h)⟩) (fun h1 => ⟨h1, good_of_word (wt_good h1)⟩)
theorem fa_F {F : Nat → Prop} {A : Nat → Nat} {Pl : List Nat} (h : DD F A Pl) : ∀ q, FA A Pl q → F q := fun q hq => by
  obtain ⟨p, hp, rfl⟩ := hq
  exact h.2 p hp
theorem dd_fa {F : Nat → Prop} {A : Nat → Nat} {Pl : List Nat} (h : DD F A Pl) : DD (FA A Pl) A Pl := ⟨h.1, fun p hp => ⟨p, hp, rfl⟩⟩
def QI (D : va_G) (cA : Nat → ClassId) (A : Nat → Nat) (Pl : List Nat) (out : Int32 × Mem) : Array Value → State → Outcome → State → Prop := va_Qi (fun (r : Int32) (_ : Unit) => r = out.1) (fun _ t => va_P D vwCl (enc cA A out.2 Pl) t.heap) (FA A Pl)
def CtI (l : Launch) (D : va_G) (cA : Nat → ClassId) (A : Nat → Nat) (Pl : List Nat) (y : MethodName) (cb : ByteArray) (nM h : Nat) (rt : FieldType) (avs : List Value) (M : Mem) (out : Int32 × Mem) : Prop := Met l y (WS y cb nM (some rt)) (RM h) (va_Pc avs (Pre D cA A Pl M)) (QI D cA A Pl out) 0 0 (FA A Pl)
theorem ct_I {l : Launch} {D : va_G} {cA : Nat → ClassId} {A : Nat → Nat} {Pl : List Nat} {y : MethodName} {cb : ByteArray} {nM h : Nat} {rt : FieldType} {avs : List Value} {M : Mem} {out : Int32 × Mem} (hy : plainName y.cls = true) (hn : (lg_sl avs).length ≤ nM) (body : ∀ (p : Program) (e : Env) (s : State) (m : MethodId) (args : Array Value) (below : List Frame) (meth : Method) (c : Code), Cx p s m args meth c cb y.cls nM D cA A Pl (FA A Pl) → meth.sig.returnType = (some rt) → WM p l e (RM h) s m args below meth c 0 0 (MQ below (QI D cA A Pl out) args s 0 0 (FA A Pl)) D cA A Pl (FA A Pl) nM M 0 (lv_args 0 avs) []) : CtI l D cA A Pl y cb nM h rt avs M out := by
  refine Met.ofW (cc := cb) (maxL := nM) (ret := (some rt)) hy rfl ?_
  intro p e s m args below meth c s1 B hml hv
  obtain ⟨rfl, hP, hK, hD, hS⟩ := hv
  have hts := atoms_spec (ws := WS y cb nM (some rt)) B.pre
  rw [lg_entry_eq]
  exact body p e s m _ below meth c ⟨⟨B.exec, B.bytes, hml, findClass_of_methodNamed B.named⟩, fun w hw => hts w (List.mem_cons_of_mem _ hw), B.notSynchronized, hK, hD, hS⟩ B.returns s.heap [] hP va_S.rf _ (lv_entry avs hn)
def QL (D : va_G) (cA : Nat → ClassId) (A : Nat → Nat) (Pl : List Nat) (out : Int64 × Mem) : Array Value → State → Outcome → State → Prop := va_Ql (fun (r : Int64) (_ : Unit) => r = out.1) (fun _ t => va_P D vwCl (enc cA A out.2 Pl) t.heap) (FA A Pl)
def CtL (l : Launch) (D : va_G) (cA : Nat → ClassId) (A : Nat → Nat) (Pl : List Nat) (y : MethodName) (cb : ByteArray) (nM h : Nat)  (avs : List Value) (M : Mem) (out : Int64 × Mem) : Prop := Met l y (WS y cb nM (some .long)) (RM h) (va_Pc avs (Pre D cA A Pl M)) (QL D cA A Pl out) 0 0 (FA A Pl)
theorem ct_L {l : Launch} {D : va_G} {cA : Nat → ClassId} {A : Nat → Nat} {Pl : List Nat} {y : MethodName} {cb : ByteArray} {nM h : Nat}  {avs : List Value} {M : Mem} {out : Int64 × Mem} (hy : plainName y.cls = true) (hn : (lg_sl avs).length ≤ nM) (body : ∀ (p : Program) (e : Env) (s : State) (m : MethodId) (args : Array Value) (below : List Frame) (meth : Method) (c : Code), Cx p s m args meth c cb y.cls nM D cA A Pl (FA A Pl) → meth.sig.returnType = (some .long) → WM p l e (RM h) s m args below meth c 0 0 (MQ below (QL D cA A Pl out) args s 0 0 (FA A Pl)) D cA A Pl (FA A Pl) nM M 0 (lv_args 0 avs) []) : CtL l D cA A Pl y cb nM h avs M out := by
  refine Met.ofW (cc := cb) (maxL := nM) (ret := (some .long)) hy rfl ?_
  intro p e s m args below meth c s1 B hml hv
  obtain ⟨rfl, hP, hK, hD, hS⟩ := hv
  have hts := atoms_spec (ws := WS y cb nM (some .long)) B.pre
  rw [lg_entry_eq]
  exact body p e s m _ below meth c ⟨⟨B.exec, B.bytes, hml, findClass_of_methodNamed B.named⟩, fun w hw => hts w (List.mem_cons_of_mem _ hw), B.notSynchronized, hK, hD, hS⟩ B.returns s.heap [] hP va_S.rf _ (lv_entry avs hn)
def QV (D : va_G) (cA : Nat → ClassId) (A : Nat → Nat) (Pl : List Nat) (out : Mem) : Array Value → State → Outcome → State → Prop := va_Qv (fun (_ : Unit) => True) (fun _ t => va_P D vwCl (enc cA A out Pl) t.heap) (FA A Pl)
def CtV (l : Launch) (D : va_G) (cA : Nat → ClassId) (A : Nat → Nat) (Pl : List Nat) (y : MethodName) (cb : ByteArray) (nM h : Nat)  (avs : List Value) (M : Mem) (out : Mem) : Prop := Met l y (WS y cb nM none) (RM h) (va_Pc avs (Pre D cA A Pl M)) (QV D cA A Pl out) 0 0 (FA A Pl)
theorem ct_V {l : Launch} {D : va_G} {cA : Nat → ClassId} {A : Nat → Nat} {Pl : List Nat} {y : MethodName} {cb : ByteArray} {nM h : Nat}  {avs : List Value} {M : Mem} {out : Mem} (hy : plainName y.cls = true) (hn : (lg_sl avs).length ≤ nM) (body : ∀ (p : Program) (e : Env) (s : State) (m : MethodId) (args : Array Value) (below : List Frame) (meth : Method) (c : Code), Cx p s m args meth c cb y.cls nM D cA A Pl (FA A Pl) → meth.sig.returnType = none → WM p l e (RM h) s m args below meth c 0 0 (MQ below (QV D cA A Pl out) args s 0 0 (FA A Pl)) D cA A Pl (FA A Pl) nM M 0 (lv_args 0 avs) []) : CtV l D cA A Pl y cb nM h avs M out := by
  refine Met.ofW (cc := cb) (maxL := nM) (ret := none) hy rfl ?_
  intro p e s m args below meth c s1 B hml hv
  obtain ⟨rfl, hP, hK, hD, hS⟩ := hv
  have hts := atoms_spec (ws := WS y cb nM none) B.pre
  rw [lg_entry_eq]
  exact body p e s m _ below meth c ⟨⟨B.exec, B.bytes, hml, findClass_of_methodNamed B.named⟩, fun w hw => hts w (List.mem_cons_of_mem _ hw), B.notSynchronized, hK, hD, hS⟩ B.returns s.heap [] hP va_S.rf _ (lv_entry avs hn)
section MC
variable {p : Program} {l : Launch} {e : Env} {s : State} {m : MethodId} {args : Array Value} {below : List Frame} {meth : Method} {c : Code} {Q : State → Prop}
variable {cc : ByteArray} {own : String} {nL : Nat} {D : va_G} {cA : Nat → ClassId} {A : Nat → Nat} {Pl : List Nat} {F : Nat → Prop} {M : Mem} {pc : Nat} {lv : List (Nat × Value)} {st : List Value}
theorem wm_callVi {y : MethodName} {cb : ByteArray} {nM h h1 idx n : Nat} {rt : FieldType} {ci q N : Nat} {T : u_T} {As stk : List Value} {out : Int32 × Mem} (C : Cx p s m args meth c cc own nL D cA A Pl F) (hM : CtI l D cA A Pl y cb nM h rt (.ref (A q) :: As) M out) (hmi : MIV y cb nM (some rt) n) (hml : Cond.methodLink own idx y ∈ WT) (hp : q ∈ Pl) (hci : kd q = ci) (hcl : vwCl[ci]? = some (y.cls, T, N)) (hn : As.length = n) (hst : stk = As.reverse ++ .ref (A q) :: st) (hh : h < h1) (hnM : nM ≤ 40) (hcat : (st.map fun v => v.category).sum ≤ 8) (hdg : decode cc pc = .ok (.invokevirtual idx, 3)) (kk : WM p l e (RM h1) s m args below meth c 0 0 Q D cA A Pl F nL out.2 (pc + 3) lv (.int out.1 :: st)) : WM p l e (RM h1) s m args below meth c 0 0 Q D cA A Pl F nL M pc lv stk := by
  subst hst
  intro H locs hP hS ls hl
  obtain ⟨i0, -, hi0⟩ := enc_get (cA := cA) (A := A) (M := M) hp
  have hc9 : ci < 9 := (List.getElem?_eq_some_iff.mp hcl).1
  rw [mc_obj hci hc9] at hi0
  have hrec := va_recv C.2.2.2.1 hP hcl hi0
  refine va_calli (va_runV (As := As) (rest := st) (nL := nL) ⟨C.1.1, C.1.2.1, C.1.2.2.1, C.1.2.2.2, C.2.1⟩ hM ⟨callB_of n C.2.1 (ws_in hmi.1) rfl rfl rfl (C.2.1 _ hmi.2.2.2.1) (C.2.1 _ hml) ⟨hmi.2.2.2.2.1.1, hmi.2.2.2.2.1.2, hmi.2.2.2.2.2⟩ ⟨by show h + 1 ≤ h1; omega, by show 8 + (nM + 11) + 64 * h ≤ 64 * h1; omega⟩, C.2.1 _ hmi.2.1, C.2.1 _ hmi.2.2.1⟩ ⟨pre_blind, hrec, fun U hU hW => ⟨rfl, by rw [hU]; exact hP, va_K.moved hW.alike C.2.2.2.1, dd_fa C.2.2.2.2.1, by rw [hU]; exact SO.narrow (SO.warm hW (C.2.2.2.2.2.kept hS.2.1)) (fa_F C.2.2.2.2.1)⟩⟩ rfl hn hl.1 rfl (lv_room hcat) hdg ⟨Nat.le_refl _, Nat.le_refl _⟩) hS (fun q _ hq => fa_F C.2.2.2.2.1 q hq) (fa_F C.2.2.2.2.1) (fun r u t H1 locs1 ht hvm hw hB hz hk hS1 => ?_)
  have hw1 : r = out.1 := hw
  subst hw1
  rw [ht] at hB
  exact kk H1 locs1 hB hS1 ls hl
theorem wm_callSi {y : MethodName} {cb : ByteArray} {nM h h1 idx n : Nat} {rt : FieldType} {As stk : List Value} {out : Int32 × Mem} (C : Cx p s m args meth c cc own nL D cA A Pl F) (hM : CtI l D cA A Pl y cb nM h rt As M out) (hmi : MIS y cb nM (some rt) n) (hml : Cond.methodLink own idx y ∈ WT) (hn : As.length = n) (hst : stk = As.reverse ++ st) (hh : h < h1) (hnM : nM ≤ 40) (hcat : (st.map fun v => v.category).sum ≤ 8) (hdg : decode cc pc = .ok (.invokestatic idx, 3)) (kk : WM p l e (RM h1) s m args below meth c 0 0 Q D cA A Pl F nL out.2 (pc + 3) lv (.int out.1 :: st)) : WM p l e (RM h1) s m args below meth c 0 0 Q D cA A Pl F nL M pc lv stk := by
  subst hst
  intro H locs hP hS ls hl
  refine va_calli (va_runS (As := As) (rest := st) (nL := nL) ⟨C.1.1, C.1.2.1, C.1.2.2.1, C.1.2.2.2, C.2.1⟩ hM ⟨callB_of n C.2.1 (ws_in hmi.1) rfl rfl rfl (C.2.1 _ hmi.2.2.1) (C.2.1 _ hml) ⟨hmi.2.2.2.1.1, hmi.2.2.2.1.2, hmi.2.2.2.2⟩ ⟨by show h + 1 ≤ h1; omega, by show 8 + (nM + 11) + 64 * h ≤ 64 * h1; omega⟩, C.2.1 _ hmi.2.1⟩ ⟨pre_blind, fun U hU hW => ⟨rfl, by rw [hU]; exact hP, va_K.moved hW.alike C.2.2.2.1, dd_fa C.2.2.2.2.1, by rw [hU]; exact SO.narrow (SO.warm hW (C.2.2.2.2.2.kept hS.2.1)) (fa_F C.2.2.2.2.1)⟩⟩ rfl hn hl.1 rfl (lv_room hcat) hdg ⟨Nat.le_refl _, Nat.le_refl _⟩) hS (fun q _ hq => fa_F C.2.2.2.2.1 q hq) (fa_F C.2.2.2.2.1) (fun r u t H1 locs1 ht hvm hw hB hz hk hS1 => ?_)
  have hw1 : r = out.1 := hw
  subst hw1
  rw [ht] at hB
  exact kk H1 locs1 hB hS1 ls hl
theorem wm_callVl {y : MethodName} {cb : ByteArray} {nM h h1 idx n : Nat} {ci q N : Nat} {T : u_T} {As stk : List Value} {out : Int64 × Mem} (C : Cx p s m args meth c cc own nL D cA A Pl F) (hM : CtL l D cA A Pl y cb nM h (.ref (A q) :: As) M out) (hmi : MIV y cb nM (some .long) n) (hml : Cond.methodLink own idx y ∈ WT) (hp : q ∈ Pl) (hci : kd q = ci) (hcl : vwCl[ci]? = some (y.cls, T, N)) (hn : As.length = n) (hst : stk = As.reverse ++ .ref (A q) :: st) (hh : h < h1) (hnM : nM ≤ 40) (hcat : (st.map fun v => v.category).sum ≤ 8) (hdg : decode cc pc = .ok (.invokevirtual idx, 3)) (kk : WM p l e (RM h1) s m args below meth c 0 0 Q D cA A Pl F nL out.2 (pc + 3) lv (.long out.1 :: st)) : WM p l e (RM h1) s m args below meth c 0 0 Q D cA A Pl F nL M pc lv stk := by
  subst hst
  intro H locs hP hS ls hl
  obtain ⟨i0, -, hi0⟩ := enc_get (cA := cA) (A := A) (M := M) hp
  have hc9 : ci < 9 := (List.getElem?_eq_some_iff.mp hcl).1
  rw [mc_obj hci hc9] at hi0
  have hrec := va_recv C.2.2.2.1 hP hcl hi0
  refine va_calll (va_runV (As := As) (rest := st) (nL := nL) ⟨C.1.1, C.1.2.1, C.1.2.2.1, C.1.2.2.2, C.2.1⟩ hM ⟨callB_of n C.2.1 (ws_in hmi.1) rfl rfl rfl (C.2.1 _ hmi.2.2.2.1) (C.2.1 _ hml) ⟨hmi.2.2.2.2.1.1, hmi.2.2.2.2.1.2, hmi.2.2.2.2.2⟩ ⟨by show h + 1 ≤ h1; omega, by show 8 + (nM + 11) + 64 * h ≤ 64 * h1; omega⟩, C.2.1 _ hmi.2.1, C.2.1 _ hmi.2.2.1⟩ ⟨pre_blind, hrec, fun U hU hW => ⟨rfl, by rw [hU]; exact hP, va_K.moved hW.alike C.2.2.2.1, dd_fa C.2.2.2.2.1, by rw [hU]; exact SO.narrow (SO.warm hW (C.2.2.2.2.2.kept hS.2.1)) (fa_F C.2.2.2.2.1)⟩⟩ rfl hn hl.1 rfl (lv_room hcat) hdg ⟨Nat.le_refl _, Nat.le_refl _⟩) hS (fun q _ hq => fa_F C.2.2.2.2.1 q hq) (fa_F C.2.2.2.2.1) (fun r u t H1 locs1 ht hvm hw hB hz hk hS1 => ?_)
  have hw1 : r = out.1 := hw
  subst hw1
  rw [ht] at hB
  exact kk H1 locs1 hB hS1 ls hl
theorem wm_callSl {y : MethodName} {cb : ByteArray} {nM h h1 idx n : Nat} {As stk : List Value} {out : Int64 × Mem} (C : Cx p s m args meth c cc own nL D cA A Pl F) (hM : CtL l D cA A Pl y cb nM h As M out) (hmi : MIS y cb nM (some .long) n) (hml : Cond.methodLink own idx y ∈ WT) (hn : As.length = n) (hst : stk = As.reverse ++ st) (hh : h < h1) (hnM : nM ≤ 40) (hcat : (st.map fun v => v.category).sum ≤ 8) (hdg : decode cc pc = .ok (.invokestatic idx, 3)) (kk : WM p l e (RM h1) s m args below meth c 0 0 Q D cA A Pl F nL out.2 (pc + 3) lv (.long out.1 :: st)) : WM p l e (RM h1) s m args below meth c 0 0 Q D cA A Pl F nL M pc lv stk := by
  subst hst
  intro H locs hP hS ls hl
  refine va_calll (va_runS (As := As) (rest := st) (nL := nL) ⟨C.1.1, C.1.2.1, C.1.2.2.1, C.1.2.2.2, C.2.1⟩ hM ⟨callB_of n C.2.1 (ws_in hmi.1) rfl rfl rfl (C.2.1 _ hmi.2.2.1) (C.2.1 _ hml) ⟨hmi.2.2.2.1.1, hmi.2.2.2.1.2, hmi.2.2.2.2⟩ ⟨by show h + 1 ≤ h1; omega, by show 8 + (nM + 11) + 64 * h ≤ 64 * h1; omega⟩, C.2.1 _ hmi.2.1⟩ ⟨pre_blind, fun U hU hW => ⟨rfl, by rw [hU]; exact hP, va_K.moved hW.alike C.2.2.2.1, dd_fa C.2.2.2.2.1, by rw [hU]; exact SO.narrow (SO.warm hW (C.2.2.2.2.2.kept hS.2.1)) (fa_F C.2.2.2.2.1)⟩⟩ rfl hn hl.1 rfl (lv_room hcat) hdg ⟨Nat.le_refl _, Nat.le_refl _⟩) hS (fun q _ hq => fa_F C.2.2.2.2.1 q hq) (fa_F C.2.2.2.2.1) (fun r u t H1 locs1 ht hvm hw hB hz hk hS1 => ?_)
  have hw1 : r = out.1 := hw
  subst hw1
  rw [ht] at hB
  exact kk H1 locs1 hB hS1 ls hl
theorem wm_callVv {y : MethodName} {cb : ByteArray} {nM h h1 idx n : Nat} {ci q N : Nat} {T : u_T} {As stk : List Value} {out : Mem} (C : Cx p s m args meth c cc own nL D cA A Pl F) (hM : CtV l D cA A Pl y cb nM h (.ref (A q) :: As) M out) (hmi : MIV y cb nM none n) (hml : Cond.methodLink own idx y ∈ WT) (hp : q ∈ Pl) (hci : kd q = ci) (hcl : vwCl[ci]? = some (y.cls, T, N)) (hn : As.length = n) (hst : stk = As.reverse ++ .ref (A q) :: st) (hh : h < h1) (hnM : nM ≤ 40) (hcat : (st.map fun v => v.category).sum ≤ 8) (hdg : decode cc pc = .ok (.invokevirtual idx, 3)) (kk : WM p l e (RM h1) s m args below meth c 0 0 Q D cA A Pl F nL out (pc + 3) lv (st)) : WM p l e (RM h1) s m args below meth c 0 0 Q D cA A Pl F nL M pc lv stk := by
  subst hst
  intro H locs hP hS ls hl
  obtain ⟨i0, -, hi0⟩ := enc_get (cA := cA) (A := A) (M := M) hp
  have hc9 : ci < 9 := (List.getElem?_eq_some_iff.mp hcl).1
  rw [mc_obj hci hc9] at hi0
  have hrec := va_recv C.2.2.2.1 hP hcl hi0
  refine va_callv (va_runV (As := As) (rest := st) (nL := nL) ⟨C.1.1, C.1.2.1, C.1.2.2.1, C.1.2.2.2, C.2.1⟩ hM ⟨callB_of n C.2.1 (ws_in hmi.1) rfl rfl rfl (C.2.1 _ hmi.2.2.2.1) (C.2.1 _ hml) ⟨hmi.2.2.2.2.1.1, hmi.2.2.2.2.1.2, hmi.2.2.2.2.2⟩ ⟨by show h + 1 ≤ h1; omega, by show 8 + (nM + 11) + 64 * h ≤ 64 * h1; omega⟩, C.2.1 _ hmi.2.1, C.2.1 _ hmi.2.2.1⟩ ⟨pre_blind, hrec, fun U hU hW => ⟨rfl, by rw [hU]; exact hP, va_K.moved hW.alike C.2.2.2.1, dd_fa C.2.2.2.2.1, by rw [hU]; exact SO.narrow (SO.warm hW (C.2.2.2.2.2.kept hS.2.1)) (fa_F C.2.2.2.2.1)⟩⟩ rfl hn hl.1 rfl (lv_room hcat) hdg ⟨Nat.le_refl _, Nat.le_refl _⟩) hS (fun q _ hq => fa_F C.2.2.2.2.1 q hq) (fa_F C.2.2.2.2.1) (fun u t H1 locs1 ht hvm hw hB hz hk hS1 => ?_)
  rw [ht] at hB
  exact kk H1 locs1 hB hS1 ls hl
theorem wm_callSv {y : MethodName} {cb : ByteArray} {nM h h1 idx n : Nat} {As stk : List Value} {out : Mem} (C : Cx p s m args meth c cc own nL D cA A Pl F) (hM : CtV l D cA A Pl y cb nM h As M out) (hmi : MIS y cb nM none n) (hml : Cond.methodLink own idx y ∈ WT) (hn : As.length = n) (hst : stk = As.reverse ++ st) (hh : h < h1) (hnM : nM ≤ 40) (hcat : (st.map fun v => v.category).sum ≤ 8) (hdg : decode cc pc = .ok (.invokestatic idx, 3)) (kk : WM p l e (RM h1) s m args below meth c 0 0 Q D cA A Pl F nL out (pc + 3) lv (st)) : WM p l e (RM h1) s m args below meth c 0 0 Q D cA A Pl F nL M pc lv stk := by
  subst hst
  intro H locs hP hS ls hl
  refine va_callv (va_runS (As := As) (rest := st) (nL := nL) ⟨C.1.1, C.1.2.1, C.1.2.2.1, C.1.2.2.2, C.2.1⟩ hM ⟨callB_of n C.2.1 (ws_in hmi.1) rfl rfl rfl (C.2.1 _ hmi.2.2.1) (C.2.1 _ hml) ⟨hmi.2.2.2.1.1, hmi.2.2.2.1.2, hmi.2.2.2.2⟩ ⟨by show h + 1 ≤ h1; omega, by show 8 + (nM + 11) + 64 * h ≤ 64 * h1; omega⟩, C.2.1 _ hmi.2.1⟩ ⟨pre_blind, fun U hU hW => ⟨rfl, by rw [hU]; exact hP, va_K.moved hW.alike C.2.2.2.1, dd_fa C.2.2.2.2.1, by rw [hU]; exact SO.narrow (SO.warm hW (C.2.2.2.2.2.kept hS.2.1)) (fa_F C.2.2.2.2.1)⟩⟩ rfl hn hl.1 rfl (lv_room hcat) hdg ⟨Nat.le_refl _, Nat.le_refl _⟩) hS (fun q _ hq => fa_F C.2.2.2.2.1 q hq) (fa_F C.2.2.2.2.1) (fun u t H1 locs1 ht hvm hw hB hz hk hS1 => ?_)
  rw [ht] at hB
  exact kk H1 locs1 hB hS1 ls hl
theorem wm_iret {h1 : Nat} {v : Int32} {out : Int32 × Mem} (C : Cx p s m args meth c cc own nL D cA A Pl (FA A Pl)) (hrt : meth.sig.returnType = some .int) (hf : some (v, M) = some out) (hdg : decode cc pc = .ok (.ireturn, 1)) : WM p l e (RM h1) s m args below meth c 0 0 (MQ below (QI D cA A Pl out) args s 0 0 (FA A Pl)) D cA A Pl (FA A Pl) nL M pc lv [.int v] := by
  cases hf
  exact fun H locs hP hS ls hl => W.iret C.1.1 C.1.2.1 hrt (fun t ht hW => ⟨⟨v, (), rfl, rfl, by show va_P D vwCl _ t.heap; rw [ht]; exact hP⟩, hS.F ht⟩) hS.2.2 hdg C.2.2.1
theorem wm_zret {h1 : Nat} {v : Int32} {ty : FieldType} {out : Int32 × Mem} (C : Cx p s m args meth c cc own nL D cA A Pl (FA A Pl)) (hrt : meth.sig.returnType = some ty) (hn : narrow ty (.int v) = .int v) (hf : some (v, M) = some out) (hdg : decode cc pc = .ok (.ireturn, 1)) : WM p l e (RM h1) s m args below meth c 0 0 (MQ below (QI D cA A Pl out) args s 0 0 (FA A Pl)) D cA A Pl (FA A Pl) nL M pc lv [.int v] := by
  cases hf
  exact fun H locs hP hS ls hl => W.zret C.1.1 C.1.2.1 hrt hn (fun t ht hW => ⟨⟨v, (), rfl, rfl, by show va_P D vwCl _ t.heap; rw [ht]; exact hP⟩, hS.F ht⟩) hS.2.2 hdg C.2.2.1
theorem wm_lret {h1 : Nat} {v : Int64} {out : Int64 × Mem} (C : Cx p s m args meth c cc own nL D cA A Pl (FA A Pl)) (hrt : meth.sig.returnType = some .long) (hf : some (v, M) = some out) (hdg : decode cc pc = .ok (.lreturn, 1)) : WM p l e (RM h1) s m args below meth c 0 0 (MQ below (QL D cA A Pl out) args s 0 0 (FA A Pl)) D cA A Pl (FA A Pl) nL M pc lv [.long v] := by
  cases hf
  exact fun H locs hP hS ls hl => W.lret C.1.1 C.1.2.1 hrt (fun t ht hW => ⟨⟨v, (), rfl, rfl, by show va_P D vwCl _ t.heap; rw [ht]; exact hP⟩, hS.F ht⟩) hS.2.2 hdg C.2.2.1
theorem wm_vret {h1 : Nat} {out : Mem} (C : Cx p s m args meth c cc own nL D cA A Pl (FA A Pl)) (hrt : meth.sig.returnType = none) (hf : some M = some out) (hdg : decode cc pc = .ok (.return_, 1)) : WM p l e (RM h1) s m args below meth c 0 0 (MQ below (QV D cA A Pl out) args s 0 0 (FA A Pl)) D cA A Pl (FA A Pl) nL M pc lv [] := by
  cases hf
  exact fun H locs hP hS ls hl => W.vret C.1.1 C.1.2.1 hrt (fun t ht hW => ⟨⟨(), rfl, trivial, by show va_P D vwCl _ t.heap; rw [ht]; exact hP⟩, hS.F ht⟩) hS.2.2 hdg C.2.2.1
end MC
theorem kd_hi {q : Nat} (h : 118 ≤ q) : kd q = 99 := by
  unfold kd
  rw [if_neg (by omega)]
  rw [List.getD_eq_getElem?_getD, List.getElem?_eq_none (by show 18 ≤ q - 100; omega)]
  rfl
theorem kd_in {K lo hi : Nat} (hK : ¬ K = 99) (hd : ∀ q, q < 118 → kd q = K → lo ≤ q ∧ q < hi) {q : Nat} (h : kd q = K) : lo ≤ q ∧ q < hi := by
  rcases Nat.lt_or_ge q 118 with hq | hq
  · exact hd q hq h
  · rw [kd_hi hq] at h
    exact absurd h.symm hK
theorem kr5_d : ∀ q, q < 118 → kd q = 5 → 0 ≤ q ∧ q < 63 := by decide +kernel
theorem kr5 {Pl : List Nat} {q : Nat} (hPl : ∀ q, 0 ≤ q → q < 63 → q ∈ Pl) (h : kd q = 5) : q ∈ Pl := have z := kd_in (by decide) kr5_d h; hPl q z.1 z.2
theorem kr6_d : ∀ q, q < 118 → kd q = 6 → 0 ≤ q ∧ q < 63 := by decide +kernel
theorem kr6 {Pl : List Nat} {q : Nat} (hPl : ∀ q, 0 ≤ q → q < 63 → q ∈ Pl) (h : kd q = 6) : q ∈ Pl := have z := kd_in (by decide) kr6_d h; hPl q z.1 z.2
theorem kr10_d : ∀ q, q < 118 → kd q = 10 → 0 ≤ q ∧ q < 63 := by decide +kernel
theorem kr10 {Pl : List Nat} {q : Nat} (hPl : ∀ q, 0 ≤ q → q < 63 → q ∈ Pl) (h : kd q = 10) : q ∈ Pl := have z := kd_in (by decide) kr10_d h; hPl q z.1 z.2
theorem kr30_d : ∀ q, q < 118 → kd q = 30 → 0 ≤ q ∧ q < 63 := by decide +kernel
theorem kr30 {Pl : List Nat} {q : Nat} (hPl : ∀ q, 0 ≤ q → q < 63 → q ∈ Pl) (h : kd q = 30) : q ∈ Pl := have z := kd_in (by decide) kr30_d h; hPl q z.1 z.2
theorem krr6_d : ∀ q, q < 118 → kd q = 6 → 16 ≤ q ∧ q < 36 := by decide +kernel
theorem krr6 {Pl : List Nat} {q : Nat} (hPl : ∀ q, 16 ≤ q → q < 36 → q ∈ Pl) (h : kd q = 6) : q ∈ Pl := have z := kd_in (by decide) krr6_d h; hPl q z.1 z.2
theorem krr30_d : ∀ q, q < 118 → kd q = 30 → 16 ≤ q ∧ q < 36 := by decide +kernel
theorem krr30 {Pl : List Nat} {q : Nat} (hPl : ∀ q, 16 ≤ q → q < 36 → q ∈ Pl) (h : kd q = 30) : q ∈ Pl := have z := kd_in (by decide) krr30_d h; hPl q z.1 z.2
