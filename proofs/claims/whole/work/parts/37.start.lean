/-! THE LAW: what holds at its start -/
theorem ao_spec {args : Array Value} {s : State} (h : (Cond.arrayOver (.array .int)).before args s = true) : ∃ (comp c : ClassId) (k : Class), s.vm.findClass (FieldType.array .int).toString = some comp ∧ s.vm.classes[c]? = some k ∧ k.kind = .array comp (.array .int) ∧ s.vm.findClass ("[" ++ (FieldType.array .int).toString) = some c := by
  simp only [Cond.before, Cond.holds, Cond.value, beq_iff_eq, Option.bind_eq_some_iff, Option.map_eq_some_iff] at h
  obtain ⟨comp, hcomp, c, hfind, k, hk, hval⟩ := h
  have hat := (Array.findIdx?_eq_some_iff_getElem.mp hfind)
  obtain ⟨hlt, hfits, -⟩ := hat
  rw [Array.getElem?_eq_getElem hlt] at hk
  have hk2 : s.vm.classes[c] = k := Option.some.inj hk
  rw [hk2] at hfits
  refine ⟨comp, c, k, hcomp, by rw [Array.getElem?_eq_getElem hlt, hk2], ?_⟩
  generalize hK : k.kind = K at hfits hval ⊢
  cases K <;> simp_all
theorem law_Kn {args : Array Value} {s : State} (hts : ∀ w ∈ lw_tbl, w.before args s = true) : ∀ c : Nat, ∃ q : ClassId × (Nat → Nat), ∀ r : vw_C, vwCl[c]? = some r → u_Kn s r.1 r.2.1 r.2.2 q.1 q.2 := by
  have hw : ∀ w ∈ WT, w.before args s = true := fun w h => hts w (List.mem_filter.mp h).1
  intro c
  by_cases hc : c < 9
  · rcases (show c = 0 ∨ c = 1 ∨ c = 2 ∨ c = 3 ∨ c = 4 ∨ c = 5 ∨ c = 6 ∨ c = 7 ∨ c = 8 by omega) with rfl | rfl | rfl | rfl | rfl | rfl | rfl | rfl | rfl
    · obtain ⟨cC, iS, h⟩ := u_known hw iwX0 (hts (Cond.instantiable RX0 16) (List.mem_of_getElem? (i := 357) (by decide +kernel)))
      exact ⟨(cC, iS), fun r hr => by cases hr; exact h⟩
    · obtain ⟨cC, iS, h⟩ := u_known hw iwX1 (hts (Cond.instantiable RX1 9) (List.mem_of_getElem? (i := 94) (by decide +kernel)))
      exact ⟨(cC, iS), fun r hr => by cases hr; exact h⟩
    · obtain ⟨cC, iS, h⟩ := u_known hw iwX3 (hts (Cond.instantiable RX3 11) (List.mem_of_getElem? (i := 456) (by decide +kernel)))
      exact ⟨(cC, iS), fun r hr => by cases hr; exact h⟩
    · obtain ⟨cC, iS, h⟩ := u_known hw iwX4 (hts (Cond.instantiable RX4 7) (List.mem_of_getElem? (i := 423) (by decide +kernel)))
      exact ⟨(cC, iS), fun r hr => by cases hr; exact h⟩
    · obtain ⟨cC, iS, h⟩ := u_known hw iwX5 (hts (Cond.instantiable RX5 7) (List.mem_of_getElem? (i := 149) (by decide +kernel)))
      exact ⟨(cC, iS), fun r hr => by cases hr; exact h⟩
    · obtain ⟨cC, iS, h⟩ := u_known hw iwX6 (hts (Cond.instantiable RX6 3) (List.mem_of_getElem? (i := 194) (by decide +kernel)))
      exact ⟨(cC, iS), fun r hr => by cases hr; exact h⟩
    · obtain ⟨cC, iS, h⟩ := u_known hw iwX7 (hts (Cond.instantiable RX7 3) (List.mem_of_getElem? (i := 179) (by decide +kernel)))
      exact ⟨(cC, iS), fun r hr => by cases hr; exact h⟩
    · obtain ⟨cC, iS, h⟩ := u_known hw iwX8 (hts (Cond.instantiable RX8 10) (List.mem_of_getElem? (i := 86) (by decide +kernel)))
      exact ⟨(cC, iS), fun r hr => by cases hr; exact h⟩
    · obtain ⟨cC, iS, h⟩ := u_known hw iwX9 (hts (Cond.instantiable RX9 49) (List.mem_of_getElem? (i := 864) (by decide +kernel)))
      exact ⟨(cC, iS), fun r hr => by cases hr; exact h⟩
  · exact ⟨(0, fun _ => 0), fun r hr => absurd (List.getElem?_eq_some_iff.mp hr).1 hc⟩
theorem law_K {args : Array Value} {s : State} (hts : ∀ w ∈ lw_tbl, w.before args s = true) : ∃ (D : va_G) (cA : Nat → ClassId), va_K D vwCl (tyL cA) s ∧ EX cA s := by
  obtain ⟨f, hf⟩ := Classical.axiomOfChoice (law_Kn hts)
  obtain ⟨c0, k0, p0, a1, a2, a3⟩ := Cond.arrayClass_spec (hts (Cond.arrayClass .int) (List.mem_of_getElem? (i := 145) (by decide +kernel)))
  obtain ⟨c1, k1, p1, b1, b2, b3⟩ := Cond.arrayClass_spec (hts (Cond.arrayClass .boolean) (List.mem_of_getElem? (i := 421) (by decide +kernel)))
  have h2 := hts (Cond.arrayOver (.object RX7)) (List.mem_of_getElem? (i := 147) (by decide +kernel))
  have h3 := hts (Cond.arrayOver (.object RX6)) (List.mem_of_getElem? (i := 178) (by decide +kernel))
  obtain ⟨p2, c2, k2, d1, -, d2, d3, d4⟩ := Cond.arrayOver_spec h2
  obtain ⟨p3, c3, k3, e1, -, e2, e3, e4⟩ := Cond.arrayOver_spec h3
  obtain ⟨p4, c4, k4, g1, g2, g3, g4⟩ := ao_spec (hts (Cond.arrayOver (.array .int)) (List.mem_of_getElem? (i := 462) (by decide +kernel)))
  have hp : p4 = c0 := Option.some.inj (g1.symm.trans a1)
  subst hp
  refine ⟨(fun c => (f c).1, fun c => (f c).2), fun k => match k with | 0 => p4 | 1 => c1 | 2 => c2 | 3 => c3 | _ => c4, ⟨fun c q hq => hf c q hq, fun k q hk => ?_⟩, ⟨⟨k4, g2, g3⟩, va_AO.of h2, va_AO.of h3⟩⟩
  have hlt : k < 5 := (List.getElem?_eq_some_iff.mp hk).1
  rcases (show k = 0 ∨ k = 1 ∨ k = 2 ∨ k = 3 ∨ k = 4 by omega) with rfl | rfl | rfl | rfl | rfl
  · cases hk
    exact ⟨fun n z => ⟨fun k h => (by cases h), k0, a2, p0, a3⟩, a1⟩
  · cases hk
    exact ⟨fun n z => ⟨fun k h => (by cases h), k1, b2, p1, b3⟩, b1⟩
  · cases hk
    exact ⟨fun n z => ⟨fun k h => (by cases h), k2, d2, p2, d3⟩, k2, p2, d2, d3, d1, d4⟩
  · cases hk
    exact ⟨fun n z => ⟨fun k h => (by cases h), k3, e2, p3, e3⟩, k3, p3, e2, e3, e1, e4⟩
  · cases hk
    exact ⟨fun n z => ⟨fun k h => (by cases h), k4, g2, p4, g3⟩, g4⟩
def sTm (i : Nat) : Term := match sIdx[i]? with
  | some x => .string x.1 x.2.1
  | none => .int 0
def FLs : List Cond := flatC (Jvm.Cond.and given_1 narrow_1)
def sB : List Nat := [88, 97, 107, 121, 133, 148, 163, 179, 196, 214, 230, 248, 45]
theorem fl_P0 : ∀ j, j < 6 → FLs[12 + j]? = some (Cond.eq (.elem (.static RX8 "POWERS" "[I") (.int (Int32.ofNat j))) (.int (stv 2000 j))) := by decide +kernel
theorem fl_U0 : ∀ j, j < 6 → FLs[21 + j]? = some (Cond.eq (.elem (.static RX8 "UNDER" "[I") (.int (Int32.ofNat j))) (.int (stv 2001 j))) := by decide +kernel
theorem fl_ex0 : ∀ i, i < 13 → FLs[sB.getD i 0]? = some (Cond.exactly (sTm i) "java/lang/String") := by decide +kernel
theorem fl_co0 : ∀ i, i < 13 → FLs[sB.getD i 0 + 1]? = some (Cond.eq (.field (sTm i) "java/lang/String" "coder" "B") (.int 0)) := by decide +kernel
theorem fl_ar0 : ∀ i, i < 13 → FLs[sB.getD i 0 + 2]? = some (Cond.arrayOf (.field (sTm i) "java/lang/String" "value" "[B") .byte) := by decide +kernel
theorem fl_le0 : ∀ i, i < 13 → FLs[sB.getD i 0 + 3]? = some (Cond.eq (.length (.field (sTm i) "java/lang/String" "value" "[B")) (.int (Int32.ofNat (sLens.getD i 0)))) := by decide +kernel
theorem fl_el0 : ∀ i, i < 13 → ∀ j, j < sLens.getD i 0 → FLs[sB.getD i 0 + 4 + j]? = some (Cond.eq (.elem (.field (sTm i) "java/lang/String" "value" "[B") (.int (Int32.ofNat j))) (.int ((sByts.getD i []).getD j 0))) := by decide +kernel
theorem fl_ne1 : ∀ i, i < 12 → ∀ j, j < i → FLs[sB.getD i 0 + 4 + sLens.getD i 0 + j + 1]? = some (Cond.not (Cond.eq (sTm j) (sTm i))) := by decide +kernel
theorem fl_ne2 : ∀ i, i < 12 → FLs[sB.getD i 0 + 4 + sLens.getD i 0]? = some (Cond.not (Cond.eq (sTm 12) (sTm i))) := by decide +kernel
theorem fl_P (j : Nat) (hj : j < 6) : Cond.eq (.elem (.static RX8 "POWERS" "[I") (.int (Int32.ofNat j))) (.int (stv 2000 j)) ∈ FLs := List.mem_of_getElem? (fl_P0 j hj)
theorem fl_U (j : Nat) (hj : j < 6) : Cond.eq (.elem (.static RX8 "UNDER" "[I") (.int (Int32.ofNat j))) (.int (stv 2001 j)) ∈ FLs := List.mem_of_getElem? (fl_U0 j hj)
theorem fl_ex (i : Nat) (hi : i < 13) : Cond.exactly (sTm i) "java/lang/String" ∈ FLs := List.mem_of_getElem? (fl_ex0 i hi)
theorem fl_co (i : Nat) (hi : i < 13) : Cond.eq (.field (sTm i) "java/lang/String" "coder" "B") (.int 0) ∈ FLs := List.mem_of_getElem? (fl_co0 i hi)
theorem fl_ar (i : Nat) (hi : i < 13) : Cond.arrayOf (.field (sTm i) "java/lang/String" "value" "[B") .byte ∈ FLs := List.mem_of_getElem? (fl_ar0 i hi)
theorem fl_le (i : Nat) (hi : i < 13) : Cond.eq (.length (.field (sTm i) "java/lang/String" "value" "[B")) (.int (Int32.ofNat (sLens.getD i 0))) ∈ FLs := List.mem_of_getElem? (fl_le0 i hi)
theorem fl_el (i : Nat) (hi : i < 13) (j : Nat) (hj : j < sLens.getD i 0) : Cond.eq (.elem (.field (sTm i) "java/lang/String" "value" "[B") (.int (Int32.ofNat j))) (.int ((sByts.getD i []).getD j 0)) ∈ FLs := List.mem_of_getElem? (fl_el0 i hi j hj)
theorem fl_ne (i : Nat) (hi : i < 13) (j : Nat) (hj : j < 13) (hij : i ≠ j) : Cond.not (Cond.eq (sTm i) (sTm j)) ∈ FLs ∨ Cond.not (Cond.eq (sTm j) (sTm i)) ∈ FLs := by
  by_cases h1 : i = 12
  · subst h1
    exact Or.inl (List.mem_of_getElem? (fl_ne2 j (by omega)))
  · by_cases h2 : j = 12
    · subst h2
      exact Or.inr (List.mem_of_getElem? (fl_ne2 i (by omega)))
    · by_cases h3 : j < i
      · exact Or.inr (List.mem_of_getElem? (fl_ne1 i (by omega) j h3))
      · exact Or.inl (List.mem_of_getElem? (fl_ne1 j (by omega) i (by omega)))
theorem sl_small : ∀ i, i < 13 → sLens.getD i 0 < 2 ^ 31 := by decide +kernel
theorem vk_S_cg {N : Nat} {len : List Nat} {byt : List (List Int32)} {adK adV adK' adV' : Nat → Nat} {A : Nat → Prop} {U : State} {H : Heap} (h : vk_S N len byt adK adV A U H) (h1 : ∀ i, i < N → adK' i = adK i) (h2 : ∀ i, i < N → adV' i = adV i) : vk_S N len byt adK' adV' A U H :=
  ⟨fun i hi => by rw [h1 i hi, h2 i hi]; exact h.1 i hi, fun i j hi hj e => h.2 i j hi hj (by rw [h1 i hi, h1 j hj] at e; exact e)⟩
def A00 (adK adV : Nat → Nat) (tP tU : Nat) : Nat → Nat := fun q => if q < 1100 then adK (q - 1000) else if q < 2000 then adV (q - 1100) else if q = 2000 then tP else tU
theorem law_SO {args : Array Value} {s : State} (hts : ∀ w ∈ lw_tbl, w.before args s = true) (hgv : (Jvm.Cond.and given_1 narrow_1).before args s = true) : ∃ A0 : Nat → Nat, SO (fun q => s.heap.size ≤ q) A0 s s.heap ∧ NX s := by
  have fl : ∀ w ∈ FLs, w.before args s = true := flat_of_before _ hgv
  have hA : ∀ a : Nat, a < s.heap.size → ¬ s.heap.size ≤ a := fun a h => Nat.not_le.mpr h
  obtain ⟨tP, eP, hTP⟩ := va_Tof (tm := .static RX8 "POWERS" "[I") (ty := .int) (f := fun j => .int (stv 2000 j)) (N := 6) (A := fun q => s.heap.size ≤ q) (by decide) (fl _ (List.mem_of_getElem? (i := 10) (by decide +kernel))) (va_eqt (fl (Cond.eq (.length (.static RX8 "POWERS" "[I")) (.int (Int32.ofNat 6))) (List.mem_of_getElem? (i := 11) (by decide +kernel)))) (fun j hj => va_eqt (fl _ (fl_P j hj))) hA
  obtain ⟨tU, eU, hTU⟩ := va_Tof (tm := .static RX8 "UNDER" "[I") (ty := .int) (f := fun j => .int (stv 2001 j)) (N := 6) (A := fun q => s.heap.size ≤ q) (by decide) (fl _ (List.mem_of_getElem? (i := 19) (by decide +kernel))) (va_eqt (fl (Cond.eq (.length (.static RX8 "UNDER" "[I")) (.int (Int32.ofNat 6))) (List.mem_of_getElem? (i := 20) (by decide +kernel)))) (fun j hj => va_eqt (fl _ (fl_U j hj))) hA
  obtain ⟨adK, adV, hS, hev⟩ := vk_Sof (A := fun q => s.heap.size ≤ q) (args := args) (s := s) (tm := sTm) sl_small (fun i hi => fl _ (fl_ex i hi)) (fun i hi => fl _ (fl_co i hi)) (fun i hi => fl _ (fl_ar i hi)) (fun i hi => fl _ (fl_le i hi)) (fun i hi j hj => fl _ (fl_el i hi j hj)) (fun i j hi hj hij => (fl_ne i hi j hj hij).elim (fun h => Or.inl (fl _ h)) (fun h => Or.inr (fl _ h))) hA
  have iC : (Cond.initialized RX8).before args s = true := hts _ (List.mem_of_getElem? (i := 69) (by decide +kernel))
  refine ⟨A00 adK adV tP tU, ⟨⟨va_Zref (hts _ (List.mem_of_getElem? (i := 577) (by decide +kernel))) iC eP hA, hTP⟩, ⟨va_Zref (hts _ (List.mem_of_getElem? (i := 862) (by decide +kernel))) iC eU hA, hTU⟩, vk_S_cg hS (fun i hi => ?_) (fun i hi => ?_), fun i x hx => ?_, va_Nw.of rfl (hts _ (List.mem_of_getElem? (i := 576) (by decide +kernel))), va_Nw.of rfl (hts _ (List.mem_of_getElem? (i := 861) (by decide +kernel))), va_Zof (hts _ (List.mem_of_getElem? (i := 223) (by decide +kernel))) (hts _ (List.mem_of_getElem? (i := 74) (by decide +kernel))) (va_eqi (fl _ (List.mem_of_getElem? (i := 4) (by decide +kernel)))) hA, va_Zqof (hts _ (List.mem_of_getElem? (i := 239) (by decide +kernel))) (hts _ (List.mem_of_getElem? (i := 76) (by decide +kernel))) (fl _ (List.mem_of_getElem? (i := 5) (by decide +kernel))) hA⟩, va_Nw.of rfl (hts _ (List.mem_of_getElem? (i := 95) (by decide +kernel))), va_Nw.of rfl (hts _ (List.mem_of_getElem? (i := 150) (by decide +kernel))), va_Nw.of rfl (hts _ (List.mem_of_getElem? (i := 180) (by decide +kernel))), va_Nw.of rfl (hts _ (List.mem_of_getElem? (i := 195) (by decide +kernel)))⟩
  · unfold A00
    rw [if_pos (by omega), Nat.add_sub_cancel_left]
  · unfold A00
    rw [if_neg (by omega), if_pos (by omega), Nat.add_sub_cancel_left]
  · have hlt : i < 13 := (List.getElem?_eq_some_iff.mp hx).1
    rcases (show i = 0 ∨ i = 1 ∨ i = 2 ∨ i = 3 ∨ i = 4 ∨ i = 5 ∨ i = 6 ∨ i = 7 ∨ i = 8 ∨ i = 9 ∨ i = 10 ∨ i = 11 ∨ i = 12 by omega) with rfl | rfl | rfl | rfl | rfl | rfl | rfl | rfl | rfl | rfl | rfl | rfl | rfl
    · cases hx
      exact vk_R.of (hts _ (List.mem_of_getElem? (i := 285) (by decide +kernel))) (hev 0 (by decide))
    · cases hx
      exact vk_R.of (hts _ (List.mem_of_getElem? (i := 295) (by decide +kernel))) (hev 1 (by decide))
    · cases hx
      exact vk_R.of (hts _ (List.mem_of_getElem? (i := 296) (by decide +kernel))) (hev 2 (by decide))
    · cases hx
      exact vk_R.of (hts _ (List.mem_of_getElem? (i := 297) (by decide +kernel))) (hev 3 (by decide))
    · cases hx
      exact vk_R.of (hts _ (List.mem_of_getElem? (i := 298) (by decide +kernel))) (hev 4 (by decide))
    · cases hx
      exact vk_R.of (hts _ (List.mem_of_getElem? (i := 299) (by decide +kernel))) (hev 5 (by decide))
    · cases hx
      exact vk_R.of (hts _ (List.mem_of_getElem? (i := 300) (by decide +kernel))) (hev 6 (by decide))
    · cases hx
      exact vk_R.of (hts _ (List.mem_of_getElem? (i := 301) (by decide +kernel))) (hev 7 (by decide))
    · cases hx
      exact vk_R.of (hts _ (List.mem_of_getElem? (i := 302) (by decide +kernel))) (hev 8 (by decide))
    · cases hx
      exact vk_R.of (hts _ (List.mem_of_getElem? (i := 303) (by decide +kernel))) (hev 9 (by decide))
    · cases hx
      exact vk_R.of (hts _ (List.mem_of_getElem? (i := 304) (by decide +kernel))) (hev 10 (by decide))
    · cases hx
      exact vk_R.of (hts _ (List.mem_of_getElem? (i := 305) (by decide +kernel))) (hev 11 (by decide))
    · cases hx
      exact vk_R.of (hts _ (List.mem_of_getElem? (i := 213) (by decide +kernel))) (hev 12 (by decide))
