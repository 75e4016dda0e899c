/-! TAKEN; SHEETS -/
def undB (a b : Nat) : Bool := a == b || b == 0 || (a == 3 && b == 1) || (a == 4 && b == 2)
theorem under_eq (M : Mem) : ∀ a b, a < 6 → b < 6 → f_X2_isUnder (nI a) (nI b) M = some (zI (undB a b), M) := by
  intro a b ha hb
  match a, b, ha, hb with
  | 0, 0, _, _ => rfl
  | 0, 1, _, _ => rfl
  | 0, 2, _, _ => rfl
  | 0, 3, _, _ => rfl
  | 0, 4, _, _ => rfl
  | 0, 5, _, _ => rfl
  | 1, 0, _, _ => rfl
  | 1, 1, _, _ => rfl
  | 1, 2, _, _ => rfl
  | 1, 3, _, _ => rfl
  | 1, 4, _, _ => rfl
  | 1, 5, _, _ => rfl
  | 2, 0, _, _ => rfl
  | 2, 1, _, _ => rfl
  | 2, 2, _, _ => rfl
  | 2, 3, _, _ => rfl
  | 2, 4, _, _ => rfl
  | 2, 5, _, _ => rfl
  | 3, 0, _, _ => rfl
  | 3, 1, _, _ => rfl
  | 3, 2, _, _ => rfl
  | 3, 3, _, _ => rfl
  | 3, 4, _, _ => rfl
  | 3, 5, _, _ => rfl
  | 4, 0, _, _ => rfl
  | 4, 1, _, _ => rfl
  | 4, 2, _, _ => rfl
  | 4, 3, _, _ => rfl
  | 4, 4, _, _ => rfl
  | 4, 5, _, _ => rfl
  | 5, 0, _, _ => rfl
  | 5, 1, _, _ => rfl
  | 5, 2, _, _ => rfl
  | 5, 3, _, _ => rfl
  | 5, 4, _, _ => rfl
  | 5, 5, _, _ => rfl
theorem over_eq (k : Int32 → Int32 → Int32 → Mem → Option (Int32 × Mem)) (v : Int32) (M : Mem) : ∀ a b, a < 6 → b < 6 → f_X9_taken_l33 k FU v (nI b) (nI a) M = k v (nI b) (if undB a b = true then nI b else -1) M := by
  intro a b ha hb
  match a, b, ha, hb with
  | 0, 0, _, _ => rfl
  | 0, 1, _, _ => rfl
  | 0, 2, _, _ => rfl
  | 0, 3, _, _ => rfl
  | 0, 4, _, _ => rfl
  | 0, 5, _, _ => rfl
  | 1, 0, _, _ => rfl
  | 1, 1, _, _ => rfl
  | 1, 2, _, _ => rfl
  | 1, 3, _, _ => rfl
  | 1, 4, _, _ => rfl
  | 1, 5, _, _ => rfl
  | 2, 0, _, _ => rfl
  | 2, 1, _, _ => rfl
  | 2, 2, _, _ => rfl
  | 2, 3, _, _ => rfl
  | 2, 4, _, _ => rfl
  | 2, 5, _, _ => rfl
  | 3, 0, _, _ => rfl
  | 3, 1, _, _ => rfl
  | 3, 2, _, _ => rfl
  | 3, 3, _, _ => rfl
  | 3, 4, _, _ => rfl
  | 3, 5, _, _ => rfl
  | 4, 0, _, _ => rfl
  | 4, 1, _, _ => rfl
  | 4, 2, _, _ => rfl
  | 4, 3, _, _ => rfl
  | 4, 4, _, _ => rfl
  | 4, 5, _, _ => rfl
  | 5, 0, _, _ => rfl
  | 5, 1, _, _ => rfl
  | 5, 2, _, _ => rfl
  | 5, 3, _, _ => rfl
  | 5, 4, _, _ => rfl
  | 5, 5, _, _ => rfl
theorem taken_op {Mc Mm : Mem} (h : Inv Mc Mm) (v1 v2 : Int32) : OpI (f_X8_taken v1 v2) (f_X9_taken v1 v2) Mc Mm := by
  obtain ⟨many, txt, a, b, c, d, e⟩ := id h
  obtain ⟨⟨hS, hP, hR⟩, hm1, hm2, hm6, hh, hr⟩ := id a
  unfold OpI f_X8_taken f_X9_taken
  rw [inC4 (b := 6) (n := 6) rfl (by omega), show (5 : Int64) = (5 : Int32).toInt64 from rfl, inM (n := 6) (by decide)]
  simp only [Option.bind_some, zI_0]
  cases g1 : inR v2 6 with
  | false => rw [bf, ft]; exact ⟨_, _, _, rfl, rfl, h⟩
  | true =>
    rw [bt, tt, hasD hm1 hm6, isD hm2 hm6]
    simp only [Option.bind_some, zI_0]
    cases g2 : inR v1 many with
    | false => rw [bf, bf]; exact ⟨_, _, _, rfl, rfl, h⟩
    | true =>
      rw [bt, bt]
      obtain ⟨y, hy, rfl⟩ := inR_of g1 (by omega)
      obtain ⟨d1, hd1, rfl⟩ := inR_of g2 (by omega)
      obtain ⟨⟨r1, kk, hk, r1b⟩, ⟨r2, n2, hn2, r2b⟩, _⟩ := hR d1 hd1
      rw [inb_nI (show d1 < 6 by omega) (by omega), nI_clamp (show d1 < 2 ^ 31 by omega), r1, r1b, under_eq Mc kk y (by omega) hy, over_eq _ _ _ kk y (by omega) hy]
      simp only [ck_true, Option.bind_some, zI_0]
      unfold f_X9_taken_b51
      cases hu : undB kk y with
      | false =>
        rw [bf, ft, if_neg (show ¬ (-1 : Int32) = nI y from fun hx => nI_pos (n := y) (by omega) (by rw [← hx]; decide))]
        exact ⟨_, _, _, rfl, rfl, h⟩
      | true =>
        rw [bt, tt, if_pos rfl, show (3 : Int32) = nI 3 from rfl, pk_mul, inb_nI (show 3 * d1 < 18 by omega) (by omega), nI_clamp (by omega), r2]
        exact ⟨_, _, _, rfl, rfl, h⟩
/-- only sheets change -/
theorem InvN.sheet {many txt : Nat} {Mc Mm Mc1 Mm1 : Mem} (h : InvN many txt Mc Mm) (hc : ∀ q, (q < 55 ∨ 62 < q) → Mc1 q = Mc q) (hm : ∀ q, (q < 114 ∨ 117 < q) → Mm1 q = Mm q) (hs : ∀ s, s < 4 → ShI Mc1 Mm1 s) : InvN many txt Mc1 Mm1 := by
  obtain ⟨a, b, c, d, e⟩ := h
  refine ⟨?_, ?_, ?_, ?_, hs⟩
  · unfold HouseI
    rw [hc 1 (by omega), hc 2 (by omega), hc 3 (by omega), hc 4 (by omega), hc 5 (by omega), hc 6 (by omega), hc 7 (by omega), hm 100 (by omega), hm 104 (by omega), hm 105 (by omega), hm 106 (by omega), hm 107 (by omega)]
    exact a
  · unfold ImageI KeptI
    rw [hc 0 (by omega), hc 8 (by omega), hc 9 (by omega), hc 10 (by omega), hc 11 (by omega), hc 12 (by omega), hc 13 (by omega), hc 14 (by omega), hm 100 (by omega), hm 111 (by omega), hm 112 (by omega), hm 106 (by omega), hm 113 (by omega)]
    exact b
  · exact c.cg (fun q h1 h2 => hc q (by omega)) (hm 101 (by omega)) (hm 102 (by omega)) (by rw [hm 100 (by omega)])
  · obtain ⟨n, B, d1, d2, d3, d4, d5⟩ := d
    refine ⟨n, B, d1, d2, ⟨?_, fun j hj => ?_⟩, ?_, fun j hj => ?_⟩
    · rw [hc 34 (by omega)]; exact d3.1
    · rw [hc 35 (by omega)]; exact d3.2 j hj
    · rw [hm 100 (by omega)]; exact d4
    · rw [hm 103 (by omega)]; exact d5 j hj
theorem sh_kd : ∀ s, s < 4 → kd (55 + 2 * s) = 5 ∧ kd (55 + 2 * s + 1) = 10 ∧ ln (55 + 2 * s + 1) = 40 := by decide +kernel
theorem become_l {s : Nat} (hs : s < 4) : ∀ m i fuel (M : Mem), i + m = 40 → m < fuel → ∃ M1 : Mem, f_X6_become_l12 fuel (55 + 2 * s) (nI i) M = some M1 ∧ (∀ q, q ≠ 55 + 2 * s + 1 → M1 q = M q) ∧ (∀ j, i ≤ j → j < 40 → M1 (55 + 2 * s + 1) j = 0) ∧ ∀ j, j < i → M1 (55 + 2 * s + 1) j = M (55 + 2 * s + 1) j := by
  obtain ⟨k1, k2, k3⟩ := sh_kd s hs
  intro m
  induction m with
  | zero =>
    intro i fuel M hi hf
    obtain ⟨f, rfl⟩ : ∃ f, fuel = f + 1 := ⟨fuel - 1, by omega⟩
    rw [f_X6_become_l12, if_pos (by rw [show (40 : Int32) = nI 40 from rfl, nIle (by omega) (by omega)]; omega)]
    exact ⟨M, rfl, fun _ _ => rfl, fun j h1 h2 => by omega, fun _ _ => rfl⟩
  | succ m ih =>
    intro i fuel M hi hf
    obtain ⟨f, rfl⟩ : ∃ f, fuel = f + 1 := ⟨fuel - 1, by omega⟩
    rw [f_X6_become_l12, if_neg (by rw [show (40 : Int32) = nI 40 from rfl, nIle (by omega) (by omega)]; omega), k1, k2, k3, inb_nI (show i < 40 by omega) (by omega), nI_clamp (by omega), nIp]
    obtain ⟨M1, e1, e2, e3, e4⟩ := ih (i + 1) f (mu M (55 + 2 * s + 1) i 0) (by omega) (by omega)
    refine ⟨M1, e1, fun q hq => (e2 q hq).trans (mun hq), fun j h1 h2 => ?_, fun j hj => (e4 j (by omega)).trans (mu_o (by omega))⟩
    by_cases ej : j = i
    · rw [ej, e4 i (by omega), mu_at]
    · exact e3 j (by omega) h2
theorem become_eq {s : Nat} (hs : s < 4) (M : Mem) (v1 v2 : Int32) : ∃ M1 : Mem, f_X6_become (55 + 2 * s) v1 v2 M = some M1 ∧ (∀ q, q ≠ 55 + 2 * s → q ≠ 55 + 2 * s + 1 → M1 q = M q) ∧ M1 (55 + 2 * s) 0 = v1 ∧ M1 (55 + 2 * s) 1 = v2 ∧ ∀ j, j < 40 → M1 (55 + 2 * s + 1) j = 0 := by
  obtain ⟨k1, k2, k3⟩ := sh_kd s hs
  obtain ⟨M1, e1, e2, e3, e4⟩ := become_l hs 40 0 FU (mu (mu M (55 + 2 * s) 0 v1) (55 + 2 * s) 1 v2) (by omega) (by have := FU_ge; omega)
  refine ⟨M1, ?_, fun q h1 h2 => ?_, ?_, ?_, fun j hj => e3 j (by omega) hj⟩
  · unfold f_X6_become
    rw [k1, show (0 : Int32) = nI 0 from rfl]
    simp only [beq_self_eq_true, ck_true]
    exact e1
  · rw [e2 q h2, mun h1, mun h1]
  · rw [e2 _ (by omega), mu_o (by omega), mu_at]
  · rw [e2 _ (by omega), mu_at]
theorem sheetM_l {s z : Nat} (hs : s < 4) (hz : z ≤ 40) {v2 : Int32} (h2 : ¬ v2 < 0) : ∀ m i fuel (M : Mem), i + m = z → m < fuel → ∃ M1 : Mem, f_X9_sheet_l77 fuel (nI s) v2 (nI z) (nI i) M = some (1, M1) ∧ (∀ q, q ≠ 117 → M1 q = M q) ∧ (∀ j, i ≤ j → j < z → M1 117 (40 * s + j) = 0) ∧ ∀ j, (j < 40 * s + i ∨ 40 * s + z ≤ j) → M1 117 j = M 117 j := by
  intro m
  induction m with
  | zero =>
    intro i fuel M hi hf
    obtain ⟨f, rfl⟩ : ∃ f, fuel = f + 1 := ⟨fuel - 1, by omega⟩
    rw [f_X9_sheet_l77, if_pos (nI_le (by omega) (by omega))]
    exact ⟨M, rfl, fun _ _ => rfl, fun j h1 h2 => by omega, fun _ _ => rfl⟩
  | succ m ih =>
    intro i fuel M hi hf
    obtain ⟨f, rfl⟩ : ∃ f, fuel = f + 1 := ⟨fuel - 1, by omega⟩
    rw [f_X9_sheet_l77, if_neg (nI_ge (by omega) (by omega)), if_neg h2, show (40 : Int32) = nI 40 from rfl, pk_mul, nI_add, inb_nI (show 40 * s + i < 160 by omega) (by omega), nI_clamp (by omega), nIp]
    obtain ⟨M1, e1, e2, e3, e4⟩ := ih (i + 1) f (mu M 117 (40 * s + i) 0) (by omega) (by omega)
    refine ⟨M1, e1, fun q hq => (e2 q hq).trans (mun hq), fun j h1 h2 => ?_, fun j hj => (e4 j (by omega)).trans (mu_o (by omega))⟩
    by_cases ej : j = i
    · rw [ej, e4 _ (by omega), mu_at]
    · exact e3 j (by omega) h2
theorem sheetM_eq {s so z : Nat} (hs : s < 4) (hso : so < 3) (hz : z ≤ 40) (M : Mem) : ∃ M1 : Mem, f_X9_sheet_b34 (nI s) (nI so) (nI z) M = some (1, M1) ∧ (∀ q, (q < 114 ∨ 117 < q) → M1 q = M q) ∧ M1 114 s = 1 ∧ M1 115 s = nI so ∧ M1 116 s = nI z ∧ (∀ j, j < z → M1 117 (40 * s + j) = 0) ∧ (∀ j, j ≠ s → M1 114 j = M 114 j ∧ M1 115 j = M 115 j ∧ M1 116 j = M 116 j) ∧ ∀ j, (j < 40 * s ∨ 40 * s + 40 ≤ j) → M1 117 j = M 117 j := by
  have n0 : ¬ nI so < 0 := nI_pos (by omega)
  obtain ⟨M1, e1, e2, e3, e4⟩ := sheetM_l hs hz n0 z 0 FU (mu (mu (mu M 114 s 1) 115 s (nI so)) 116 s (nI z)) (by omega) (by have := FU_ge; omega)
  refine ⟨M1, ?_, fun q hq => ?_, ?_, ?_, ?_, fun j hj => e3 j (by omega) hj, fun j hj => ⟨?_, ?_, ?_⟩, fun j hj => ?_⟩
  · unfold f_X9_sheet_b34 f_X9_sheet_b45 f_X9_sheet_b59
    rw [if_neg n0, if_pos (show (0 : Int32) ≤ nI z from by rw [show (0 : Int32) = nI 0 from rfl, nIle (by omega) (by omega)]; omega), if_neg n0, inb_nI hs (by omega), nI_clamp (by omega)]
    exact e1
  · rw [e2 q (by omega), mun (by omega), mun (by omega), mun (by omega)]
  · rw [e2 114 (by omega), mun (by omega), mun (by omega), mu_at]
  · rw [e2 115 (by omega), mun (by omega), mu_at]
  · rw [e2 116 (by omega), mu_at]
  · rw [e2 114 (by omega), mun (by omega), mun (by omega), mu_o hj]
  · rw [e2 115 (by omega), mun (by omega), mu_o hj, mun (by omega)]
  · rw [e2 116 (by omega), mu_o hj, mun (by omega), mun (by omega)]
  · rw [e4 j (by omega), mun (by omega), mun (by omega), mun (by omega)]
/-- a sheet is laid anew, by both -/
theorem layBoth {many txt s so z : Nat} {Mc Mm : Mem} (h : InvN many txt Mc Mm) (hs : s < 4) (hso : so < 3) (hz : z ≤ 40) :
    ∃ Mc1 Mm1 : Mem, f_X6_become (55 + 2 * s) (nI so) (nI z) Mc = some Mc1 ∧ f_X9_sheet_b34 (nI s) (nI so) (nI z) Mm = some (1, Mm1) ∧ InvN many txt Mc1 Mm1 ∧ (∀ q, (q < 55 ∨ 62 < q) → Mc1 q = Mc q) ∧ (∀ q, (q < 114 ∨ 117 < q) → Mm1 q = Mm q) ∧ Mc1 (55 + 2 * s) 0 = nI so ∧ Mc1 (55 + 2 * s) 1 = nI z := by
  obtain ⟨C, c1, c2, c3, c4, c5⟩ := become_eq hs Mc (nI so) (nI z)
  obtain ⟨D, d1, d2, d3, d4, d5, d6, d7, d8⟩ := sheetM_eq hs hso hz Mm
  refine ⟨C, D, c1, d1, h.sheet (fun q hq => c2 q (by omega) (by omega)) d2 (fun s2 hs2 => ?_), (fun q hq => c2 q (by omega) (by omega)), d2, c3, c4⟩
  by_cases es : s2 = s
  · subst es
    refine Or.inr ⟨so, z, hso, hz, c3, d4, c4, d5, d3, fun i hi => ?_⟩
    rw [d6 i hi, show 56 + 2 * s2 = 55 + 2 * s2 + 1 by omega, c5 i (by omega)]
  · have := h.2.2.2.2 s2 hs2
    unfold ShI at this ⊢
    obtain ⟨x1, x2, x3⟩ := d7 s2 es
    rw [c2 (55 + 2 * s2) (by omega) (by omega), c2 (56 + 2 * s2) (by omega) (by omega), x1, x2, x3]
    rcases this with t | ⟨so2, z2, t1, t2, t3, t4, t5, t6, t7, t8⟩
    · exact Or.inl t
    · exact Or.inr ⟨so2, z2, t1, t2, t3, t4, t5, t6, t7, fun i hi => by rw [d8 _ (by omega)]; exact t8 i hi⟩
theorem sheet_op {Mc Mm : Mem} (h : Inv Mc Mm) (v1 v2 v3 : Int32) : OpI (f_X8_sheet v1 v2 v3) (f_X9_sheet v1 v2 v3) Mc Mm := by
  obtain ⟨many, txt, hN⟩ := id h
  have hN : InvN many txt Mc Mm := hN
  unfold OpI f_X8_sheet f_X9_sheet
  rw [hasS, isS]
  simp only [Option.bind_some, zI_0]
  cases g1 : inR v1 4 with
  | false => rw [bf, bf]; exact ⟨_, _, _, rfl, rfl, h⟩
  | true =>
    rw [bt, bt]
    obtain ⟨s, hs, rfl⟩ := inR_of g1 (by omega)
    obtain ⟨k1, k2, k3⟩ := sh_kd s hs
    rw [show (-1 : Int64) = (-1 : Int32).toInt64 from rfl, show (2 : Int64) = (2 : Int32).toInt64 from rfl, in_eq]
    simp only [Option.bind_some, zI_0]
    rw [inb_nI hs (by omega), nI_clamp (show s < 2 ^ 31 by omega), k1]
    simp only [ck_true, beq_self_eq_true]
    by_cases c1 : v2 < -1
    · rw [decide_eq_true c1, if_pos c1, if_pos (by rfl)]
      exact ⟨_, _, _, rfl, rfl, h⟩
    · rw [decide_eq_false c1, if_neg c1]
      by_cases c2 : (2 : Int32) < v2
      · rw [decide_eq_true c2, if_neg (show ¬ v2 ≤ 2 by rw [i_lt] at c2; rw [i_le]; omega), if_pos (by rfl)]
        exact ⟨_, _, _, rfl, rfl, h⟩
      · rw [decide_eq_false c2, if_pos (show v2 ≤ 2 by rw [i_lt] at c2; rw [i_le]; omega), if_neg (show ¬ ((!false && !false) = false) by decide)]
        by_cases c3 : v2 = -1
        · subst c3
          rw [if_pos rfl, if_pos (by decide)]
          obtain ⟨C, b1, b2, b3, b4, b5⟩ := become_eq hs Mc (-1) 0
          rw [b1]
          simp only [Option.bind_some]
          have md : f_X9_sheet_b34 (nI s) (-1) v3 Mm = some (1, mu (mu (mu Mm 114 s 0) 115 s (-1)) 116 s v3) := by
            unfold f_X9_sheet_b34 f_X9_sheet_b45 f_X9_sheet_b59
            rw [if_pos (by decide), if_pos (by decide), inb_nI hs (by omega), nI_clamp (by omega)]
            obtain ⟨g, hg⟩ : ∃ g, FU = g + 1 := ⟨FU - 1, by have := FU_ge; omega⟩
            rw [hg, f_X9_sheet_l77]
            by_cases c : v3 ≤ 0
            · rw [if_pos c]; rfl
            · rw [if_neg c, if_pos (by decide)]; rfl
          rw [md]
          refine ⟨_, _, _, rfl, rfl, (hN.sheet (fun q hq => b2 q (by omega) (by omega)) (fun q hq => by rw [mun (by omega), mun (by omega), mun (by omega)]) (fun s2 hs2 => ?_)).i⟩
          by_cases es : s2 = s
          · subst es
            exact Or.inl ⟨b3, by rw [mun (by omega), mun (by omega), mu_at]⟩
          · have := hN.2.2.2.2 s2 hs2
            unfold ShI at this ⊢
            rw [b2 (55 + 2 * s2) (by omega) (by omega), b2 (56 + 2 * s2) (by omega) (by omega), mun (show 114 ≠ 116 by omega), mun (show 114 ≠ 115 by omega), mu_o es, mun (show 115 ≠ 116 by omega), mu_o es, mun (show 115 ≠ 114 by omega), mu_o es, mun (show 116 ≠ 115 by omega), mun (show 116 ≠ 114 by omega), mun (show 117 ≠ 116 by omega), mun (show 117 ≠ 115 by omega), mun (show 117 ≠ 114 by omega)]
            exact this
        · rw [if_neg c3]
          have hv2 : inR v2 3 = true := by
            unfold inR
            rw [i_lt] at c1 c2
            rw [i_eq] at c3
            have e1 : (-1 : Int32).toInt = -1 := by decide
            have e2 : (2 : Int32).toInt = 2 := by decide
            exact decide_eq_true ⟨by omega, by omega⟩
          obtain ⟨so, hso, rfl⟩ := inR_of hv2 (by omega)
          rw [if_neg (show ¬ nI so < 0 from nI_pos (by omega))]
          by_cases c4 : v3 ≤ 40
          · rw [if_pos c4, if_pos c4]
            by_cases c5 : (0 : Int32) ≤ v3
            · rw [if_pos c5]
              have hz : inR v3 41 = true := by
                unfold inR
                rw [i_le] at c4 c5
                have e1 : (0 : Int32).toInt = 0 := by decide
                have e2 : (40 : Int32).toInt = 40 := by decide
                exact decide_eq_true ⟨by omega, by omega⟩
              obtain ⟨z, hz, rfl⟩ := inR_of hz (by omega)
              obtain ⟨C, D, b1, b2, b3, _⟩ := layBoth hN hs hso (show z ≤ 40 by omega)
              rw [b1, b2]
              exact ⟨_, _, _, rfl, rfl, b3.i⟩
            · rw [if_neg c5]
              refine ⟨_, _, _, rfl, ?_, h⟩
              unfold f_X9_sheet_b34
              rw [if_neg (show ¬ nI so < 0 from nI_pos (by omega)), if_neg c5]
          · rw [if_neg c4, if_neg c4]
            exact ⟨_, _, _, rfl, rfl, h⟩
