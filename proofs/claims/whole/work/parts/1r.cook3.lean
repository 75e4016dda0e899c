/-! COOK, both -/
def InvN (many txt : Nat) (Mc Mm : Mem) : Prop := HouseI Mc Mm many txt ∧ ImageI Mc Mm many txt ∧ TextI Mc Mm txt ∧ TapeI Mc Mm ∧ ∀ s, s < 4 → ShI Mc Mm s
theorem InvN.i {many txt : Nat} {Mc Mm : Mem} (h : InvN many txt Mc Mm) : Inv Mc Mm := ⟨many, txt, h⟩
theorem InvN.sc {many txt : Nat} {Mc Mm Mc1 Mm1 : Mem} (h : InvN many txt Mc Mm) (kc : KC Mc Mc1) (km : KM Mm Mm1) : InvN many txt Mc1 Mm1 := by
  obtain ⟨a, b, c, d, e⟩ := h
  refine ⟨?_, ?_, ?_, ?_, ?_⟩
  · unfold HouseI
    rw [kc 1 (by omega), kc 2 (by omega), kc 3 (by omega), kc 4 (by omega), kc 5 (by omega), kc 6 (by omega), kc 7 (by omega), km.1 105 (by omega) (by omega) (by omega) (by omega) (by omega), km.1 106 (by omega) (by omega) (by omega) (by omega) (by omega), km.1 107 (by omega) (by omega) (by omega) (by omega) (by omega), km.2.2 12 (by omega), km.2.2 7 (by omega), km.2.2 4 (by omega)]
    exact ⟨a.1.cg km.2.1, a.2⟩
  · unfold ImageI KeptI
    rw [kc 0 (by omega), kc 8 (by omega), kc 9 (by omega), kc 10 (by omega), kc 11 (by omega), kc 12 (by omega), kc 13 (by omega), kc 14 (by omega), km.1 111 (by omega) (by omega) (by omega) (by omega) (by omega), km.1 112 (by omega) (by omega) (by omega) (by omega) (by omega), km.1 106 (by omega) (by omega) (by omega) (by omega) (by omega), km.1 113 (by omega) (by omega) (by omega) (by omega) (by omega), km.2.2 42 (by omega), km.2.2 43 (by omega), km.2.2 44 (by omega)]
    exact b
  · exact c.cg (fun q h1 _ => kc q (by omega)) (km.1 101 (by omega) (by omega) (by omega) (by omega) (by omega)) (km.1 102 (by omega) (by omega) (by omega) (by omega) (by omega)) (km.2.2 3 (by omega))
  · obtain ⟨n, B, d1, d2, d3, d4, d5⟩ := d
    refine ⟨n, B, d1, d2, ⟨?_, fun j hj => ?_⟩, ?_, fun j hj => ?_⟩
    · rw [kc 34 (by omega)]; exact d3.1
    · rw [kc 35 (by omega)]; exact d3.2 j hj
    · rw [km.2.2 6 (by omega)]; exact d4
    · rw [km.1 103 (by omega) (by omega) (by omega) (by omega) (by omega)]; exact d5 j hj
  · intro s hs
    have := e s hs
    unfold ShI at this ⊢
    rw [kc _ (by omega), kc _ (by omega), km.1 114 (by omega) (by omega) (by omega) (by omega) (by omega), km.1 115 (by omega) (by omega) (by omega) (by omega) (by omega), km.1 116 (by omega) (by omega) (by omega) (by omega) (by omega), km.1 117 (by omega) (by omega) (by omega) (by omega) (by omega)]
    exact this
theorem within999 {x : Nat} (h : x ≤ 999) (M : Mem) : f_X9_within (nI x + 1) 0 999 M = some (jmin 999 (nI x + 1), M) ∧ B99 (jmin 999 (nI x + 1)) 999 := by
  rw [nIp]
  unfold f_X9_within jmin
  rw [if_pos (show (0 : Int32) ≤ nI (x + 1) by rw [show (0 : Int32) = nI 0 from rfl, nIle (by omega) (by omega)]; omega), show (999 : Int32) = nI 999 from rfl]
  by_cases c : x + 1 ≤ 999
  · rw [if_pos (by rw [nIle (by omega) (by omega)]; exact c)]
    by_cases c2 : x + 1 < 999
    · rw [if_pos (by rw [nIlt (by omega) (by omega)]; exact c2)]
      exact ⟨rfl, x + 1, c, rfl⟩
    · rw [if_neg (by rw [nIlt (by omega) (by omega)]; exact c2), show x + 1 = 999 by omega]
      exact ⟨rfl, 999, by omega, rfl⟩
  · rw [if_neg (by rw [nIle (by omega) (by omega)]; exact c), if_neg (by rw [nIlt (by omega) (by omega)]; omega)]
    exact ⟨rfl, 999, by omega, rfl⟩
/-- one more of a dish is counted -/
theorem countBoth {Mc Mm : Mem} {many txt d : Nat} (a : HouseI Mc Mm many txt) (hd : d < many) : ∃ x : Int32, B99 x 999 ∧ f_X1_countCooked (nI d) Mc = some (mu Mc 7 d x) ∧ f_X9_counts (nI d) Mm = some (mu Mm 107 (3 * d + 2) x) := by
  obtain ⟨⟨hS, hP, hR⟩, hm1, hm2, hm6, hh, hr⟩ := a
  obtain ⟨r1, r2, r3, ⟨r4, n4, hn4, r4b⟩⟩ := hR d hd
  obtain ⟨w1, w2⟩ := within999 hn4 Mm
  refine ⟨jmin 999 (nI n4 + 1), w2, ?_, ?_⟩
  · unfold f_X1_countCooked
    rw [inb_nI (show d < 6 by omega) (by omega), nI_clamp (by omega), r4b]
    rfl
  · unfold f_X9_counts
    rw [show (3 : Int32) = nI 3 from rfl, show (2 : Int32) = nI 2 from rfl, pk_mul, nI_add, inb_nI (show 3 * d + 2 < 18 by omega) (by omega), nI_clamp (by omega), r4, r4b, w1]
    rfl
theorem InvN.count {many txt d : Nat} {Mc Mm : Mem} (h : InvN many txt Mc Mm) (hd : d < many) {x : Int32} (hx : B99 x 999) : InvN many txt (mu Mc 7 d x) (mu Mm 107 (3 * d + 2) x) := by
  obtain ⟨a, b, c, dd, e⟩ := h
  obtain ⟨⟨hS, hP, hR⟩, hm1, hm2, hm6, hh, hr⟩ := id a
  refine ⟨⟨⟨fun j hj => ?_, fun j hj => ?_, fun j hj => ?_⟩, ?_⟩, ?_, ?_, ?_, fun s hs => ?_⟩
  · rw [mun (by omega), mun (by omega)]; exact hS j hj
  · rw [mun (by omega), mun (by omega)]; exact hP j hj
  · obtain ⟨r1, r2, r3, r4⟩ := hR j hj
    rw [mun (show 4 ≠ 7 by omega), mun (show 5 ≠ 7 by omega), mun (show 6 ≠ 7 by omega), mun (show 106 ≠ 107 by omega), mu_o (show 3 * j ≠ 3 * d + 2 by omega), mu_o (show 3 * j + 1 ≠ 3 * d + 2 by omega)]
    refine ⟨r1, r2, r3, ?_⟩
    by_cases ej : j = d
    · rw [ej, mu_at, mu_at]; exact ⟨rfl, hx⟩
    · rw [mu_o ej, mu_o (show 3 * j + 2 ≠ 3 * d + 2 by omega)]; exact r4
  · rw [mun (by omega), mun (by omega)]; exact ⟨hm1, hm2, hm6, hh, hr⟩
  · unfold ImageI KeptI
    rw [mun (show 0 ≠ 7 by omega), mun (show 8 ≠ 7 by omega), mun (show 9 ≠ 7 by omega), mun (show 10 ≠ 7 by omega), mun (show 11 ≠ 7 by omega), mun (show 12 ≠ 7 by omega), mun (show 13 ≠ 7 by omega), mun (show 14 ≠ 7 by omega), mun (show 100 ≠ 107 by omega), mun (show 111 ≠ 107 by omega), mun (show 112 ≠ 107 by omega), mun (show 106 ≠ 107 by omega), mun (show 113 ≠ 107 by omega)]
    exact b
  · exact c.cg (fun q h1 h2 => mun (by omega)) (mun (by omega)) (mun (by omega)) (by rw [mun (by omega)])
  · obtain ⟨n, B, d1, d2, d3, d4, d5⟩ := dd
    refine ⟨n, B, d1, d2, ⟨?_, fun j hj => ?_⟩, ?_, fun j hj => ?_⟩
    · rw [mun (by omega)]; exact d3.1
    · rw [mun (by omega)]; exact d3.2 j hj
    · rw [mun (by omega)]; exact d4
    · rw [mun (by omega)]; exact d5 j hj
  · have := e s hs
    unfold ShI at this ⊢
    rw [mun (show 55 + 2 * s ≠ 7 by omega), mun (show 56 + 2 * s ≠ 7 by omega), mun (show 114 ≠ 107 by omega), mun (show 115 ≠ 107 by omega), mun (show 116 ≠ 107 by omega), mun (show 117 ≠ 107 by omega)]
    exact this
/-- the stores change alike -/
theorem InvN.store {many txt : Nat} {Mc Mm Mc1 Mm1 : Mem} (h : InvN many txt Mc Mm) (hc : ∀ q, q ≠ 2 → Mc1 q = Mc q) (hm : ∀ q, q ≠ 104 → Mm1 q = Mm q) (hs : ∀ j, j < 12 → Mm1 104 j = Mc1 2 j ∧ B99 (Mc1 2 j) 99) : InvN many txt Mc1 Mm1 := by
  obtain ⟨a, b, c, d, e⟩ := h
  obtain ⟨⟨hS, hP, hR⟩, hm1, hm2, hm6, hh, hr⟩ := id a
  refine ⟨⟨⟨hs, fun j hj => ?_, fun j hj => ?_⟩, ?_⟩, ?_, ?_, ?_, fun s hs => ?_⟩
  · rw [hc 3 (by omega), hm 105 (by omega)]; exact hP j hj
  · rw [hc 4 (by omega), hc 5 (by omega), hc 6 (by omega), hc 7 (by omega), hm 106 (by omega), hm 107 (by omega)]; exact hR j hj
  · rw [hc 1 (by omega), hm 100 (by omega)]; exact ⟨hm1, hm2, hm6, hh, hr⟩
  · unfold ImageI KeptI
    rw [hc 0 (by omega), hc 8 (by omega), hc 9 (by omega), hc 10 (by omega), hc 11 (by omega), hc 12 (by omega), hc 13 (by omega), hc 14 (by omega), hm 100 (by omega), hm 111 (by omega), hm 112 (by omega), hm 106 (by omega), hm 113 (by omega)]
    exact b
  · exact c.cg (fun q h1 h2 => hc q (by omega)) (hm 101 (by omega)) (hm 102 (by omega)) (by rw [hm 100 (by omega)])
  · obtain ⟨n, B, d1, d2, d3, d4, d5⟩ := d
    refine ⟨n, B, d1, d2, ⟨?_, fun j hj => ?_⟩, ?_, fun j hj => ?_⟩
    · rw [hc 34 (by omega)]; exact d3.1
    · rw [hc 35 (by omega)]; exact d3.2 j hj
    · rw [hm 100 (by omega)]; exact d4
    · rw [hm 103 (by omega)]; exact d5 j hj
  · have := e s hs
    unfold ShI at this ⊢
    rw [hc _ (by omega), hc _ (by omega), hm 114 (by omega), hm 115 (by omega), hm 116 (by omega), hm 117 (by omega)]
    exact this
theorem kCk_can {t : Tk} {k : Nat} {st : Nat → Int32} (h : kCk t k st = true) : kCan t k st = true := (Bool.and_eq_true_iff.mp h).1
theorem cook_op {Mc Mm : Mem} (h : Inv Mc Mm) (v1 v2 : Int32) : OpI (f_X8_cook v1 v2) (f_X9_cook v1 v2) Mc Mm := by
  obtain ⟨many, txt, hN⟩ := id h
  have hN : InvN many txt Mc Mm := hN
  obtain ⟨a, b, c, d, e⟩ := id hN
  obtain ⟨hs0, hm1, hm2, hm6, hh, hr⟩ := id a
  unfold OpI f_X8_cook f_X9_cook
  rw [hasD hm1 hm6, isD hm2 hm6]
  simp only [Option.bind_some, zI_0]
  cases g1 : inR v1 many with
  | false => rw [bf, bf]; exact ⟨_, _, _, rfl, rfl, h⟩
  | true =>
    rw [bt, bt, hasK, isK]
    simp only [Option.bind_some, zI_0]
    cases g2 : inR v2 2 with
    | false => rw [bf, bf]; exact ⟨_, _, _, rfl, rfl, h⟩
    | true =>
      rw [bt, bt]
      obtain ⟨d1, hd1, rfl⟩ := inR_of g1 (by omega)
      obtain ⟨k, hk, rfl⟩ := inR_of g2 (by omega)
      obtain ⟨t, tm, tc, bb, hb⟩ := tkBoth a c hd1
      have hst : ∀ j, j < 12 → Mm 104 j = Mc 2 j := fun j hj => (hs0.1 j hj).1
      obtain ⟨M1, x1, x2, x3⟩ := tc Mc (KC.refl Mc)
      have st1 : M1 2 = Mc 2 := x3 2 (by omega)
      obtain ⟨M2, y1, y2, y3, y4, y5, y6⟩ := isCooked_eq (t := t) (k := k) (q := 2) hk x2 (Or.inl rfl)
      rw [st1] at y1 y4 y5 y6
      have kc2 : KC Mc M2 := x3.kc.tr y3.kc
      rw [x1]
      simp only [Option.bind_some]
      rw [y1]
      simp only [Option.bind_some, zI_0]
      rw [canBe_eq (by omega) hk tm, kCan_cg hk hst]
      simp only [Option.bind_some, zI_0]
      obtain ⟨Mm1, w1, w2⟩ := isRatified_eq (by omega) hk tm
      cases hcan : kCan t k (Mc 2) with
      | false =>
        have hck : kCk t k (Mc 2) = false := by unfold kCk; rw [hcan]; rfl
        rw [hck, bf, bf, y4, hcan]
        exact ⟨_, _, _, rfl, rfl, (hN.sc kc2 (KM.refl Mm)).i⟩
      | true =>
        rw [bt, w1]
        simp only [Option.bind_some, zI_0]
        have hrat : kCk t k (Mc 2) = kRat t k (Mm 104) := by rw [← kCk_cg hk hst, kCk_eq, kCan_cg hk hst, hcan]; rfl
        rw [hrat]
        cases hr1 : kRat t k (Mm 104) with
        | false =>
          rw [bf, bf, y4, hcan]
          exact ⟨_, _, _, rfl, rfl, (hN.sc kc2 w2.km).i⟩
        | true =>
          rw [bt, bt]
          have tm1 := tm.sm w2
          obtain ⟨Mm2, u1, u2⟩ := feedsOf_eq (by omega) hk tm1
          have tm2 := tm1.sm u2
          obtain ⟨Mm3, o1, o2⟩ := tollOf_eq (by omega) hk tm2
          have tm3 := tm2.sm o2
          obtain ⟨Mm4, i1, i2, i3⟩ := uses_eq (by omega) hk tm3
          have m2 : Mm2 104 = Mm 104 := by rw [u2.1 104 (by omega), w2.1 104 (by omega)]
          have m3 : Mm3 104 = Mm 104 := by rw [o2.1 104 (by omega), m2]
          obtain ⟨M3, j1, j2, j3⟩ := useUp_eq (M := M2) (t := t) (k := k) (q := 2) hk (Or.inl rfl) y2.2.2.2.2.1 (fun i hi => by rw [y6 i hi, y3 2 (by omega), st1])
          have m22 : M2 2 = Mc 2 := by rw [y3 2 (by omega), st1]
          rw [m22] at j2
          have hN2 : InvN many txt M2 Mm3 := hN.sc kc2 ((w2.km.tr u2.km).tr o2.km)
          have hN3 : InvN many txt M3 Mm4 := hN2.store j3 i3 (fun j hj => by
            rw [i2 j hj, j2 j hj, m3]
            exact ⟨kUse_cg hk hst j hj, kUse_B hb (fun j hj => (hs0.1 j hj).2) hk hcan j hj⟩)
          obtain ⟨x, hx, c1, c2⟩ := countBoth hN3.1 hd1
          rw [u1, j1]
          simp only [Option.bind_some]
          rw [o1, c1]
          simp only [Option.bind_some]
          rw [i1]
          simp only [Option.bind_some]
          rw [c2]
          simp only [Option.bind_some, worth_eq]
          obtain ⟨f1, f2⟩ := y5 hcan
          refine ⟨kFed t k - kToll t k (Mc 2), _, _, ?_, ?_, (hN3.count hd1 hx).i⟩
          · rw [mun (by omega), j3 36 (by omega), f1, f2]
          · rw [m2, kToll_cg hk hst]
