/-! TOLD, SET, DISH, FORCE, FEED, COUNT -/
def OpI (fc fm : Mem → Option (Int32 × Mem)) (Mc Mm : Mem) : Prop := ∃ (r : Int32) (Mc1 Mm1 : Mem), fc Mc = some (r, Mc1) ∧ fm Mm = some (r, Mm1) ∧ Inv Mc1 Mm1
theorem Inv.hs {Mc Mm Mc1 Mm1 : Mem} {many many1 txt : Nat} (b : ImageI Mc Mm many txt) (c : TextI Mc Mm txt) (d : TapeI Mc Mm) (e : ∀ s, s < 4 → ShI Mc Mm s) (hc : ∀ q, (q < 1 ∨ 7 < q) → Mc1 q = Mc q) (hm : ∀ q, q ≠ 100 → q ≠ 104 → q ≠ 105 → q ≠ 106 → q ≠ 107 → Mm1 q = Mm q) (hk : ∀ j, j < many → Mm1 106 j = Mm 106 j) (hs : ∀ j, j ≠ 4 → j ≠ 7 → j ≠ 12 → Mm1 100 j = Mm 100 j) (hle : many ≤ many1) (a : HouseI Mc1 Mm1 many1 txt) : Inv Mc1 Mm1 := by
  refine ⟨many1, txt, a, ?_, ?_, ?_, ?_⟩
  · rcases b with ⟨b1, b2⟩ | ⟨b1, k, hk1, b2, b3⟩
    · exact Or.inl ⟨by rw [hc 0 (by omega)]; exact b1, by rw [hs 42 (by omega) (by omega) (by omega)]; exact b2⟩
    · refine Or.inr ⟨by rw [hc 0 (by omega)]; exact b1, k, by omega, ?_⟩
      unfold KeptI
      rw [hc 8 (by omega), hc 9 (by omega), hc 10 (by omega), hc 11 (by omega), hc 12 (by omega), hc 13 (by omega), hc 14 (by omega), hm 111 (by omega) (by omega) (by omega) (by omega) (by omega), hm 112 (by omega) (by omega) (by omega) (by omega) (by omega), hm 113 (by omega) (by omega) (by omega) (by omega) (by omega), hs 42 (by omega) (by omega) (by omega), hs 43 (by omega) (by omega) (by omega), hs 44 (by omega) (by omega) (by omega)]
      refine ⟨⟨b2.1, b2.2.1, fun d hd => ?_⟩, b3⟩
      obtain ⟨x1, x2⟩ := b2.2.2 d hd
      exact ⟨⟨(hk d (by omega)).trans x1.1, x1.2⟩, x2⟩
  · exact c.cg (fun q h1 h2 => hc q (by omega)) (hm 101 (by omega) (by omega) (by omega) (by omega) (by omega)) (hm 102 (by omega) (by omega) (by omega) (by omega) (by omega)) (hs 3 (by omega) (by omega) (by omega))
  · obtain ⟨n, B, d1, d2, d3, d4, d5⟩ := d
    refine ⟨n, B, d1, d2, ⟨?_, fun j hj => ?_⟩, ?_, fun j hj => ?_⟩
    · rw [hc 34 (by omega)]; exact d3.1
    · rw [hc 35 (by omega)]; exact d3.2 j hj
    · rw [hs 6 (by omega) (by omega) (by omega)]; exact d4
    · rw [hm 103 (by omega) (by omega) (by omega) (by omega) (by omega)]; exact d5 j hj
  · intro s hs
    have := e s hs
    unfold ShI at this ⊢
    rw [hc _ (by omega), hc _ (by omega), hm 114 (by omega) (by omega) (by omega) (by omega) (by omega), hm 115 (by omega) (by omega) (by omega) (by omega) (by omega), hm 116 (by omega) (by omega) (by omega) (by omega) (by omega), hm 117 (by omega) (by omega) (by omega) (by omega) (by omega)]
    exact this
theorem ne_of_inR {v : Int32} {n k : Nat} (h : inR v n = false) (hk : k < n) (hn : n < 2 ^ 31) : v ≠ nI k := fun e => by rw [e, inR_nI hk hn] at h; cases h
theorem toldAny {Mc Mm : Mem} {many txt : Nat} (h : HouseI Mc Mm many txt) (v w : Int32) : ∃ x, f_X8_told v w Mc = some (x, Mc) ∧ f_X9_told v w Mm = some (x, Mm) := by
  cases hw : inR w 9 with
  | true =>
    obtain ⟨k, hk, rfl⟩ := inR_of hw (by omega)
    obtain ⟨b, x, h1, h2, h3, h4⟩ := toldBoth h v hk
    exact ⟨_, h1, h3⟩
  | false =>
    have ne := fun k (hk : k < 9) => ne_of_inR (k := k) hw hk (by omega)
    have n0 : w ≠ 0 := ne 0 (by omega)
    have n1 : w ≠ 1 := ne 1 (by omega)
    have n2 : w ≠ 2 := ne 2 (by omega)
    have n3 : w ≠ 3 := ne 3 (by omega)
    have n4 : w ≠ 4 := ne 4 (by omega)
    have n5 : w ≠ 5 := ne 5 (by omega)
    have n6 : w ≠ 6 := ne 6 (by omega)
    have n7 : w ≠ 7 := ne 7 (by omega)
    have n8 : w ≠ 8 := ne 8 (by omega)
    have hm1 := h.2.1
    have hm6 := h.2.2.2.1
    refine ⟨-1000, ?_, ?_⟩
    · unfold f_X8_told
      rw [if_neg n0, if_neg n1, if_neg n2, if_neg n8, hasD hm1 hm6]
      simp only [Option.bind_some]
      cases inR v many with
      | false => rw [if_pos (by decide)]
      | true =>
        rw [if_neg (by decide)]
        unfold f_X8_toldOfDish
        rw [if_neg n3, if_neg n4, if_neg n5, if_neg n6, if_neg n7]
        rfl
    · unfold f_X9_told
      rw [show (8 : Int64) = (8 : Int32).toInt64 from rfl, inM (n := 9) (by decide), hw]
      simp only [Option.bind_some]
      rw [if_pos (by decide)]
theorem told_op {Mc Mm : Mem} (h : Inv Mc Mm) (v w : Int32) : OpI (f_X8_told v w) (f_X9_told v w) Mc Mm := by
  obtain ⟨many, txt, a, _⟩ := id h
  obtain ⟨x, h1, h2⟩ := toldAny a v w
  exact ⟨x, Mc, Mm, h1, h2, h⟩
theorem B99.nI {x n : Nat} (h : x ≤ n) : B99 (nI x) n := ⟨x, h, rfl⟩
theorem set_op {Mc Mm : Mem} (h : Inv Mc Mm) (v1 v2 v3 : Int32) : OpI (f_X8_set v1 v2 v3) (f_X9_set v1 v2 v3) Mc Mm := by
  obtain ⟨many, txt, a, b, c, d, e⟩ := id h
  obtain ⟨x0, t1, t2⟩ := toldAny a v2 v1
  unfold OpI f_X8_set f_X9_set
  rw [t1, show (4 : Int64) = (4 : Int32).toInt64 from rfl, inM (n := 5) (by decide)]
  simp only [Option.bind_some, zI_0]
  cases hv : inR v1 5 with
  | false =>
    rw [if_pos rfl]
    refine ⟨-1000, Mc, Mm, ?_, rfl, h⟩
    by_cases c0 : v1 < 0
    · rw [if_pos c0]
    · rw [if_neg c0, if_pos]
      unfold inR at hv
      have hv := of_decide_eq_false hv
      rw [i_lt] at c0 ⊢
      have : (0 : Int32).toInt = 0 := rfl
      have : (4 : Int32).toInt = 4 := rfl
      omega
  | true =>
    obtain ⟨k, hk, rfl⟩ := inR_of hv (by omega)
    obtain ⟨bb, x, h1, h2, h3, h4⟩ := toldBoth a v2 (show k < 9 by omega)
    rw [t1] at h1
    have c4 : ¬ (4 : Int32) < nI k := by rw [show (4 : Int32) = nI 4 from rfl, nIlt (by omega) (by omega)]; omega
    rw [if_neg (show ¬ (true = false) by decide), if_neg (show ¬ nI k < 0 from nI_pos (by omega)), if_neg c4, h2]
    simp only [Option.bind_some, zI_0]
    cases bb with
    | false =>
      have : x0 = -1000 := by have := Option.some.inj h1; exact congrArg Prod.fst this
      rw [if_pos this, if_pos rfl]
      exact ⟨_, _, _, rfl, rfl, h⟩
    | true =>
      obtain ⟨p0, p1, p2, p3⟩ := h4 rfl
      obtain ⟨n0, hn0, rfl⟩ := p0 (by omega)
      have hx0 : x0 = nI n0 := by have := Option.some.inj h1; exact congrArg Prod.fst this
      rw [hx0, if_neg (by intro hx; exact nI_pos hn0 (by rw [hx]; decide)), if_neg (show ¬ (true = false) by decide)]
      -- how much it may be
      have key : ∃ m, m ≤ 999999 ∧ f_X8_mostOf (nI k) Mc = some (nI m, Mc) ∧ f_X9_mostOf (nI k) Mm = some (nI m, Mm) ∧ (k = 0 → m = 999) ∧ (k = 1 → m = 99) ∧ (k = 2 → m = 99) ∧ (k = 3 → m = 9) ∧ (k = 4 → m = 999999) := by
        have : k = 0 ∨ k = 1 ∨ k = 2 ∨ k = 3 ∨ k = 4 := by omega
        rcases this with rfl | rfl | rfl | rfl | rfl
        · exact ⟨999, by omega, rfl, rfl, by omega, by omega, by omega, by omega, by omega⟩
        · exact ⟨99, by omega, rfl, rfl, by omega, by omega, by omega, by omega, by omega⟩
        · exact ⟨99, by omega, rfl, rfl, by omega, by omega, by omega, by omega, by omega⟩
        · exact ⟨9, by omega, rfl, rfl, by omega, by omega, by omega, by omega, by omega⟩
        · exact ⟨999999, by omega, rfl, rfl, by omega, by omega, by omega, by omega, by omega⟩
      obtain ⟨m, hm, k1, k2, k3⟩ := key
      rw [k1, k2]
      simp only [Option.bind_some]
      rw [inM (n := m + 1) (by rw [i_nI (by omega)]; omega)]
      simp only [Option.bind_some, zI_0]
      have cls : ∀ (X Y : Option (Int32 × Mem)), (if v3 < 0 then X else if v3 ≤ nI m then Y else X) = if inR v3 (m + 1) = true then Y else X := by
        intro X Y
        unfold inR
        simp only [decide_eq_true_eq, i_lt, i_le, i_nI (show m < 2 ^ 31 by omega), show (0 : Int32).toInt = 0 from rfl]
        by_cases c : v3.toInt < 0
        · rw [if_pos c, if_neg (by omega)]
        · rw [if_neg c]
          by_cases c2 : v3.toInt ≤ (m : Int)
          · rw [if_pos c2, if_pos (by omega)]
          · rw [if_neg c2, if_neg (by omega)]
      rw [cls]
      cases hv3 : inR v3 (m + 1) with
      | false =>
        rw [if_neg (show ¬ (false = true) by decide), if_pos rfl]
        exact ⟨_, _, _, rfl, rfl, h⟩
      | true =>
        obtain ⟨y, hy, rfl⟩ := inR_of hv3 (by omega)
        rw [if_pos rfl, if_neg (show ¬ (true = false) by decide), h3]
        simp only [Option.bind_some, if_true]
        obtain ⟨⟨hS, hP, hR⟩, hm1, hm2, hm6, hh, hr⟩ := id a
        unfold f_X9_lays
        have : k = 0 ∨ k = 1 ∨ k = 2 ∨ k = 3 ∨ k = 4 := by omega
        rcases this with rfl | rfl | rfl | rfl | rfl
        · have em := k3.1 rfl
          rw [if_pos (by decide), if_pos (by decide)]
          refine ⟨_, _, _, rfl, rfl, Inv.hs b c d e (fun q hq => mun (by omega)) (fun q q1 q2 q3 q4 q5 => mun q1) (fun j hj => by rw [mun (by omega)]) (fun j j1 j2 j3 => mu_o j2) (Nat.le_refl _) ?_⟩
          refine ⟨⟨fun j hj => ?_, fun j hj => ?_, fun j hj => ?_⟩, ?_, ?_, hm6, ⟨?_, ?_⟩, ?_⟩
          · rw [mun (by omega), mun (by omega)]; exact hS j hj
          · rw [mun (by omega), mun (by omega)]; exact hP j hj
          · rw [mun (by omega), mun (by omega), mun (by omega), mun (by omega), mun (by omega), mun (by omega)]; exact hR j hj
          · rw [mu_o (by omega)]; exact hm1
          · rw [mu_o (by omega)]; exact hm2
          · rw [mu_at, mu_at]
          · rw [mu_at]; exact B99.nI (by omega)
          · rw [mu_o (by omega), mu_o (by omega)]; exact hr
        · have em := k3.2.1 rfl
          obtain ⟨a1, p, ha1, hp, rfl⟩ := p1 rfl
          have dv : nI (10 * a1 + p) / 10 = nI a1 := by rw [show (10 : Int32) = nI 10 from rfl, pk_div (by omega) (by omega) (by omega)]; congr 1; omega
          have rm : jrem (nI (10 * a1 + p)) 10 = nI p := by rw [show (10 : Int32) = nI 10 from rfl, jrem_nI (by omega) (by omega) (by omega)]; congr 1; omega
          rw [if_neg (by decide), if_pos (by decide), if_neg (by decide), if_pos (by decide)]
          unfold f_X8_placeOf
          simp only [Option.bind_some]
          rw [dv, rm, show (6 : Int32) = nI 6 from rfl, pk_mul, pk_mul, nI_add, nI_add, inb_nI (by omega) (by omega), inb_nI (by omega) (by omega), nI_clamp (by omega), nI_clamp (by omega), Nat.mul_comm a1 6]
          refine ⟨_, _, _, rfl, rfl, Inv.hs b c d e (fun q hq => mun (by omega)) (fun q q1 q2 q3 q4 q5 => mun q2) (fun j hj => by rw [mun (by omega)]) (fun j j1 j2 j3 => by rw [mun (by omega)]) (Nat.le_refl _) ?_⟩
          refine ⟨⟨fun j hj => ?_, fun j hj => ?_, fun j hj => ?_⟩, ?_⟩
          · by_cases ej : j = 6 * a1 + p
            · rw [ej, mu_at, mu_at]; exact ⟨rfl, B99.nI (by omega)⟩
            · rw [mu_o ej, mu_o ej]; exact hS j hj
          · rw [mun (by omega), mun (by omega)]; exact hP j hj
          · rw [mun (by omega), mun (by omega), mun (by omega), mun (by omega), mun (by omega), mun (by omega)]; exact hR j hj
          · rw [mun (by omega), mun (by omega)]; exact ⟨hm1, hm2, hm6, hh, hr⟩
        · have em := k3.2.2.1 rfl
          obtain ⟨a1, ha1, rfl⟩ := p2 rfl
          rw [if_neg (by decide), if_neg (by decide), if_pos (by decide), if_neg (by decide), if_neg (by decide), if_pos (by decide), inb_nI ha1 (by omega), nI_clamp (by omega)]
          refine ⟨_, _, _, rfl, rfl, Inv.hs b c d e (fun q hq => mun (by omega)) (fun q q1 q2 q3 q4 q5 => mun q3) (fun j hj => by rw [mun (by omega)]) (fun j j1 j2 j3 => by rw [mun (by omega)]) (Nat.le_refl _) ?_⟩
          refine ⟨⟨fun j hj => ?_, fun j hj => ?_, fun j hj => ?_⟩, ?_⟩
          · rw [mun (by omega), mun (by omega)]; exact hS j hj
          · by_cases ej : j = a1
            · rw [ej, mu_at, mu_at]; exact ⟨rfl, B99.nI (by omega)⟩
            · rw [mu_o ej, mu_o ej]; exact hP j hj
          · rw [mun (by omega), mun (by omega), mun (by omega), mun (by omega), mun (by omega), mun (by omega)]; exact hR j hj
          · rw [mun (by omega), mun (by omega)]; exact ⟨hm1, hm2, hm6, hh, hr⟩
        · have em := k3.2.2.2.1 rfl
          obtain ⟨d1, hd1, rfl⟩ := p3 (by omega) (by omega)
          rw [if_neg (by decide), if_neg (by decide), if_neg (by decide), if_pos (by decide), if_neg (by decide), if_neg (by decide), if_neg (by decide), if_neg (by decide), inb_nI (show d1 < 6 by omega) (by omega), nI_clamp (show d1 < 2 ^ 31 by omega), show (3 : Int32) = nI 3 from rfl, pk_mul, nI_add, pk_sub (by omega), Nat.add_sub_cancel, inb_nI (by omega) (by omega), nI_clamp (by omega)]
          refine ⟨_, _, _, rfl, rfl, Inv.hs b c d e (fun q hq => mun (by omega)) (fun q q1 q2 q3 q4 q5 => mun q5) (fun j hj => by rw [mun (by omega)]) (fun j j1 j2 j3 => by rw [mun (by omega)]) (Nat.le_refl _) ?_⟩
          refine ⟨⟨fun j hj => ?_, fun j hj => ?_, fun j hj => ?_⟩, ?_⟩
          · rw [mun (by omega), mun (by omega)]; exact hS j hj
          · rw [mun (by omega), mun (by omega)]; exact hP j hj
          · obtain ⟨r1, r2, r3, r4⟩ := hR j hj
            rw [mun (show 4 ≠ 5 by omega), mun (show 6 ≠ 5 by omega), mun (show 7 ≠ 5 by omega), mun (show 106 ≠ 107 by omega), mu_o (show 3 * j + 1 ≠ 3 * d1 by omega), mu_o (show 3 * j + 2 ≠ 3 * d1 by omega)]
            by_cases ej : j = d1
            · rw [ej, mu_at, mu_at]; rw [ej] at r1 r3 r4; exact ⟨r1, ⟨rfl, B99.nI (by omega)⟩, r3, r4⟩
            · rw [mu_o ej, mu_o (show 3 * j ≠ 3 * d1 by omega)]; exact ⟨r1, r2, r3, r4⟩
          · rw [mun (by omega), mun (by omega)]; exact ⟨hm1, hm2, hm6, hh, hr⟩
        · have em := k3.2.2.2.2 rfl
          obtain ⟨d1, hd1, rfl⟩ := p3 (by omega) (by omega)
          rw [if_neg (by decide), if_neg (by decide), if_neg (by decide), if_neg (by decide), if_neg (by decide), if_neg (by decide), if_neg (by decide), if_neg (by decide), inb_nI (show d1 < 6 by omega) (by omega), nI_clamp (show d1 < 2 ^ 31 by omega), show (3 : Int32) = nI 3 from rfl, pk_mul, nI_add, pk_sub (by omega), show 3 * d1 + 4 - 3 = 3 * d1 + 1 by omega, inb_nI (by omega) (by omega), nI_clamp (by omega)]
          refine ⟨_, _, _, rfl, rfl, Inv.hs b c d e (fun q hq => mun (by omega)) (fun q q1 q2 q3 q4 q5 => mun q5) (fun j hj => by rw [mun (by omega)]) (fun j j1 j2 j3 => by rw [mun (by omega)]) (Nat.le_refl _) ?_⟩
          refine ⟨⟨fun j hj => ?_, fun j hj => ?_, fun j hj => ?_⟩, ?_⟩
          · rw [mun (by omega), mun (by omega)]; exact hS j hj
          · rw [mun (by omega), mun (by omega)]; exact hP j hj
          · obtain ⟨r1, r2, r3, r4⟩ := hR j hj
            rw [mun (show 4 ≠ 6 by omega), mun (show 5 ≠ 6 by omega), mun (show 7 ≠ 6 by omega), mun (show 106 ≠ 107 by omega), mu_o (show 3 * j ≠ 3 * d1 + 1 by omega), mu_o (show 3 * j + 2 ≠ 3 * d1 + 1 by omega)]
            by_cases ej : j = d1
            · rw [ej, mu_at, mu_at]; rw [ej] at r1 r2 r4; exact ⟨r1, r2, ⟨rfl, B99.nI (by omega)⟩, r4⟩
            · rw [mu_o ej, mu_o (show 3 * j + 1 ≠ 3 * d1 + 1 by omega)]; exact ⟨r1, r2, r3, r4⟩
          · rw [mun (by omega), mun (by omega)]; exact ⟨hm1, hm2, hm6, hh, hr⟩
