/-! DISH, FORCE, FEED, COUNT, TAKEN -/
theorem inC2 {v b : Int32} {n : Nat} (hb : b.toInt = (n : Int) - 1) {α : Type} (x y : α) : (if v < 0 then x else (if b < v then x else y)) = if inR v n = true then y else x := by
  unfold inR
  simp only [decide_eq_true_eq, i_lt, hb, show (0 : Int32).toInt = 0 from rfl]
  by_cases c : v.toInt < 0
  · rw [if_pos c, if_neg (by omega)]
  · rw [if_neg c]
    by_cases c2 : (n : Int) - 1 < v.toInt
    · rw [if_pos c2, if_neg (by omega)]
    · rw [if_neg c2, if_pos (by omega)]
theorem inC3 {v b : Int32} {n : Nat} (hb : b.toInt = (n : Int) - 1) {α : Type} (x y : α) : (if v < 0 then x else (if v ≤ b then y else x)) = if inR v n = true then y else x := by
  unfold inR
  simp only [decide_eq_true_eq, i_lt, i_le, hb, show (0 : Int32).toInt = 0 from rfl]
  by_cases c : v.toInt < 0
  · rw [if_pos c, if_neg (by omega)]
  · rw [if_neg c]
    by_cases c2 : v.toInt ≤ (n : Int) - 1
    · rw [if_pos c2, if_pos (by omega)]
    · rw [if_neg c2, if_neg (by omega)]
theorem inC4 {v b : Int32} {n : Nat} (hb : b = nI n) (hn : n < 2 ^ 31) {α : Type} (x y : α) : (if v < 0 then x else (if v < b then y else x)) = if inR v n = true then y else x := by
  subst hb
  unfold inR
  simp only [decide_eq_true_eq, i_lt, i_nI hn, show (0 : Int32).toInt = 0 from rfl]
  by_cases c : v.toInt < 0
  · rw [if_pos c, if_neg (by omega)]
  · rw [if_neg c]
    by_cases c2 : v.toInt < (n : Int)
    · rw [if_pos c2, if_pos (by omega)]
    · rw [if_neg c2, if_neg (by omega)]
theorem bt {α : Type} (x y : α) : (if (true : Bool) = false then x else y) = y := rfl
theorem bf {α : Type} (x y : α) : (if (false : Bool) = false then x else y) = x := rfl
theorem tt {α : Type} (x y : α) : (if (true : Bool) = true then x else y) = x := rfl
theorem ft {α : Type} (x y : α) : (if (false : Bool) = true then x else y) = y := rfl
theorem nIps (n : Nat) : nI n + 1 - 1 = nI n := by rw [nIp, nIm (by omega), Nat.add_sub_cancel]
theorem dish_op {Mc Mm : Mem} (h : Inv Mc Mm) (v1 v2 v3 : Int32) : OpI (f_X8_dish v1 v2 v3) (f_X9_dish v1 v2 v3) Mc Mm := by
  obtain ⟨many, txt, a, b, c, d, e⟩ := id h
  obtain ⟨⟨hS, hP, hR⟩, hm1, hm2, hm6, hh, hr⟩ := id a
  unfold OpI f_X8_dish f_X9_dish
  rw [inC (b := 6) (n := 6) rfl (by omega), inC2 (b := 9) (n := 10) (by decide), inC3 (b := 999999) (n := 1000000) (by decide)]
  rw [show (5 : Int64) = (5 : Int32).toInt64 from rfl, show (9 : Int64) = (9 : Int32).toInt64 from rfl, show (999999 : Int64) = (999999 : Int32).toInt64 from rfl, inM (n := 6) (by decide)]
  simp only [Option.bind_some, zI_0, inM (n := 10) (show (9 : Int32).toInt = ((10 : Nat) : Int) - 1 by decide), inM (n := 1000000) (show (999999 : Int32).toInt = ((1000000 : Nat) : Int) - 1 by decide)]
  cases g1 : inR v1 6 with
  | false => rw [bf, ft]; exact ⟨_, _, _, rfl, rfl, h⟩
  | true =>
    rw [bt, tt]
    cases g2 : inR v2 10 with
    | false => rw [bf, ft]; exact ⟨_, _, _, rfl, rfl, h⟩
    | true =>
      rw [bt, tt]
      cases g3 : inR v3 1000000 with
      | false => rw [bf, ft]; exact ⟨_, _, _, rfl, rfl, h⟩
      | true =>
        rw [bt, tt]
        obtain ⟨x1, hx1, rfl⟩ := inR_of g1 (by omega)
        obtain ⟨x2, hx2, rfl⟩ := inR_of g2 (by omega)
        obtain ⟨x3, hx3, rfl⟩ := inR_of g3 (by omega)
        unfold f_X1_addDish
        rw [hm1, hm2]
        by_cases c6 : many = 6
        · subst c6
          rw [if_neg (show ¬ nI 6 < 6 by decide), if_pos (show nI 6 = 6 from rfl)]
          exact ⟨_, _, _, rfl, rfl, h⟩
        · rw [if_pos (show nI many < 6 from nI_lt (b := 6) (by omega) (by omega)), if_neg (show ¬ nI many = 6 by rw [show (6 : Int32) = nI 6 from rfl, nIeq (by omega) (by omega)]; exact c6), inb_nI (show many < 6 by omega) (by omega), nI_clamp (show many < 2 ^ 31 by omega), show (3 : Int32) * nI many = nI (3 * many) by rw [show (3 : Int32) = nI 3 from rfl, pk_mul], show nI (3 * many) + 1 = nI (3 * many + 1) from nIp _, show nI (3 * many) + 2 = nI (3 * many + 2) by rw [show (2 : Int32) = nI 2 from rfl, nI_add], inb_nI (show 3 * many < 18 by omega) (by omega), inb_nI (show 3 * many + 1 < 18 by omega) (by omega), inb_nI (show 3 * many + 2 < 18 by omega) (by omega), nI_clamp (show 3 * many < 2 ^ 31 by omega), nI_clamp (show 3 * many + 1 < 2 ^ 31 by omega), nI_clamp (show 3 * many + 2 < 2 ^ 31 by omega), nIps, nIp]
          simp only [ck_true, Option.bind_some]
          refine ⟨_, _, _, rfl, rfl, Inv.hs (many1 := many + 1) b c d e (fun q hq => by rw [mun (by omega), mun (by omega), mun (by omega), mun (by omega), mun (by omega)]) (fun q q1 q2 q3 q4 q5 => by rw [mun q1, mun q5, mun q5, mun q5, mun q4]) (fun j hj => by rw [mun (by omega), mun (by omega), mun (by omega), mun (by omega), mu_o (by omega)]) (fun j j1 j2 j3 => by rw [mu_o j3, mun (by omega), mun (by omega), mun (by omega), mun (by omega)]) (by omega) ?_⟩
          refine ⟨⟨fun j hj => ?_, fun j hj => ?_, fun j hj => ?_⟩, ?_, ?_, by omega, ?_, ?_⟩
          · rw [mun (by omega), mun (by omega), mun (by omega), mun (by omega), mun (by omega), mun (by omega), mun (by omega), mun (by omega), mun (by omega), mun (by omega)]; exact hS j hj
          · rw [mun (by omega), mun (by omega), mun (by omega), mun (by omega), mun (by omega), mun (by omega), mun (by omega), mun (by omega), mun (by omega), mun (by omega)]; exact hP j hj
          · have eq4 : ∀ i, mu (mu (mu (mu (mu Mc 4 many (nI x1)) 5 many (nI x2)) 6 many (nI x3)) 7 many 0) 1 6 (nI (many + 1)) 4 i = upd (Mc 4) many (nI x1) i := fun i => by rw [mun (by omega), mun (by omega), mun (by omega), mun (by omega), mus]
            have eq5 : ∀ i, mu (mu (mu (mu (mu Mc 4 many (nI x1)) 5 many (nI x2)) 6 many (nI x3)) 7 many 0) 1 6 (nI (many + 1)) 5 i = upd (Mc 5) many (nI x2) i := fun i => by rw [mun (by omega), mun (by omega), mun (by omega), mus, mun (by omega)]
            have eq6 : ∀ i, mu (mu (mu (mu (mu Mc 4 many (nI x1)) 5 many (nI x2)) 6 many (nI x3)) 7 many 0) 1 6 (nI (many + 1)) 6 i = upd (Mc 6) many (nI x3) i := fun i => by rw [mun (by omega), mun (by omega), mus, mun (by omega), mun (by omega)]
            have eq7 : ∀ i, mu (mu (mu (mu (mu Mc 4 many (nI x1)) 5 many (nI x2)) 6 many (nI x3)) 7 many 0) 1 6 (nI (many + 1)) 7 i = upd (Mc 7) many 0 i := fun i => by rw [mun (by omega), mus, mun (by omega), mun (by omega), mun (by omega)]
            rw [eq4, eq5, eq6, eq7]
            by_cases ej : j = many
            · rw [ej, ups, ups, ups, ups]
              refine ⟨⟨?_, B99.nI (by omega)⟩, ⟨?_, B99.nI (by omega)⟩, ⟨?_, B99.nI (by omega)⟩, ⟨?_, ⟨0, by omega, rfl⟩⟩⟩
              · rw [mun (by omega), mun (by omega), mun (by omega), mun (by omega), mu_at]
              · rw [mun (by omega), mu_o (by omega), mu_o (by omega), mu_at]
              · rw [mun (by omega), mu_o (by omega), mu_at]
              · rw [mun (by omega), mu_at]
            · rw [upn ej, upn ej, upn ej, upn ej]
              obtain ⟨r1, r2, r3, r4⟩ := hR j (by omega)
              refine ⟨⟨?_, r1.2⟩, ⟨?_, r2.2⟩, ⟨?_, r3.2⟩, ⟨?_, r4.2⟩⟩
              · rw [mun (by omega), mun (by omega), mun (by omega), mun (by omega), mu_o ej]; exact r1.1
              · rw [mun (by omega), mu_o (by omega), mu_o (by omega), mu_o (by omega), mun (by omega)]; exact r2.1
              · rw [mun (by omega), mu_o (by omega), mu_o (by omega), mu_o (by omega), mun (by omega)]; exact r3.1
              · rw [mun (by omega), mu_o (by omega), mu_o (by omega), mu_o (by omega), mun (by omega)]; exact r4.1
          · rw [mu_at]
          · rw [mu_at]
          · rw [mu_o (by omega), mu_o (by omega), mun (by omega), mun (by omega), mun (by omega), mun (by omega), mun (by omega), mun (by omega), mun (by omega), mun (by omega)]; exact hh
          · rw [mu_o (by omega), mu_o (by omega), mun (by omega), mun (by omega), mun (by omega), mun (by omega), mun (by omega), mun (by omega), mun (by omega), mun (by omega)]; exact hr
theorem force_op {Mc Mm : Mem} (h : Inv Mc Mm) (v : Int32) : OpI (f_X8_force v) (f_X9_force v) Mc Mm := by
  obtain ⟨many, txt, a, b, c, d, e⟩ := id h
  obtain ⟨hs0, hm1, hm2, hm6, hh, hr, x, hx, hr2⟩ := id a
  obtain ⟨t1, t2, t3, t4⟩ := id c
  unfold OpI f_X8_force f_X9_force
  rw [inC4 t2 (by omega), inM (n := txt) (by rw [t3]; exact nI_prI (by omega))]
  simp only [Option.bind_some, zI_0]
  cases g1 : inR v txt with
  | false => rw [bf, ft]; exact ⟨_, _, _, rfl, rfl, h⟩
  | true =>
    rw [bt, tt, hr]
    obtain ⟨y, hy, rfl⟩ := inR_of g1 (by omega)
    refine ⟨_, _, _, rfl, rfl, Inv.hs b c d e (fun q hq => mun (by omega)) (fun q q1 q2 q3 q4 q5 => mun q1) (fun j hj => by rw [mun (by omega)]) (fun j j1 j2 j3 => mu_o j1) (Nat.le_refl _) ?_⟩
    refine ⟨?_, ?_, ?_, hm6, ?_, ?_, y, hy, mu_at⟩
    · rw [mun (by omega), mun (by omega), mun (by omega), mun (by omega), mun (by omega), mun (by omega), mun (by omega), mun (by omega), mun (by omega), mun (by omega)]; exact hs0
    · rw [mu_o (by omega)]; exact hm1
    · rw [mu_o (by omega)]; exact hm2
    · rw [mu_o (by omega), mu_o (by omega)]; exact hh
    · rw [mu_at, mu_at]
theorem Inv.tp {Mc Mm Mc1 Mm1 : Mem} (h : Inv Mc Mm) (hc : ∀ q, q ≠ 34 → q ≠ 35 → Mc1 q = Mc q) (hm : ∀ q, q ≠ 100 → q ≠ 103 → Mm1 q = Mm q) (hs : ∀ j, j ≠ 6 → Mm1 100 j = Mm 100 j) (d : TapeI Mc1 Mm1) : Inv Mc1 Mm1 := by
  obtain ⟨many, txt, a, b, c, _, e⟩ := h
  refine ⟨many, txt, ?_, ?_, ?_, d, ?_⟩
  · unfold HouseI
    rw [hc 1 (by omega) (by omega), hc 2 (by omega) (by omega), hc 3 (by omega) (by omega), hc 4 (by omega) (by omega), hc 5 (by omega) (by omega), hc 6 (by omega) (by omega), hc 7 (by omega) (by omega), hm 104 (by omega) (by omega), hm 105 (by omega) (by omega), hm 106 (by omega) (by omega), hm 107 (by omega) (by omega), hs 12 (by omega), hs 7 (by omega), hs 4 (by omega)]
    exact a
  · unfold ImageI KeptI
    rw [hc 0 (by omega) (by omega), hc 8 (by omega) (by omega), hc 9 (by omega) (by omega), hc 10 (by omega) (by omega), hc 11 (by omega) (by omega), hc 12 (by omega) (by omega), hc 13 (by omega) (by omega), hc 14 (by omega) (by omega), hm 111 (by omega) (by omega), hm 112 (by omega) (by omega), hm 106 (by omega) (by omega), hm 113 (by omega) (by omega), hs 42 (by omega), hs 43 (by omega), hs 44 (by omega)]
    exact b
  · exact c.cg (fun q h1 _ => hc q (by omega) (by omega)) (hm 101 (by omega) (by omega)) (hm 102 (by omega) (by omega)) (hs 3 (by omega))
  · intro s hs4
    have := e s hs4
    unfold ShI at this ⊢
    rw [hc _ (by omega) (by omega), hc _ (by omega) (by omega), hm 114 (by omega) (by omega), hm 115 (by omega) (by omega), hm 116 (by omega) (by omega), hm 117 (by omega) (by omega)]
    exact this
theorem feed_op {Mc Mm : Mem} (h : Inv Mc Mm) (v : Int32) : OpI (f_X8_feed v) (f_X9_feed v) Mc Mm := by
  obtain ⟨many, txt, a, b, c, ⟨n, B, hn, hB, hC, h6, h103⟩, e⟩ := id h
  unfold OpI f_X8_feed f_X9_feed
  rw [inC3 (b := 255) (n := 256) (by decide), show (255 : Int64) = (255 : Int32).toInt64 from rfl, inM (n := 256) (by decide)]
  simp only [Option.bind_some, zI_0]
  cases g1 : inR v 256 with
  | false => rw [bf, ft]; exact ⟨_, _, _, rfl, rfl, h⟩
  | true =>
    rw [bt, tt]
    obtain ⟨y, hy, rfl⟩ := inR_of g1 (by omega)
    unfold f_X5_append
    rw [hC.1, h6]
    by_cases c6 : n = 160
    · subst c6
      rw [if_neg (show ¬ nI 160 < 160 by decide), if_pos (show nI 160 = 160 from rfl)]
      exact ⟨_, _, _, rfl, rfl, h⟩
    · rw [if_pos (show nI n < 160 from nI_lt (b := 160) (by omega) (by omega)), if_neg (show ¬ nI n = 160 by rw [show (160 : Int32) = nI 160 from rfl, nIeq (by omega) (by omega)]; exact c6), inb_nI (show n < 160 by omega) (by omega), nI_clamp (by omega), nIp]
      simp only [ck_true, Option.bind_some]
      rw [if_neg (by decide)]
      refine ⟨nI (n + 1), mu (mu Mc 35 n (nI y)) 34 1 (nI (n + 1)), _, ?_, rfl, h.tp (fun q q1 q2 => by rw [mun q1, mun q2]) (fun q q1 q2 => by rw [mun q1, mun q2]) (fun j hj => by rw [mu_o hj, mun (by omega)]) ⟨n + 1, fun j => if j = n then y else B j, by omega, fun j hj => ?_, ⟨mu_at, fun j hj => ?_⟩, mu_at, fun j hj => ?_⟩⟩
      · rw [mu_at]
      · show (if j = n then y else B j) < 256
        by_cases ej : j = n
        · rw [if_pos ej]; omega
        · rw [if_neg ej]; exact hB j (by omega)
      · show mu (mu Mc 35 n (nI y)) 34 1 (nI (n + 1)) 35 j = nI (if j = n then y else B j)
        by_cases ej : j = n
        · rw [if_pos ej, ej, mun (by omega), mu_at]
        · rw [if_neg ej, mun (by omega), mu_o ej]; exact hC.2 j (by omega)
      · show mu (mu Mm 103 n (nI y)) 100 6 (nI (n + 1)) 103 j = nI (if j = n then y else B j)
        by_cases ej : j = n
        · rw [if_pos ej, ej, mun (by omega), mu_at]
        · rw [if_neg ej, mun (by omega), mu_o ej]; exact h103 j (by omega)
theorem count_op {Mc Mm : Mem} (h : Inv Mc Mm) (v : Int32) : OpI (f_X8_count v) (f_X9_count v) Mc Mm := by
  obtain ⟨many, txt, a, b, c, ⟨n, B, hn, hB, hC, h6, h103⟩, e⟩ := id h
  obtain ⟨⟨hS, _⟩, hm1, hm2, hm6, ⟨hh, _⟩, hr, x, hx, hr2⟩ := id a
  obtain ⟨t1, t2, t3, t4⟩ := id c
  unfold OpI f_X8_count f_X9_count
  rw [show (5 : Int64) = (5 : Int32).toInt64 from rfl, inM (n := 6) (by decide)]
  simp only [Option.bind_some, zI_0]
  cases g1 : inR v 6 with
  | false =>
    have ne := fun k (hk : k < 6) => ne_of_inR (k := k) g1 hk (by omega)
    have n0 : v ≠ 0 := ne 0 (by omega)
    have n1 : v ≠ 1 := ne 1 (by omega)
    have n2 : v ≠ 2 := ne 2 (by omega)
    have n3 : v ≠ 3 := ne 3 (by omega)
    have n4 : v ≠ 4 := ne 4 (by omega)
    have n5 : v ≠ 5 := ne 5 (by omega)
    rw [bf, if_neg n0, if_neg n1, if_neg n2, if_neg n3, if_neg n4, if_neg n5]
    exact ⟨_, _, _, rfl, rfl, h⟩
  | true =>
    rw [bt]
    obtain ⟨y, hy, rfl⟩ := inR_of g1 (by omega)
    have : y = 0 ∨ y = 1 ∨ y = 2 ∨ y = 3 ∨ y = 4 ∨ y = 5 := by omega
    have s0 := storeC (a := 0) (by omega) Mc
    have s1 := storeC (a := 1) (by omega) Mc
    have u0 := storeM (a := 0) (by omega) Mm
    have u1 := storeM (a := 1) (by omega) Mm
    rw [sumS_cg (by omega) (fun j hj => (hS j hj).1) 6 (by omega)] at u0 u1
    rcases this with rfl | rfl | rfl | rfl | rfl | rfl
    · exact ⟨nI many, Mc, Mm, by rw [if_pos (by decide), hm1], by rw [if_pos (by decide), hm2], h⟩
    · refine ⟨sumS (Mc 2) 0 6 + sumS (Mc 2) 1 6, Mc, Mm, ?_, ?_, h⟩
      · rw [if_neg (by decide), if_pos (by decide), show (0 : Int32) = nI 0 from rfl, s0]
        simp only [Option.bind_some]
        rw [show (1 : Int32) = nI 1 from rfl, s1]
        rfl
      · rw [if_neg (by decide), if_pos (by decide), show (0 : Int32) = nI 0 from rfl, u0]
        simp only [Option.bind_some]
        rw [show (1 : Int32) = nI 1 from rfl, u1]
        rfl
    · exact ⟨Mc 1 7, Mc, Mm, by rw [if_neg (by decide), if_neg (by decide), if_pos (by decide)], by rw [if_neg (by decide), if_neg (by decide), if_pos (by decide), hh], h⟩
    · exact ⟨nI txt, Mc, Mm, by rw [if_neg (by decide), if_neg (by decide), if_neg (by decide), if_pos (by decide), t2], by rw [if_neg (by decide), if_neg (by decide), if_neg (by decide), if_pos (by decide), t3], h⟩
    · exact ⟨nI n, Mc, Mm, by rw [if_neg (by decide), if_neg (by decide), if_neg (by decide), if_neg (by decide), if_pos (by decide), hC.1], by rw [if_neg (by decide), if_neg (by decide), if_neg (by decide), if_neg (by decide), if_pos (by decide), h6], h⟩
    · exact ⟨Mc 1 8, Mc, Mm, by rw [if_neg (by decide), if_neg (by decide), if_neg (by decide), if_neg (by decide), if_neg (by decide), if_pos (by decide)], by rw [if_neg (by decide), if_neg (by decide), if_neg (by decide), if_neg (by decide), if_neg (by decide), hr], h⟩
