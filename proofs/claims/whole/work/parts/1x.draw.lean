/-! DRAWN -/
theorem jush_nn (x : Int32) : ∃ n, n < 2 ^ 23 ∧ jushr x 9 = nI n := by
  unfold jushr
  have h : (9 : Int32).toUInt32 &&& Int32.toUInt32 31 = 9 := by decide
  rw [h]
  have hb : (x.toUInt32 >>> 9).toNat < 2 ^ 23 := by
    have := x.toUInt32.toNat_lt
    rw [UInt32.toNat_shiftRight, show UInt32.toNat 9 % 32 = 9 from rfl]
    simp only [Nat.shiftRight_eq_div_pow]
    omega
  refine ⟨(x.toUInt32 >>> 9).toNat, hb, ?_⟩
  generalize x.toUInt32 >>> 9 = u at hb
  apply Int32.toBitVec_inj.mp
  show u.toBitVec = BitVec.ofInt 32 (u.toNat : Int)
  rw [BitVec.ofInt_natCast]
  apply BitVec.eq_of_toNat_eq
  rw [BitVec.toNat_ofNat]
  show u.toNat = u.toNat % 2 ^ 32
  rw [Nat.mod_eq_of_lt u.toNat_lt]
theorem drawDg (x : Int32) : ∃ g, g < 3 ∧ jrem (jushr x 9) 3 = nI g := by
  obtain ⟨n, hn, e⟩ := jush_nn x
  refine ⟨n % 3, Nat.mod_lt _ (by omega), ?_⟩
  rw [e, show (3 : Int32) = nI 3 from rfl, jrem_nI (by omega) (by omega) (by omega)]
theorem fedToll (a b f t : Int32) : (a + f) - (b + t) = (a - b) + (f - t) := by
  rw [Int32.sub_eq_add_neg, Int32.sub_eq_add_neg, Int32.sub_eq_add_neg, Int32.neg_add, Int32.sub_eq_add_neg]
  ac_rfl
theorem drawLoop {many txt : Nat} {Mc0 Mm0 : Mem} (hN : InvN many txt Mc0 Mm0) : ∀ m i fuel (v : Int32) (M N : Mem), i + m = many → m < fuel → KC Mc0 M → KM5 Mm0 N → (∀ j, j < 12 → N 104 j = M 44 j) →
    ∃ M1 N1 : Mem, f_X4_draw_l8 f_X4_draw_b57 fuel v (nI i) M = some (M1 43 3 - M1 43 5, M1) ∧ f_X9_worthDrawn_l11 f_X9_worthDrawn_b90 fuel v (M 43 3 - M 43 5) (nI i) N = f_X9_worthDrawn_b90 (M1 43 3 - M1 43 5) N1 ∧ KC Mc0 M1 ∧ KM5 Mm0 N1 := by
  obtain ⟨_, hm1, hm2, hm6, _⟩ := id hN.1
  intro m
  induction m with
  | zero =>
    intro i fuel v M N hi hf p1 p2 p3
    obtain ⟨f, rfl⟩ : ∃ f, fuel = f + 1 := ⟨fuel - 1, by omega⟩
    rw [f_X4_draw_l8, f_X9_worthDrawn_l11, p1 1 (by omega), p2.2 12 (by omega), hm1, hm2, if_pos (nI_le (by omega) (by omega)), if_pos (nI_le (by omega) (by omega))]
    exact ⟨M, N, rfl, rfl, p1, p2⟩
  | succ m ih =>
    intro i fuel v M N hi hf p1 p2 p3
    obtain ⟨f, rfl⟩ : ∃ f, fuel = f + 1 := ⟨fuel - 1, by omega⟩
    have him : i < many := by omega
    have mM : M 1 6 = nI many := by rw [p1 1 (by omega)]; exact hm1
    have mN : N 100 12 = nI many := by rw [p2.2 12 (by omega)]; exact hm2
    rw [f_X4_draw_l8, f_X9_worthDrawn_l11, mM, mN, if_neg (nI_ge him (by omega)), if_neg (nI_ge him (by omega))]
    obtain ⟨g, hg, eg⟩ := drawDg (v * 1103515245 + 12345)
    rw [eg]
    unfold f_X4_draw_b51 f_X9_worthDrawn_b84
    by_cases g0 : g = 0
    · subst g0
      rw [if_pos (show nI 0 - 1 < 0 by decide), if_pos (show nI 0 - 1 < 0 by decide), nIp]
      exact ih (i + 1) f _ M N (by omega) (by omega) p1 p2 p3
    · obtain ⟨k, hk, rfl⟩ : ∃ k, k < 2 ∧ g = k + 1 := ⟨g - 1, by omega, by omega⟩
      rw [nIm (by omega), Nat.add_sub_cancel, if_neg (show ¬ nI k < 0 from nI_pos (by omega)), if_neg (show ¬ nI k < 0 from nI_pos (by omega))]
      obtain ⟨t, tm, tc, bb, hb⟩ := tkBoth hN.1 hN.2.2.1 him
      obtain ⟨M1, a1, a2, a3, a4⟩ := goOnC hk tc p1
      have tN := p2.tk tm
      obtain ⟨N1, b1, b2⟩ := isCookedM_eq (show i < 6 by omega) hk tN
      rw [kCk_cg hk p3] at b1
      rw [a1, b1]
      simp only [Option.bind_some, zI_0]
      rw [nIp]
      cases hc : kCk t k (M 44) with
      | false =>
        obtain ⟨c1, c2⟩ := a3 hc
        rw [bf, ← c1]
        exact ih (i + 1) f _ M1 N1 (by omega) (by omega) a2 (p2.sm b2) (fun j hj => by rw [c2, b2.1 104 (by omega)]; exact p3 j hj)
      | true =>
        obtain ⟨c1, c2, c3, c4, c5⟩ := a4 hc
        rw [bt]
        have tN1 := tN.sm b2
        obtain ⟨N2, d1, d2⟩ := feedsOf_eq (show i < 6 by omega) hk tN1
        have tN2 := tN1.sm d2
        obtain ⟨N3, e1, e2⟩ := tollOf_eq (show i < 6 by omega) hk tN2
        have tN3 := tN2.sm e2
        obtain ⟨N4, u1, u2, u3⟩ := uses_eq (show i < 6 by omega) hk tN3
        rw [d1]
        simp only [Option.bind_some]
        rw [e1]
        simp only [Option.bind_some]
        rw [u1]
        simp only [Option.bind_some]
        have n2 : N2 104 = N 104 := by rw [d2.1 104 (by omega), b2.1 104 (by omega)]
        have n3 : N3 104 = N 104 := by rw [e2.1 104 (by omega), n2]
        have k4 : KM5 Mm0 N4 := by
          have w := ((p2.sm b2).sm d2).sm e2
          exact ⟨fun q x y => (u3 q y).trans (w.1 q x y), fun j x => by rw [u3 100 (by omega)]; exact w.2 j x⟩
        have hv : M 43 3 - M 43 5 + (kFed t k - kToll t k (N2 104)) = M1 43 3 - M1 43 5 := by
          rw [c1, c3, n2, kToll_cg hk p3, fedToll]
        rw [hv]
        exact ih (i + 1) f _ M1 N4 (by omega) (by omega) a2 k4 (fun j hj => by rw [u2 j hj, c5 j hj, n3]; exact kUse_cg hk p3 j hj)
theorem drawBoth {Mc Mm : Mem} {many txt : Nat} (hN : InvN many txt Mc Mm) (v : Int32) : ∃ (r : Int32) (M1 N1 : Mem), f_X4_draw v Mc = some (r, M1) ∧ f_X9_worthDrawn v Mm = some (r, N1) ∧ InvN many txt M1 N1 := by
  obtain ⟨N0, a1, a2, a3⟩ := aside_l (M := Mm)
  have km0 : KM Mm N0 := ⟨fun q _ _ h _ _ => a2 q h, fun j _ => by rw [a2 104 (by omega)], fun j _ => by rw [a2 100 (by omega)]⟩
  have hN0 := hN.sc (KC.refl Mc) km0
  unfold f_X4_draw f_X9_worthDrawn
  rw [a1]
  have kb : KC Mc (mu (mu (mu (mu (mcp Mc 2 0 44 0 12) 43 3 0) 43 4 0) 43 5 0) 43 6 (-1)) := fun q hq => by rw [mun (by omega), mun (by omega), mun (by omega), mun (by omega), mcp_o (by omega)]
  have z3 : mu (mu (mu (mu (mcp Mc 2 0 44 0 12) 43 3 0) 43 4 0) 43 5 0) 43 6 (-1) 43 3 = 0 := by rw [mu_o (by omega), mu_o (by omega), mu_o (by omega), mu_at]
  have z5 : mu (mu (mu (mu (mcp Mc 2 0 44 0 12) 43 3 0) 43 4 0) 43 5 0) 43 6 (-1) 43 5 = 0 := by rw [mu_o (by omega), mu_at]
  have z44 : ∀ j, j < 12 → N0 104 j = mu (mu (mu (mu (mcp Mc 2 0 44 0 12) 43 3 0) 43 4 0) 43 5 0) 43 6 (-1) 44 j := fun j hj => by
    rw [mun (by omega), mun (by omega), mun (by omega), mun (by omega), mcp_in hj]
    exact (hN0.1.1.1 j hj).1
  have eb : f_X4_begin Mc = some (mu (mu (mu (mu (mcp Mc 2 0 44 0 12) 43 3 0) 43 4 0) 43 5 0) 43 6 (-1)) := rfl
  rw [eb]
  generalize mu (mu (mu (mu (mcp Mc 2 0 44 0 12) 43 3 0) 43 4 0) 43 5 0) 43 6 (-1) = M at kb z3 z5 z44
  obtain ⟨M1, N1, b1, b2, b3, b4⟩ := drawLoop hN0 many 0 FU v M N0 (by omega) (by have := FU_ge; have := hN.1.2.2.2.1; omega) kb ⟨fun _ _ _ => rfl, fun _ _ => rfl⟩ z44
  rw [z3, z5, show (0 : Int32) - 0 = 0 by decide] at b2
  simp only [Option.bind_some]
  rw [show f_X4_draw_l8 f_X4_draw_b57 FU v 0 M = _ from b1, show f_X9_worthDrawn_l11 f_X9_worthDrawn_b90 FU v 0 0 N0 = _ from b2]
  unfold f_X9_worthDrawn_b90
  obtain ⟨N2, c1, c2, c3⟩ := laysBack_l (M := N1)
  rw [c1]
  refine ⟨_, M1, N2, rfl, rfl, hN.sc b3 ⟨fun q x y z u w => ?_, fun j hj => ?_, fun j hj => ?_⟩⟩
  · rw [c2 q y, b4.1 q x y, a2 q z]
  · rw [c3 j hj, b4.1 108 (by omega) (by omega), a3 j hj]
  · rw [c2 100 (by omega), b4.2 j hj, a2 100 (by omega)]
theorem drawn_op {Mc Mm : Mem} (h : Inv Mc Mm) (v : Int32) : OpI (f_X8_drawn v) (f_X9_drawn v) Mc Mm := by
  obtain ⟨many, txt, hN⟩ := id h
  obtain ⟨r, M1, N1, a1, a2, a3⟩ := drawBoth hN v
  unfold OpI f_X8_drawn f_X9_drawn
  rw [a1, a2]
  exact ⟨r, M1, N1, rfl, rfl, a3.i⟩
