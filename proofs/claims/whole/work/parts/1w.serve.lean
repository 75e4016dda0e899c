/-! SERVE -/
theorem servLoop {many txt x : Nat} (kc : Mem → Option (Int32 × Mem)) (km : Mem → Option (Int32 × Mem)) (hx : x ≤ 999999) (hok : mOk many x) : ∀ m i fuel (M N : Mem), i + m = many → m < fuel → InvN many txt M N → (∀ i, i < many → N 109 (many - 1 - i) = nI (Dg x i)) →
    ∃ M1 N1 : Mem, f_X8_serve_l72 kc fuel (nI x) (nI i) M = kc M1 ∧ f_X9_serve_l57 km fuel (nI i) N = km N1 ∧ InvN many txt M1 N1 ∧ M1 43 = M 43 ∧ N1 100 = N 100 ∧ M1 1 = M 1 := by
  intro m
  induction m with
  | zero =>
    intro i fuel M N hi hf hN h109
    obtain ⟨f, rfl⟩ : ∃ f, fuel = f + 1 := ⟨fuel - 1, by omega⟩
    obtain ⟨_, hm1, hm2, hm6, _⟩ := id hN.1
    rw [f_X8_serve_l72, f_X9_serve_l57, hm1, hm2, if_pos (nI_le (by omega) (by omega)), if_pos (nI_le (by omega) (by omega))]
    exact ⟨M, N, rfl, rfl, hN, rfl, rfl, rfl⟩
  | succ m ih =>
    intro i fuel M N hi hf hN h109
    obtain ⟨f, rfl⟩ : ∃ f, fuel = f + 1 := ⟨fuel - 1, by omega⟩
    obtain ⟨_, hm1, hm2, hm6, _⟩ := id hN.1
    have him : i < many := by omega
    have ch : N 109 i = nI (Dg x (many - 1 - i)) := by
      have := h109 (many - 1 - i) (by omega)
      rwa [show many - 1 - (many - 1 - i) = i by omega] at this
    rw [f_X8_serve_l72, f_X9_serve_l57, hm1, hm2, if_neg (nI_ge him (by omega)), if_neg (nI_ge him (by omega)), kitC hm1 hm6 hx him, inb_nI (show i < 6 by omega) (by omega), nI_clamp (show i < 2 ^ 31 by omega), ch]
    simp only [ck_true, Option.bind_some]
    have hdg := hok.1 (many - 1 - i) (by omega)
    generalize Dg x (many - 1 - i) = g at hdg
    unfold f_X8_serve_b104 f_X9_serve_b79
    by_cases g0 : g = 0
    · subst g0
      rw [if_pos (show nI 0 - 1 = -1 by decide), if_pos (show nI 0 ≤ 0 by decide), nIp]
      exact ih (i + 1) f M N (by omega) (by omega) hN h109
    · rw [nIm (by omega), if_neg (nI_n1 (by omega)), if_neg (show ¬ nI g ≤ 0 by rw [show (0 : Int32) = nI 0 from rfl, nIle (by omega) (by omega)]; omega)]
      obtain ⟨y, hy, c1, c2⟩ := countBoth hN.1 him
      rw [c1, c2]
      simp only [Option.bind_some]
      rw [nIp]
      obtain ⟨M1, N1, e1, e2, e3, e4, e5, e6⟩ := ih (i + 1) f _ _ (by omega) (by omega) (hN.count him hy) (fun i hi => by rw [mun (by omega)]; exact h109 i hi)
      exact ⟨M1, N1, e1, e2, e3, e4.trans (mun (by omega)), e5.trans (mun (by omega)), e6.trans (mun (by omega))⟩
theorem serve_op {Mc Mm : Mem} (h : Inv Mc Mm) (v : Int32) : OpI (f_X8_serve v) (f_X9_serve v) Mc Mm := by
  obtain ⟨many, txt, hN⟩ := id h
  have hN : InvN many txt Mc Mm := hN
  unfold OpI f_X8_serve f_X9_serve
  obtain ⟨Mm1, m1, m2⟩ := isMenuBoth hN.1 v
  have km1 : KM Mm Mm1 := ⟨fun q _ _ _ hq _ => m1 q hq, fun j _ => by rw [m1 104 (by omega)], fun j _ => by rw [m1 100 (by omega)]⟩
  rcases m2 with ⟨e1, e2⟩ | ⟨x, hx, rfl, hok, e1, e2, e3⟩
  · rw [e1, e2]
    simp only [Option.bind_some]
    rw [if_pos True.intro, if_pos True.intro]
    exact ⟨_, _, _, rfl, rfl, h.sc (KC.refl Mc) km1⟩
  · rw [e1, e2]
    simp only [Option.bind_some]
    rw [if_neg (show ¬ (1 : Int32) = 0 by decide), if_neg (show ¬ (1 : Int32) = 0 by decide)]
    have hN1 := hN.sc (KC.refl Mc) km1
    obtain ⟨M1, N0, N1, r, a1, a2, a3, a4, a5, a6, a7, a8, a9⟩ := playAll hN1 hx hok e3
    obtain ⟨N2, b1, b2, b3⟩ := laysBack_l (M := N1)
    rw [a1, a2]
    simp only [Option.bind_some]
    rw [a3]
    simp only [Option.bind_some]
    have km2 : KM Mm N2 := km1.tr ⟨fun q x y z u w => (b2 q y).trans (a5 q x y z), fun j hj => by rw [b3 j hj]; exact a7 j hj, fun j hj => by rw [b2 100 (by omega)]; exact a6 j hj⟩
    have fin := h.sc a4 km2
    unfold f_X9_serve_b36
    rw [a8, b1]
    simp only [Option.bind_some]
    by_cases hr : r = -1
    · obtain ⟨f1, f2, f3⟩ := a9 hr
      simp only [if_pos hr]
      obtain ⟨_, hm1, hm2, hm6, ⟨hh, y, hy, hh2⟩, _⟩ := id hN1.1
      have c7 : M1 1 7 = nI y := by rw [a4 1 (by omega)]; exact hh2
      have d7 : N1 100 7 = nI y := by rw [a6 7 (by omega), hh]; exact hh2
      rw [c7, d7]
      by_cases c9 : y = 999
      · subst c9
        rw [if_neg (show ¬ nI 999 < 999 by decide), if_pos (show nI 999 = 999 from rfl)]
        exact ⟨_, _, _, rfl, rfl, fin⟩
      · rw [if_pos (show nI y < 999 from nI_lt (b := 999) (by omega) (by omega)), if_neg (show ¬ nI y = 999 by rw [show (999 : Int32) = nI 999 from rfl, nIeq (by omega) (by omega)]; exact c9)]
        have hX : InvN many txt M1 (fun q => if q = 104 then Mm1 104 else N1 q) := by
          refine hN1.sc a4 ⟨fun q x1 x2 x3 x4 x5 => ?_, fun j _ => ?_, fun j hj => ?_⟩
          · show (if q = 104 then Mm1 104 else N1 q) = Mm1 q
            rw [if_neg x2]; exact a5 q x1 x2 x3
          · show (if (104 : Nat) = 104 then Mm1 104 else N1 104) j = Mm1 104 j
            rw [if_pos rfl]
          · show (if (100 : Nat) = 104 then Mm1 104 else N1 100) j = Mm1 100 j
            rw [if_neg (by decide)]; exact a6 j hj
        have hY : InvN many txt (mcp M1 44 0 2 0 12) N1 := hX.store (fun q hq => mcp_o hq) (fun q hq => (if_neg hq).symm) (fun j hj => by rw [mcp_in hj]; exact f1 j hj)
        obtain ⟨P, Q, g1, g2, g3, g4, g5, g6⟩ := servLoop f_X8_serve_b110 f_X9_serve_b85 hx hok many 0 FU _ N1 (by omega) (by have := FU_ge; omega) hY (fun i hi => by rw [a5 109 (by omega) (by omega) (by omega)]; exact e3 i hi)
        rw [show f_X8_serve_l72 f_X8_serve_b110 FU (nI x) 0 (mcp M1 44 0 2 0 12) = _ from g1, show f_X9_serve_l57 f_X9_serve_b85 FU 0 N1 = _ from g2]
        unfold f_X8_serve_b110 f_X9_serve_b85
        have p7 : P 1 7 = nI y := by rw [g6, mcp_o (by omega)]; exact c7
        have q7 : Q 100 7 = nI y := by rw [g5]; exact d7
        rw [p7, q7, nIp, g4, g5, mcp_o (show 43 ≠ 2 by omega), f2, f3]
        obtain ⟨a, b, c, d, e⟩ := g3
        obtain ⟨hs0, km1', km2', km6, kh, kr⟩ := id a
        refine ⟨_, _, _, rfl, rfl, Inv.hs b c d e (fun q hq => mun (by omega)) (fun q q1 q2 q3 q4 q5 => mun q1) (fun j hj => by rw [mun (by omega)]) (fun j j1 j2 j3 => mu_o j2) (Nat.le_refl _) ⟨?_, ?_, ?_, km6, ⟨?_, ?_⟩, ?_⟩⟩
        · rw [mun (by omega), mun (by omega), mun (by omega), mun (by omega), mun (by omega), mun (by omega), mun (by omega), mun (by omega), mun (by omega), mun (by omega)]; exact hs0
        · rw [mu_o (by omega)]; exact km1'
        · rw [mu_o (by omega)]; exact km2'
        · rw [mu_at, mu_at]
        · rw [mu_at]; exact B99.nI (by omega)
        · rw [mu_o (by omega), mu_o (by omega)]; exact kr
    · simp only [if_neg hr]
      exact ⟨_, _, _, rfl, rfl, fin⟩
