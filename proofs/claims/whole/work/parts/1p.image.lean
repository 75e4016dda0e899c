/-! COPIES; IMAGE AND BACK -/
theorem mcp_o {M : Mem} {a i b j n q : Nat} (h : q ≠ b) : mcp M a i b j n q = M q := if_neg h
theorem mcp_in {M : Mem} {a b n k : Nat} (h : k < n) : mcp M a 0 b 0 n b k = M a k := by
  unfold mcp va_cpy
  rw [if_pos rfl, if_pos (by omega)]
  congr 1
  omega
theorem cpyLoop {β : Type} (L : Nat → Int32 → Mem → Option β) (k : Mem → Option β) {N a b oa ob : Nat} (hab : a ≠ b)
    (hL : ∀ f i M, i ≤ N → L (f + 1) (nI i) M = if N ≤ i then k M else L f (nI (i + 1)) (mu M b (ob + i) (M a (oa + i)))) :
    ∀ m i fuel (M : Mem), i + m = N → m < fuel → ∃ M1 : Mem, L fuel (nI i) M = k M1 ∧ (∀ q, q ≠ b → M1 q = M q) ∧ (∀ j, i ≤ j → j < N → M1 b (ob + j) = M a (oa + j)) ∧ ∀ j, (j < ob + i ∨ ob + N ≤ j) → M1 b j = M b j := by
  intro m
  induction m with
  | zero =>
    intro i fuel M hi hf
    obtain ⟨f, rfl⟩ : ∃ f, fuel = f + 1 := ⟨fuel - 1, by omega⟩
    rw [hL f i M (by omega), if_pos (by omega)]
    exact ⟨M, rfl, fun _ _ => rfl, fun j h1 h2 => by omega, fun _ _ => rfl⟩
  | succ m ih =>
    intro i fuel M hi hf
    obtain ⟨f, rfl⟩ : ∃ f, fuel = f + 1 := ⟨fuel - 1, by omega⟩
    rw [hL f i M (by omega), if_neg (by omega)]
    obtain ⟨M1, e1, e2, e3, e4⟩ := ih (i + 1) f (mu M b (ob + i) (M a (oa + i))) (by omega) (by omega)
    refine ⟨M1, e1, fun q hq => (e2 q hq).trans (mun hq), fun j h1 h2 => ?_, fun j hj => ?_⟩
    · by_cases e : j = i
      · rw [e, e4 _ (by omega), mu_at]
      · rw [e3 j (by omega) h2, mun hab]
    · rw [e4 j (by omega), mu_o (by omega)]
theorem image_l {M : Mem} (k : Mem → Option (Int32 × Mem)) : ∃ M1 : Mem, f_X9_image_l2 k FU 0 M = k M1 ∧ (∀ q, q ≠ 111 → M1 q = M q) ∧ ∀ j, j < 12 → M1 111 j = M 104 j := by
  obtain ⟨M1, e1, e2, e3, e4⟩ := cpyLoop (f_X9_image_l2 k) k (N := 12) (a := 104) (b := 111) (oa := 0) (ob := 0) (by omega) (fun f i M hi => by
    rw [f_X9_image_l2]
    by_cases c : 12 ≤ i
    · rw [if_pos c, if_pos (by rw [show (12 : Int32) = nI 12 from rfl, nIle (by omega) (by omega)]; exact c)]
    · rw [if_neg c, if_neg (by rw [show (12 : Int32) = nI 12 from rfl, nIle (by omega) (by omega)]; exact c), inb_nI (by omega) (by omega), nI_clamp (by omega), nIp, Nat.zero_add]; rfl) 12 0 FU M rfl (by have := FU_ge; omega)
  exact ⟨M1, e1, e2, fun j hj => by have := e3 j (by omega) hj; rwa [Nat.zero_add] at this⟩
theorem image_l3 {M : Mem} (k : Mem → Option (Int32 × Mem)) : ∃ M1 : Mem, f_X9_image_l28 k FU 0 M = k M1 ∧ (∀ q, q ≠ 113 → M1 q = M q) ∧ ∀ j, j < 18 → M1 113 j = M 107 j := by
  obtain ⟨M1, e1, e2, e3, e4⟩ := cpyLoop (f_X9_image_l28 k) k (N := 18) (a := 107) (b := 113) (oa := 0) (ob := 0) (by omega) (fun f i M hi => by
    rw [f_X9_image_l28]
    by_cases c : 18 ≤ i
    · rw [if_pos c, if_pos (by rw [show (18 : Int32) = nI 18 from rfl, nIle (by omega) (by omega)]; exact c)]
    · rw [if_neg c, if_neg (by rw [show (18 : Int32) = nI 18 from rfl, nIle (by omega) (by omega)]; exact c), inb_nI (by omega) (by omega), nI_clamp (by omega), nIp, Nat.zero_add]; rfl) 18 0 FU M rfl (by have := FU_ge; omega)
  exact ⟨M1, e1, e2, fun j hj => by have := e3 j (by omega) hj; rwa [Nat.zero_add] at this⟩
theorem back_l {M : Mem} (k : Mem → Option (Int32 × Mem)) : ∃ M1 : Mem, f_X9_back_l13 k FU 0 M = k M1 ∧ (∀ q, q ≠ 104 → M1 q = M q) ∧ ∀ j, j < 12 → M1 104 j = M 111 j := by
  obtain ⟨M1, e1, e2, e3, e4⟩ := cpyLoop (f_X9_back_l13 k) k (N := 12) (a := 111) (b := 104) (oa := 0) (ob := 0) (by omega) (fun f i M hi => by
    rw [f_X9_back_l13]
    by_cases c : 12 ≤ i
    · rw [if_pos c, if_pos (by rw [show (12 : Int32) = nI 12 from rfl, nIle (by omega) (by omega)]; exact c)]
    · rw [if_neg c, if_neg (by rw [show (12 : Int32) = nI 12 from rfl, nIle (by omega) (by omega)]; exact c), inb_nI (by omega) (by omega), nI_clamp (by omega), nIp, Nat.zero_add]; rfl) 12 0 FU M rfl (by have := FU_ge; omega)
  exact ⟨M1, e1, e2, fun j hj => by have := e3 j (by omega) hj; rwa [Nat.zero_add] at this⟩
theorem back_l3 {M : Mem} (k : Mem → Option (Int32 × Mem)) : ∃ M1 : Mem, f_X9_back_l39 k FU 0 M = k M1 ∧ (∀ q, q ≠ 107 → M1 q = M q) ∧ ∀ j, j < 18 → M1 107 j = M 113 j := by
  obtain ⟨M1, e1, e2, e3, e4⟩ := cpyLoop (f_X9_back_l39 k) k (N := 18) (a := 113) (b := 107) (oa := 0) (ob := 0) (by omega) (fun f i M hi => by
    rw [f_X9_back_l39]
    by_cases c : 18 ≤ i
    · rw [if_pos c, if_pos (by rw [show (18 : Int32) = nI 18 from rfl, nIle (by omega) (by omega)]; exact c)]
    · rw [if_neg c, if_neg (by rw [show (18 : Int32) = nI 18 from rfl, nIle (by omega) (by omega)]; exact c), inb_nI (by omega) (by omega), nI_clamp (by omega), nIp, Nat.zero_add]; rfl) 18 0 FU M rfl (by have := FU_ge; omega)
  exact ⟨M1, e1, e2, fun j hj => by have := e3 j (by omega) hj; rwa [Nat.zero_add] at this⟩
theorem aside_l {M : Mem} : ∃ M1 : Mem, f_X9_laysAside M = some M1 ∧ (∀ q, q ≠ 108 → M1 q = M q) ∧ ∀ j, j < 12 → M1 108 j = M 104 j := by
  obtain ⟨M1, e1, e2, e3, e4⟩ := cpyLoop f_X9_laysAside_l2 (fun M => some M) (N := 12) (a := 104) (b := 108) (oa := 0) (ob := 0) (by omega) (fun f i M hi => by
    rw [f_X9_laysAside_l2]
    by_cases c : 12 ≤ i
    · rw [if_pos c, if_pos (by rw [show (12 : Int32) = nI 12 from rfl, nIle (by omega) (by omega)]; exact c)]
    · rw [if_neg c, if_neg (by rw [show (12 : Int32) = nI 12 from rfl, nIle (by omega) (by omega)]; exact c), inb_nI (by omega) (by omega), nI_clamp (by omega), nIp, Nat.zero_add]; rfl) 12 0 FU M rfl (by have := FU_ge; omega)
  exact ⟨M1, e1, e2, fun j hj => by have := e3 j (by omega) hj; rwa [Nat.zero_add] at this⟩
theorem laysBack_l {M : Mem} : ∃ M1 : Mem, f_X9_laysBack M = some M1 ∧ (∀ q, q ≠ 104 → M1 q = M q) ∧ ∀ j, j < 12 → M1 104 j = M 108 j := by
  obtain ⟨M1, e1, e2, e3, e4⟩ := cpyLoop f_X9_laysBack_l2 (fun M => some M) (N := 12) (a := 108) (b := 104) (oa := 0) (ob := 0) (by omega) (fun f i M hi => by
    rw [f_X9_laysBack_l2]
    by_cases c : 12 ≤ i
    · rw [if_pos c, if_pos (by rw [show (12 : Int32) = nI 12 from rfl, nIle (by omega) (by omega)]; exact c)]
    · rw [if_neg c, if_neg (by rw [show (12 : Int32) = nI 12 from rfl, nIle (by omega) (by omega)]; exact c), inb_nI (by omega) (by omega), nI_clamp (by omega), nIp, Nat.zero_add]; rfl) 12 0 FU M rfl (by have := FU_ge; omega)
  exact ⟨M1, e1, e2, fun j hj => by have := e3 j (by omega) hj; rwa [Nat.zero_add] at this⟩
theorem Hs.cp {S P K N D C S2 P2 K2 R2 S' P' K' N' D' C' S2' P2' R2' : Nat → Int32} {many : Nat} (h : Hs S P K N D C S2 P2 K2 R2 many) (hm : many ≤ 6) (h1 : ∀ j, j < 12 → S' j = S j) (h2 : ∀ j, j < 2 → P' j = P j) (h3 : ∀ j, j < 6 → K' j = K j) (h4 : ∀ j, j < 6 → N' j = N j) (h5 : ∀ j, j < 6 → D' j = D j) (h6 : ∀ j, j < 6 → C' j = C j) (g1 : ∀ j, j < 12 → S2' j = S2 j) (g2 : ∀ j, j < 2 → P2' j = P2 j) (g3 : ∀ j, j < 18 → R2' j = R2 j) : Hs S' P' K' N' D' C' S2' P2' K2 R2' many := by
  refine ⟨fun j hj => ?_, fun j hj => ?_, fun j hj => ?_⟩
  · rw [h1 j hj, g1 j hj]; exact h.1 j hj
  · rw [h2 j hj, g2 j hj]; exact h.2.1 j hj
  · rw [h3 j (by omega), h4 j (by omega), h5 j (by omega), h6 j (by omega), g3 _ (by omega), g3 _ (by omega), g3 _ (by omega)]; exact h.2.2 j hj
theorem image_op {Mc Mm : Mem} (h : Inv Mc Mm) : OpI f_X8_image f_X9_image Mc Mm := by
  obtain ⟨many, txt, a, b, c, d, e⟩ := id h
  obtain ⟨hs0, hm1, hm2, hm6, hh, hr⟩ := id a
  unfold OpI f_X8_image f_X9_image f_X1_become_8
  simp only [Option.bind_some]
  generalize hC : mu (mu (mu (mu (mcp (mcp (mcp (mcp (mcp (mcp Mc 2 0 9 0 12) 3 0 10 0 2) 4 0 11 0 6) 5 0 12 0 6) 6 0 13 0 6) 7 0 14 0 6) 8 6 (Mc 1 6)) 8 7 (Mc 1 7)) 8 8 (Mc 1 8)) 0 2 1 = C
  obtain ⟨P, p1, p2, p3⟩ := image_l (M := Mm) f_X9_image_b26
  obtain ⟨Q, q1, q2, q3⟩ := image_l3 (M := P) f_X9_image_b52
  rw [p1]
  unfold f_X9_image_b26
  rw [q1]
  unfold f_X9_image_b52
  generalize hD : mu (mu (mu (mu (mu Q 112 0 (Q 105 0)) 112 1 (Q 105 1)) 100 42 (Q 100 12)) 100 43 (Q 100 7)) 100 44 (Q 100 4) = D
  have Qo : ∀ q, q ≠ 111 → q ≠ 113 → Q q = Mm q := fun q h1 h2 => (q2 q h2).trans (p2 q h1)
  have Co : ∀ q, q ≠ 0 → (q < 8 ∨ 14 < q) → C q = Mc q := fun q h0 hq => by
    rw [← hC, mun h0, mun (by omega), mun (by omega), mun (by omega), mcp_o (by omega), mcp_o (by omega), mcp_o (by omega), mcp_o (by omega), mcp_o (by omega), mcp_o (by omega)]
  have Do : ∀ q, q ≠ 100 → q ≠ 111 → q ≠ 112 → q ≠ 113 → D q = Mm q := fun q h1 h2 h3 h4 => by rw [← hD, mun h1, mun h1, mun h1, mun h3, mun h3, Qo q h2 h4]
  have Ds : ∀ j, (j < 42 ∨ 44 < j) → D 100 j = Mm 100 j := fun j hj => by rw [← hD, mu_o (by omega), mu_o (by omega), mu_o (by omega), mun (by omega), mun (by omega), Qo 100 (by omega) (by omega)]
  refine ⟨nI many, C, D, ?_, ?_, many, txt, ?_, Or.inr ⟨?_, many, Nat.le_refl _, ?_⟩, ?_, ?_, ?_⟩
  · rw [mun (by omega), mun (by omega), mun (by omega), mcp_o (by omega), mcp_o (by omega), mcp_o (by omega), mcp_o (by omega), mcp_o (by omega), mcp_o (by omega), hm1]
  · rw [Qo 100 (by omega) (by omega), hm2]
  · unfold HouseI
    rw [Co 1 (by omega) (by omega), Co 2 (by omega) (by omega), Co 3 (by omega) (by omega), Co 4 (by omega) (by omega), Co 5 (by omega) (by omega), Co 6 (by omega) (by omega), Co 7 (by omega) (by omega), Do 104 (by omega) (by omega) (by omega) (by omega), Do 105 (by omega) (by omega) (by omega) (by omega), Do 106 (by omega) (by omega) (by omega) (by omega), Do 107 (by omega) (by omega) (by omega) (by omega), Ds 12 (by omega), Ds 7 (by omega), Ds 4 (by omega)]
    exact a
  · rw [← hC, mu_at]
  · refine ⟨?_, ?_⟩
    · rw [Do 106 (by omega) (by omega) (by omega) (by omega)]
      refine hs0.cp hm6 ?_ ?_ ?_ ?_ ?_ ?_ ?_ ?_ ?_
      · intro j hj; rw [← hC, mun (by omega), mun (by omega), mun (by omega), mun (by omega), mcp_o (by omega), mcp_o (by omega), mcp_o (by omega), mcp_o (by omega), mcp_o (by omega), mcp_in hj]
      · intro j hj; rw [← hC, mun (by omega), mun (by omega), mun (by omega), mun (by omega), mcp_o (by omega), mcp_o (by omega), mcp_o (by omega), mcp_o (by omega), mcp_in hj, mcp_o (by omega)]
      · intro j hj; rw [← hC, mun (by omega), mun (by omega), mun (by omega), mun (by omega), mcp_o (by omega), mcp_o (by omega), mcp_o (by omega), mcp_in hj, mcp_o (by omega), mcp_o (by omega)]
      · intro j hj; rw [← hC, mun (by omega), mun (by omega), mun (by omega), mun (by omega), mcp_o (by omega), mcp_o (by omega), mcp_in hj, mcp_o (by omega), mcp_o (by omega), mcp_o (by omega)]
      · intro j hj; rw [← hC, mun (by omega), mun (by omega), mun (by omega), mun (by omega), mcp_o (by omega), mcp_in hj, mcp_o (by omega), mcp_o (by omega), mcp_o (by omega), mcp_o (by omega)]
      · intro j hj; rw [← hC, mun (by omega), mun (by omega), mun (by omega), mun (by omega), mcp_in hj, mcp_o (by omega), mcp_o (by omega), mcp_o (by omega), mcp_o (by omega), mcp_o (by omega)]
      · intro j hj; rw [← hD, mun (by omega), mun (by omega), mun (by omega), mun (by omega), mun (by omega), q2 111 (by omega)]; exact p3 j hj
      · intro j hj
        have : j = 0 ∨ j = 1 := by omega
        rcases this with rfl | rfl
        · rw [← hD, mun (by omega), mun (by omega), mun (by omega), mu_o (by omega), mu_at, Qo 105 (by omega) (by omega)]
        · rw [← hD, mun (by omega), mun (by omega), mun (by omega), mu_at, Qo 105 (by omega) (by omega)]
      · intro j hj; rw [← hD, mun (by omega), mun (by omega), mun (by omega), mun (by omega), mun (by omega), q3 j hj, p2 107 (by omega)]
    · have s6 : C 8 6 = Mc 1 6 := by rw [← hC, mun (by omega), mu_o (by omega), mu_o (by omega), mu_at]
      have s7 : C 8 7 = Mc 1 7 := by rw [← hC, mun (by omega), mu_o (by omega), mu_at]
      have s8 : C 8 8 = Mc 1 8 := by rw [← hC, mun (by omega), mu_at]
      have d2 : D 100 42 = Mm 100 12 := by rw [← hD, mu_o (by omega), mu_o (by omega), mu_at, Qo 100 (by omega) (by omega)]
      have d3 : D 100 43 = Mm 100 7 := by rw [← hD, mu_o (by omega), mu_at, Qo 100 (by omega) (by omega)]
      have d4 : D 100 44 = Mm 100 4 := by rw [← hD, mu_at, Qo 100 (by omega) (by omega)]
      rw [s6, s7, s8, d2, d3, d4]
      exact ⟨hm1, hm2, hm6, hh, hr⟩
  · refine ⟨c.1, ?_, ?_, fun r hr => ?_⟩
    · rw [← hC, mu_o (by omega), mun (by omega), mun (by omega), mun (by omega), mcp_o (by omega), mcp_o (by omega), mcp_o (by omega), mcp_o (by omega), mcp_o (by omega), mcp_o (by omega)]; exact c.2.1
    · rw [Ds 3 (by omega)]; exact c.2.2.1
    · obtain ⟨x1, x2⟩ := c.2.2.2 r hr
      have hr6 : r < 6 := by have := c.1; omega
      have : evC C r = evC Mc r := by unfold evC; rw [Co _ (by omega) (by omega), Co _ (by omega) (by omega)]
      rw [Co _ (by omega) (by omega), this]
      exact ⟨x1, x2.keep (fun j _ => by rw [Do 101 (by omega) (by omega) (by omega) (by omega)]) (by rw [Do 102 (by omega) (by omega) (by omega) (by omega)])⟩
  · obtain ⟨n, B, d1, d2, d3, d4, d5⟩ := d
    refine ⟨n, B, d1, d2, ⟨?_, fun j hj => ?_⟩, ?_, fun j hj => ?_⟩
    · rw [Co 34 (by omega) (by omega)]; exact d3.1
    · rw [Co 35 (by omega) (by omega)]; exact d3.2 j hj
    · rw [Ds 6 (by omega)]; exact d4
    · rw [Do 103 (by omega) (by omega) (by omega) (by omega)]; exact d5 j hj
  · intro s hs
    have := e s hs
    unfold ShI at this ⊢
    rw [Co _ (by omega) (by omega), Co _ (by omega) (by omega), Do 114 (by omega) (by omega) (by omega) (by omega), Do 115 (by omega) (by omega) (by omega) (by omega), Do 116 (by omega) (by omega) (by omega) (by omega), Do 117 (by omega) (by omega) (by omega) (by omega)]
    exact this
theorem back_op {Mc Mm : Mem} (h : Inv Mc Mm) : OpI f_X8_back f_X9_back Mc Mm := by
  obtain ⟨many, txt, a, b, c, d, e⟩ := id h
  unfold OpI f_X8_back f_X9_back
  rcases b with ⟨b1, b2⟩ | ⟨b1, k, hk, ks, km1, km2, km6, kh, kr⟩
  · rw [if_pos b1, if_pos b2]
    exact ⟨_, _, _, rfl, rfl, h⟩
  have n42 : ¬ Mm 100 42 = -1 := by rw [km2]; intro hx; exact nI_pos (n := k) (by omega) (by rw [hx]; decide)
  rw [if_neg (by rw [b1]; decide), if_neg n42]
  unfold f_X1_become_1
  simp only [Option.bind_some]
  generalize hC : mu (mu (mu (mcp (mcp (mcp (mcp (mcp (mcp Mc 9 0 2 0 12) 10 0 3 0 2) 11 0 4 0 6) 12 0 5 0 6) 13 0 6 0 6) 14 0 7 0 6) 1 6 (Mc 8 6)) 1 7 (Mc 8 7)) 1 8 (Mc 8 8) = C
  obtain ⟨P, p1, p2, p3⟩ := back_l (M := Mm) f_X9_back_b37
  obtain ⟨Q, q1, q2, q3⟩ := back_l3 (M := P) f_X9_back_b63
  rw [p1]
  unfold f_X9_back_b37
  rw [q1]
  unfold f_X9_back_b63
  generalize hD : mu (mu (mu (mu (mu Q 105 0 (Q 112 0)) 105 1 (Q 112 1)) 100 12 (Q 100 42)) 100 7 (Q 100 43)) 100 4 (Q 100 44) = D
  have Qo : ∀ q, q ≠ 104 → q ≠ 107 → Q q = Mm q := fun q h1 h2 => (q2 q h2).trans (p2 q h1)
  have Co : ∀ q, (q < 1 ∨ 7 < q) → C q = Mc q := fun q hq => by
    rw [← hC, mun (by omega), mun (by omega), mun (by omega), mcp_o (by omega), mcp_o (by omega), mcp_o (by omega), mcp_o (by omega), mcp_o (by omega), mcp_o (by omega)]
  have Do : ∀ q, q ≠ 100 → q ≠ 104 → q ≠ 105 → q ≠ 107 → D q = Mm q := fun q h1 h2 h3 h4 => by rw [← hD, mun h1, mun h1, mun h1, mun h3, mun h3, Qo q h2 h4]
  have Ds : ∀ j, j ≠ 4 → j ≠ 7 → j ≠ 12 → D 100 j = Mm 100 j := fun j h1 h2 h3 => by rw [← hD, mu_o h1, mu_o h2, mu_o h3, mun (by omega), mun (by omega), Qo 100 (by omega) (by omega)]
  have s6 : C 1 6 = Mc 8 6 := by rw [← hC, mu_o (by omega), mu_o (by omega), mu_at]
  have s7 : C 1 7 = Mc 8 7 := by rw [← hC, mu_o (by omega), mu_at]
  have s8 : C 1 8 = Mc 8 8 := by rw [← hC, mu_at]
  have dd2 : D 100 12 = Mm 100 42 := by rw [← hD, mu_o (by omega), mu_o (by omega), mu_at, Qo 100 (by omega) (by omega)]
  have dd3 : D 100 7 = Mm 100 43 := by rw [← hD, mu_o (by omega), mu_at, Qo 100 (by omega) (by omega)]
  have dd4 : D 100 4 = Mm 100 44 := by rw [← hD, mu_at, Qo 100 (by omega) (by omega)]
  have kI : KeptI C D k txt := by
    unfold KeptI
    rw [Co 8 (by omega), Co 9 (by omega), Co 10 (by omega), Co 11 (by omega), Co 12 (by omega), Co 13 (by omega), Co 14 (by omega), Do 111 (by omega) (by omega) (by omega) (by omega), Do 112 (by omega) (by omega) (by omega) (by omega), Do 106 (by omega) (by omega) (by omega) (by omega), Do 113 (by omega) (by omega) (by omega) (by omega), Ds 42 (by omega) (by omega) (by omega), Ds 43 (by omega) (by omega) (by omega), Ds 44 (by omega) (by omega) (by omega)]
    exact ⟨ks, km1, km2, km6, kh, kr⟩
  refine ⟨nI k, C, D, by rw [s6, km1], by rw [Qo 100 (by omega) (by omega), km2], k, txt, ⟨?_, ?_⟩, Or.inr ⟨by rw [Co 0 (by omega)]; exact b1, k, Nat.le_refl _, kI⟩, ?_, ?_, ?_⟩
  · rw [Do 106 (by omega) (by omega) (by omega) (by omega)]
    refine ks.cp km6 ?_ ?_ ?_ ?_ ?_ ?_ ?_ ?_ ?_
    · intro j hj; rw [← hC, mun (by omega), mun (by omega), mun (by omega), mcp_o (by omega), mcp_o (by omega), mcp_o (by omega), mcp_o (by omega), mcp_o (by omega), mcp_in hj]
    · intro j hj; rw [← hC, mun (by omega), mun (by omega), mun (by omega), mcp_o (by omega), mcp_o (by omega), mcp_o (by omega), mcp_o (by omega), mcp_in hj, mcp_o (by omega)]
    · intro j hj; rw [← hC, mun (by omega), mun (by omega), mun (by omega), mcp_o (by omega), mcp_o (by omega), mcp_o (by omega), mcp_in hj, mcp_o (by omega), mcp_o (by omega)]
    · intro j hj; rw [← hC, mun (by omega), mun (by omega), mun (by omega), mcp_o (by omega), mcp_o (by omega), mcp_in hj, mcp_o (by omega), mcp_o (by omega), mcp_o (by omega)]
    · intro j hj; rw [← hC, mun (by omega), mun (by omega), mun (by omega), mcp_o (by omega), mcp_in hj, mcp_o (by omega), mcp_o (by omega), mcp_o (by omega), mcp_o (by omega)]
    · intro j hj; rw [← hC, mun (by omega), mun (by omega), mun (by omega), mcp_in hj, mcp_o (by omega), mcp_o (by omega), mcp_o (by omega), mcp_o (by omega), mcp_o (by omega)]
    · intro j hj; rw [← hD, mun (by omega), mun (by omega), mun (by omega), mun (by omega), mun (by omega), q2 104 (by omega)]; exact p3 j hj
    · intro j hj
      have : j = 0 ∨ j = 1 := by omega
      rcases this with rfl | rfl
      · rw [← hD, mun (by omega), mun (by omega), mun (by omega), mu_o (by omega), mu_at, Qo 112 (by omega) (by omega)]
      · rw [← hD, mun (by omega), mun (by omega), mun (by omega), mu_at, Qo 112 (by omega) (by omega)]
    · intro j hj; rw [← hD, mun (by omega), mun (by omega), mun (by omega), mun (by omega), mun (by omega), q3 j hj, p2 113 (by omega)]
  · rw [s6, s7, s8, dd2, dd3, dd4]
    exact ⟨km1, km2, km6, kh, kr⟩
  · exact c.cg (fun q h1 h2 => Co q (by omega)) (Do 101 (by omega) (by omega) (by omega) (by omega)) (Do 102 (by omega) (by omega) (by omega) (by omega)) (Ds 3 (by omega) (by omega) (by omega))
  · obtain ⟨n, B, d1, d2, d3, d4, d5⟩ := d
    refine ⟨n, B, d1, d2, ⟨?_, fun j hj => ?_⟩, ?_, fun j hj => ?_⟩
    · rw [Co 34 (by omega)]; exact d3.1
    · rw [Co 35 (by omega)]; exact d3.2 j hj
    · rw [Ds 6 (by omega) (by omega) (by omega)]; exact d4
    · rw [Do 103 (by omega) (by omega) (by omega) (by omega)]; exact d5 j hj
  · intro s hs
    have := e s hs
    unfold ShI at this ⊢
    rw [Co _ (by omega), Co _ (by omega), Do 114 (by omega) (by omega) (by omega) (by omega), Do 115 (by omega) (by omega) (by omega) (by omega), Do 116 (by omega) (by omega) (by omega) (by omega), Do 117 (by omega) (by omega) (by omega) (by omega)]
    exact this
