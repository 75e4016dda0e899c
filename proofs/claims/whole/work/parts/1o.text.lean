/-! TEXT, TAKEN, IMAGE, BACK -/
theorem textM_l (k : Mem → Option (Int32 × Mem)) {txt n : Nat} {B : Nat → Nat} (ht : txt < 6) (hn : n ≤ 160) : ∀ m i fuel (M : Mem), i + m = n → m < fuel → M 100 6 = nI n → M 100 3 = nI txt → (∀ j, j < n → M 103 j = nI (B j)) → (∀ j, j < i → M 101 (160 * txt + j) = nI (B j)) →
    ∃ M1 : Mem, f_X9_text_l14 k fuel (nI i) M = k M1 ∧ (∀ j, j < n → M1 101 (160 * txt + j) = nI (B j)) ∧ (∀ q, q ≠ 101 → M1 q = M q) ∧ ∀ j, j < 160 * txt → M1 101 j = M 101 j := by
  intro m
  induction m with
  | zero =>
    intro i fuel M hi hf h6 h3 h103 h101
    obtain ⟨f, rfl⟩ : ∃ f, fuel = f + 1 := ⟨fuel - 1, by omega⟩
    rw [f_X9_text_l14, h6, if_pos (nI_le (by omega) (by omega))]
    exact ⟨M, rfl, fun j hj => h101 j (by omega), fun _ _ => rfl, fun _ _ => rfl⟩
  | succ m ih =>
    intro i fuel M hi hf h6 h3 h103 h101
    obtain ⟨f, rfl⟩ : ∃ f, fuel = f + 1 := ⟨fuel - 1, by omega⟩
    rw [f_X9_text_l14, h6, if_neg (nI_ge (by omega) (by omega)), h3, show (160 : Int32) = nI 160 from rfl, pk_mul, nI_add, inb_nI (by omega) (by omega), inb_nI (show 160 * txt + i < 960 by omega) (by omega), nI_clamp (by omega), nI_clamp (by omega), h103 i (by omega), nIp]
    simp only [ck_true]
    obtain ⟨M1, e1, e2, e3, e4⟩ := ih (i + 1) f (mu M 101 (160 * txt + i) (nI (B i))) (by omega) (by omega) (by rw [mun (by omega)]; exact h6) (by rw [mun (by omega)]; exact h3) (fun j hj => by rw [mun (by omega)]; exact h103 j hj) (fun j hj => by
      by_cases e : j = i
      · rw [e, mu_at]
      · rw [mu_o (by omega)]; exact h101 j (by omega))
    exact ⟨M1, e1, e2, fun q hq => (e3 q hq).trans (mun hq), fun j hj => (e4 j hj).trans (mu_o (by omega))⟩
theorem text_op {Mc Mm : Mem} (h : Inv Mc Mm) : OpI f_X8_text f_X9_text Mc Mm := by
  obtain ⟨many, txt, a, b, c, ⟨n, B, hn, hB, hC, h6, h103⟩, e⟩ := id h
  obtain ⟨t1, t2, t3, t4⟩ := id c
  unfold OpI f_X8_text f_X9_text
  rw [t2, t3]
  by_cases c6 : txt = 6
  · subst c6
    rw [if_neg (show ¬ nI 6 < 6 by decide), if_pos (show nI 6 = 6 from rfl)]
    exact ⟨_, _, _, rfl, rfl, h⟩
  have ht6 : txt < 6 := by omega
  have ht : isTx (16 + 3 * txt) := ⟨txt, ht6, rfl⟩
  rw [if_pos (show nI txt < 6 from nI_lt (b := 6) (by omega) (by omega)), if_neg (show ¬ nI txt = 6 by rw [show (6 : Int32) = nI 6 from rfl, nIeq (by omega) (by omega)]; exact c6), inb_nI (show txt < 6 by omega) (by omega), nI_clamp (show txt < 2 ^ 31 by omega)]
  simp only [ck_true]
  obtain ⟨P, l1, l2, l3, l4⟩ := textM_l (B := B) f_X9_text_b49 ht6 hn n 0 FU Mm (by omega) (by have := FU_ge; omega) h6 t3 h103 (fun j hj => by omega)
  rw [show (0 : Int32) = nI 0 from rfl, l1]
  unfold f_X9_text_b49
  have P3 : P 100 3 = nI txt := by rw [l3 100 (by omega)]; exact t3
  have P6 : P 100 6 = nI n := by rw [l3 100 (by omega)]; exact h6
  rw [P3, P6, inb_nI ht6 (by omega), nI_clamp (show txt < 2 ^ 31 by omega)]
  simp only [ck_true]
  generalize hQ : mu (mu P 102 txt (nI n)) 100 6 0 = Q
  have Q101 : ∀ j, Q 101 j = P 101 j := fun j => by rw [← hQ, mun (by omega), mun (by omega)]
  have Q102 : Q 102 txt = nI n := by rw [← hQ, mun (by omega), mu_at]
  have Q102o : ∀ r, r ≠ txt → Q 102 r = Mm 102 r := fun r hr => by rw [← hQ, mun (by omega), mu_o hr, l3 102 (by omega)]
  have Qo : ∀ q, q ≠ 100 → q ≠ 101 → q ≠ 102 → Q q = Mm q := fun q q1 q2 q3 => by rw [← hQ, mun q1, mun q3, l3 q q2]
  have Qs : ∀ j, j ≠ 6 → Q 100 j = Mm 100 j := fun j hj => by rw [← hQ, mu_o hj, mun (by omega), l3 100 (by omega)]
  have Q6 : Q 100 6 = 0 := by rw [← hQ, mu_at]
  obtain ⟨x, C, v, Cm, e1, e2, e3, e4, e5, e6⟩ := readSim ht hn hB hC ht6 Q102 (fun j hj => by rw [Q101]; exact l2 j hj) (w := 0) (by omega)
  rw [e1, show f_X9_read (nI txt) 0 Q = _ from e2]
  simp only [Option.bind_some]
  -- what stays as it was
  have keepC : ∀ q, q ≤ 15 ∨ 35 ≤ q → C q = Mc q := fun q hq => e3 q (by omega) (by omega) (by omega) (by omega)
  have keepM : ∀ q, q ≠ 100 → q ≠ 101 → q ≠ 102 → Cm q = Mm q := fun q q1 q2 q3 => (e5.1 q q1).trans (Qo q q1 q2 q3)
  have keepS : ∀ j, (j < 19 ∨ 27 < j) → j ≠ 6 → Cm 100 j = Mm 100 j := fun j h1 h2 => (e5.2 j h1).trans (Qs j h2)
  have inv : ∀ (C2 Cm2 : Mem) (txt2 : Nat), txt ≤ txt2 → (∀ q, q ≠ 0 → C2 q = C q) → (C2 0 2 = C 0 2) → (∀ q, q ≠ 100 → Cm2 q = Cm q) → (∀ j, j ≠ 3 → Cm2 100 j = Cm 100 j) → TextI C2 Cm2 txt2 → Inv C2 Cm2 := by
    intro C2 Cm2 txt2 hle f1 f2 f3 f4 hT
    refine ⟨many, txt2, ?_, ?_, hT, ?_, ?_⟩
    · unfold HouseI
      rw [f1 1 (by omega), f1 2 (by omega), f1 3 (by omega), f1 4 (by omega), f1 5 (by omega), f1 6 (by omega), f1 7 (by omega), f3 104 (by omega), f3 105 (by omega), f3 106 (by omega), f3 107 (by omega), f4 12 (by omega), f4 7 (by omega), f4 4 (by omega), keepC 1 (by omega), keepC 2 (by omega), keepC 3 (by omega), keepC 4 (by omega), keepC 5 (by omega), keepC 6 (by omega), keepC 7 (by omega), keepM 104 (by omega) (by omega) (by omega), keepM 105 (by omega) (by omega) (by omega), keepM 106 (by omega) (by omega) (by omega), keepM 107 (by omega) (by omega) (by omega), keepS 12 (by omega) (by omega), keepS 7 (by omega) (by omega), keepS 4 (by omega) (by omega)]
      obtain ⟨a1, a2, a3, a4, a5, a6, y, hy, a7⟩ := a
      exact ⟨a1, a2, a3, a4, a5, a6, y, by omega, a7⟩
    · unfold ImageI KeptI
      rw [f2, f1 8 (by omega), f1 9 (by omega), f1 10 (by omega), f1 11 (by omega), f1 12 (by omega), f1 13 (by omega), f1 14 (by omega), f3 111 (by omega), f3 112 (by omega), f3 106 (by omega), f3 113 (by omega), f4 42 (by omega), f4 43 (by omega), f4 44 (by omega), keepC 0 (by omega), keepC 8 (by omega), keepC 9 (by omega), keepC 10 (by omega), keepC 11 (by omega), keepC 12 (by omega), keepC 13 (by omega), keepC 14 (by omega), keepM 111 (by omega) (by omega) (by omega), keepM 112 (by omega) (by omega) (by omega), keepM 106 (by omega) (by omega) (by omega), keepM 113 (by omega) (by omega) (by omega), keepS 42 (by omega) (by omega), keepS 43 (by omega) (by omega), keepS 44 (by omega) (by omega)]
      rcases b with b | ⟨b1, k, hk, b2, b3, b4, b5, b6, b7, y, hy, b8⟩
      · exact Or.inl b
      · exact Or.inr ⟨b1, k, hk, b2, b3, b4, b5, b6, b7, y, by omega, b8⟩
    · refine ⟨0, fun _ => 0, by omega, fun j hj => by omega, ⟨?_, fun j hj => by omega⟩, ?_, fun j hj => by omega⟩
      · rw [f1 34 (by omega)]; exact e4
      · rw [f4 6 (by omega), e5.2 6 (by omega)]; exact Q6
    · intro s hs
      have := e s hs
      unfold ShI at this ⊢
      rw [f1 _ (by omega), f1 _ (by omega), f3 114 (by omega), f3 115 (by omega), f3 116 (by omega), f3 117 (by omega), keepC _ (by omega), keepC _ (by omega), keepM 114 (by omega) (by omega) (by omega), keepM 115 (by omega) (by omega) (by omega), keepM 116 (by omega) (by omega) (by omega), keepM 117 (by omega) (by omega) (by omega)]
      exact this
  -- the texts before
  have old : ∀ (C2 Cm2 : Mem), (∀ q, q ≠ 0 → C2 q = C q) → (∀ q, q ≠ 100 → Cm2 q = Cm q) → ∀ r, r < txt → WfT (C2 (16 + 3 * r + 2)) ∧ TxM Cm2 r (evC C2 r) := by
    intro C2 Cm2 f1 f3 r hr
    obtain ⟨x1, x2⟩ := t4 r hr
    have k1 : C2 (16 + 3 * r + 1) = Mc (16 + 3 * r + 1) := by rw [f1 _ (by omega), e3 _ (by omega) (by omega) (by omega) (by omega)]
    have k2 : C2 (16 + 3 * r + 2) = Mc (16 + 3 * r + 2) := by rw [f1 _ (by omega), e3 _ (by omega) (by omega) (by omega) (by omega)]
    have : evC C2 r = evC Mc r := by unfold evC; rw [k1, k2]
    rw [this, k2]
    refine ⟨x1, x2.keep (fun j hj => ?_) ?_⟩
    · rw [f3 101 (by omega), e5.1 101 (by omega), Q101, l4 _ (by omega)]
    · rw [f3 102 (by omega), e5.1 102 (by omega), Q102o r (by omega)]
  rcases e6 with ⟨rfl, w1, w2, w3⟩ | ⟨f, hf, rfl, w1, w2⟩
  · rw [if_pos rfl, if_pos (show Cm 100 26 = 0 from w3)]
    have C04 : C 0 4 = nI txt := by rw [keepC 0 (by omega)]; exact t2
    have Cm3 : Cm 100 3 = nI txt := by rw [keepS 3 (by omega) (by omega)]; exact t3
    rw [C04, Cm3, nIps, nIp]
    refine ⟨_, _, _, rfl, rfl, inv _ _ (txt + 1) (by omega) (fun q hq => mun hq) (mu_o (by omega)) (fun q hq => mun hq) (fun j hj => mu_o hj) ⟨by omega, mu_at, mu_at, fun r hr => ?_⟩⟩
    by_cases er : r = txt
    · subst er
      have k1 : mu C 0 4 (nI (r + 1)) (16 + 3 * r + 1) = C (16 + 3 * r + 1) := mun (by omega)
      have k2 : mu C 0 4 (nI (r + 1)) (16 + 3 * r + 2) = C (16 + 3 * r + 2) := mun (by omega)
      rw [k2]
      refine ⟨w1, ?_⟩
      intro M2 m1 m2 w hw
      have m1' : ∀ j, j < n → M2 101 (160 * r + j) = nI (B j) := fun j hj => by rw [m1 j (by omega), mun (by omega), e5.1 101 (by omega), Q101]; exact l2 j hj
      have m2' : M2 102 r = nI n := by rw [m2, mun (by omega), e5.1 102 (by omega)]; exact Q102
      obtain ⟨x2, C2, v2, Cm2, g1, g2, g3, g4, g5, g6⟩ := readSim ht hn hB hC ht6 m2' m1' hw
      rw [e1] at g1
      have gx := Option.some.inj g1
      have gx1 : (-1 : Int32) = x2 := congrArg Prod.fst gx
      have gx2 : C = C2 := congrArg Prod.snd gx
      subst gx2
      rcases g6 with ⟨_, _, g8, _⟩ | ⟨f, hf, g7, _⟩
      · refine ⟨Cm2, ?_, g5.1, fun j hj => g5.2 j (by omega)⟩
        rw [g2, g8]
        congr 2
        unfold evC
        rw [k1, k2]
        exact evT_congr (fun i hi => by unfold env; rw [if_pos hi])
      · exfalso
        rw [← gx1] at g7
        exact nI_pos (n := f) (by omega) (by rw [← g7]; decide)
    · exact old _ _ (fun q hq => mun hq) (fun q hq => mun hq) r (by omega)
  · rw [if_neg (show ¬ nI f = -1 from fun hx => nI_pos (n := f) (by omega) (by rw [hx]; decide)), if_neg (show ¬ Cm 100 26 = 0 by rw [w1]; decide), w2]
    refine ⟨_, _, _, rfl, rfl, inv C Cm txt (Nat.le_refl _) (fun _ _ => rfl) rfl (fun _ _ => rfl) (fun _ _ => rfl) ⟨t1, ?_, ?_, old C Cm (fun _ _ => rfl) (fun _ _ => rfl)⟩⟩
    · rw [keepC 0 (by omega)]; exact t2
    · rw [keepS 3 (by omega) (by omega)]; exact t3
