/-! ONE TOKEN ON, the reference's; both together -/
theorem nextM {f0 n i : Nat} {B : Nat → Nat} {M : Mem} (hn : n ≤ 160) (hB : ∀ j, j < n → B j < 256) (hC : BM M f0 n B) (h2 : M 100 21 = nI i) (hi : i ≤ n) :
    ∃ M1 : Mem, f_X9_next M = some M1 ∧ (∀ q, q ≠ 100 → M1 q = M q) ∧ (∀ j, j ≠ 21 → j ≠ 22 → j ≠ 23 → j ≠ 24 → M1 100 j = M 100 j) ∧ M1 100 23 = nI (stp (fun j => isBl (B j)) n i) ∧
    (stp (fun j => isBl (B j)) n i = n → M1 100 22 = 0) ∧
    (stp (fun j => isBl (B j)) n i < n → isLt (B (stp (fun j => isBl (B j)) n i)) = true → M1 100 21 = nI (stp (fun j => isLt (B j)) n (stp (fun j => isBl (B j)) n i)) ∧ M1 100 22 = 1) ∧
    (stp (fun j => isBl (B j)) n i < n → isDg (B (stp (fun j => isBl (B j)) n i)) = true → M1 100 21 = nI (stp (fun j => isDg (B j)) n (stp (fun j => isBl (B j)) n i)) ∧ M1 100 22 = (if stp (fun j => isDg (B j)) n (stp (fun j => isBl (B j)) n i) - stp (fun j => isBl (B j)) n i ≤ 4 then 2 else 4) ∧ M1 100 24 = nI (nmN B (stp (fun j => isBl (B j)) n i) (stp (fun j => isDg (B j)) n (stp (fun j => isBl (B j)) n i) - stp (fun j => isBl (B j)) n i))) ∧
    (stp (fun j => isBl (B j)) n i < n → isLt (B (stp (fun j => isBl (B j)) n i)) = false → isDg (B (stp (fun j => isBl (B j)) n i)) = false → (isSg (B (stp (fun j => isBl (B j)) n i)) = true → M1 100 21 = nI (stp (fun j => isBl (B j)) n i + 1) ∧ M1 100 22 = 3 ∧ M1 100 24 = nI (B (stp (fun j => isBl (B j)) n i))) ∧ (isSg (B (stp (fun j => isBl (B j)) n i)) = false → M1 100 22 = 4)) := by
  obtain ⟨s1, s2, s3, s4⟩ := stp_facts (fun j => isBl (B j)) n (n - i) i rfl hi
  unfold f_X9_next
  rw [skipM f_X9_next_b39 hn hB (n - i) i FU M rfl hi (by have := FU_ge; omega) hC h2]
  generalize stp (fun j => isBl (B j)) n i = p at s1 s2 s3 s4 ⊢
  generalize hM1 : mu M 100 21 (nI p) = M1
  have hC1 : BM M1 f0 n B := by rw [← hM1]; exact hC.mu (by omega)
  have e2 : M1 100 21 = nI p := by rw [← hM1]; exact mu_at
  have o1 : ∀ q, q ≠ 100 → M1 q = M q := fun q hq => by rw [← hM1]; exact mun hq
  have o1j : ∀ j, j ≠ 21 → M1 100 j = M 100 j := fun j hj => by rw [← hM1]; exact mu_o hj
  unfold f_X9_next_b39
  rw [e2]
  generalize hM2 : mu M1 100 23 (nI p) = M2
  have hC2 : BM M2 f0 n B := by rw [← hM2]; exact hC1.mu (by omega)
  have f2 : M2 100 21 = nI p := by rw [← hM2, mu_o (by omega)]; exact e2
  have f4 : M2 100 23 = nI p := by rw [← hM2]; exact mu_at
  have o2 : ∀ q, q ≠ 100 → M2 q = M q := fun q hq => by rw [← hM2, mun hq]; exact o1 q hq
  have o2j : ∀ j, j ≠ 21 → j ≠ 23 → M2 100 j = M 100 j := fun j h1 h2 => by rw [← hM2, mu_o h2]; exact o1j j h1
  rw [byteAt_eq hn (by omega) hC2]
  by_cases c : p < n
  · have hb := hB p c
    rw [if_pos c]
    simp only [Option.bind_some]
    rw [if_pos (nI_pos' (by omega)), inLt hb]
    simp only [Option.bind_some, zI_0]
    cases hl : isLt (B p) with
    | true =>
      rw [if_neg (by decide)]
      rw [wordM hn hB (n - p) p FU _ rfl s2 (by have := FU_ge; omega) ((hC2.mu (k := 22) (by omega)).mu (k := 22) (by omega)) (by rw [mu_o (by omega), mu_o (by omega)]; exact f2)]
      have hdg : isDg (B p) = false := by
        unfold isLt at hl; unfold isDg
        simp only [Bool.and_eq_true, decide_eq_true_eq] at hl
        rw [decide_eq_false (show ¬ B p ≤ 57 by omega)]; simp
      exact ⟨_, rfl, (fun q hq => by rw [mun hq, mun hq, mun hq]; exact o2 q hq), (fun j h1 h2 h3 h4 => by rw [mu_o h1, mu_o h2, mu_o h2]; exact o2j j h1 h3), (by rw [mu_o (by omega), mu_o (by omega), mu_o (by omega)]; exact f4), (fun h => by omega), (fun _ _ => ⟨mu_at, by rw [mu_o (by omega), mu_at]⟩), (fun _ h => by rw [hdg] at h; cases h), (fun _ h => by cases h)⟩
    | false =>
      rw [if_pos rfl, inDg hb]
      simp only [Option.bind_some, zI_0]
      cases hd : isDg (B p) with
      | true =>
        rw [if_neg (by decide)]
        have ch : ((Nat.toInt32 0).toInt64 == 0) = true := by decide
        rw [ch]
        simp only [ck_true]
        obtain ⟨w1, w2, w3, w4⟩ := stp_facts (fun j => isDg (B j)) n (n - p) p rfl s2
        have nm := numM (p := p) f_X9_next_b235 hn hB (n - p) p FU (mu (mu (mu M2 100 22 4) 100 22 2) 100 24 (Nat.toInt32 0)) rfl s2 (Nat.le_refl p) (by have := FU_ge; omega) (((hC2.mu (k := 22) (by omega)).mu (k := 22) (by omega)).mu (by omega)) (by rw [mu_o (by omega), mu_o (by omega), mu_o (by omega)]; exact f2) (by rw [mu_at, Nat.sub_self]; rfl) (fun j h1 h2 => by omega)
        rw [Nat.sub_self] at nm
        rw [show (0 : Int32) = nI 0 from rfl, nm]
        generalize stp (fun j => isDg (B j)) n p = e at w1 w2 w3 w4 ⊢
        unfold f_X9_next_b235
        generalize hM3 : mu (mu (mu (mu (mu M2 100 22 4) 100 22 2) 100 24 (Nat.toInt32 0)) 100 24 (nI (nmN B p (e - p)))) 100 21 (nI e) = M3
        have r : (if nI (e - p) ≤ 4 then some (mu M3 100 22 2) else some (mu M3 100 22 4)) = some (mu M3 100 22 (if e - p ≤ 4 then 2 else 4)) := by
          have e4 : (4 : Int32) = nI 4 := rfl
          by_cases h4 : e - p ≤ 4
          · rw [if_pos (e4 ▸ nI_le h4 (by omega)), if_pos h4]
          · rw [if_neg (e4 ▸ nI_ge (by omega) (by omega)), if_neg h4]
        rw [r]
        refine ⟨_, rfl, (fun q hq => by rw [mun hq, ← hM3, mun hq, mun hq, mun hq, mun hq, mun hq]; exact o2 q hq), (fun j h1 h2 h3 h4 => by rw [mu_o h2, ← hM3, mu_o h1, mu_o h4, mu_o h4, mu_o h2, mu_o h2]; exact o2j j h1 h3), (by rw [mu_o (by omega), ← hM3, mu_o (by omega), mu_o (by omega), mu_o (by omega), mu_o (by omega), mu_o (by omega)]; exact f4), (fun h => by omega), (fun _ h => by cases h), (fun _ _ => ⟨by rw [mu_o (by omega), ← hM3, mu_at], mu_at, by rw [mu_o (by omega), ← hM3, mu_o (by omega), mu_at]⟩), (fun _ _ h => by cases h)⟩
      | false =>
        rw [if_pos rfl]
        have e : ∀ c : Nat, c < 256 → (nI (B p) = nI c) = (B p = c) := fun c hc => nIeq (by omega) (by omega)
        rw [show (40 : Int32) = nI 40 from rfl, show (41 : Int32) = nI 41 from rfl, show (59 : Int32) = nI 59 from rfl, show (43 : Int32) = nI 43 from rfl, show (45 : Int32) = nI 45 from rfl, show (42 : Int32) = nI 42 from rfl, show (60 : Int32) = nI 60 from rfl, show (61 : Int32) = nI 61 from rfl]
        simp only [e 40 (by omega), e 41 (by omega), e 59 (by omega), e 43 (by omega), e 45 (by omega), e 42 (by omega), e 60 (by omega), e 61 (by omega)]
        have b300 : f_X9_next_b300 (nI (B p)) (mu M2 100 22 4) = some (mu (mu (mu (mu M2 100 22 4) 100 22 3) 100 24 (nI (B p))) 100 21 (nI (p + 1))) := by
          unfold f_X9_next_b300
          rw [nI_l (by omega), lN_chk (by omega), lN_i, mu_o (by omega), f2, nIp]
          rfl
        have sgn : isSg (B p) = true → ∃ M1 : Mem, f_X9_next_b300 (nI (B p)) (mu M2 100 22 4) = some M1 ∧ (∀ q, q ≠ 100 → M1 q = M q) ∧ (∀ j, j ≠ 21 → j ≠ 22 → j ≠ 23 → j ≠ 24 → M1 100 j = M 100 j) ∧ M1 100 23 = nI p ∧ (p = n → M1 100 22 = 0) ∧ (p < n → false = true → M1 100 21 = nI (stp (fun j => isLt (B j)) n p) ∧ M1 100 22 = 1) ∧ (p < n → false = true → M1 100 21 = nI (stp (fun j => isDg (B j)) n p) ∧ M1 100 22 = (if stp (fun j => isDg (B j)) n p - p ≤ 4 then 2 else 4) ∧ M1 100 24 = nI (nmN B p (stp (fun j => isDg (B j)) n p - p))) ∧ (p < n → True → True → (isSg (B p) = true → M1 100 21 = nI (p + 1) ∧ M1 100 22 = 3 ∧ M1 100 24 = nI (B p)) ∧ (isSg (B p) = false → M1 100 22 = 4)) := by
          intro hs
          rw [b300]
          exact ⟨_, rfl, (fun q hq => by rw [mun hq, mun hq, mun hq, mun hq]; exact o2 q hq), (fun j h1 h2 h3 h4 => by rw [mu_o h1, mu_o h4, mu_o h2, mu_o h2]; exact o2j j h1 h3), (by rw [mu_o (by omega), mu_o (by omega), mu_o (by omega), mu_o (by omega)]; exact f4), (fun h => by omega), (fun _ h => by cases h), (fun _ h => by cases h), (fun _ _ _ => ⟨fun _ => ⟨mu_at, by rw [mu_o (by omega), mu_o (by omega), mu_at], by rw [mu_o (by omega), mu_at]⟩, fun h => by rw [hs] at h; cases h⟩)⟩
        by_cases c1 : B p = 40
        · rw [if_pos c1]; exact sgn (by unfold isSg; rw [c1]; rfl)
        rw [if_neg c1]
        by_cases c2 : B p = 41
        · rw [if_pos c2]; exact sgn (by unfold isSg; rw [c2]; rfl)
        rw [if_neg c2]
        by_cases c3 : B p = 59
        · rw [if_pos c3]; exact sgn (by unfold isSg; rw [c3]; rfl)
        rw [if_neg c3]
        by_cases c4 : B p = 43
        · rw [if_pos c4]; exact sgn (by unfold isSg; rw [c4]; rfl)
        rw [if_neg c4]
        by_cases c5 : B p = 45
        · rw [if_pos c5]; exact sgn (by unfold isSg; rw [c5]; rfl)
        rw [if_neg c5]
        by_cases c6 : B p = 42
        · rw [if_pos c6]; exact sgn (by unfold isSg; rw [c6]; rfl)
        rw [if_neg c6]
        by_cases c7 : B p = 60
        · rw [if_pos c7]; exact sgn (by unfold isSg; rw [c7]; rfl)
        rw [if_neg c7]
        by_cases c8 : B p = 61
        · rw [if_pos c8]; exact sgn (by unfold isSg; rw [c8]; rfl)
        rw [if_neg c8]
        have hs : isSg (B p) = false := by unfold isSg; simp [c1, c2, c3, c4, c5, c6, c7, c8]
        exact ⟨_, rfl, (fun q hq => by rw [mun hq]; exact o2 q hq), (fun j h1 h2 h3 h4 => by rw [mu_o h2]; exact o2j j h1 h3), (by rw [mu_o (by omega)]; exact f4), (fun h => by omega), (fun _ h => by cases h), (fun _ h => by cases h), (fun _ _ _ => ⟨(fun h => by rw [hs] at h; cases h), fun _ => mu_at⟩)⟩
  · have pn : p = n := by omega
    rw [if_neg c]
    simp only [Option.bind_some]
    rw [if_neg (by decide)]
    refine ⟨_, rfl, (fun q hq => by rw [mun hq, mun hq, mun hq]; exact o2 q hq), (fun j h1 h2 h3 h4 => by rw [mu_o h3, mu_o h2, mu_o h2]; exact o2j j h1 h3), (by rw [mu_at, hC2.2.1, pn]), (fun _ => by rw [mu_o (by omega), mu_at]), (fun h => absurd h c), (fun h => absurd h c), (fun h => absurd h c)⟩
/-- both go on by one token -/
theorem advBoth {n f0 i : Nat} {B : Nat → Nat} {Mc Mm : Mem} (hn : n ≤ 160) (hB : ∀ j, j < n → B j < 256) (hC : BC Mc n B) (hM : BM Mm f0 n B) (h2 : Mc 34 2 = nI i) (h21 : Mm 100 21 = nI i) (hi : i ≤ n) :
    ∃ (Mc1 Mm1 : Mem) (p w : Nat), f_X5_advance Mc = some Mc1 ∧ f_X9_next Mm = some Mm1 ∧ Lx n B Mc1 Mm1 p w ∧ i ≤ p ∧ (∀ q, q ≠ 34 → Mc1 q = Mc q) ∧ (∀ j, j ≠ 2 → j ≠ 3 → j ≠ 4 → j ≠ 5 → Mc1 34 j = Mc 34 j) ∧ (∀ q, q ≠ 100 → Mm1 q = Mm q) ∧ (∀ j, j ≠ 21 → j ≠ 22 → j ≠ 23 → j ≠ 24 → Mm1 100 j = Mm 100 j) := by
  obtain ⟨Mc1, a1, a2, a3, a4, a5, a6, a7, a8⟩ := advC hn hB hC h2 hi
  obtain ⟨Mm1, b1, b2, b3, b4, b5, b6, b7, b8⟩ := nextM hn hB hM h21 hi
  obtain ⟨s1, s2, s3, s4⟩ := stp_facts (fun j => isBl (B j)) n (n - i) i rfl hi
  generalize stp (fun j => isBl (B j)) n i = p at a4 a5 a6 a7 a8 b4 b5 b6 b7 b8 s1 s2 s3 s4
  by_cases c : p < n
  · cases hl : isLt (B p) with
    | true =>
      obtain ⟨x1, x2, x3⟩ := a6 c hl
      obtain ⟨y1, y2⟩ := b6 c hl
      obtain ⟨w1, w2, w3, w4⟩ := stp_facts (fun j => isLt (B j)) n (n - p) p rfl s2
      have hp1 : p < stp (fun j => isLt (B j)) n p := by
        rw [stp_go (P := fun j => isLt (B j)) c hl]
        have := (stp_facts (fun j => isLt (B j)) n (n - (p + 1)) (p + 1) rfl (by omega)).1
        omega
      generalize stp (fun j => isLt (B j)) n p = e at x1 x2 x3 y1 w1 w2 w3 w4 hp1
      refine ⟨Mc1, Mm1, p, fw B p e, a1, b1, ⟨s2, a4, b4, Or.inr (Or.inl ⟨e, hp1, w2, x1, y1, y2, rfl, x2, x3, fun j h1 h2 => ?_⟩)⟩, s1, a2, a3, b2, b3⟩
      have := w3 j h1 h2
      intro h0
      simp only [h0] at this
      exact absurd this (by decide)
    | false =>
      cases hd : isDg (B p) with
      | true =>
        obtain ⟨x1, x2, x3⟩ := a7 c hd
        obtain ⟨y1, y2, y3⟩ := b7 c hd
        obtain ⟨w1, w2, w3, w4⟩ := stp_facts (fun j => isDg (B j)) n (n - p) p rfl s2
        have hp1 : p < stp (fun j => isDg (B j)) n p := by
          rw [stp_go (P := fun j => isDg (B j)) c hd]
          have := (stp_facts (fun j => isDg (B j)) n (n - (p + 1)) (p + 1) rfl (by omega)).1
          omega
        generalize stp (fun j => isDg (B j)) n p = e at x1 x2 x3 y1 y2 y3 w1 w2 w3 w4 hp1
        by_cases h4 : e - p ≤ 4
        · rw [if_pos h4] at x2 y2
          exact ⟨Mc1, Mm1, p, 12, a1, b1, ⟨s2, a4, b4, Or.inr (Or.inr (Or.inl ⟨e, nmN B p (e - p), hp1, w2, rfl, x1, y1, y2, x2, nmN_lt B p (e - p) (fun x hx => w3 (p + x) (by omega) (by omega)), x3, y3⟩))⟩, s1, a2, a3, b2, b3⟩
        · rw [if_neg h4] at x2 y2
          exact ⟨Mc1, Mm1, p, 12, a1, b1, ⟨s2, a4, b4, Or.inr (Or.inr (Or.inr (Or.inr ⟨c, rfl, x2, y2⟩)))⟩, s1, a2, a3, b2, b3⟩
      | false =>
        obtain ⟨x1, x2⟩ := a8 c hl hd
        obtain ⟨y1, y2⟩ := b8 c hl hd
        cases hs : isSg (B p) with
        | true =>
          obtain ⟨z1, z2, z3⟩ := y1 hs
          rw [hs, if_pos rfl] at x2
          exact ⟨Mc1, Mm1, p, 12, a1, b1, ⟨s2, a4, b4, Or.inr (Or.inr (Or.inr (Or.inl ⟨c, rfl, hs, x1, z1, z2, x2, z3⟩)))⟩, s1, a2, a3, b2, b3⟩
        | false =>
          rw [hs, if_neg (by decide)] at x2
          exact ⟨Mc1, Mm1, p, 12, a1, b1, ⟨s2, a4, b4, Or.inr (Or.inr (Or.inr (Or.inr ⟨c, rfl, x2, y2 hs⟩)))⟩, s1, a2, a3, b2, b3⟩
  · have pn : p = n := by omega
    exact ⟨Mc1, Mm1, p, 12, a1, b1, ⟨s2, a4, b4, Or.inl ⟨pn, rfl, a5 pn, b5 pn⟩⟩, s1, a2, a3, b2, b3⟩
