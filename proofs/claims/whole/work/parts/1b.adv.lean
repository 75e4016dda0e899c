/-! ONE TOKEN ON -/
def fwN (w : Nat → Bool) : Nat → Nat → Nat
  | 0, k => k
  | m + 1, k => if w k = true then k else fwN w m (k + 1)
/-- which of the twelve words stands from p to e (12: none) -/
def fw (B : Nat → Nat) (p e : Nat) : Nat := fwN (fun k => wIs B p e (sw k)) 12 0
theorem fwN_facts (w : Nat → Bool) : ∀ m k, k ≤ fwN w m k ∧ fwN w m k ≤ k + m ∧ (fwN w m k < k + m → w (fwN w m k) = true) ∧ (∀ j, k ≤ j → j < fwN w m k → w j = false) := by
  intro m
  induction m with
  | zero => intro k; exact ⟨Nat.le_refl _, Nat.le_refl _, fun h => absurd h (Nat.lt_irrefl _), fun j h1 h2 => absurd h1 (Nat.not_le.mpr h2)⟩
  | succ m ih =>
    intro k
    unfold fwN
    by_cases h : w k = true
    · rw [if_pos h]
      exact ⟨Nat.le_refl _, by omega, fun _ => h, fun j h1 h2 => by omega⟩
    · rw [if_neg h]
      obtain ⟨a, b, c, d⟩ := ih (k + 1)
      refine ⟨by omega, by omega, fun hh => c (by omega), fun j h1 h2 => ?_⟩
      by_cases e : j = k
      · subst e; cases hx : w j; rfl; exact absurd hx h
      · exact d j (by omega) h2
theorem fw_le (B : Nat → Nat) (p e : Nat) : fw B p e ≤ 12 := (fwN_facts _ 12 0).2.1
theorem fw_is {B : Nat → Nat} {p e k : Nat} (hk : k < 12) : wIs B p e (sw k) = decide (fw B p e = k) := by
  obtain ⟨a, b, c, d⟩ := fwN_facts (fun k => wIs B p e (sw k)) 12 0
  by_cases h : fw B p e = k
  · rw [decide_eq_true h, ← h]
    exact c (by show fw B p e < _; omega)
  · rw [decide_eq_false h]
    cases hx : wIs B p e (sw k)
    · rfl
    · exfalso
      have hlt : fw B p e < 12 ∨ fw B p e = 12 := by have := fw_le B p e; omega
      rcases hlt with hl | hl
      · have h1 := c (by show fw B p e < _; omega)
        exact h (sw_one _ hl k hk (wIs_one h1 hx))
      · have := d k (by omega) (by show k < fw B p e; omega)
        rw [hx] at this
        cases this
def tkW (w : Nat) : Int32 := if w < 6 then 259 else if w < 12 then nI (254 + w) else 257
theorem nameCode_eq (x : Int32) (M : Mem) : f_X7_nameCode x M = some ((-1) - x, M) := rfl
theorem advWord_eq {n p e : Nat} {B : Nat → Nat} {M : Mem} (hn : n ≤ 160) (hB : ∀ j, j < n → B j < 256) (hC : BC M n B) (h4 : M 34 4 = nI p) (h2 : M 34 2 = nI e) (hpe : p ≤ e) (he : e ≤ n) :
    f_X5_advanceWord_b39 M = some (if fw B p e < 6 then mu (mu M 34 3 259) 34 5 ((-1) - nI (fw B p e)) else mu (mu M 34 3 259) 34 3 (tkW (fw B p e))) := by
  have hC1 : BC (mu M 34 3 259) n B := hC.mu (by omega)
  have h41 : mu M 34 3 259 34 4 = nI p := by rw [mu_o (by omega)]; exact h4
  have h21 : mu M 34 3 259 34 2 = nI e := by rw [mu_o (by omega)]; exact h2
  have c0 : f_X5_isWord 1000 (mu M 34 3 259) = some (zI (wIs B p e (sw 0)), mu M 34 3 259) := isWordC (k := 0) (by omega) hn hB hC1 h41 h21 hpe he
  have c1 : f_X5_isWord 1001 (mu M 34 3 259) = some (zI (wIs B p e (sw 1)), mu M 34 3 259) := isWordC (k := 1) (by omega) hn hB hC1 h41 h21 hpe he
  have c2 : f_X5_isWord 1002 (mu M 34 3 259) = some (zI (wIs B p e (sw 2)), mu M 34 3 259) := isWordC (k := 2) (by omega) hn hB hC1 h41 h21 hpe he
  have c3 : f_X5_isWord 1003 (mu M 34 3 259) = some (zI (wIs B p e (sw 3)), mu M 34 3 259) := isWordC (k := 3) (by omega) hn hB hC1 h41 h21 hpe he
  have c4 : f_X5_isWord 1004 (mu M 34 3 259) = some (zI (wIs B p e (sw 4)), mu M 34 3 259) := isWordC (k := 4) (by omega) hn hB hC1 h41 h21 hpe he
  have c5 : f_X5_isWord 1005 (mu M 34 3 259) = some (zI (wIs B p e (sw 5)), mu M 34 3 259) := isWordC (k := 5) (by omega) hn hB hC1 h41 h21 hpe he
  have c6 : f_X5_isWord 1006 (mu M 34 3 259) = some (zI (wIs B p e (sw 6)), mu M 34 3 259) := isWordC (k := 6) (by omega) hn hB hC1 h41 h21 hpe he
  have c7 : f_X5_isWord 1007 (mu M 34 3 259) = some (zI (wIs B p e (sw 7)), mu M 34 3 259) := isWordC (k := 7) (by omega) hn hB hC1 h41 h21 hpe he
  have c8 : f_X5_isWord 1008 (mu M 34 3 259) = some (zI (wIs B p e (sw 8)), mu M 34 3 259) := isWordC (k := 8) (by omega) hn hB hC1 h41 h21 hpe he
  have c9 : f_X5_isWord 1009 (mu M 34 3 259) = some (zI (wIs B p e (sw 9)), mu M 34 3 259) := isWordC (k := 9) (by omega) hn hB hC1 h41 h21 hpe he
  have c10 : f_X5_isWord 1010 (mu M 34 3 259) = some (zI (wIs B p e (sw 10)), mu M 34 3 259) := isWordC (k := 10) (by omega) hn hB hC1 h41 h21 hpe he
  have c11 : f_X5_isWord 1011 (mu M 34 3 259) = some (zI (wIs B p e (sw 11)), mu M 34 3 259) := isWordC (k := 11) (by omega) hn hB hC1 h41 h21 hpe he
  have hfw : fw B p e = if wIs B p e (sw 0) = true then 0 else if wIs B p e (sw 1) = true then 1 else if wIs B p e (sw 2) = true then 2 else if wIs B p e (sw 3) = true then 3 else if wIs B p e (sw 4) = true then 4 else if wIs B p e (sw 5) = true then 5 else if wIs B p e (sw 6) = true then 6 else if wIs B p e (sw 7) = true then 7 else if wIs B p e (sw 8) = true then 8 else if wIs B p e (sw 9) = true then 9 else if wIs B p e (sw 10) = true then 10 else if wIs B p e (sw 11) = true then 11 else 12 := rfl
  unfold f_X5_advanceWord_b39
  simp only [c0, c1, c2, c3, c4, c5, c6, c7, c8, c9, c10, c11, Option.bind_some, nameCode_eq, zI_0]
  rw [hfw]
  generalize wIs B p e (sw 0) = b0
  generalize wIs B p e (sw 1) = b1
  generalize wIs B p e (sw 2) = b2
  generalize wIs B p e (sw 3) = b3
  generalize wIs B p e (sw 4) = b4
  generalize wIs B p e (sw 5) = b5
  generalize wIs B p e (sw 6) = b6
  generalize wIs B p e (sw 7) = b7
  generalize wIs B p e (sw 8) = b8
  generalize wIs B p e (sw 9) = b9
  generalize wIs B p e (sw 10) = b10
  generalize wIs B p e (sw 11) = b11
  cases b0
  case true => rfl
  cases b1
  case true => rfl
  cases b2
  case true => rfl
  cases b3
  case true => rfl
  cases b4
  case true => rfl
  cases b5
  case true => rfl
  cases b6
  case true => rfl
  cases b7
  case true => rfl
  cases b8
  case true => rfl
  cases b9
  case true => rfl
  cases b10
  case true => rfl
  cases b11
  case true => rfl
  rfl
/-- both stand at one token, at place p: w is the word's number (12: no such word) -/
def Lx (n : Nat) (B : Nat → Nat) (Mc Mm : Mem) (p w : Nat) : Prop :=
  p ≤ n ∧ Mc 34 4 = nI p ∧ Mm 100 23 = nI p ∧
  ((p = n ∧ w = 12 ∧ Mc 34 3 = 256 ∧ Mm 100 22 = 0) ∨
   (∃ e, p < e ∧ e ≤ n ∧ Mc 34 2 = nI e ∧ Mm 100 21 = nI e ∧ Mm 100 22 = 1 ∧ w = fw B p e ∧ Mc 34 3 = tkW w ∧ (w < 6 → Mc 34 5 = (-1) - nI w) ∧ ∀ j, p ≤ j → j < e → B j ≠ 0) ∨
   (∃ e v, p < e ∧ e ≤ n ∧ w = 12 ∧ Mc 34 2 = nI e ∧ Mm 100 21 = nI e ∧ Mm 100 22 = 2 ∧ Mc 34 3 = 258 ∧ v < 10000 ∧ Mc 34 5 = nI v ∧ Mm 100 24 = nI v) ∨
   (p < n ∧ w = 12 ∧ isSg (B p) = true ∧ Mc 34 2 = nI (p + 1) ∧ Mm 100 21 = nI (p + 1) ∧ Mm 100 22 = 3 ∧ Mc 34 3 = nI (B p) ∧ Mm 100 24 = nI (B p)) ∨
   (p < n ∧ w = 12 ∧ Mc 34 3 = 257 ∧ Mm 100 22 = 4))
theorem advC {n i : Nat} {B : Nat → Nat} {M : Mem} (hn : n ≤ 160) (hB : ∀ j, j < n → B j < 256) (hC : BC M n B) (h2 : M 34 2 = nI i) (hi : i ≤ n) :
    ∃ M1 : Mem, f_X5_advance M = some M1 ∧ (∀ q, q ≠ 34 → M1 q = M q) ∧ (∀ j, j ≠ 2 → j ≠ 3 → j ≠ 4 → j ≠ 5 → M1 34 j = M 34 j) ∧ M1 34 4 = nI (stp (fun j => isBl (B j)) n i) ∧
    (stp (fun j => isBl (B j)) n i = n → M1 34 3 = 256) ∧
    (stp (fun j => isBl (B j)) n i < n → isLt (B (stp (fun j => isBl (B j)) n i)) = true → M1 34 2 = nI (stp (fun j => isLt (B j)) n (stp (fun j => isBl (B j)) n i)) ∧ M1 34 3 = tkW (fw B (stp (fun j => isBl (B j)) n i) (stp (fun j => isLt (B j)) n (stp (fun j => isBl (B j)) n i))) ∧ (fw B (stp (fun j => isBl (B j)) n i) (stp (fun j => isLt (B j)) n (stp (fun j => isBl (B j)) n i)) < 6 → M1 34 5 = (-1) - nI (fw B (stp (fun j => isBl (B j)) n i) (stp (fun j => isLt (B j)) n (stp (fun j => isBl (B j)) n i))))) ∧
    (stp (fun j => isBl (B j)) n i < n → isDg (B (stp (fun j => isBl (B j)) n i)) = true → M1 34 2 = nI (stp (fun j => isDg (B j)) n (stp (fun j => isBl (B j)) n i)) ∧ M1 34 3 = (if stp (fun j => isDg (B j)) n (stp (fun j => isBl (B j)) n i) - stp (fun j => isBl (B j)) n i ≤ 4 then 258 else 257) ∧ M1 34 5 = nI (nmN B (stp (fun j => isBl (B j)) n i) (stp (fun j => isDg (B j)) n (stp (fun j => isBl (B j)) n i) - stp (fun j => isBl (B j)) n i))) ∧
    (stp (fun j => isBl (B j)) n i < n → isLt (B (stp (fun j => isBl (B j)) n i)) = false → isDg (B (stp (fun j => isBl (B j)) n i)) = false → M1 34 2 = nI (stp (fun j => isBl (B j)) n i + 1) ∧ M1 34 3 = (if isSg (B (stp (fun j => isBl (B j)) n i)) = true then nI (B (stp (fun j => isBl (B j)) n i)) else 257)) := by
  obtain ⟨s1, s2, s3, s4⟩ := stp_facts (fun j => isBl (B j)) n (n - i) i rfl hi
  unfold f_X5_advance
  rw [skipC f_X5_advance_b52 hn hB (n - i) i FU M rfl hi (by have := FU_ge; omega) hC h2]
  generalize stp (fun j => isBl (B j)) n i = p at s1 s2 s3 s4 ⊢
  generalize hM1 : mu M 34 2 (nI p) = M1
  have hC1 : BC M1 n B := by rw [← hM1]; exact hC.mu (by omega)
  have e2 : M1 34 2 = nI p := by rw [← hM1]; exact mu_at
  have o1 : ∀ q, q ≠ 34 → M1 q = M q := fun q hq => by rw [← hM1]; exact mun hq
  have o1j : ∀ j, j ≠ 2 → M1 34 j = M 34 j := fun j hj => by rw [← hM1]; exact mu_o hj
  unfold f_X5_advance_b52
  rw [e2, hC1.1]
  by_cases c : p < n
  · rw [if_pos (nI_lt c (by omega)), inb_nI (show p < 160 by omega) (by omega), nI_clamp (by omega), hC1.2 p c, isLetC (hB p c)]
    simp only [ck_true, Option.bind_some, zI_0]
    generalize hM2 : mu M1 34 4 (nI p) = M2
    have hC2 : BC M2 n B := by rw [← hM2]; exact hC1.mu (by omega)
    have f2 : M2 34 2 = nI p := by rw [← hM2, mu_o (by omega)]; exact e2
    have f4 : M2 34 4 = nI p := by rw [← hM2]; exact mu_at
    have o2 : ∀ q, q ≠ 34 → M2 q = M q := fun q hq => by rw [← hM2, mun hq]; exact o1 q hq
    have o2j : ∀ j, j ≠ 2 → j ≠ 4 → M2 34 j = M 34 j := fun j h1 h2 => by rw [← hM2, mu_o h2]; exact o1j j h1
    cases hl : isLt (B p) with
    | true =>
      rw [if_neg (by decide)]
      obtain ⟨w1, w2, w3, w4⟩ := stp_facts (fun j => isLt (B j)) n (n - p) p rfl s2
      unfold f_X5_advanceWord
      rw [wordC f_X5_advanceWord_b39 hn hB (n - p) p FU M2 rfl s2 (by have := FU_ge; omega) hC2 f2]
      generalize stp (fun j => isLt (B j)) n p = e at w1 w2 w3 w4 ⊢
      rw [advWord_eq (n := n) (p := p) (e := e) hn hB (hC2.mu (by omega)) (by rw [mu_o (by omega)]; exact f4) mu_at w1 w2]
      simp only [Option.bind_some]
      have hdg : isDg (B p) = false := by
        unfold isLt at hl; unfold isDg
        simp only [Bool.and_eq_true, decide_eq_true_eq] at hl
        rw [decide_eq_false (show ¬ B p ≤ 57 by omega)]; simp
      refine ⟨_, rfl, ?_, ?_, ?_, (fun h => by omega), fun _ _ => ?_, (fun _ h => by rw [hdg] at h; cases h), (fun _ h => by cases h)⟩
      · intro q hq
        split
        · rw [mun hq, mun hq, mun hq]; exact o2 q hq
        · rw [mun hq, mun hq, mun hq]; exact o2 q hq
      · intro j h1 h2 h3 h4
        split
        · rw [mu_o h4, mu_o h2, mu_o h1]; exact o2j j h1 h3
        · rw [mu_o h2, mu_o h2, mu_o h1]; exact o2j j h1 h3
      · split
        · rw [mu_o (by omega), mu_o (by omega), mu_o (by omega)]; exact f4
        · rw [mu_o (by omega), mu_o (by omega), mu_o (by omega)]; exact f4
      · refine ⟨?_, ?_, fun h => ?_⟩
        · split
          · rw [mu_o (by omega), mu_o (by omega)]; exact mu_at
          · rw [mu_o (by omega), mu_o (by omega)]; exact mu_at
        · by_cases h6 : fw B p e < 6
          · rw [if_pos h6, mu_o (by omega), mu_at]; unfold tkW; rw [if_pos h6]
          · rw [if_neg h6, mu_at]
        · rw [if_pos h, mu_at]
    | false =>
      rw [if_pos rfl, f2, inb_nI (show p < 160 by omega) (by omega), nI_clamp (by omega), hC2.2 p c, isDigC (hB p c)]
      simp only [ck_true, Option.bind_some, zI_0]
      cases hd : isDg (B p) with
      | true =>
        rw [if_neg (by decide)]
        obtain ⟨w1, w2, w3, w4⟩ := stp_facts (fun j => isDg (B j)) n (n - p) p rfl s2
        unfold f_X5_advanceNumber
        rw [numC (p := p) f_X5_advanceNumber_b81 hn hB (n - p) p FU (mu M2 34 5 0) rfl s2 (Nat.le_refl p) (by have := FU_ge; omega) (hC2.mu (by omega)) (by rw [mu_o (by omega)]; exact f2) (by rw [mu_o (by omega)]; exact f4) (by rw [mu_at, Nat.sub_self]; rfl) (fun j h1 h2 => by omega)]
        generalize stp (fun j => isDg (B j)) n p = e at w1 w2 w3 w4 ⊢
        unfold f_X5_advanceNumber_b81
        rw [mu_at, mu_o (show (4 : Nat) ≠ 2 by omega), mu_o (show (4 : Nat) ≠ 5 by omega), mu_o (show (4 : Nat) ≠ 5 by omega), f4, pk_sub w1, show (4 : Int32) = nI 4 from rfl]
        have r : (if nI (e - p) ≤ nI 4 then some (mu (mu (mu (mu M2 34 5 0) 34 5 (nI (nmN B p (e - p)))) 34 2 (nI e)) 34 3 258) else some (mu (mu (mu (mu M2 34 5 0) 34 5 (nI (nmN B p (e - p)))) 34 2 (nI e)) 34 3 257)) = some (mu (mu (mu (mu M2 34 5 0) 34 5 (nI (nmN B p (e - p)))) 34 2 (nI e)) 34 3 (if e - p ≤ 4 then 258 else 257)) := by
          by_cases h4 : e - p ≤ 4
          · rw [if_pos (nI_le h4 (by omega)), if_pos h4]
          · rw [if_neg (nI_ge (by omega) (by omega)), if_neg h4]
        rw [r]
        simp only [Option.bind_some]
        refine ⟨_, rfl, fun q hq => by rw [mun hq, mun hq, mun hq, mun hq]; exact o2 q hq, fun j h1 h2 h3 h4 => by rw [mu_o h2, mu_o h1, mu_o h4, mu_o h4]; exact o2j j h1 h3, by rw [mu_o (by omega), mu_o (by omega), mu_o (by omega), mu_o (by omega)]; exact f4, (fun h => by omega), (fun _ h => by cases h), fun _ _ => ⟨by rw [mu_o (by omega), mu_at], mu_at, by rw [mu_o (by omega), mu_o (by omega), mu_at]⟩, (fun _ _ h => by cases h)⟩
      | false =>
        rw [if_pos rfl, f2, inb_nI (show p < 160 by omega) (by omega), nI_clamp (by omega), hC2.2 p c, isSgC (hB p c)]
        simp only [ck_true, Option.bind_some, zI_0]
        unfold f_X5_advance_b156
        cases hs : isSg (B p) with
        | true =>
          rw [if_neg (by decide), f2, nIp, inb_nI (show p < 160 by omega) (by omega), nI_clamp (by omega), hC2.2 p c]
          simp only [ck_true]
          refine ⟨_, rfl, fun q hq => by rw [mun hq, mun hq]; exact o2 q hq, fun j h1 h2 h3 h4 => by rw [mu_o h1, mu_o h2]; exact o2j j h1 h3, by rw [mu_o (by omega), mu_o (by omega)]; exact f4, (fun h => by omega), (fun _ h => by cases h), (fun _ h => by cases h), fun _ _ _ => ⟨mu_at, by rw [mu_o (by omega), mu_at]; rfl⟩⟩
        | false =>
          rw [if_pos rfl, f2, nIp]
          refine ⟨_, rfl, fun q hq => by rw [mun hq, mun hq]; exact o2 q hq, fun j h1 h2 h3 h4 => by rw [mu_o h1, mu_o h2]; exact o2j j h1 h3, by rw [mu_o (by omega), mu_o (by omega)]; exact f4, (fun h => by omega), (fun _ h => by cases h), (fun _ h => by cases h), fun _ _ _ => ⟨mu_at, by rw [mu_o (by omega), mu_at]; rfl⟩⟩
  · rw [if_neg (nI_nlt (by omega) (by omega))]
    refine ⟨_, rfl, fun q hq => by rw [mun hq, mun hq]; exact o1 q hq, fun j h1 h2 h3 h4 => by rw [mu_o h2, mu_o h3]; exact o1j j h1, by rw [mu_o (by omega), mu_at], fun _ => mu_at, fun h => absurd h c, fun h => absurd h c, fun h => absurd h c⟩
