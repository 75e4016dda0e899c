/-! TOKENS, the reference's -/
theorem byteAt_eq {M : Mem} {f n i : Nat} {B : Nat → Nat} (hn : n ≤ 160) (hi : i < 2 ^ 30) (h : BM M f n B) : f_X9_byteAt (nI i) M = some (if i < n then nI (B i) else (-1), M) := by
  unfold f_X9_byteAt
  rw [h.2.1, h.1, nI_add]
  by_cases c : i < n
  · rw [if_neg (nI_ge c (by omega)), if_pos c, inb_nI (show f + i < 960 by have := h.2.2.1; omega) (by omega), nI_clamp (by have := h.2.2.1; omega), h.2.2.2 i c]
    rfl
  · rw [if_pos (nI_le (by omega) (by omega)), if_neg c]
theorem inLt {b : Nat} (hb : b < 256) (M : Mem) : f_X9_in (nI b).toInt64 97 122 M = some (zI (isLt b), M) := by
  have h := in_eq (nI b) 97 122 M
  rw [show (97 : Int32).toInt64 = 97 by decide, show (122 : Int32).toInt64 = 122 by decide] at h
  rw [h]
  unfold isLt
  rw [show (97 : Int32) = nI 97 from rfl, show (122 : Int32) = nI 122 from rfl]
  congr 3
  by_cases h1 : b < 97
  · rw [decide_eq_true (nI_lt h1 (by omega)), decide_eq_false (show ¬ 97 ≤ b by omega)]; rfl
  · rw [decide_eq_false (nI_nlt (show 97 ≤ b by omega) (by omega)), decide_eq_true (show 97 ≤ b by omega)]
    by_cases h2 : 122 < b
    · rw [decide_eq_true (nI_lt h2 (by omega)), decide_eq_false (show ¬ b ≤ 122 by omega)]; rfl
    · rw [decide_eq_false (nI_nlt (show b ≤ 122 by omega) (by omega)), decide_eq_true (show b ≤ 122 by omega)]; rfl
theorem inDg {b : Nat} (hb : b < 256) (M : Mem) : f_X9_in (nI b).toInt64 48 57 M = some (zI (isDg b), M) := by
  have h := in_eq (nI b) 48 57 M
  rw [show (48 : Int32).toInt64 = 48 by decide, show (57 : Int32).toInt64 = 57 by decide] at h
  rw [h]
  unfold isDg
  rw [show (48 : Int32) = nI 48 from rfl, show (57 : Int32) = nI 57 from rfl]
  congr 3
  by_cases h1 : b < 48
  · rw [decide_eq_true (nI_lt h1 (by omega)), decide_eq_false (show ¬ 48 ≤ b by omega)]; rfl
  · rw [decide_eq_false (nI_nlt (show 48 ≤ b by omega) (by omega)), decide_eq_true (show 48 ≤ b by omega)]
    by_cases h2 : 57 < b
    · rw [decide_eq_true (nI_lt h2 (by omega)), decide_eq_false (show ¬ b ≤ 57 by omega)]; rfl
    · rw [decide_eq_false (nI_nlt (show b ≤ 57 by omega) (by omega)), decide_eq_true (show b ≤ 57 by omega)]; rfl
theorem inLt1 (M : Mem) : f_X9_in ((-1 : Int32)).toInt64 97 122 M = some (0, M) := by
  have h := in_eq (-1) 97 122 M
  rw [show (97 : Int32).toInt64 = 97 by decide, show (122 : Int32).toInt64 = 122 by decide] at h
  rw [h]; rfl
theorem inDg1 (M : Mem) : f_X9_in ((-1 : Int32)).toInt64 48 57 M = some (0, M) := by
  have h := in_eq (-1) 48 57 M
  rw [show (48 : Int32).toInt64 = 48 by decide, show (57 : Int32).toInt64 = 57 by decide] at h
  rw [h]; rfl
theorem skipM (k : Mem → Option Mem) {f0 n : Nat} {B : Nat → Nat} (hn : n ≤ 160) (hB : ∀ j, j < n → B j < 256) : ∀ (m i fuel : Nat) (M : Mem), n - i = m → i ≤ n → m < fuel → BM M f0 n B → M 100 21 = nI i →
    f_X9_next_l0 k fuel M = k (mu M 100 21 (nI (stp (fun j => isBl (B j)) n i))) := by
  intro m
  induction m with
  | zero =>
    intro i fuel M hm hi hf hC h2
    obtain ⟨f, rfl⟩ : ∃ f, fuel = f + 1 := ⟨fuel - 1, by omega⟩
    rw [f_X9_next_l0, h2, byteAt_eq hn (by omega) hC, if_neg (by omega)]
    simp only [Option.bind_some]
    rw [if_neg (by decide), h2, byteAt_eq hn (by omega) hC, if_neg (by omega)]
    simp only [Option.bind_some]
    rw [if_neg (by decide), stp_stop (fun h => by omega), mu_id h2]
  | succ m ih =>
    intro i fuel M hm hi hf hC h2
    obtain ⟨f, rfl⟩ : ∃ f, fuel = f + 1 := ⟨fuel - 1, by omega⟩
    have hb := hB i (by omega)
    rw [f_X9_next_l0, h2, byteAt_eq hn (by omega) hC, if_pos (by omega)]
    simp only [Option.bind_some]
    rw [show (32 : Int32) = nI 32 from rfl, show (10 : Int32) = nI 10 from rfl]
    have go : isBl (B i) = true → f_X9_next_b26 (f_X9_next_l0 k f) k M = k (mu M 100 21 (nI (stp (fun j => isBl (B j)) n i))) := by
      intro hbl
      unfold f_X9_next_b26
      rw [h2, nIp, ih (i + 1) f (mu M 100 21 (nI (i + 1))) (by omega) (by omega) (by omega) (hC.mu (by omega)) mu_at, mu_mu, stp_go (P := fun j => isBl (B j)) (by omega) hbl]
    by_cases c1 : B i = 32
    · rw [if_pos (by rw [c1]), go (by unfold isBl; rw [c1]; rfl)]
    · rw [if_neg (by rw [nIeq (by omega) (by omega)]; exact c1), h2, byteAt_eq hn (by omega) hC, if_pos (by omega)]
      simp only [Option.bind_some]
      by_cases c2 : B i = 10
      · rw [if_pos (by rw [c2]), go (by unfold isBl; rw [c2]; rfl)]
      · rw [if_neg (by rw [nIeq (by omega) (by omega)]; exact c2), stp_stop (P := fun j => isBl (B j)) (fun h => by have := h.2; unfold isBl at this; simp [c1, c2] at this), mu_id h2]
theorem wordM {f0 n : Nat} {B : Nat → Nat} (hn : n ≤ 160) (hB : ∀ j, j < n → B j < 256) : ∀ (m i fuel : Nat) (M : Mem), n - i = m → i ≤ n → m < fuel → BM M f0 n B → M 100 21 = nI i →
    f_X9_next_l100 fuel M = some (mu M 100 21 (nI (stp (fun j => isLt (B j)) n i))) := by
  intro m
  induction m with
  | zero =>
    intro i fuel M hm hi hf hC h2
    obtain ⟨f, rfl⟩ : ∃ f, fuel = f + 1 := ⟨fuel - 1, by omega⟩
    rw [f_X9_next_l100, h2, byteAt_eq hn (by omega) hC, if_neg (by omega)]
    simp only [Option.bind_some]
    rw [inLt1]
    simp only [Option.bind_some]
    rw [if_pos True.intro, stp_stop (P := fun j => isLt (B j)) (fun h => by omega), mu_id h2]
  | succ m ih =>
    intro i fuel M hm hi hf hC h2
    obtain ⟨f, rfl⟩ : ∃ f, fuel = f + 1 := ⟨fuel - 1, by omega⟩
    rw [f_X9_next_l100, h2, byteAt_eq hn (by omega) hC, if_pos (by omega)]
    simp only [Option.bind_some]
    rw [inLt (hB i (by omega))]
    simp only [Option.bind_some, zI_0]
    by_cases c1 : isLt (B i) = true
    · rw [if_neg (by rw [c1]; decide), h2, nIp, ih (i + 1) f (mu M 100 21 (nI (i + 1))) (by omega) (by omega) (by omega) (hC.mu (by omega)) mu_at, mu_mu, stp_go (P := fun j => isLt (B j)) (by omega) c1]
    · rw [if_pos (by cases hx : isLt (B i); rfl; exact absurd hx c1), stp_stop (P := fun j => isLt (B j)) (fun h => c1 h.2), mu_id h2]
theorem lN_chk {x : Nat} (h : x < 2 ^ 31) : (((lN x).toInt32).toInt64 == lN x) = true := by
  rw [lN_i, nI_l h, beq_self_eq_true]
theorem numM (k : Int32 → Mem → Option Mem) {f0 n p : Nat} {B : Nat → Nat} (hn : n ≤ 160) (hB : ∀ j, j < n → B j < 256) : ∀ (m i fuel : Nat) (M : Mem), n - i = m → i ≤ n → p ≤ i → m < fuel → BM M f0 n B → M 100 21 = nI i → M 100 24 = nI (nmN B p (i - p)) → (∀ j, p ≤ j → j < i → isDg (B j) = true) →
    f_X9_next_l160 k fuel (nI (i - p)) M = k (nI (stp (fun j => isDg (B j)) n i - p)) (mu (mu M 100 24 (nI (nmN B p (stp (fun j => isDg (B j)) n i - p)))) 100 21 (nI (stp (fun j => isDg (B j)) n i))) := by
  intro m
  induction m with
  | zero =>
    intro i fuel M hm hi hp hf hC h2 h5 hd
    obtain ⟨f, rfl⟩ : ∃ f, fuel = f + 1 := ⟨fuel - 1, by omega⟩
    rw [f_X9_next_l160, h2, byteAt_eq hn (by omega) hC, if_neg (by omega)]
    simp only [Option.bind_some]
    rw [inDg1]
    simp only [Option.bind_some]
    rw [if_pos True.intro, stp_stop (P := fun j => isDg (B j)) (fun h => by omega), mu_id h5, mu_id h2]
  | succ m ih =>
    intro i fuel M hm hi hp hf hC h2 h5 hd
    obtain ⟨f, rfl⟩ : ∃ f, fuel = f + 1 := ⟨fuel - 1, by omega⟩
    rw [f_X9_next_l160, h2, byteAt_eq hn (by omega) hC, if_pos (by omega)]
    simp only [Option.bind_some]
    rw [inDg (hB i (by omega))]
    simp only [Option.bind_some, zI_0]
    by_cases c1 : isDg (B i) = true
    · have hd1 : ∀ j, p ≤ j → j < i + 1 → isDg (B j) = true := fun j h1 h2 => by
        by_cases e : j = i
        · subst e; exact c1
        · exact hd j h1 (by omega)
      have hlt := nmN_lt B p (i - p) (fun x hx => hd (p + x) (by omega) (by omega))
      have hlt1 := nmN_lt B p (i + 1 - p) (fun x hx => hd1 (p + x) (by omega) (by omega))
      have hbi : 48 ≤ B i ∧ B i ≤ 57 := by unfold isDg at c1; simpa using c1
      rw [if_neg (by rw [c1]; decide), stp_go (P := fun j => isDg (B j)) (show i < n by omega) c1, show (4 : Int32) = nI 4 from rfl]
      unfold f_X9_next_b216
      have fin : ∀ x : Nat, x = nmN B p (i + 1 - p) → ck ((((lN x)).toInt32).toInt64 == lN x) (f_X9_next_l160 k f (nI (i - p) + 1) (mu (mu M 100 24 (lN x).toInt32) 100 21 (M 100 21 + 1))) = k (nI (stp (fun j => isDg (B j)) n (i + 1) - p)) (mu (mu M 100 24 (nI (nmN B p (stp (fun j => isDg (B j)) n (i + 1) - p)))) 100 21 (nI (stp (fun j => isDg (B j)) n (i + 1)))) := by
        intro x hx
        subst hx
        rw [lN_chk (by omega), lN_i, h2, nIp, nIp, show i - p + 1 = i + 1 - p by omega]
        simp only [ck_true]
        rw [ih (i + 1) f (mu (mu M 100 24 (nI (nmN B p (i + 1 - p)))) 100 21 (nI (i + 1))) (by omega) (by omega) (by omega) (by omega) ((hC.mu (by omega)).mu (by omega)) mu_at (by rw [mu_o (by omega), mu_at]) hd1]
        congr 1
        funext q j
        by_cases hq : q = 100
        · subst hq
          by_cases e2 : j = 21
          · subst e2; rw [mu_at, mu_at]
          · rw [mu_o e2, mu_o e2]
            by_cases e5 : j = 24
            · subst e5; rw [mu_at, mu_at]
            · rw [mu_o e5, mu_o e5, mu_o e2, mu_o e5]
        · rw [mun hq, mun hq, mun hq, mun hq, mun hq, mun hq]
      by_cases c4 : 4 ≤ i - p
      · rw [if_pos (nI_le c4 (by omega)), h5, nI_l (by omega)]
        refine fin _ ?_
        rw [show i + 1 - p = (i - p) + 1 by omega, nmN_s, if_neg (by omega)]
      · rw [if_neg (nI_ge (by omega) (by omega)), h2, byteAt_eq hn (by omega) hC, if_pos (by omega)]
        simp only [Option.bind_some]
        rw [h5, nI_l (show nmN B p (i - p) < 2 ^ 31 by omega), nI_l (show B i < 2 ^ 31 by have := hB i (by omega); omega), show (10 : Int64) = lN 10 from rfl, show (48 : Int64) = lN 48 from rfl, lN_mul, lN_add, lN_sub (by omega)]
        refine fin _ ?_
        rw [show i + 1 - p = (i - p) + 1 by omega, nmN_s, if_pos (by omega), show p + (i - p) = i by omega]
        omega
    · rw [if_pos (by cases hx : isDg (B i); rfl; exact absurd hx c1), stp_stop (P := fun j => isDg (B j)) (fun h => c1 h.2), mu_id h5, mu_id h2]
