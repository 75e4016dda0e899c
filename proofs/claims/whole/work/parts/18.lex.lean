/-! TOKENS: both readers side by side -/
def runTo (P : Nat → Bool) (n : Nat) : Nat → Nat → Nat
  | 0, i => i
  | f + 1, i => if i < n ∧ P i = true then runTo P n f (i + 1) else i
/-- the first place from i on where P does not hold, or n -/
def stp (P : Nat → Bool) (n i : Nat) : Nat := runTo P n (n - i) i
theorem stp_stop {P : Nat → Bool} {n i : Nat} (h : ¬ (i < n ∧ P i = true)) : stp P n i = i := by
  unfold stp
  cases hx : n - i with
  | zero => rfl
  | succ f => show (if _ then _ else _) = i; rw [if_neg h]
theorem stp_go {P : Nat → Bool} {n i : Nat} (h : i < n) (h2 : P i = true) : stp P n i = stp P n (i + 1) := by
  unfold stp
  obtain ⟨f, hf⟩ : ∃ f, n - i = f + 1 := ⟨n - i - 1, by omega⟩
  rw [hf, show n - (i + 1) = f by omega]
  show (if _ then _ else _) = _
  rw [if_pos ⟨h, h2⟩]
theorem stp_facts (P : Nat → Bool) (n : Nat) : ∀ (m i : Nat), n - i = m → i ≤ n → i ≤ stp P n i ∧ stp P n i ≤ n ∧ (∀ j, i ≤ j → j < stp P n i → P j = true) ∧ (stp P n i < n → P (stp P n i) = false) := by
  intro m
  induction m with
  | zero =>
    intro i hm hi
    have hin : ¬ (i < n ∧ P i = true) := fun h => by omega
    rw [stp_stop hin]
    exact ⟨Nat.le_refl _, hi, fun j h1 h2 => by omega, fun h => by omega⟩
  | succ m ih =>
    intro i hm hi
    by_cases hp : P i = true
    · obtain ⟨a, b, c, d⟩ := ih (i + 1) (by omega) (by omega)
      rw [stp_go (by omega) hp]
      refine ⟨by omega, b, fun j h1 h2 => ?_, d⟩
      by_cases e : j = i
      · subst e; exact hp
      · exact c j (by omega) h2
    · rw [stp_stop (fun h => hp h.2)]
      exact ⟨Nat.le_refl _, hi, fun j h1 h2 => by omega, fun _ => by cases hx : P i; rfl; exact absurd hx hp⟩
theorem mu_mu (M : Mem) (p k : Nat) (a b : Int32) : mu (mu M p k a) p k b = mu M p k b := by
  funext q j
  by_cases h : q = p
  · subst h
    rw [mus, mus, mus]
    by_cases e : j = k
    · subst e; rw [ups, ups]
    · rw [upn e, upn e, upn e]
  · rw [mun h, mun h, mun h]
theorem mu_id {M : Mem} {p k : Nat} {v : Int32} (h : M p k = v) : mu M p k v = M := by
  funext q j
  by_cases hq : q = p
  · subst hq
    rw [mus]
    by_cases e : j = k
    · subst e; rw [ups, h]
    · rw [upn e]
  · rw [mun hq]
theorem mu_at {M : Mem} {p k : Nat} {v : Int32} : mu M p k v p k = v := by rw [mus, ups]
theorem mu_o {M : Mem} {p k j : Nat} {v : Int32} (h : j ≠ k) : mu M p k v p j = M p j := by rw [mus, upn h]
/-- THE TAPE holds n bytes B -/
def BC (M : Mem) (n : Nat) (B : Nat → Nat) : Prop := M 34 1 = nI n ∧ ∀ j, j < n → M 35 j = nI (B j)
/-- the text at hand is n bytes B, from f on -/
def BM (M : Mem) (f n : Nat) (B : Nat → Nat) : Prop := M 100 19 = nI f ∧ M 100 20 = nI n ∧ f + 160 ≤ 960 ∧ ∀ j, j < n → M 101 (f + j) = nI (B j)
theorem BC.mu {M : Mem} {n : Nat} {B : Nat → Nat} (h : BC M n B) {k : Nat} {v : Int32} (hk : k ≠ 1) : BC (mu M 34 k v) n B := ⟨by rw [mu_o (Ne.symm hk)]; exact h.1, fun j hj => by rw [mun (by omega)]; exact h.2 j hj⟩
theorem BM.mu {M : Mem} {f n : Nat} {B : Nat → Nat} (h : BM M f n B) {k : Nat} {v : Int32} (hk : k ≠ 19 ∧ k ≠ 20) : BM (mu M 100 k v) f n B := ⟨by rw [mu_o (by omega)]; exact h.1, by rw [mu_o (by omega)]; exact h.2.1, h.2.2.1, fun j hj => by rw [mun (by omega)]; exact h.2.2.2 j hj⟩
def isBl (b : Nat) : Bool := b == 32 || b == 10
def isLt (b : Nat) : Bool := decide (97 ≤ b) && decide (b ≤ 122)
def isDg (b : Nat) : Bool := decide (48 ≤ b) && decide (b ≤ 57)
def isSg (b : Nat) : Bool := b == 40 || b == 41 || b == 59 || b == 43 || b == 45 || b == 42 || b == 60 || b == 61
theorem isLetC {b : Nat} (hb : b < 256) (M : Mem) : f_X5_isLetter (nI b) M = some (zI (isLt b), M) := by
  unfold f_X5_isLetter isLt
  rw [show (97 : Int32) = nI 97 from rfl, show (122 : Int32) = nI 122 from rfl]
  by_cases h1 : b < 97
  · rw [if_pos (nI_lt h1 (by omega)), decide_eq_false (by omega)]; rfl
  · rw [if_neg (nI_nlt (by omega) (by omega)), decide_eq_true (by omega)]
    by_cases h2 : 122 < b
    · rw [if_pos (nI_lt h2 (by omega)), decide_eq_false (by omega)]; rfl
    · rw [if_neg (nI_nlt (by omega) (by omega)), decide_eq_true (by omega)]; rfl
theorem isDigC {b : Nat} (hb : b < 256) (M : Mem) : f_X5_isDigit (nI b) M = some (zI (isDg b), M) := by
  unfold f_X5_isDigit isDg
  rw [show (48 : Int32) = nI 48 from rfl, show (57 : Int32) = nI 57 from rfl]
  by_cases h1 : b < 48
  · rw [if_pos (nI_lt h1 (by omega)), decide_eq_false (by omega)]; rfl
  · rw [if_neg (nI_nlt (by omega) (by omega)), decide_eq_true (by omega)]
    by_cases h2 : 57 < b
    · rw [if_pos (nI_lt h2 (by omega)), decide_eq_false (by omega)]; rfl
    · rw [if_neg (nI_nlt (by omega) (by omega)), decide_eq_true (by omega)]; rfl
theorem isSgC {b : Nat} (hb : b < 256) (M : Mem) : f_X5_isSign (nI b) M = some (zI (isSg b), M) := by
  have h : ∀ b, b < 256 → f_X5_isSign (nI b) = fun M => some (zI (isSg b), M) := by
    intro b hb
    funext M
    unfold f_X5_isSign isSg
    have e : ∀ c : Nat, c < 256 → (nI b = nI c) = (b = c) := fun c hc => nIeq (by omega) (by omega)
    rw [show (40 : Int32) = nI 40 from rfl, show (41 : Int32) = nI 41 from rfl, show (59 : Int32) = nI 59 from rfl, show (43 : Int32) = nI 43 from rfl, show (45 : Int32) = nI 45 from rfl, show (42 : Int32) = nI 42 from rfl, show (60 : Int32) = nI 60 from rfl, show (61 : Int32) = nI 61 from rfl]
    simp only [e 40 (by omega), e 41 (by omega), e 59 (by omega), e 43 (by omega), e 45 (by omega), e 42 (by omega), e 60 (by omega), e 61 (by omega)]
    by_cases c1 : b = 40
    · simp [c1, zI]
    by_cases c2 : b = 41
    · simp [c2, zI]
    by_cases c3 : b = 59
    · simp [c3, zI]
    by_cases c4 : b = 43
    · simp [c4, zI]
    by_cases c5 : b = 45
    · simp [c5, zI]
    by_cases c6 : b = 42
    · simp [c6, zI]
    by_cases c7 : b = 60
    · simp [c7, zI]
    by_cases c8 : b = 61
    · simp [c8, zI]
    simp [c1, c2, c3, c4, c5, c6, c7, c8, zI]
  rw [h b hb]
theorem skipC (k : Mem → Option Mem) {n : Nat} {B : Nat → Nat} (hn : n ≤ 160) (hB : ∀ j, j < n → B j < 256) : ∀ (m i fuel : Nat) (M : Mem), n - i = m → i ≤ n → m < fuel → BC M n B → M 34 2 = nI i →
    f_X5_advance_l0 k fuel M = k (mu M 34 2 (nI (stp (fun j => isBl (B j)) n i))) := by
  intro m
  induction m with
  | zero =>
    intro i fuel M hm hi hf hC h2
    obtain ⟨f, rfl⟩ : ∃ f, fuel = f + 1 := ⟨fuel - 1, by omega⟩
    rw [f_X5_advance_l0, hC.1, h2, if_pos (nI_le (by omega) (by omega)), stp_stop (fun h => by omega), mu_id h2]
  | succ m ih =>
    intro i fuel M hm hi hf hC h2
    obtain ⟨f, rfl⟩ : ∃ f, fuel = f + 1 := ⟨fuel - 1, by omega⟩
    rw [f_X5_advance_l0, hC.1, h2, if_neg (nI_ge (by omega) (by omega)), inb_nI (show i < 160 by omega) (by omega), nI_clamp (by omega), hC.2 i (by omega)]
    simp only [ck_true]
    have hb := hB i (by omega)
    rw [show (32 : Int32) = nI 32 from rfl, show (10 : Int32) = nI 10 from rfl]
    have go : isBl (B i) = true → f_X5_advance_b39 (f_X5_advance_l0 k f) k M = k (mu M 34 2 (nI (stp (fun j => isBl (B j)) n i))) := by
      intro hbl
      unfold f_X5_advance_b39
      rw [h2, nIp, ih (i + 1) f (mu M 34 2 (nI (i + 1))) (by omega) (by omega) (by omega) (hC.mu (by omega)) mu_at, mu_mu, stp_go (P := fun j => isBl (B j)) (by omega) hbl]
    by_cases c1 : B i = 32
    · rw [if_pos (by rw [c1]), go (by unfold isBl; rw [c1]; rfl)]
    · rw [if_neg (by rw [nIeq (by omega) (by omega)]; exact c1)]
      by_cases c2 : B i = 10
      · rw [if_pos (by rw [c2]), go (by unfold isBl; rw [c2]; rfl)]
      · rw [if_neg (by rw [nIeq (by omega) (by omega)]; exact c2), stp_stop (fun h => by have := h.2; unfold isBl at this; simp [c1, c2] at this), mu_id h2]
theorem wordC (k : Mem → Option Mem) {n : Nat} {B : Nat → Nat} (hn : n ≤ 160) (hB : ∀ j, j < n → B j < 256) : ∀ (m i fuel : Nat) (M : Mem), n - i = m → i ≤ n → m < fuel → BC M n B → M 34 2 = nI i →
    f_X5_advanceWord_l0 k fuel M = k (mu M 34 2 (nI (stp (fun j => isLt (B j)) n i))) := by
  intro m
  induction m with
  | zero =>
    intro i fuel M hm hi hf hC h2
    obtain ⟨f, rfl⟩ : ∃ f, fuel = f + 1 := ⟨fuel - 1, by omega⟩
    rw [f_X5_advanceWord_l0, hC.1, h2, if_pos (nI_le (by omega) (by omega)), stp_stop (fun h => by omega), mu_id h2]
  | succ m ih =>
    intro i fuel M hm hi hf hC h2
    obtain ⟨f, rfl⟩ : ∃ f, fuel = f + 1 := ⟨fuel - 1, by omega⟩
    rw [f_X5_advanceWord_l0, hC.1, h2, if_neg (nI_ge (by omega) (by omega)), inb_nI (show i < 160 by omega) (by omega), nI_clamp (by omega), hC.2 i (by omega), isLetC (hB i (by omega))]
    simp only [ck_true, Option.bind_some, zI_0]
    by_cases c1 : isLt (B i) = true
    · rw [if_neg (by rw [c1]; decide), h2, nIp, ih (i + 1) f (mu M 34 2 (nI (i + 1))) (by omega) (by omega) (by omega) (hC.mu (by omega)) mu_at, mu_mu, stp_go (P := fun j => isLt (B j)) (by omega) c1]
    · rw [if_pos (by cases hx : isLt (B i); rfl; exact absurd hx c1), stp_stop (P := fun j => isLt (B j)) (fun h => c1 h.2), mu_id h2]
/-- the first four digits -/
def nmN (B : Nat → Nat) (p : Nat) : Nat → Nat
  | 0 => 0
  | c + 1 => if c < 4 then nmN B p c * 10 + (B (p + c) - 48) else nmN B p c
theorem nmN_s (B : Nat → Nat) (p c : Nat) : nmN B p (c + 1) = if c < 4 then nmN B p c * 10 + (B (p + c) - 48) else nmN B p c := rfl
theorem nmN_le (B : Nat → Nat) (p : Nat) : ∀ c, (∀ i, i < c → isDg (B (p + i)) = true) → nmN B p c + 1 ≤ 10 ^ (min c 4) := by
  intro c
  induction c with
  | zero => intro _; exact Nat.le_refl 1
  | succ c ih =>
    intro h
    have a := ih (fun i hi => h i (by omega))
    have b := h c (by omega)
    unfold isDg at b
    simp only [Bool.and_eq_true, decide_eq_true_eq] at b
    unfold nmN
    by_cases hc : c < 4
    · rw [if_pos hc, show min (c + 1) 4 = c + 1 by omega, Nat.pow_succ]
      rw [show min c 4 = c by omega] at a
      omega
    · rw [if_neg hc, show min (c + 1) 4 = 4 by omega]
      rw [show min c 4 = 4 by omega] at a
      exact a
theorem nmN_lt (B : Nat → Nat) (p c : Nat) (h : ∀ i, i < c → isDg (B (p + i)) = true) : nmN B p c < 10000 := by
  have := nmN_le B p c h
  have h2 : 10 ^ (min c 4) ≤ 10000 := by
    have : ∀ x, x ≤ 4 → 10 ^ x ≤ 10000 := by decide
    exact this _ (by omega)
  omega
theorem numC (k : Mem → Option Mem) {n p : Nat} {B : Nat → Nat} (hn : n ≤ 160) (hB : ∀ j, j < n → B j < 256) : ∀ (m i fuel : Nat) (M : Mem), n - i = m → i ≤ n → p ≤ i → m < fuel → BC M n B → M 34 2 = nI i → M 34 4 = nI p → M 34 5 = nI (nmN B p (i - p)) → (∀ j, p ≤ j → j < i → isDg (B j) = true) →
    f_X5_advanceNumber_l5 k fuel M = k (mu (mu M 34 5 (nI (nmN B p (stp (fun j => isDg (B j)) n i - p)))) 34 2 (nI (stp (fun j => isDg (B j)) n i))) := by
  intro m
  induction m with
  | zero =>
    intro i fuel M hm hi hp hf hC h2 h4 h5 hd
    obtain ⟨f, rfl⟩ : ∃ f, fuel = f + 1 := ⟨fuel - 1, by omega⟩
    rw [f_X5_advanceNumber_l5, hC.1, h2, if_pos (nI_le (by omega) (by omega)), stp_stop (fun h => by omega), mu_id h5, mu_id h2]
  | succ m ih =>
    intro i fuel M hm hi hp hf hC h2 h4 h5 hd
    obtain ⟨f, rfl⟩ : ∃ f, fuel = f + 1 := ⟨fuel - 1, by omega⟩
    rw [f_X5_advanceNumber_l5, hC.1, h2, if_neg (nI_ge (by omega) (by omega)), inb_nI (show i < 160 by omega) (by omega), nI_clamp (by omega), hC.2 i (by omega), isDigC (hB i (by omega))]
    simp only [ck_true, Option.bind_some, zI_0]
    by_cases c1 : isDg (B i) = true
    · rw [if_neg (by rw [c1]; decide), h2, h4, pk_sub hp, inb_nI (show i < 160 by omega) (by omega), nI_clamp (show i < 2 ^ 31 by omega), hC.2 i (by omega), show (4 : Int32) = nI 4 from rfl, stp_go (P := fun j => isDg (B j)) (show i < n by omega) c1]
      simp only [ck_true]
      have hd1 : ∀ j, p ≤ j → j < i + 1 → isDg (B j) = true := fun j h1 h2 => by
        by_cases e : j = i
        · subst e; exact c1
        · exact hd j h1 (by omega)
      have hlt := nmN_lt B p (i - p) (fun x hx => hd (p + x) (by omega) (by omega))
      have hbi : 48 ≤ B i ∧ B i ≤ 57 := by unfold isDg at c1; simpa using c1
      unfold f_X5_advanceNumber_b68
      by_cases c4 : 4 ≤ i - p
      · rw [if_pos (nI_le c4 (by omega)), h2, nIp]
        rw [ih (i + 1) f (mu M 34 2 (nI (i + 1))) (by omega) (by omega) (by omega) (by omega) (hC.mu (by omega)) mu_at (by rw [mu_o (by omega)]; exact h4) (by rw [mu_o (by omega), h5, show i + 1 - p = (i - p) + 1 by omega, nmN_s, if_neg (by omega)]) hd1]
        congr 1
        funext q j
        by_cases hq : q = 34
        · subst hq
          by_cases e2 : j = 2
          · subst e2; rw [mu_at, mu_at]
          · rw [mu_o e2, mu_o e2]
            by_cases e5 : j = 5
            · subst e5; rw [mu_at, mu_at]
            · rw [mu_o e5, mu_o e5, mu_o e2]
        · rw [mun hq, mun hq, mun hq, mun hq, mun hq]
      · rw [if_neg (nI_ge (by omega) (by omega)), h5]
        have e5 : nI (nmN B p (i - p)) * 10 + nI (B i) - 48 = nI (nmN B p (i + 1 - p)) := by
          rw [show (10 : Int32) = nI 10 from rfl, show (48 : Int32) = nI 48 from rfl, pk_mul, nI_add, pk_sub (by omega), show i + 1 - p = (i - p) + 1 by omega]
          rw [nmN_s, if_pos (by omega), show p + (i - p) = i by omega]
          congr 1
          omega
        rw [e5]
        rw [mu_o (show (2 : Nat) ≠ 5 by omega), h2, nIp]
        rw [ih (i + 1) f (mu (mu M 34 5 (nI (nmN B p (i + 1 - p)))) 34 2 (nI (i + 1))) (by omega) (by omega) (by omega) (by omega) ((hC.mu (by omega)).mu (by omega)) mu_at (by rw [mu_o (by omega), mu_o (by omega)]; exact h4) (by rw [mu_o (by omega), mu_at]) hd1]
        congr 1
        funext q j
        by_cases hq : q = 34
        · subst hq
          by_cases e2 : j = 2
          · subst e2; rw [mu_at, mu_at]
          · rw [mu_o e2, mu_o e2]
            by_cases e5 : j = 5
            · subst e5; rw [mu_at, mu_at]
            · rw [mu_o e5, mu_o e5, mu_o e2, mu_o e5]
        · rw [mun hq, mun hq, mun hq, mun hq, mun hq, mun hq]
    · rw [if_pos (by cases hx : isDg (B i); rfl; exact absurd hx c1), stp_stop (P := fun j => isDg (B j)) (fun h => c1 h.2), mu_id h5, mu_id h2]
