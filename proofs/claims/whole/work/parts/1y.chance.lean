/-! LOWEST TERMS, CHANCE -/
theorem lN_div {a d : Nat} (ha : a < 2 ^ 31) (hd : d < 2 ^ 31) : lN a / lN d = lN (a / d) := by
  have hq : a / d ≤ a := Nat.div_le_self a d
  apply Int64.toInt_inj.mp
  rw [Int64.toInt_div, lN_toInt ha, lN_toInt hd, lN_toInt (by omega), ← Int.ofNat_tdiv]
  generalize a / d = q at hq ⊢
  exact Int.bmod_eq_of_le (by omega) (by omega)
theorem jlrem_lN {a d : Nat} (ha : a < 2 ^ 31) (hd : d < 2 ^ 31) : jlrem (lN a) (lN d) = lN (a % d) := by
  unfold jlrem
  rw [lN_div ha hd, lN_mul, lN_sub (Nat.div_mul_le_self a d)]
  exact congrArg lN (by have := Nat.div_add_mod' a d; omega)
theorem gcd_step (x y : Nat) : Nat.gcd y (x % y) = Nat.gcd x y := by
  rw [Nat.gcd_comm x y, Nat.gcd_rec y x, Nat.gcd_comm]
theorem lowC {k : Int32 → Int32 → Int32 → Int32 → Mem → Option (Int64 × Mem)} (v0 v1 v2 : Int32) (M : Mem) : ∀ n x y c fuel, y < 2 ^ n → x < 2 ^ 31 → y < 2 ^ 31 → c + 2 * n + 1 ≤ 64 → 2 * n + 1 < fuel → f_X8_lowestTerms_l8 k fuel v0 v1 v2 (nI x) (nI y) (nI c) M = k v0 v1 v2 (nI (Nat.gcd x y)) M := by
  have zero : ∀ x c fuel, x < 2 ^ 31 → c ≤ 64 → 0 < fuel → f_X8_lowestTerms_l8 k fuel v0 v1 v2 (nI x) (nI 0) (nI c) M = k v0 v1 v2 (nI (Nat.gcd x 0)) M := by
    intro x c fuel hx hc hf
    obtain ⟨f, rfl⟩ : ∃ f, fuel = f + 1 := ⟨fuel - 1, by omega⟩
    rw [f_X8_lowestTerms_l8, Nat.gcd_zero_right, if_pos (show nI 0 = 0 from rfl)]
    split <;> rfl
  have one : ∀ x y c f, 0 < y → x < 2 ^ 31 → y < 2 ^ 31 → c < 64 → f_X8_lowestTerms_l8 k (f + 1) v0 v1 v2 (nI x) (nI y) (nI c) M = f_X8_lowestTerms_l8 k f v0 v1 v2 (nI y) (nI (x % y)) (nI (c + 1)) M := by
    intro x y c f h0 hx hy hc
    rw [f_X8_lowestTerms_l8, if_neg (by rw [show (64 : Int32) = nI 64 from rfl, nIle (by omega) (by omega)]; omega), if_neg (show ¬ nI y = 0 by rw [show (0 : Int32) = nI 0 from rfl, nIeq (by omega) (by omega)]; omega), show (!(nI y == 0)) = true by rw [show (nI y == 0) = false from beq_eq_false_iff_ne.mpr (by rw [show (0 : Int32) = nI 0 from rfl]; intro h; rw [nIeq (by omega) (by omega)] at h; omega)]; rfl, jrem_nI hx h0 hy, nIp]
    rfl
  intro n
  induction n with
  | zero =>
    intro x y c fuel hy hx hy2 hc hf
    have : y = 0 := by omega
    subst this
    exact zero x c fuel hx (by omega) (by omega)
  | succ n ih =>
    intro x y c fuel hy hx hy2 hc hf
    by_cases y0 : y = 0
    · subst y0; exact zero x c fuel hx (by omega) (by omega)
    obtain ⟨f, rfl⟩ : ∃ f, fuel = f + 1 := ⟨fuel - 1, by omega⟩
    have hr : x % y < y := Nat.mod_lt _ (by omega)
    rw [one x y c f (by omega) hx hy2 (by omega), ← gcd_step]
    by_cases r0 : x % y = 0
    · rw [r0]; exact zero y (c + 1) f hy2 (by omega) (by omega)
    obtain ⟨f2, rfl⟩ : ∃ f2, f = f2 + 1 := ⟨f - 1, by omega⟩
    have hr2 : y % (x % y) < x % y := Nat.mod_lt _ (by omega)
    have hd : y % (x % y) + x % y ≤ y := by
      have := Nat.div_add_mod y (x % y)
      have h1 : 1 ≤ y / (x % y) := Nat.div_pos (by omega) (by omega)
      have h2 : x % y ≤ (x % y) * (y / (x % y)) := Nat.le_mul_of_pos_right _ h1
      omega
    have hp : 2 ^ (n + 1) = 2 * 2 ^ n := by rw [Nat.pow_succ, Nat.mul_comm]
    rw [one y (x % y) (c + 1) f2 (by omega) hy2 (by omega) (by omega), ← gcd_step]
    exact ih (x % y) (y % (x % y)) (c + 1 + 1) f2 (by omega) (by omega) (by omega) (by omega) (by omega)
theorem lowM {k : Int64 → Int64 → Int32 → Int64 → Mem → Option (Int64 × Mem)} (w0 w2 : Int64) (v4 : Int32) (M : Mem) : ∀ n x y fuel, y ≤ n → x < 2 ^ 31 → y < 2 ^ 31 → n < fuel → f_X9_lowest_l6 k fuel w0 w2 v4 (lN x) (lN y) M = k w0 w2 v4 (lN (Nat.gcd x y)) M := by
  intro n
  induction n with
  | zero =>
    intro x y fuel hn hx hy hf
    obtain ⟨f, rfl⟩ : ∃ f, fuel = f + 1 := ⟨fuel - 1, by omega⟩
    have : y = 0 := by omega
    subst this
    rw [f_X9_lowest_l6, Nat.gcd_zero_right, if_pos (by decide)]
  | succ n ih =>
    intro x y fuel hn hx hy hf
    obtain ⟨f, rfl⟩ : ∃ f, fuel = f + 1 := ⟨fuel - 1, by omega⟩
    by_cases y0 : y = 0
    · subst y0; rw [f_X9_lowest_l6, Nat.gcd_zero_right, if_pos (by decide)]
    have hr : x % y < y := Nat.mod_lt _ (by omega)
    have ne : lN y ≠ 0 := fun h => y0 ((lN_eq (b := 0) hy (by omega)).mp h)
    rw [f_X9_lowest_l6, if_neg, show (!(lN y == 0)) = true by rw [beq_eq_false_iff_ne.mpr ne]; rfl, jlrem_lN hx hy]
    · simp only [ck_true]
      rw [ih y (x % y) f (by omega) hy (by omega) (by omega), gcd_step]
    · intro h
      apply ne
      unfold lg_cmp at h
      split at h
      · cases h
      · exact absurd h (by decide)
/-- a share in lowest terms -/
theorem lowBoth {a b : Nat} (ha : a ≤ 1000) (hb : 0 < b ∧ b ≤ 1000) {v : Nat} (hv : v < 2) (Mc Mm : Mem) : ∃ r : Int64, f_X8_lowestTerms (nI a) (nI b) (nI v) Mc = some (r, Mc) ∧ f_X9_lowest (lN a) (lN b) (nI v) Mm = some (r, Mm) := by
  have hg : 0 < Nat.gcd a b := Nat.gcd_pos_of_pos_right a hb.1
  have hg2 : Nat.gcd a b ≤ b := Nat.gcd_le_right a hb.1
  unfold f_X8_lowestTerms f_X9_lowest
  have c := lowC (k := f_X8_lowestTerms_b39) (nI a) (nI b) (nI v) Mc 10 a b 0 FU (by omega) (by omega) (by omega) (by omega) (by have := FU_ge; omega)
  have m := lowM (k := f_X9_lowest_b31) (lN a) (lN b) (nI v) Mm b a b FU (Nat.le_refl _) (by omega) (by omega) (by unfold FU; omega)
  rw [show f_X8_lowestTerms_l8 f_X8_lowestTerms_b39 FU (nI a) (nI b) (nI v) (nI a) (nI b) 0 Mc = _ from c, m]
  unfold f_X8_lowestTerms_b39 f_X9_lowest_b31
  have n0 : ∀ x : Nat, 0 < x → x < 2 ^ 31 → ¬ nI x = 0 := fun x h1 h2 => by rw [show (0 : Int32) = nI 0 from rfl, nIeq h2 (by omega)]; omega
  have l0 : (!(lN (Nat.gcd a b) == 0)) = true := by
    rw [beq_eq_false_iff_ne.mpr (fun h => by have := (lN_eq (b := 0) (show Nat.gcd a b < 2 ^ 31 by omega) (by omega)).mp h; omega)]; rfl
  have i0 : (!(nI (Nat.gcd a b) == 0)) = true := by
    rw [beq_eq_false_iff_ne.mpr (n0 _ hg (by omega))]; rfl
  rw [if_neg (n0 b hb.1 (by omega)), if_neg (n0 _ hg (by omega)), l0, i0]
  simp only [ck_true]
  by_cases hv0 : v = 0
  · subst hv0
    rw [if_pos (show nI 0 = 0 from rfl), if_pos (show nI 0 = 0 from rfl), pk_div (by omega) hg (by omega), nI_l (Nat.lt_of_le_of_lt (Nat.div_le_self _ _) (by omega)), lN_div (by omega) (by omega)]
    exact ⟨_, rfl, rfl⟩
  · rw [if_neg (n0 v (by omega) (by omega)), if_neg (n0 v (by omega) (by omega)), pk_div (by omega) hg (by omega), nI_l (Nat.lt_of_le_of_lt (Nat.div_le_self _ _) (by omega)), lN_div (by omega) (by omega)]
    exact ⟨_, rfl, rfl⟩
def OpL (fc fm : Mem → Option (Int64 × Mem)) (Mc Mm : Mem) : Prop := ∃ (r : Int64) (Mc1 Mm1 : Mem), fc Mc = some (r, Mc1) ∧ fm Mm = some (r, Mm1) ∧ Inv Mc1 Mm1
theorem chanceLoop {many txt n v4 : Nat} (hn : 0 < n ∧ n ≤ 20) (hv4 : v4 < 2) (v1 v3 : Int32) : ∀ m i fuel c (M N : Mem), i + m = n → c ≤ i → m < fuel → InvN many txt M N →
    ∃ (r : Int64) (M1 N1 : Mem), f_X8_chance_l46 f_X8_chance_b76 fuel v1 (nI n) v3 (nI v4) (nI c) (nI i) M = some (r, M1) ∧ f_X9_chance_l47 f_X9_chance_b81 fuel v1 (nI n) v3 (nI v4) (lN c) (nI i) N = some (r, N1) ∧ InvN many txt M1 N1 := by
  intro m
  induction m with
  | zero =>
    intro i fuel c M N hi hc hf hN
    obtain ⟨f, rfl⟩ : ∃ f, fuel = f + 1 := ⟨fuel - 1, by omega⟩
    rw [f_X8_chance_l46, f_X9_chance_l47, if_pos (nI_le (by omega) (by omega)), if_pos (nI_le (by omega) (by omega))]
    unfold f_X8_chance_b76 f_X9_chance_b81
    obtain ⟨r, e1, e2⟩ := lowBoth (a := c) (b := n) (by omega) (by omega) hv4 M N
    rw [e1, nI_l (show n < 2 ^ 31 by omega), e2]
    exact ⟨r, M, N, rfl, rfl, hN⟩
  | succ m ih =>
    intro i fuel c M N hi hc hf hN
    obtain ⟨f, rfl⟩ : ∃ f, fuel = f + 1 := ⟨fuel - 1, by omega⟩
    rw [f_X8_chance_l46, f_X9_chance_l47, if_neg (nI_ge (by omega) (by omega)), if_neg (nI_ge (by omega) (by omega))]
    obtain ⟨r, M1, N1, a1, a2, a3⟩ := drawBoth hN (v1 + nI i)
    rw [a1, a2]
    simp only [Option.bind_some]
    unfold f_X8_chance_b70 f_X9_chance_b72
    rw [nIp, nIp]
    by_cases hr : r < v3
    · rw [if_pos hr, if_pos hr, show lN c + 0 = lN c from lN_add c 0]
      exact ih (i + 1) f c M1 N1 (by omega) (by omega) (by omega) a3
    · rw [if_neg hr, if_neg hr, lN_1]
      exact ih (i + 1) f (c + 1) M1 N1 (by omega) (by omega) (by omega) a3
theorem chance_op {Mc Mm : Mem} (h : Inv Mc Mm) (v1 v2 v3 v4 : Int32) : OpL (f_X8_chance v1 v2 v3 v4) (f_X9_chance v1 v2 v3 v4) Mc Mm := by
  obtain ⟨many, txt, hN⟩ := id h
  have hN : InvN many txt Mc Mm := hN
  unfold OpL f_X8_chance f_X9_chance
  rw [show (1 : Int64) = (1 : Int32).toInt64 from rfl, show (20 : Int64) = (20 : Int32).toInt64 from rfl, show (-9999 : Int64) = (-9999 : Int32).toInt64 from rfl, show (9999 : Int64) = (9999 : Int32).toInt64 from rfl, in_eq]
  simp only [Option.bind_some, zI_0, in_eq, inM (n := 2) (show (1 : Int32).toInt = ((2 : Nat) : Int) - 1 by decide)]
  by_cases c1 : v2 < 1
  · rw [decide_eq_true c1, if_pos c1, if_pos (by rfl)]; exact ⟨_, _, _, rfl, rfl, h⟩
  rw [decide_eq_false c1, if_neg c1]
  by_cases c2 : (20 : Int32) < v2
  · rw [decide_eq_true c2, if_pos c2, if_pos (by rfl)]; exact ⟨_, _, _, rfl, rfl, h⟩
  rw [decide_eq_false c2, if_neg c2, if_neg (show ¬ ((!false && !false) = false) by decide)]
  by_cases c3 : v3 < -9999
  · rw [decide_eq_true c3, if_pos c3, if_pos (by rfl)]; exact ⟨_, _, _, rfl, rfl, h⟩
  rw [decide_eq_false c3, if_neg c3]
  by_cases c4 : (9999 : Int32) < v3
  · rw [decide_eq_true c4, if_pos c4, if_pos (by rfl)]; exact ⟨_, _, _, rfl, rfl, h⟩
  rw [decide_eq_false c4, if_neg c4, if_neg (show ¬ ((!false && !false) = false) by decide), inC3 (b := 1) (n := 2) (by decide)]
  cases g1 : inR v4 2 with
  | false => rw [bf, ft]; exact ⟨_, _, _, rfl, rfl, h⟩
  | true =>
    rw [bt, tt]
    obtain ⟨y, hy, rfl⟩ := inR_of g1 (by omega)
    have hv2 : inR v2 21 = true := by
      unfold inR
      rw [i_lt] at c1 c2
      have e1 : (1 : Int32).toInt = 1 := by decide
      have e2 : (20 : Int32).toInt = 20 := by decide
      exact decide_eq_true ⟨by omega, by omega⟩
    obtain ⟨n, hn, rfl⟩ := inR_of hv2 (by omega)
    have hn0 : 0 < n := by
      rw [show (1 : Int32) = nI 1 from rfl, nIlt (by omega) (by omega)] at c1; omega
    obtain ⟨r, M1, N1, a1, a2, a3⟩ := chanceLoop (many := many) (txt := txt) (n := n) (v4 := y) ⟨hn0, by omega⟩ hy v1 v3 n 0 FU 0 Mc Mm (by omega) (by omega) (by have := FU_ge; omega) hN
    exact ⟨r, M1, N1, a1, a2, a3.i⟩
