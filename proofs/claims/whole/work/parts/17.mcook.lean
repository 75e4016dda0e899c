/-! COOKING, the reference's -/
theorem i_lt {a b : Int32} : (a < b) = (a.toInt < b.toInt) := propext Int32.lt_iff_toInt_lt
theorem i_le {a b : Int32} : (a ≤ b) = (a.toInt ≤ b.toInt) := propext Int32.le_iff_toInt_le
theorem i_eq {a b : Int32} : (a = b) = (a.toInt = b.toInt) := propext Int32.toInt_inj.symm
theorem i_nI {n : Nat} (h : n < 2 ^ 31) : (nI n).toInt = n := nI_toInt h
theorem in_eq (x a b : Int32) (M : Mem) : f_X9_in x.toInt64 a.toInt64 b.toInt64 M = some (zI (!decide (x < a) && !decide (b < x)), M) := by
  unfold f_X9_in
  have w : ∀ p q : Int32, (p.toInt64 < q.toInt64) = (p < q) := fun p q => by rw [i_lt, Int64.lt_iff_toInt_lt, Int32.toInt_toInt64, Int32.toInt_toInt64]
  have e1 : (lg_cmp x.toInt64 a.toInt64 < 0) = (x < a) := by rw [propext (lg_cmp_lt _ _), w]
  have e2 : (0 < lg_cmp x.toInt64 b.toInt64) = (b < x) := by rw [propext (lg_cmp_gt _ _), w]
  simp only [e1, e2]
  by_cases h1 : x < a
  · simp [h1, zI]
  · by_cases h2 : b < x
    · simp [h1, h2, zI]
    · simp [h1, h2, zI]
theorem within_eq (x : Int32) (M : Mem) : f_X9_within x 0 99 M = some (bd x, M) := by
  unfold f_X9_within bd jmax jmin
  by_cases h0 : (0 : Int32) ≤ x
  · rw [if_pos h0]
    by_cases h9 : x ≤ 99
    · rw [if_pos h9]
      by_cases h : x < 99
      · rw [if_pos h]
        by_cases hz : 0 < x
        · rw [if_pos hz]
        · rw [if_neg hz]
          have : x = 0 := by rw [i_lt] at hz; rw [i_le] at h0; rw [i_eq]; omega
          rw [this]
      · rw [if_neg h, if_pos (by decide)]
        have : x = 99 := by rw [i_lt] at h; rw [i_le] at h9; rw [i_eq]; omega
        rw [this]
    · rw [if_neg h9]
      have : ¬ x < 99 := by rw [i_lt]; rw [i_le] at h9; omega
      rw [if_neg this, if_pos (by decide)]
  · rw [if_neg h0]
    have e0 : (0 : Int32).toInt = 0 := by decide
    have e9 : (99 : Int32).toInt = 99 := by decide
    rw [i_le, e0] at h0
    have h1 : x < 99 := by rw [i_lt, e9]; omega
    have h2 : ¬ 0 < x := by rw [i_lt, e0]; omega
    rw [if_pos h1, if_neg h2]
theorem bd_of (x : Int32) : ∃ n : Nat, n ≤ 99 ∧ bd x = nI n := by
  unfold bd jmax jmin
  have e0 : (0 : Int32).toInt = 0 := by decide
  have e9 : (99 : Int32).toInt = 99 := by decide
  by_cases h : x < 99
  · rw [if_pos h]
    by_cases hz : 0 < x
    · rw [if_pos hz]
      rw [i_lt, e9] at h
      rw [i_lt, e0] at hz
      obtain ⟨j, hj, rfl⟩ := nI_of (x := x) (by rw [i_lt, e0]; omega)
      rw [i_nI hj] at h
      exact ⟨j, by omega, rfl⟩
    · rw [if_neg hz]; exact ⟨0, by omega, rfl⟩
  · rw [if_neg h, if_pos (by decide)]; exact ⟨99, by omega, rfl⟩
theorem bd_nI {n : Nat} (h : n ≤ 99) : bd (nI n) = nI n := by
  unfold bd jmax jmin
  by_cases h1 : nI n < 99
  · rw [if_pos h1]
    by_cases hz : 0 < nI n
    · rw [if_pos hz]
    · rw [if_neg hz]
      rw [show (0 : Int32) = nI 0 from rfl, nIlt (by omega) (by omega)] at hz
      have : n = 0 := by omega
      subst this; rfl
  · rw [if_neg h1, if_pos (by decide)]
    rw [show (99 : Int32) = nI 99 from rfl, nIlt (by omega) (by omega)] at h1
    have : n = 99 := by omega
    subst this; rfl
/-- all but the reader's own cells is as it was -/
def SmM (M M1 : Mem) : Prop := (∀ p, p ≠ 100 → M1 p = M p) ∧ ∀ j, (j < 13 ∨ 27 < j) → M1 100 j = M 100 j
theorem SmM.refl (M : Mem) : SmM M M := ⟨fun _ _ => rfl, fun _ _ => rfl⟩
theorem SmM.trans {M M1 M2 : Mem} (h : SmM M M1) (h2 : SmM M1 M2) : SmM M M2 := ⟨fun p hp => (h2.1 p hp).trans (h.1 p hp), fun j hj => (h2.2 j hj).trans (h.2 j hj)⟩
/-- TEXT r, as the reference reads it, tells ev -/
def TxM (M : Mem) (r : Nat) (ev : Nat → (Nat → Int32) → Int32) : Prop := ∀ M2 : Mem, (∀ j, j < 160 → M2 101 (160 * r + j) = M 101 (160 * r + j)) → M2 102 r = M 102 r → ∀ w, w < 3 → ∃ M1 : Mem, f_X9_read (nI r) (nI w) M2 = some (ev w (fun i => M2 100 (13 + i)), M1) ∧ SmM M2 M1
theorem TxM.keep {M M1 : Mem} {r : Nat} {ev : Nat → (Nat → Int32) → Int32} (h : TxM M r ev) (h1 : ∀ j, j < 160 → M1 101 (160 * r + j) = M 101 (160 * r + j)) (h2 : M1 102 r = M 102 r) : TxM M1 r ev :=
  fun M2 a b => h M2 (fun j hj => (a j hj).trans (h1 j hj)) (b.trans h2)
def EvC (ev : Nat → (Nat → Int32) → Int32) : Prop := ∀ (s : Nat) (e1 e2 : Nat → Int32), (∀ i, i < 6 → e1 i = e2 i) → ev s e1 = ev s e2
/-- what the reference holds of a DISH -/
def TkM (M : Mem) (d : Nat) (t : Tk) : Prop := M 106 d = tK t ∧ M 107 (3 * d) = tN t ∧ M 100 7 = tH t ∧ (∀ i, i < 2 → M 105 i = tP t i) ∧ (∃ n, n ≤ 999999 ∧ M 107 (3 * d + 1) = nI n ∧ (∀ p, p < 6 → tD t p = ndg (nI n) p) ∧ tT t = totN (nI n) 6) ∧ (∃ j, j < 6 ∧ tK t = nI j) ∧ (∃ n, n ≤ 9 ∧ tN t = nI n) ∧ EvC (tE t) ∧ ∃ r, r < 6 ∧ M 100 4 = nI r ∧ TxM M r (tE t)
theorem TkM.keep {M M1 : Mem} {d : Nat} {t : Tk} (h : TkM M d t) (hp : ∀ p, (p = 101 ∨ p = 102 ∨ p = 105 ∨ p = 106 ∨ p = 107) → M1 p = M p) (h4 : M1 100 4 = M 100 4) (h7 : M1 100 7 = M 100 7) : TkM M1 d t := by
  obtain ⟨a, b, c, e, f, g, g2, i, r, r1, r2, r3⟩ := h
  refine ⟨?_, ?_, h7.trans c, ?_, ?_, g, g2, i, r, r1, h4.trans r2, r3.keep (fun j _ => ?_) ?_⟩
  · rw [hp 106 (by omega)]; exact a
  · rw [hp 107 (by omega)]; exact b
  · rw [hp 105 (by omega)]; exact e
  · rw [hp 107 (by omega)]; exact f
  · rw [hp 101 (by omega)]
  · rw [hp 102 (by omega)]
theorem TkM.sm {M M1 : Mem} {d : Nat} {t : Tk} (h : TkM M d t) (s : SmM M M1) : TkM M1 d t := h.keep (fun p hp => s.1 p (by omega)) (s.2 4 (by omega)) (s.2 7 (by omega))
/-- says, before it is bounded -/
theorem says_eq {M : Mem} {d k w : Nat} {t : Tk} (hd : d < 6) (hk : k < 2) (hw : w < 3) (hT : TkM M d t) (part much : Int32) :
    ∃ M1 : Mem, f_X9_says (nI w) (nI d) (nI k) part much M = some (if w = 2 then kAsk t w part much k else bd (kAsk t w part much k), M1) ∧ SmM M M1 := by
  obtain ⟨a, b, c, e, f, g, g2, i, r, r1, r2, r3⟩ := hT
  unfold f_X9_says
  rw [show (3 : Int32) = nI 3 from rfl, pk_mul, inb_nI (show 3 * d < 18 by omega) (by omega), inb_nI hk (by omega), nI_clamp (show 3 * d < 2 ^ 31 by omega), nI_clamp (show k < 2 ^ 31 by omega), r2]
  simp only [ck_true]
  generalize hM2 : mu (mu (mu (mu (mu (mu M 100 13 part) 100 14 much) 100 15 (nI k)) 100 16 (M 100 7)) 100 17 (M 107 (3 * d))) 100 18 (M 105 k) = M2
  have o : ∀ p, p ≠ 100 → M2 p = M p := fun p hp => by rw [← hM2, mun hp, mun hp, mun hp, mun hp, mun hp, mun hp]
  have oj : ∀ j, (j < 13 ∨ 27 < j) → M2 100 j = M 100 j := fun j hj => by
    rw [← hM2]
    simp only [mus]
    rw [upn (by omega), upn (by omega), upn (by omega), upn (by omega), upn (by omega), upn (by omega)]
  obtain ⟨M1, g1, s1⟩ := r3 M2 (fun j _ => by rw [o 101 (by omega)]) (by rw [o 102 (by omega)]) w hw
  rw [g1]
  simp only [Option.bind_some, within_eq]
  have env : tE t w (fun i => M2 100 (13 + i)) = kAsk t w part much k := by
    unfold kAsk
    refine i w _ _ (fun x hx => ?_)
    show M2 100 (13 + x) = _
    rw [← hM2]
    simp only [mus]
    unfold envS
    rw [← c, ← b, ← e k hk]
    rcases Nat.lt_or_ge x 3 with h3 | h3
    · rcases Nat.lt_or_ge x 1 with h | h
      · have : x = 0 := by omega
        subst this; rfl
      · rcases Nat.lt_or_ge x 2 with h | h
        · have : x = 1 := by omega
          subst this; rfl
        · have : x = 2 := by omega
          subst this; rfl
    · rcases Nat.lt_or_ge x 4 with h | h
      · have : x = 3 := by omega
        subst this; rfl
      · rcases Nat.lt_or_ge x 5 with h | h
        · have : x = 4 := by omega
          subst this; rfl
        · have : x = 5 := by omega
          subst this; rfl
  rw [env]
  have s : SmM M M1 := SmM.trans ⟨o, oj⟩ s1
  by_cases h2 : w = 2
  · subst h2
    have e2 : nI 2 = 2 := rfl
    rw [if_pos e2]
    exact ⟨M1, rfl, s⟩
  · rw [if_neg (by rw [show (2 : Int32) = nI 2 from rfl, nIeq (by omega) (by omega)]; exact h2), if_neg h2]
    exact ⟨M1, rfl, s⟩
theorem jrem_nI {a d : Nat} (ha : a < 2 ^ 31) (h0 : 0 < d) (hd : d < 2 ^ 31) : jrem (nI a) (nI d) = nI (a % d) := pk_rem ha h0 hd
theorem pw_nI : ∀ p, p < 6 → stv 2000 p = nI (10 ^ (5 - p)) := by decide
theorem ndg_nI {n p : Nat} (hn : n ≤ 999999) (hp : p < 6) : ndg (nI n) p = nI (n / 10 ^ (5 - p) % 10) := by
  unfold ndg
  have h10 : 10 ^ (5 - p) < 2 ^ 31 := by
    have : ∀ p, p < 6 → 10 ^ (5 - p) < 2 ^ 31 := by decide
    exact this p hp
  rw [pw_nI p hp, pk_div (by omega) (Nat.pow_pos (by omega)) h10, show (10 : Int32) = nI 10 from rfl, jrem_nI (Nat.lt_of_le_of_lt (Nat.div_le_self _ _) (by omega)) (by omega) (by omega)]
theorem needsM_l {p : Nat} (hp : p < 6) (M : Mem) : ∀ (m x c fuel : Nat), c = p + m → x < 2 ^ 31 → m < fuel → c < 6 → f_X9_needsOf_l14 fuel (nI p) (nI x) (nI c) M = some (nI (x / 10 ^ m % 10), M) := by
  intro m
  induction m with
  | zero =>
    intro x c fuel hc hx hf hc6
    obtain ⟨f, rfl⟩ : ∃ f, fuel = f + 1 := ⟨fuel - 1, by omega⟩
    rw [f_X9_needsOf_l14, if_pos (by rw [nIle (by omega) (by omega)]; omega), show (10 : Int32) = nI 10 from rfl, jrem_nI hx (by omega) (by omega)]
    simp
  | succ m ih =>
    intro x c fuel hc hx hf hc6
    obtain ⟨f, rfl⟩ : ∃ f, fuel = f + 1 := ⟨fuel - 1, by omega⟩
    rw [f_X9_needsOf_l14, if_neg (by rw [nIle (by omega) (by omega)]; omega), show (10 : Int32) = nI 10 from rfl, pk_div hx (by omega) (by omega), nIm1 (by omega)]
    rw [ih (x / 10) (c - 1) f (by omega) (by omega) (by omega) (by omega), Nat.div_div_eq_div_mul, Nat.pow_succ, Nat.mul_comm 10]
theorem needsM_eq {M : Mem} {d p n : Nat} (hd : d < 6) (hp : p < 6) (hn : n ≤ 999999) (h : M 107 (3 * d + 1) = nI n) : f_X9_needsOf (nI d) (nI p) M = some (ndg (nI n) p, M) := by
  unfold f_X9_needsOf
  rw [show (3 : Int32) = nI 3 from rfl, pk_mul, nIp, inb_nI (show 3 * d + 1 < 18 by omega) (by omega), nI_clamp (by omega), h]
  simp only [ck_true]
  rw [show (5 : Int32) = nI 5 from rfl, needsM_l hp M (5 - p) n 5 FU (by omega) (by omega) (by have := FU_ge; omega) (by omega), ndg_nI hn hp]
theorem needsAll_l {M : Mem} {d n : Nat} (hd : d < 6) (hn : n ≤ 999999) (h : M 107 (3 * d + 1) = nI n) : ∀ (m p fuel : Nat), p + m = 6 → m < fuel → f_X9_needsAll_l4 fuel (nI d) (totN (nI n) p) (nI p) M = some (totN (nI n) 6, M) := by
  intro m
  induction m with
  | zero =>
    intro p fuel hp hf
    obtain ⟨f, rfl⟩ : ∃ f, fuel = f + 1 := ⟨fuel - 1, by omega⟩
    have e6 : p = 6 := by omega
    subst e6
    rw [f_X9_needsAll_l4, if_pos (id (by decide) : (6 : Int32) ≤ nI 6)]
  | succ m ih =>
    intro p fuel hp hf
    obtain ⟨f, rfl⟩ : ∃ f, fuel = f + 1 := ⟨fuel - 1, by omega⟩
    have hn6 : ¬ (6 : Int32) ≤ nI p := by rw [show (6 : Int32) = nI 6 from rfl, nIle (by omega) (by omega)]; omega
    rw [f_X9_needsAll_l4, if_neg hn6, needsM_eq hd (by omega) hn h]
    simp only [Option.bind_some]
    rw [nIp]
    exact ih (p + 1) f (by omega) (by omega)
theorem needsAll_eq {M : Mem} {d n : Nat} (hd : d < 6) (hn : n ≤ 999999) (h : M 107 (3 * d + 1) = nI n) : f_X9_needsAll (nI d) M = some (totN (nI n) 6, M) :=
  needsAll_l hd hn h 6 0 FU (by omega) (by have := FU_ge; omega)
theorem half_bd {n : Nat} (h : n ≤ 99) : nI n / 2 = nI (n / 2) := by
  rw [show (2 : Int32) = nI 2 from rfl, pk_div (by omega) (by omega) (by omega)]
theorem feedsOf_eq {M : Mem} {d k : Nat} {t : Tk} (hd : d < 6) (hk : k < 2) (hT : TkM M d t) :
    ∃ M1 : Mem, f_X9_feedsOf (nI d) (nI k) M = some (kFed t k, M1) ∧ SmM M M1 := by
  have hT0 := hT
  obtain ⟨a, b, c, e, ⟨n, n1, n2, n3, n4⟩, ⟨j, j1, j2⟩, ⟨nu, nu1, nu2⟩, i, r, r1, r2, r3⟩ := hT
  unfold f_X9_feedsOf
  rw [inb_nI hd (by omega), show (3 : Int32) = nI 3 from rfl, pk_mul, inb_nI (show 3 * d < 18 by omega) (by omega), nI_clamp (show 3 * d < 2 ^ 31 by omega), nI_clamp (show d < 2 ^ 31 by omega), a, b]
  simp only [ck_true]
  have ek : (nI k = 1) = (k = 1) := by rw [show (1 : Int32) = nI 1 from rfl, nIeq (by omega) (by omega)]
  by_cases h3 : tK t = 3 ∧ k = 1
  · obtain ⟨h3a, h3b⟩ := h3
    rw [show (nI 3) = 3 from rfl, if_pos h3a, if_pos (by rw [ek]; exact h3b)]
    refine ⟨M, ?_, SmM.refl M⟩
    unfold kFed fedK
    rw [h3a, if_neg (by decide), if_neg (by decide), if_pos rfl, if_pos h3b]
  · have hb : (if tK t = nI 3 then if nI k = 1 then some (tN t, M) else f_X9_feedsOf_b30 (nI d) (nI k) (tK t) (tN t) M else f_X9_feedsOf_b30 (nI d) (nI k) (tK t) (tN t) M) = f_X9_feedsOf_b30 (nI d) (nI k) (tK t) (tN t) M := by
      by_cases h : tK t = nI 3
      · rw [if_pos h, if_neg (by rw [ek]; exact fun h1 => h3 ⟨h, h1⟩)]
      · rw [if_neg h]
    rw [hb]
    unfold f_X9_feedsOf_b30
    rw [needsAll_eq hd n1 n2]
    simp only [Option.bind_some]
    obtain ⟨M1, g1, s1⟩ := says_eq hd hk (w := 0) (by omega) hT0 0 (totN (nI n) 6)
    have g1 : f_X9_says 0 (nI d) (nI k) 0 (totN (nI n) 6) M = some (bd (kAsk t 0 0 (totN (nI n) 6) k), M1) := by
      have := g1
      rw [if_neg (by omega)] at this
      exact this
    rw [g1, ← n4]
    simp only [Option.bind_some]
    refine ⟨M1, ?_, s1⟩
    obtain ⟨v, v1, v2⟩ := bd_of (kAsk t 0 0 (tT t) k)
    unfold kFed fedK
    rw [v2]
    have hh : M1 100 7 = tH t := by rw [s1.2 7 (by omega)]; exact c
    rw [hh, nu2]
    unfold f_X9_feedsOf_b55 f_X9_feedsOf_b98 f_X9_feedsOf_b117
    simp only [within_eq, Option.bind_some]
    have m2 : (2 : Int32) * nI v = nI v * 2 := by rw [show (2 : Int32) = nI 2 from rfl, pk_mul, pk_mul, Nat.mul_comm]
    by_cases k1 : tK t = 1
    · rw [if_pos k1, if_pos k1, m2]
    · rw [if_neg k1, if_neg k1]
      by_cases k3 : tK t = 3
      · rw [if_pos k3, if_neg (by rw [k3]; decide), if_pos k3, if_neg (fun h => h3 ⟨k3, h⟩), m2]
      · rw [if_neg k3]
        by_cases k2 : tK t = 2
        · rw [if_pos k2, if_pos k2, half_bd v1, bd_nI (by omega)]
        · rw [if_neg k2, if_neg k2, if_neg k3]
          by_cases k4 : tK t = 4
          · rw [if_pos k4, if_pos k4, half_bd v1]
            by_cases h0 : jrem (tH t) 4 = 0
            · rw [if_pos h0, if_pos h0, show (10 : Int32) = nI 10 from rfl, nI_add, bd_nI (by omega)]
            · rw [if_neg h0, if_neg h0, show (0 : Int32) = nI 0 from rfl, nI_add, bd_nI (by omega)]
              simp
          · rw [if_neg k4, if_neg k4]
            by_cases k5 : tK t = 5
            · rw [if_pos k5, if_pos k5]
            · rw [if_neg k5, if_neg k5, bd_nI v1]
theorem kCr_alt (t : Tk) (k : Nat) (st : Nat → Int32) (p : Nat) (M : Mem) : (if (0 : Int32) ≤ tD t p - st (6 * k + p) then some (tD t p - st (6 * k + p), M) else some (0, M)) = some (kCr t k st p, M) := by
  unfold kCr jmax
  generalize tD t p - st (6 * k + p) = x
  by_cases h : (0 : Int32) ≤ x
  · rw [if_pos h]
    by_cases h2 : 0 < x
    · rw [if_pos h2]
    · rw [if_neg h2]
      have : x = 0 := by rw [i_lt] at h2; rw [i_le] at h; rw [i_eq]; omega
      rw [this]
  · rw [if_neg h, if_neg (by rw [i_lt]; rw [i_le] at h; omega)]
theorem crossOf_eq {M : Mem} {d k p : Nat} {t : Tk} (hd : d < 6) (hk : k < 2) (hp : p < 6) (hT : TkM M d t) : f_X9_crossOf (nI d) (nI k) (nI p) M = some (kCr t k (M 104) p, M) := by
  obtain ⟨a, b, c, e, ⟨n, n1, n2, n3, n4⟩, _⟩ := hT
  unfold f_X9_crossOf
  rw [needsM_eq hd hp n1 n2, ← n3 p hp]
  simp only [Option.bind_some]
  rw [show (6 : Int32) = nI 6 from rfl, pk_mul, nI_add, inb_nI (show 6 * k + p < 12 by omega) (by omega), nI_clamp (by omega)]
  simp only [ck_true]
  exact kCr_alt t k (M 104) p M
theorem tollPart_eq {M : Mem} {d k p : Nat} {t : Tk} (hd : d < 6) (hk : k < 2) (hp : p < 6) (hT : TkM M d t) (much : Int32) :
    ∃ M1 : Mem, f_X9_tollPart (nI d) (nI k) (nI p) much M = some (kTp t k p much, M1) ∧ SmM M M1 := by
  have hT0 := hT
  obtain ⟨a, b, c, e, f, ⟨j, j1, j2⟩, ⟨nu, nu1, nu2⟩, i, r, r1, r2, r3⟩ := hT
  obtain ⟨M1, g1, s1⟩ := says_eq hd hk (w := 1) (by omega) hT0 (nI p) much
  have g1 : f_X9_says 1 (nI d) (nI k) (nI p) much M = some (bd (kAsk t 1 (nI p) much k), M1) := by
    have := g1
    rw [if_neg (by omega)] at this
    exact this
  unfold f_X9_tollPart
  rw [inb_nI hd (by omega), nI_clamp (show d < 2 ^ 31 by omega), a]
  simp only [ck_true]
  unfold f_X9_tollPart_b26
  have b72 : (tK t = 0 ∨ tK t = 2 ∨ (tK t = 4 ∧ ¬ nI p = jrem (tN t) 6)) → f_X9_tollPart_b72 (nI d) (nI k) (nI p) much (tK t) M = some (kTp t k p much, M1) := by
    intro h
    unfold f_X9_tollPart_b72 f_X9_tollPart_b99
    rw [g1]
    simp only [Option.bind_some, within_eq]
    unfold kTp tollK
    obtain ⟨v, v1, v2⟩ := bd_of (kAsk t 1 (nI p) much k)
    rw [v2]
    have m2 : much * nI v = nI v * much := Int32.mul_comm _ _
    rcases h with h | h | h
    · rw [if_pos h, h, bd_nI v1]; rfl
    · rw [h, m2]; rfl
    · rw [h.1, if_neg (by decide), if_neg (by decide), if_neg (by decide), if_neg (by decide), if_pos rfl, if_neg h.2, m2]
  by_cases k1 : tK t = 1
  · rw [if_pos k1, if_pos k1]
    exact ⟨M, by unfold kTp tollK; rw [if_pos k1], SmM.refl M⟩
  · rw [if_neg k1]
    by_cases k3 : tK t = 3
    · rw [if_pos k3, k3, if_neg (by decide), if_pos rfl]
      exact ⟨M, by unfold kTp tollK; rw [k3]; rfl, SmM.refl M⟩
    · rw [if_neg k3]
      by_cases k5 : tK t = 5
      · rw [if_pos k5, k5, if_neg (by decide), if_neg (by decide)]
        exact ⟨M, by unfold kTp tollK; rw [k5]; rfl, SmM.refl M⟩
      · rw [if_neg k5]
        by_cases k4 : tK t = 4
        · rw [if_pos k4, show (3 : Int32) = nI 3 from rfl, pk_mul, inb_nI (show 3 * d < 18 by omega) (by omega), nI_clamp (show 3 * d < 2 ^ 31 by omega), b]
          simp only [ck_true]
          by_cases hp6 : nI p = jrem (tN t) 6
          · rw [if_pos hp6]
            exact ⟨M, by unfold kTp tollK; rw [k4, if_neg (by decide), if_neg (by decide), if_neg (by decide), if_pos rfl, if_pos hp6], SmM.refl M⟩
          · rw [if_neg hp6, b72 (Or.inr (Or.inr ⟨k4, hp6⟩))]
            exact ⟨M1, rfl, s1⟩
        · rw [if_neg k4]
          have : tK t = 0 ∨ tK t = 2 := by
            rw [j2] at k1 k3 k4 k5 ⊢
            rcases Nat.lt_or_ge j 1 with h | h
            · have : j = 0 := by omega
              subst this; exact Or.inl rfl
            · have : j = 2 := by
                rcases Nat.lt_or_ge j 2 with h2 | h2
                · exact absurd (show nI j = 1 by rw [show j = 1 by omega]; rfl) k1
                · rcases Nat.lt_or_ge j 3 with h3 | h3
                  · omega
                  · rcases Nat.lt_or_ge j 4 with h4 | h4
                    · exact absurd (show nI j = 3 by rw [show j = 3 by omega]; rfl) k3
                    · rcases Nat.lt_or_ge j 5 with h5 | h5
                      · exact absurd (show nI j = 4 by rw [show j = 4 by omega]; rfl) k4
                      · exact absurd (show nI j = 5 by rw [show j = 5 by omega]; rfl) k5
              subst this; exact Or.inr rfl
          rw [b72 (by rcases this with h | h; exact Or.inl h; exact Or.inr (Or.inl h))]
          exact ⟨M1, rfl, s1⟩
theorem tollOf_l {d k : Nat} {t : Tk} {st : Nat → Int32} (hd : d < 6) (hk : k < 2) : ∀ (n p fuel : Nat) (M : Mem), p + n = 6 → n < fuel → TkM M d t → M 104 = st →
    ∃ M1 : Mem, f_X9_tollOf_l5 fuel (nI d) (nI k) (tollN t k st p) (nI p) M = some (kToll t k st, M1) ∧ SmM M M1 := by
  intro n
  induction n with
  | zero =>
    intro p fuel M hp hf hT hst
    obtain ⟨f, rfl⟩ : ∃ f, fuel = f + 1 := ⟨fuel - 1, by omega⟩
    have e6 : p = 6 := by omega
    subst e6
    exact ⟨M, by rw [f_X9_tollOf_l5, if_pos (id (by decide) : (6 : Int32) ≤ nI 6)]; rfl, SmM.refl M⟩
  | succ n ih =>
    intro p fuel M hp hf hT hst
    obtain ⟨f, rfl⟩ : ∃ f, fuel = f + 1 := ⟨fuel - 1, by omega⟩
    have hn6 : ¬ (6 : Int32) ≤ nI p := by rw [show (6 : Int32) = nI 6 from rfl, nIle (by omega) (by omega)]; omega
    rw [f_X9_tollOf_l5, if_neg hn6, crossOf_eq hd hk (by omega) hT, hst]
    simp only [Option.bind_some]
    unfold f_X9_tollOf_b42
    by_cases hc : kCr t k st p ≤ 0
    · rw [if_pos hc, nIp]
      obtain ⟨M1, g1, g2⟩ := ih (p + 1) f M (by omega) (by omega) hT hst
      refine ⟨M1, ?_, g2⟩
      rw [← g1]
      congr 1
      show tollN t k st p + 0 = if _ then _ else _
      rw [if_pos hc]; simp
    · rw [if_neg hc]
      obtain ⟨M2, a1, a2⟩ := tollPart_eq hd hk (show p < 6 by omega) hT (kCr t k st p)
      rw [a1]
      simp only [Option.bind_some]
      rw [nIp]
      obtain ⟨M1, g1, g2⟩ := ih (p + 1) f M2 (by omega) (by omega) (hT.sm a2) (by rw [a2.1 104 (by omega)]; exact hst)
      refine ⟨M1, ?_, a2.trans g2⟩
      rw [← g1]
      congr 1
      show _ = if _ then _ else _
      rw [if_neg hc]
theorem tollOf_eq {M : Mem} {d k : Nat} {t : Tk} (hd : d < 6) (hk : k < 2) (hT : TkM M d t) : ∃ M1 : Mem, f_X9_tollOf (nI d) (nI k) M = some (kToll t k (M 104), M1) ∧ SmM M M1 :=
  tollOf_l hd hk 6 0 FU M (by omega) (by have := FU_ge; omega) hT rfl
theorem signsAt_eq {M : Mem} {d k i : Nat} {t : Tk} (hd : d < 6) (hk : k < 2) (hi : i < 2) (hT : TkM M d t) (toll : Int32) :
    ∃ M1 : Mem, f_X9_signsAt (nI d) (nI k) (nI i) toll M = some (zI (kSg t k i toll), M1) ∧ SmM M M1 := by
  have hT0 := hT
  obtain ⟨a, b, c, e, f, g, g2, ic, r, r1, r2, r3⟩ := hT
  obtain ⟨M1, g1, s1⟩ := says_eq hd hi (w := 2) (by omega) hT0 0 toll
  have g1 : f_X9_says 2 (nI d) (nI i) 0 toll M = some (kAsk t 2 0 toll i, M1) := g1
  have e1 : M1 105 i = tP t i := by rw [s1.1 105 (by omega)]; exact e i hi
  have eki : (nI k = nI i) = (i = k) := by rw [nIeq (by omega) (by omega)]; exact propext ⟨Eq.symm, Eq.symm⟩
  unfold f_X9_signsAt
  rw [inb_nI hd (by omega), nI_clamp (show d < 2 ^ 31 by omega), a]
  simp only [ck_true]
  have b35 : tK t ≠ 1 → tK t ≠ 3 → ¬ (tK t = 4 ∧ i = k) → f_X9_signsAt_b35 (nI d) (nI k) (nI i) toll (tK t) M = some (zI (kSg t k i toll), M1) := by
    intro n1 n3 n4
    unfold f_X9_signsAt_b35
    rw [g1]
    simp only [Option.bind_some]
    have b53 : ∀ y : Bool, f_X9_signsAt_b53 (nI k) (nI i) toll (tK t) (zI y) M1 = some (zI (sgK (tK t) y (decide (i = k)) (!decide (tP t i ≤ toll))), M1) := by
      intro y
      unfold f_X9_signsAt_b53 f_X9_signsAt_b67 sgK
      rw [inb_nI hi (by omega), nI_clamp (by omega), e1, zI_zb]
      simp only [ck_true, zI_0, eki]
      rw [if_neg n1]
      by_cases k2 : tK t = 2
      · rw [if_pos k2, if_pos k2]
        cases y
        · rfl
        · by_cases h : tP t i ≤ toll
          · rw [if_neg (by decide), if_pos h, decide_eq_true h]; rfl
          · rw [if_neg (by decide), if_neg h, decide_eq_false h]; rfl
      · rw [if_neg k2, if_neg k2, if_neg n3]
        by_cases k4 : tK t = 4
        · rw [if_pos k4, if_pos k4]
          have : ¬ i = k := fun h => n4 ⟨k4, h⟩
          rw [decide_eq_false this]
          cases y
          · rfl
          · by_cases h : tP t i ≤ toll
            · rw [if_neg (by decide), if_pos h, decide_eq_true h]; rfl
            · rw [if_neg (by decide), if_neg h, decide_eq_false h]; rfl
        · rw [if_neg k4, if_neg k4]
          by_cases k5 : tK t = 5
          · rw [if_pos k5, if_pos k5]
            cases y
            · by_cases h : i = k
              · rw [if_pos rfl, if_pos h, decide_eq_true h]; rfl
              · rw [if_pos rfl, if_neg h, decide_eq_false h]; rfl
            · rfl
          · rw [if_neg k5, if_neg k5]
    unfold kSg
    by_cases hy : kAsk t 2 0 toll i = 0
    · rw [if_pos hy, decide_eq_true hy]; exact b53 false
    · rw [if_neg hy, decide_eq_false hy]; exact b53 true
  by_cases k1 : tK t = 1
  · rw [if_pos k1]
    exact ⟨M, by unfold kSg sgK; rw [if_pos k1]; rfl, SmM.refl M⟩
  · rw [if_neg k1]
    by_cases k3 : tK t = 3
    · rw [if_pos k3]
      exact ⟨M, by unfold kSg sgK; rw [k3]; rfl, SmM.refl M⟩
    · rw [if_neg k3]
      by_cases k4 : tK t = 4
      · rw [if_pos k4]
        by_cases h : i = k
        · rw [if_pos (show nI k = nI i by rw [eki]; exact h)]
          exact ⟨M, by unfold kSg sgK; rw [k4, if_neg (by decide), if_neg (by decide), if_neg (by decide), if_pos rfl, decide_eq_true h]; simp [zI], SmM.refl M⟩
        · rw [if_neg (show ¬ nI k = nI i by rw [eki]; exact h), b35 k1 k3 (fun q => h q.2)]
          exact ⟨M1, rfl, s1⟩
      · rw [if_neg k4, b35 k1 k3 (fun q => k4 q.1)]
        exact ⟨M1, rfl, s1⟩
theorem sgM0_eq {M : Mem} {d k : Nat} {t : Tk} (hd : d < 6) (hk : k < 2) (hT : TkM M d t) (toll : Int32) : ∃ M1 : Mem, f_X9_signsAt (nI d) (nI k) 0 toll M = some (zI (kSg t k 0 toll), M1) ∧ SmM M M1 := signsAt_eq hd hk (i := 0) (by omega) hT toll
theorem sgM1_eq {M : Mem} {d k : Nat} {t : Tk} (hd : d < 6) (hk : k < 2) (hT : TkM M d t) (toll : Int32) : ∃ M1 : Mem, f_X9_signsAt (nI d) (nI k) 1 toll M = some (zI (kSg t k 1 toll), M1) ∧ SmM M M1 := signsAt_eq hd hk (i := 1) (by omega) hT toll
theorem canN_false {t : Tk} {k : Nat} {st : Nat → Int32} {p : Nat} (h : canN t k st p = false) : ∀ n, canN t k st (p + n) = false := by
  intro n
  induction n with
  | zero => exact h
  | succ n ih => show (canN t k st (p + n) && _) = false; rw [ih]; rfl
theorem canBe_l {d k : Nat} {t : Tk} {M : Mem} (hd : d < 6) (hk : k < 2) (hT : TkM M d t) : ∀ (n p fuel : Nat), p + n = 6 → n < fuel → canN t k (M 104) p = true → f_X9_canBe_l2 fuel (nI d) (nI k) (nI p) M = some (zI (kCan t k (M 104)), M) := by
  intro n
  induction n with
  | zero =>
    intro p fuel hp hf hc
    obtain ⟨f, rfl⟩ : ∃ f, fuel = f + 1 := ⟨fuel - 1, by omega⟩
    have e6 : p = 6 := by omega
    subst e6
    rw [f_X9_canBe_l2, if_pos (id (by decide) : (6 : Int32) ≤ nI 6)]
    unfold kCan
    rw [hc]; rfl
  | succ n ih =>
    intro p fuel hp hf hc
    obtain ⟨f, rfl⟩ : ∃ f, fuel = f + 1 := ⟨fuel - 1, by omega⟩
    have hn6 : ¬ (6 : Int32) ≤ nI p := by rw [show (6 : Int32) = nI 6 from rfl, nIle (by omega) (by omega)]; omega
    rw [f_X9_canBe_l2, if_neg hn6, crossOf_eq hd hk (by omega) hT]
    simp only [Option.bind_some]
    rw [show (1 : Int32) = nI 1 from rfl, pk_sub (by omega), show (6 : Int32) = nI 6 from rfl, pk_mul, nI_add, inb_nI (show 6 * (1 - k) + p < 12 by omega) (by omega), nI_clamp (by omega)]
    simp only [ck_true]
    by_cases h : kCr t k (M 104) p ≤ M 104 (6 * (1 - k) + p)
    · rw [if_pos h, nI_add]
      refine ih (p + 1) f (by omega) (by omega) ?_
      show (canN t k (M 104) p && !decide _) = true
      rw [hc, decide_eq_false (by rw [i_lt]; rw [i_le] at h; omega)]; rfl
    · rw [if_neg h]
      have : canN t k (M 104) (p + 1) = false := by
        show (canN t k (M 104) p && !decide _) = false
        rw [decide_eq_true (by rw [i_lt]; rw [i_le] at h; omega)]; simp
      have := canN_false this n
      unfold kCan
      rw [show 6 = p + 1 + n by omega, this]; rfl
theorem canBe_eq {d k : Nat} {t : Tk} {M : Mem} (hd : d < 6) (hk : k < 2) (hT : TkM M d t) : f_X9_canBe (nI d) (nI k) M = some (zI (kCan t k (M 104)), M) :=
  canBe_l hd hk hT 6 0 FU (by omega) (by have := FU_ge; omega) rfl
/-- both sign -/
def kRat (t : Tk) (k : Nat) (st : Nat → Int32) : Bool := kSg t k 0 (kToll t k st) && kSg t k 1 (kToll t k st)
theorem kCk_eq (t : Tk) (k : Nat) (st : Nat → Int32) : kCk t k st = (kCan t k st && kRat t k st) := rfl
theorem isRatified_eq {d k : Nat} {t : Tk} {M : Mem} (hd : d < 6) (hk : k < 2) (hT : TkM M d t) : ∃ M1 : Mem, f_X9_isRatified (nI d) (nI k) M = some (zI (kRat t k (M 104)), M1) ∧ SmM M M1 := by
  unfold f_X9_isRatified
  obtain ⟨M2, a1, a2⟩ := tollOf_eq hd hk hT
  rw [a1]
  simp only [Option.bind_some]
  obtain ⟨M3, b1, b2⟩ := sgM0_eq hd hk (hT.sm a2) (kToll t k (M 104))
  rw [b1]
  simp only [Option.bind_some]
  unfold kRat
  cases h0 : kSg t k 0 (kToll t k (M 104)) with
  | false => exact ⟨M3, rfl, a2.trans b2⟩
  | true =>
    obtain ⟨M4, c1, c2⟩ := sgM1_eq hd hk ((hT.sm a2).sm b2) (kToll t k (M 104))
    rw [if_neg (by decide), c1]
    simp only [Option.bind_some]
    refine ⟨M4, ?_, (a2.trans b2).trans c2⟩
    cases kSg t k 1 (kToll t k (M 104)) <;> rfl
theorem isCookedM_eq {d k : Nat} {t : Tk} {M : Mem} (hd : d < 6) (hk : k < 2) (hT : TkM M d t) : ∃ M1 : Mem, f_X9_isCooked (nI d) (nI k) M = some (zI (kCk t k (M 104)), M1) ∧ SmM M M1 := by
  unfold f_X9_isCooked
  rw [canBe_eq hd hk hT]
  simp only [Option.bind_some]
  rw [kCk_eq]
  cases kCan t k (M 104) with
  | false => exact ⟨M, rfl, SmM.refl M⟩
  | true =>
    rw [if_neg (by decide)]
    obtain ⟨M2, a1, a2⟩ := isRatified_eq hd hk hT
    rw [a1]
    simp only [Option.bind_some]
    refine ⟨M2, ?_, a2⟩
    cases kRat t k (M 104) <;> rfl
theorem crossAll_l {d k : Nat} {t : Tk} {M : Mem} (hd : d < 6) (hk : k < 2) (hT : TkM M d t) : ∀ (n p fuel : Nat), p + n = 6 → n < fuel → f_X9_crossAll_l5 fuel (nI d) (nI k) (crN t k (M 104) p) (nI p) M = some (crN t k (M 104) 6, M) := by
  intro n
  induction n with
  | zero =>
    intro p fuel hp hf
    obtain ⟨f, rfl⟩ : ∃ f, fuel = f + 1 := ⟨fuel - 1, by omega⟩
    have e6 : p = 6 := by omega
    subst e6
    rw [f_X9_crossAll_l5, if_pos (id (by decide) : (6 : Int32) ≤ nI 6)]
  | succ n ih =>
    intro p fuel hp hf
    obtain ⟨f, rfl⟩ : ∃ f, fuel = f + 1 := ⟨fuel - 1, by omega⟩
    have hn6 : ¬ (6 : Int32) ≤ nI p := by rw [show (6 : Int32) = nI 6 from rfl, nIle (by omega) (by omega)]; omega
    rw [f_X9_crossAll_l5, if_neg hn6, crossOf_eq hd hk (by omega) hT]
    simp only [Option.bind_some]
    rw [nIp]
    exact ih (p + 1) f (by omega) (by omega)
theorem crossAll_eq {d k : Nat} {t : Tk} {M : Mem} (hd : d < 6) (hk : k < 2) (hT : TkM M d t) : f_X9_crossAll (nI d) (nI k) M = some (crN t k (M 104) 6, M) :=
  crossAll_l hd hk hT 6 0 FU (by omega) (by have := FU_ge; omega)
/-- what a dish crosses only hangs on its own part -/
theorem kCr_congr {t : Tk} {k p : Nat} {s1 s2 : Nat → Int32} (h : s1 (6 * k + p) = s2 (6 * k + p)) : kCr t k s1 p = kCr t k s2 p := by unfold kCr; rw [h]
theorem uses_l {d k : Nat} {t : Tk} {st : Nat → Int32} (hd : d < 6) (hk : k < 2) : ∀ (n p fuel : Nat) (M : Mem), p + n = 6 → n < fuel → TkM M d t → (∀ j, j < 12 → M 104 j = useN t k st p j) →
    ∃ M1 : Mem, f_X9_uses_l2 fuel (nI d) (nI k) (nI p) M = some M1 ∧ (∀ j, j < 12 → M1 104 j = kUse t k st j) ∧ ∀ r, r ≠ 104 → M1 r = M r := by
  intro n
  induction n with
  | zero =>
    intro p fuel M hp hf hT hS
    obtain ⟨f, rfl⟩ : ∃ f, fuel = f + 1 := ⟨fuel - 1, by omega⟩
    have e6 : p = 6 := by omega
    subst e6
    refine ⟨M, by rw [f_X9_uses_l2, if_pos (id (by decide) : (6 : Int32) ≤ nI 6)], fun j hj => ?_, fun _ _ => rfl⟩
    rw [hS j hj]
    unfold useN
    rw [if_pos (by omega)]
  | succ n ih =>
    intro p fuel M hp hf hT hS
    obtain ⟨f, rfl⟩ : ∃ f, fuel = f + 1 := ⟨fuel - 1, by omega⟩
    have hn6 : ¬ (6 : Int32) ≤ nI p := by rw [show (6 : Int32) = nI 6 from rfl, nIle (by omega) (by omega)]; omega
    have h1 : M 104 (6 * k + p) = st (6 * k + p) := by rw [hS _ (by omega)]; unfold useN; rw [if_neg (by omega)]
    have h2 : M 104 (6 * (1 - k) + p) = st (6 * (1 - k) + p) := by rw [hS _ (by omega)]; unfold useN; rw [if_neg (by omega)]
    obtain ⟨m, m1, m2, m3, m4⟩ := hT.2.2.2.2.1
    rw [f_X9_uses_l2, if_neg hn6, crossOf_eq hd hk (by omega) hT, kCr_congr h1]
    simp only [Option.bind_some]
    rw [needsM_eq hd (by omega) m1 m2, ← m3 p (by omega)]
    simp only [Option.bind_some]
    have hne : 6 * (1 - k) + p ≠ 6 * k + p := by omega
    rw [show (1 : Int32) = nI 1 from rfl, pk_sub (by omega), show (6 : Int32) = nI 6 from rfl, pk_mul, pk_mul, nI_add, nI_add, inb_nI (show 6 * (1 - k) + p < 12 by omega) (by omega), inb_nI (show 6 * k + p < 12 by omega) (by omega), nI_clamp (show 6 * k + p < 2 ^ 31 by omega), nI_clamp (show 6 * (1 - k) + p < 2 ^ 31 by omega)]
    simp only [ck_true]
    rw [show mu M 104 (6 * k + p) (M 104 (6 * k + p) - (tD t p - kCr t k st p)) 104 (6 * (1 - k) + p) = M 104 (6 * (1 - k) + p) by rw [mus, upn hne]]
    rw [h1, h2, nI_add]
    obtain ⟨M1, g1, g2, g3⟩ := ih (p + 1) f (mu (mu M 104 (6 * k + p) (st (6 * k + p) - (tD t p - kCr t k st p))) 104 (6 * (1 - k) + p) (st (6 * (1 - k) + p) - kCr t k st p)) (by omega) (by omega) (hT.keep (fun r hr => by rw [mun (by omega), mun (by omega)]) (by rw [mun (by omega), mun (by omega)]) (by rw [mun (by omega), mun (by omega)])) (fun j hj => by
      rw [mus, mus]
      by_cases e1 : j = 6 * (1 - k) + p
      · subst e1
        rw [ups]
        unfold useN kUse
        rw [if_pos (by omega), if_neg (by omega), show (6 * (1 - k) + p) % 6 = p by omega]
      · rw [upn e1]
        by_cases e2 : j = 6 * k + p
        · subst e2
          rw [ups]
          unfold useN kUse
          rw [if_pos (by omega), if_pos (by omega), show (6 * k + p) % 6 = p by omega]
        · rw [upn e2, hS j hj]
          unfold useN
          have : j % 6 ≠ p := by omega
          by_cases e3 : j % 6 < p
          · rw [if_pos e3, if_pos (by omega)]
          · rw [if_neg e3, if_neg (by omega)])
    exact ⟨M1, g1, g2, fun r hr => by rw [g3 r hr, mun hr, mun hr]⟩
theorem uses_eq {d k : Nat} {t : Tk} {M : Mem} (hd : d < 6) (hk : k < 2) (hT : TkM M d t) : ∃ M1 : Mem, f_X9_uses (nI d) (nI k) M = some M1 ∧ (∀ j, j < 12 → M1 104 j = kUse t k (M 104) j) ∧ ∀ r, r ≠ 104 → M1 r = M r :=
  uses_l (st := M 104) hd hk 6 0 FU M (by omega) (by have := FU_ge; omega) hT (fun j _ => by unfold useN; rw [if_neg (by omega)])
