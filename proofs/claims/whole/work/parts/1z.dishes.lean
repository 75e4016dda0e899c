/-! DISHES FROM A SHEET -/
def hr (v : Int32) (n z : Nat) : Bool := decide (0 ≤ v.toInt ∧ v.toInt + n ≤ z)
theorem hasRun_eq {s z n : Nat} (hs : s < 4) {M : Mem} (hz : z ≤ 40) (hn : n < 2147483648) (h1 : M (55 + 2 * s) 1 = nI z) (v : Int32) : f_X6_hasRun (55 + 2 * s) v (nI n) M = some (zI (hr v n z), M) := by
  unfold f_X6_hasRun
  rw [(sh_kd s hs).1, h1]
  simp only [beq_self_eq_true, ck_true]
  rw [if_neg (show ¬ nI n < 0 from nI_pos (by omega))]
  unfold hr
  by_cases c0 : v < 0
  · rw [if_pos c0]
    rw [i_lt, show (0 : Int32).toInt = 0 from rfl] at c0
    rw [decide_eq_false (by omega)]; rfl
  · rw [if_neg c0]
    rw [i_lt, show (0 : Int32).toInt = 0 from rfl] at c0
    by_cases c1 : nI z < v
    · rw [if_pos c1]
      rw [i_lt, i_nI (by omega)] at c1
      rw [decide_eq_false (by omega)]; rfl
    · rw [if_neg c1]
      rw [i_lt, i_nI (by omega)] at c1
      have e : (nI z - v).toInt = (z : Int) - v.toInt := by
        rw [Int32.toInt_sub, i_nI (by omega), Int.bmod_eq_of_le (by omega) (by omega)]
      by_cases c2 : nI z - v < nI n
      · rw [if_pos c2]
        rw [i_lt, e, i_nI (by omega)] at c2
        rw [decide_eq_false (by omega)]; rfl
      · rw [if_neg c2]
        rw [i_lt, e, i_nI (by omega)] at c2
        rw [decide_eq_true ⟨by omega, by omega⟩]; rfl
theorem dishFrC {v1 v2 v3 r : Int32} {M M1 : Mem} (h : f_X8_dish v1 v2 v3 M = some (r, M1)) : ∀ q, 8 ≤ q → M1 q = M q := by
  intro q hq
  unfold f_X8_dish f_X1_addDish at h
  repeat' split at h
  all_goals first
    | (have := Option.some.inj h; have := congrArg Prod.snd this; simp only at this; rw [← this])
    | (simp only [ck, Option.bind] at h
       split at h
       · cases h
       · rename_i o ho
         split at ho
         · have e := Option.some.inj ho
           have e2 := Option.some.inj h
           have e3 := congrArg Prod.snd e2
           rw [← e] at e3
           simp only at e3
           rw [← e3, mun (by omega), mun (by omega), mun (by omega), mun (by omega), mun (by omega)]
         · cases ho)
theorem dishFrM {v1 v2 v3 r : Int32} {M M1 : Mem} (h : f_X9_dish v1 v2 v3 M = some (r, M1)) : ∀ q, 108 ≤ q → M1 q = M q := by
  intro q hq
  unfold f_X9_dish at h
  rw [show (0 : Int64) = (0 : Int32).toInt64 from rfl, show (5 : Int64) = (5 : Int32).toInt64 from rfl, show (9 : Int64) = (9 : Int32).toInt64 from rfl, show (999999 : Int64) = (999999 : Int32).toInt64 from rfl] at h
  simp only [in_eq, Option.bind_some] at h
  repeat' split at h
  all_goals first
    | (have := Option.some.inj h; have := congrArg Prod.snd this; simp only at this; rw [← this])
    | (simp only [ck] at h
       repeat' split at h
       all_goals first
         | (have e := Option.some.inj h
            have e3 := congrArg Prod.snd e
            simp only at e3
            rw [← e3, mun (by omega), mun (by omega), mun (by omega), mun (by omega), mun (by omega)])
         | cases h)
theorem dishesLoop {s z n4 : Nat} (hs : s < 4) (hz : z ≤ 40) (hn4 : n4 ≤ 6) (v3 : Int32) : ∀ m i fuel c (M N : Mem), i + m = n4 → m < fuel → Inv M N → M (55 + 2 * s) 1 = nI z → N 116 s = nI z → (∀ j, j < z → M (55 + 2 * s + 1) j = N 117 (40 * s + j)) →
    ∃ (r : Int32) (M1 N1 : Mem), f_X8_dishes_l68 fuel v3 (nI n4) (55 + 2 * s) (nI c) (nI i) M = some (r, M1) ∧ f_X9_dishes_l75 fuel (nI s) v3 (nI n4) (nI c) (nI i) N = some (r, N1) ∧ Inv M1 N1 := by
  obtain ⟨k1, k2, k3⟩ := sh_kd s hs
  intro m
  induction m with
  | zero =>
    intro i fuel c M N hi hf hI h1 h2 h3
    obtain ⟨f, rfl⟩ : ∃ f, fuel = f + 1 := ⟨fuel - 1, by omega⟩
    rw [f_X8_dishes_l68, f_X9_dishes_l75, if_pos (nI_le (by omega) (by omega)), if_pos (nI_le (by omega) (by omega))]
    exact ⟨_, M, N, rfl, rfl, hI⟩
  | succ m ih =>
    intro i fuel c M N hi hf hI h1 h2 h3
    obtain ⟨f, rfl⟩ : ∃ f, fuel = f + 1 := ⟨fuel - 1, by omega⟩
    have e3 : (3 : Int32) * nI i = nI (3 * i) := by rw [show (3 : Int32) = nI 3 from rfl, pk_mul]
    have e33 : nI (3 * i) + 3 = nI (3 * i + 3) := by rw [show (3 : Int32) = nI 3 from rfl, nI_add]
    rw [f_X8_dishes_l68, f_X9_dishes_l75, if_neg (nI_ge (by omega) (by omega)), if_neg (nI_ge (by omega) (by omega)), e3, e33, hasRun_eq hs hz (by omega) h1, inb_nI hs (by omega), nI_clamp (show s < 2 ^ 31 by omega), h2, k1, k2, k3]
    rw [Option.bind_some, show ((5 : Nat) == 5) = true from rfl, show ((10 : Nat) == 10) = true from rfl]
    repeat rw [ck_true]
    cases hh : hr v3 (3 * i + 3) z with
    | false =>
      rw [if_pos (show zI false = 0 from rfl)]
      refine ⟨-12, M, N, rfl, ?_, hI⟩
      by_cases c0 : v3 < 0
      · rw [if_pos c0]
      · rw [if_neg c0, if_neg]
        unfold hr at hh
        have hh := of_decide_eq_false hh
        rw [i_lt, show (0 : Int32).toInt = 0 from rfl] at c0
        rw [i_le, Int32.toInt_sub, Int32.toInt_sub, i_nI (by omega), i_nI (by omega), show (3 : Int32).toInt = 3 from rfl, Int.bmod_eq_of_le (n := (z : Int) - ((3 * i : Nat) : Int)) (by omega) (by omega), Int.bmod_eq_of_le (by omega) (by omega)]
        omega
    | true =>
      rw [if_neg (show ¬ zI true = 0 by decide)]
      repeat rw [ck_true]
      unfold hr at hh
      have hh := of_decide_eq_true hh
      have hv : inR v3 41 = true := by unfold inR; exact decide_eq_true ⟨by omega, by omega⟩
      obtain ⟨a, ha, rfl⟩ := inR_of hv (by omega)
      rw [i_nI (by omega)] at hh
      have hle : nI a ≤ nI z - nI (3 * i) - 3 := by
        rw [show (3 : Int32) = nI 3 from rfl, pk_sub (by omega), pk_sub (by omega), nIle (by omega) (by omega)]; omega
      rw [if_neg (show ¬ nI a < 0 from nI_pos (by omega)), if_pos hle, nI_add, nIp, show nI (a + 3 * i) + 2 = nI (a + 3 * i + 2) by rw [show (2 : Int32) = nI 2 from rfl, nI_add], show (40 : Int32) * nI s + nI a + nI (3 * i) = nI (40 * s + (a + 3 * i)) by rw [show (40 : Int32) = nI 40 from rfl, pk_mul, nI_add, nI_add, Nat.add_assoc], show nI (40 * s + (a + 3 * i)) + 1 = nI (40 * s + (a + 3 * i + 1)) by rw [nIp, Nat.add_assoc], show nI (40 * s + (a + 3 * i)) + 2 = nI (40 * s + (a + 3 * i + 2)) by rw [show (2 : Int32) = nI 2 from rfl, nI_add, Nat.add_assoc]]
      rw [inb_nI (show a + 3 * i < 40 by omega) (by omega), inb_nI (show a + 3 * i + 1 < 40 by omega) (by omega), inb_nI (show a + 3 * i + 2 < 40 by omega) (by omega), inb_nI (show 40 * s + (a + 3 * i) < 160 by omega) (by omega), inb_nI (show 40 * s + (a + 3 * i + 1) < 160 by omega) (by omega), inb_nI (show 40 * s + (a + 3 * i + 2) < 160 by omega) (by omega)]
      rw [nI_clamp (show a + 3 * i < 2 ^ 31 by omega), nI_clamp (show a + 3 * i + 1 < 2 ^ 31 by omega), nI_clamp (show a + 3 * i + 2 < 2 ^ 31 by omega), nI_clamp (show 40 * s + (a + 3 * i) < 2 ^ 31 by omega), nI_clamp (show 40 * s + (a + 3 * i + 1) < 2 ^ 31 by omega), nI_clamp (show 40 * s + (a + 3 * i + 2) < 2 ^ 31 by omega), ← h3 (a + 3 * i) (by omega), ← h3 (a + 3 * i + 1) (by omega), ← h3 (a + 3 * i + 2) (by omega)]
      repeat rw [ck_true]
      obtain ⟨r, M1, N1, d1, d2, d3⟩ := dish_op hI (M (55 + 2 * s + 1) (a + 3 * i)) (M (55 + 2 * s + 1) (a + 3 * i + 1)) (M (55 + 2 * s + 1) (a + 3 * i + 2))
      have fc := dishFrC d1
      have fm := dishFrM d2
      rw [d1, d2, Option.bind_some, Option.bind_some]
      unfold f_X8_dishes_b139 f_X9_dishes_b158
      have g1 : M1 (55 + 2 * s) 1 = nI z := by rw [fc _ (by omega)]; exact h1
      have g2 : N1 116 s = nI z := by rw [fm _ (by omega)]; exact h2
      have g3 : ∀ j, j < z → M1 (55 + 2 * s + 1) j = N1 117 (40 * s + j) := fun j hj => by rw [fc _ (by omega), fm 117 (by omega)]; exact h3 j hj
      by_cases c0 : r < 0
      · rw [if_pos c0, if_pos c0, nIp, show nI c + 0 = nI c from nI_add c 0]
        exact ih (i + 1) f c M1 N1 (by omega) (by omega) d3 g1 g2 g3
      · rw [if_neg c0, if_neg c0, nIp, nIp]
        exact ih (i + 1) f (c + 1) M1 N1 (by omega) (by omega) d3 g1 g2 g3
theorem dishes_op {Mc Mm : Mem} (h : Inv Mc Mm) (v1 v2 v3 v4 : Int32) : OpI (f_X8_dishes v1 v2 v3 v4) (f_X9_dishes v1 v2 v3 v4) Mc Mm := by
  obtain ⟨many, txt, hN⟩ := id h
  have hN : InvN many txt Mc Mm := hN
  unfold OpI f_X8_dishes f_X9_dishes
  rw [hasS, isS, show (2 : Int64) = (2 : Int32).toInt64 from rfl, show (6 : Int64) = (6 : Int32).toInt64 from rfl]
  simp only [Option.bind_some, zI_0, inM (n := 3) (show (2 : Int32).toInt = ((3 : Nat) : Int) - 1 by decide), inM (n := 7) (show (6 : Int32).toInt = ((7 : Nat) : Int) - 1 by decide)]
  rw [inC2 (b := 2) (n := 3) (by decide), inC3 (b := 6) (n := 7) (by decide)]
  cases g1 : inR v1 4 with
  | false => rw [bf, bf]; exact ⟨_, _, _, rfl, rfl, h⟩
  | true =>
    rw [bt, bt]
    cases g2 : inR v2 3 with
    | false => rw [bf, ft]; exact ⟨_, _, _, rfl, rfl, h⟩
    | true =>
      rw [bt, tt]
      cases g3 : inR v4 7 with
      | false => rw [bf, ft]; exact ⟨_, _, _, rfl, rfl, h⟩
      | true =>
        rw [bt, tt]
        obtain ⟨s, hs, rfl⟩ := inR_of g1 (by omega)
        obtain ⟨k, hk, rfl⟩ := inR_of g2 (by omega)
        obtain ⟨n4, hn4, rfl⟩ := inR_of g3 (by omega)
        obtain ⟨k1, k2, k3⟩ := sh_kd s hs
        rw [inb_nI hs (by omega), nI_clamp (show s < 2 ^ 31 by omega), k1]
        simp only [ck_true, beq_self_eq_true]
        unfold f_X9_dishes_b57
        rw [inb_nI hs (by omega), nI_clamp (show s < 2 ^ 31 by omega)]
        simp only [ck_true]
        rcases hN.2.2.2.2 s hs with ⟨t1, t2⟩ | ⟨so, z, t1, t2, t3, t4, t5, t6, t7, t8⟩
        · rw [(miss_eq hs).1 t1, if_pos t2, if_pos t2]
          exact ⟨_, _, _, rfl, rfl, h⟩
        · have n114 : ¬ Mm 114 s = 0 := by rw [t7]; decide
          rw [(miss_eq hs).2 (by rw [t3]; exact nI_n1 (by omega)), if_neg n114, if_neg n114]
          simp only [Option.bind_some]
          rw [if_pos True.intro, t3, t4]
          by_cases c : so = k
          · subst c
            rw [if_pos rfl, if_pos rfl]
            obtain ⟨r, M1, N1, d1, d2, d3⟩ := dishesLoop hs t2 (show n4 ≤ 6 by omega) v3 n4 0 FU 0 Mc Mm (by omega) (by have := FU_ge; omega) h t5 t6 (fun j hj => by rw [← show 56 + 2 * s = 55 + 2 * s + 1 by omega]; exact t8 j hj)
            exact ⟨r, M1, N1, d1, d2, d3⟩
          · have ne : ¬ nI so = nI k := by rw [nIeq (by omega) (by omega)]; exact c
            rw [if_neg ne, if_neg ne]
            exact ⟨_, _, _, rfl, rfl, h⟩
