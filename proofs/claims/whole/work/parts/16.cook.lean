/-! COOKING, the class's -/
/-- all but Cooking's own cells is as it was -/
def Sm (M M1 : Mem) : Prop := ∀ p, p < 36 ∨ 42 < p → M1 p = M p
theorem Sm.refl (M : Mem) : Sm M M := fun _ _ => rfl
theorem Sm.trans {M M1 M2 : Mem} (h : Sm M M1) (h2 : Sm M1 M2) : Sm M M2 := fun p hp => (h2 p hp).trans (h p hp)
theorem judge_l1 {t : Tk} {k : Nat} {st : Nat → Int32} (hk : k < 2) (kx : Int32 → Mem → Option Mem) :
    ∀ (n p fuel : Nat) (M : Mem), p + n = 6 → n < fuel → Took M t → (∀ i, i < 6 → M 41 i = kCr t k st i) → M 36 14 = tollN t k st p →
    ∃ M1 : Mem, f_X0_judge_l41 kx fuel (nI k) (nI p) M = kx (nI k) M1 ∧ Took M1 t ∧ M1 36 14 = kToll t k st ∧ (∀ r, r ≠ 36 → r ≠ 39 → r ≠ 40 → M1 r = M r) ∧ (∀ j, j ≠ 14 → M1 36 j = M 36 j) := by
  intro n
  induction n with
  | zero =>
    intro p fuel M hp hf hT h41 ht
    obtain ⟨f, rfl⟩ : ∃ f, fuel = f + 1 := ⟨fuel - 1, by omega⟩
    have e6 : p = 6 := by omega
    subst e6
    refine ⟨M, ?_, hT, ht, fun _ _ _ _ => rfl, fun _ _ => rfl⟩
    rw [f_X0_judge_l41, if_pos (id (by decide) : (6 : Int32) ≤ nI 6)]
  | succ n ih =>
    intro p fuel M hp hf hT h41 ht
    obtain ⟨f, rfl⟩ : ∃ f, fuel = f + 1 := ⟨fuel - 1, by omega⟩
    have hn6 : ¬ (6 : Int32) ≤ nI p := by rw [show (6 : Int32) = nI 6 from rfl, nIle (by omega) (by omega)]; omega
    rw [f_X0_judge_l41, if_neg hn6, inb_nI (show p < 6 by omega) (by omega)]
    simp only [ck_true]
    rw [nI_clamp (show p < 2 ^ 31 by omega), h41 p (by omega)]
    by_cases hc : kCr t k st p ≤ 0
    · rw [if_pos hc]
      unfold f_X0_judge_b91
      rw [nIp]
      obtain ⟨M1, g1, g2, g3, g4, g5⟩ := ih (p + 1) f M (by omega) (by omega) hT h41 (by rw [ht]; show _ = if _ then _ else _; rw [if_pos hc])
      exact ⟨M1, g1, g2, g3, g4, g5⟩
    · rw [if_neg hc]
      obtain ⟨M2, a1, a2⟩ := ask1_eq hT hk (nI p) (kCr t k st p)
      rw [a1]
      simp only [Option.bind_some, bounded_eq, toll_eq]
      unfold f_X0_judge_b91
      rw [nIp]
      have hT2 : Took M2 t := hT.keep (fun j _ => by rw [a2 36 (by omega) (by omega)]) (fun r h1 h2 => a2 r (by omega) (by omega))
      have hk2 : M 36 2 = tK t := hT.1
      have hn2 : M2 36 3 = tN t := hT2.2.1
      obtain ⟨M1, g1, g2, g3, g4, g5⟩ := ih (p + 1) f (mu M2 36 14 (M 36 14 + tollK (M 36 2) (bd (kAsk t 1 (nI p) (kCr t k st p) k)) (nI p) (kCr t k st p) (M2 36 3))) (by omega) (by omega)
        (hT2.keep (fun j hj => by
          by_cases e : j = 14
          · omega
          · rw [mus, upn e]) (fun r h1 h2 => mun (by omega)))
        (fun i hi => by rw [mun (by omega), a2 41 (by omega) (by omega)]; exact h41 i hi)
        (by rw [mus, ups, ht, hk2, hn2]; show _ = if _ then _ else _; rw [if_neg hc]; rfl)
      refine ⟨M1, g1, g2, g3, fun r h1 h2 h3 => by rw [g4 r h1 h2 h3, mun h1, a2 r h2 h3], fun j hj => by rw [g5 j hj, mus, upn hj, a2 36 (by omega) (by omega)]⟩
theorem judge_l2 {t : Tk} {k : Nat} {st : Nat → Int32} (hk : k < 2) :
    ∀ (n i fuel : Nat) (M : Mem), i + n = 2 → n < fuel → Took M t → M 36 14 = kToll t k st → (∀ j, j < i → M 42 j = zI (kSg t k j (kToll t k st))) →
    ∃ M1 : Mem, f_X0_judge_l99 fuel (nI k) (nI i) M = some M1 ∧ Took M1 t ∧ (∀ j, j < 2 → M1 42 j = zI (kSg t k j (kToll t k st))) ∧ (∀ r, r ≠ 39 → r ≠ 40 → r ≠ 42 → M1 r = M r) := by
  intro n
  induction n with
  | zero =>
    intro i fuel M hi hf hT ht h42
    obtain ⟨f, rfl⟩ : ∃ f, fuel = f + 1 := ⟨fuel - 1, by omega⟩
    have e2 : i = 2 := by omega
    subst e2
    refine ⟨M, ?_, hT, h42, fun _ _ _ _ => rfl⟩
    rw [f_X0_judge_l99, if_pos (id (by decide) : (2 : Int32) ≤ nI 2)]
  | succ n ih =>
    intro i fuel M hi hf hT ht h42
    obtain ⟨f, rfl⟩ : ∃ f, fuel = f + 1 := ⟨fuel - 1, by omega⟩
    have hn2 : ¬ (2 : Int32) ≤ nI i := by rw [show (2 : Int32) = nI 2 from rfl, nIle (by omega) (by omega)]; omega
    rw [f_X0_judge_l99, if_neg hn2]
    obtain ⟨M2, a1, a2⟩ := ask2_eq hT (k := i) (by omega) 0 (M 36 14)
    rw [a1]
    simp only [Option.bind_some]
    have hT2 : Took M2 t := hT.keep (fun j _ => by rw [a2 36 (by omega) (by omega)]) (fun r h1 h2 => a2 r (by omega) (by omega))
    have hkk : M 36 2 = tK t := hT.1
    have hP : M2 37 i = tP t i := hT2.2.2.2.1 i (by omega)
    have ht2 : M2 36 14 = kToll t k st := by rw [a2 36 (by omega) (by omega)]; exact ht
    have fin : ∀ yes : Bool, (yes = !decide (kAsk t 2 0 (kToll t k st) i = 0)) → ∃ M1 : Mem, f_X0_judge_b132 (f_X0_judge_l99 f) (nI k) (nI i) (nI i) (M 36 2) (zI yes) M2 = some M1 ∧ Took M1 t ∧ (∀ j, j < 2 → M1 42 j = zI (kSg t k j (kToll t k st))) ∧ (∀ r, r ≠ 39 → r ≠ 40 → r ≠ 42 → M1 r = M r) := by
      intro yes hy
      have b1 : f_X0_judge_b132 (f_X0_judge_l99 f) (nI k) (nI i) (nI i) (M 36 2) (zI yes) M2 = f_X0_judge_b142 (f_X0_judge_l99 f) (nI k) (nI i) (nI i) (M 36 2) (zI yes) (zI (decide (i = k))) M2 := by
        unfold f_X0_judge_b132
        by_cases e : i = k
        · subst e; rw [if_pos rfl, decide_eq_true rfl]; rfl
        · rw [if_neg (by rw [nIeq (by omega) (by omega)]; exact e), decide_eq_false e]; rfl
      have b2 : f_X0_judge_b142 (f_X0_judge_l99 f) (nI k) (nI i) (nI i) (M 36 2) (zI yes) (zI (decide (i = k))) M2 = f_X0_judge_b160 (f_X0_judge_l99 f) (nI k) (nI i) (nI i) (M 36 2) (zI yes) (zI (decide (i = k))) (zI (!decide (tP t i ≤ kToll t k st))) M2 := by
        unfold f_X0_judge_b142
        rw [inb_nI (show i < 2 by omega) (by omega)]
        simp only [ck_true]
        rw [nI_clamp (by omega), hP, ht2]
        by_cases e : tP t i ≤ kToll t k st
        · rw [if_pos e, decide_eq_true e]; rfl
        · rw [if_neg e, decide_eq_false e]; rfl
      rw [b1, b2]
      unfold f_X0_judge_b160
      rw [signs_eq]
      simp only [Option.bind_some]
      rw [inb_nI (show i < 2 by omega) (by omega), zI_zb]
      simp only [ck_true]
      rw [nI_clamp (by omega), nIp]
      obtain ⟨M1, g1, g2, g3, g4⟩ := ih (i + 1) f (mu M2 42 i (zI (sgK (M 36 2) yes (decide (i = k)) (!decide (tP t i ≤ kToll t k st))))) (by omega) (by omega) (hT2.keep (fun j _ => by rw [mun (by omega)]) (fun r h1 h2 => mun (by omega))) (by rw [mun (by omega)]; exact ht2) (fun j hj => by
        rw [mus]
        by_cases e : j = i
        · subst e; rw [ups, hkk, hy]; rfl
        · rw [upn e, a2 42 (by omega) (by omega)]; exact h42 j (by omega))
      exact ⟨M1, g1, g2, g3, fun r h1 h2 h3 => by rw [g4 r h1 h2 h3, mun h3, a2 r h1 h2]⟩
    rw [ht] at a1 ⊢
    by_cases hy : kAsk t 2 0 (kToll t k st) i = 0
    · rw [if_pos hy]
      exact fin false (by rw [decide_eq_true hy]; rfl)
    · rw [if_neg hy]
      exact fin true (by rw [decide_eq_false hy]; rfl)
theorem judge_eq {M : Mem} {t : Tk} {k : Nat} {st : Nat → Int32} (hk : k < 2) (hT : Took M t) (h41 : ∀ i, i < 6 → M 41 i = kCr t k st i) :
    ∃ M1 : Mem, f_X0_judge (nI k) M = some M1 ∧ Took M1 t ∧ M1 36 15 = kFed t k ∧ M1 36 14 = kToll t k st ∧ (∀ j, j < 2 → M1 42 j = zI (kSg t k j (kToll t k st))) ∧ (∀ r, r ≠ 36 → r ≠ 39 → r ≠ 40 → r ≠ 42 → M1 r = M r) ∧ (∀ j, j ≠ 14 → j ≠ 15 → M1 36 j = M 36 j) := by
  unfold f_X0_judge
  obtain ⟨M2, a1, a2⟩ := ask0_eq hT hk 0 (M 36 7)
  rw [a1]
  have hT2 : Took M2 t := hT.keep (fun j _ => by rw [a2 36 (by omega) (by omega)]) (fun r h1 h2 => a2 r (by omega) (by omega))
  have e7 : M 36 7 = tT t := hT.2.2.2.2.2.1
  simp only [Option.bind_some, bounded_eq]
  rw [fed_eq _ _ hk]
  simp only [Option.bind_some]
  rw [e7, hT.1, hT2.2.2.1, hT2.2.1]
  generalize hM3 : mu (mu M2 36 15 (fedK (tK t) (bd (kAsk t 0 0 (tT t) k)) k (tH t) (tN t))) 36 14 0 = M3
  have o : ∀ r, r ≠ 36 → r ≠ 39 → r ≠ 40 → M3 r = M r := fun r h1 h2 h3 => by rw [← hM3, mun h1, mun h1, a2 r h2 h3]
  have o36 : ∀ j, j ≠ 14 → j ≠ 15 → M3 36 j = M 36 j := fun j h1 h2 => by rw [← hM3, mus, upn h1, mus, upn h2, a2 36 (by omega) (by omega)]
  have hT3 : Took M3 t := hT.keep (fun j hj => o36 j (by omega) (by omega)) (fun r h1 h2 => o r (by omega) (by omega) (by omega))
  obtain ⟨M4, b1, b2, b3, b4, b5⟩ := judge_l1 (t := t) (st := st) hk f_X0_judge_b97 6 0 FU M3 (by omega) (by have := FU_ge; omega) hT3 (fun i hi => by rw [o 41 (by omega) (by omega) (by omega)]; exact h41 i hi) (by rw [← hM3, mus, ups]; rfl)
  rw [show (0 : Int32) = nI 0 from rfl, b1]
  unfold f_X0_judge_b97
  obtain ⟨M5, c1, c2, c3, c4⟩ := judge_l2 (t := t) (st := st) hk 2 0 FU M4 (by omega) (by have := FU_ge; omega) b2 b3 (fun j hj => absurd hj (Nat.not_lt_zero j))
  rw [show (0 : Int32) = nI 0 from rfl, c1]
  refine ⟨M5, rfl, c2, ?_, ?_, c3, fun r h1 h2 h3 h4 => by rw [c4 r h2 h3 h4, b4 r h1 h2 h3, o r h1 h2 h3], fun j h1 h2 => by rw [c4 36 (by omega) (by omega) (by omega), b5 j h1, o36 j h1 h2]⟩
  · rw [c4 36 (by omega) (by omega) (by omega), b5 15 (by omega), ← hM3, mus, upn (by omega), mus, ups]
    rfl
  · rw [c4 36 (by omega) (by omega) (by omega), b3]
/-- the places that hold stores -/
def isSt (q : Nat) : Prop := q = 2 ∨ q = 9 ∨ q = 44 ∨ (47 ≤ q ∧ q < 54)
theorem st_kd {q : Nat} (h : isSt q) : kd q = 10 ∧ ln q = 12 ∧ q ≠ 36 ∧ q ≠ 41 ∧ (q < 16 ∨ 42 < q) := by
  have hd : ∀ q, q < 54 → (q = 2 ∨ q = 9 ∨ q = 44 ∨ (47 ≤ q ∧ q < 54)) → kd q = 10 ∧ ln q = 12 := by decide +kernel
  unfold isSt at h
  obtain ⟨a, b⟩ := hd q (by omega) h
  exact ⟨a, b, by omega, by omega, by omega⟩
theorem isCooked_eq {M : Mem} {t : Tk} {k q : Nat} (hk : k < 2) (hT : Took M t) (hq : isSt q) :
    ∃ M1 : Mem, f_X0_isCooked (nI k) q M = some (zI (kCk t k (M q)), M1) ∧ Took M1 t ∧ Sm M M1 ∧ M1 36 12 = zI (kCan t k (M q)) ∧ (kCan t k (M q) = true → M1 36 15 = kFed t k ∧ M1 36 14 = kToll t k (M q)) ∧ (∀ i, i < 6 → M1 41 i = kCr t k (M q) i) := by
  obtain ⟨k1, k2, k3, k4, k5⟩ := st_kd hq
  unfold f_X0_isCooked
  obtain ⟨M2, a1, a2, a3, a4, a5, a6⟩ := cross_eq (M := M) (t := t) (q2 := q) hT.2.2.2.2.1 hk k1 k2 ⟨k3, k4⟩
  have hT2 : Took M2 t := hT.keep (fun j hj => by
    by_cases e : j = 12
    · omega
    · exact a6 j e (by omega)) (fun r h1 h2 => a5 r (by omega) (by omega))
  have s2 : Sm M M2 := fun r hr => a5 r (by omega) (by omega)
  rw [a1]
  simp only [Option.bind_some]
  rw [a3]
  cases hc : kCan t k (M q) with
  | false =>
    refine ⟨M2, ?_, hT2, s2, (by rw [a3, hc]), (fun h => by cases h), a2⟩
    rw [if_pos (id rfl : zI false = 0)]
    unfold kCk
    rw [hc]
    rfl
  | true =>
    rw [if_neg (by decide)]
    obtain ⟨M3, b1, b2, b3, b4, b5, b6, b7⟩ := judge_eq (st := M q) hk hT2 a2
    rw [b1]
    simp only [Option.bind_some]
    rw [b5 0 (by omega), b5 1 (by omega)]
    refine ⟨M3, ?_, b2, s2.trans (fun r hr => b6 r (by omega) (by omega) (by omega) (by omega)), ?_, fun _ => ⟨b3, b4⟩, fun i hi => by rw [b6 41 (by omega) (by omega) (by omega) (by omega)]; exact a2 i hi⟩
    · unfold kCk
      rw [hc]
      cases kSg t k 0 (kToll t k (M q)) <;> cases kSg t k 1 (kToll t k (M q)) <;> rfl
    · rw [b7 12 (by omega) (by omega), a3, hc]
theorem worth_eq (M : Mem) : f_X0_worth M = some (M 36 15 - M 36 14, M) := rfl
/-- the stores, one part after the other -/
def useN (t : Tk) (k : Nat) (st : Nat → Int32) (p : Nat) : Nat → Int32 := fun j => if j % 6 < p then kUse t k st j else st j
theorem useUp_l {t : Tk} {k q : Nat} {st : Nat → Int32} (hk : k < 2) (hq : isSt q) :
    ∀ (n p fuel : Nat) (M : Mem), p + n = 6 → n < fuel → (∀ i, i < 6 → M 38 i = tD t i) → (∀ i, i < 6 → M 41 i = kCr t k st i) → (∀ j, j < 12 → M q j = useN t k st p j) →
    ∃ M1 : Mem, f_X0_useUp_l16 fuel q (nI (6 * k)) (nI (6 * (1 - k))) (nI p) M = some M1 ∧ (∀ j, j < 12 → M1 q j = kUse t k st j) ∧ ∀ r, r ≠ q → M1 r = M r := by
  obtain ⟨k1, k2, k3, k4, k5⟩ := st_kd hq
  intro n
  induction n with
  | zero =>
    intro p fuel M hp hf hD hC hS
    obtain ⟨f, rfl⟩ : ∃ f, fuel = f + 1 := ⟨fuel - 1, by omega⟩
    have e6 : p = 6 := by omega
    subst e6
    refine ⟨M, ?_, fun j hj => ?_, fun _ _ => rfl⟩
    · rw [f_X0_useUp_l16, if_pos (id (by decide) : (6 : Int32) ≤ nI 6)]
    · rw [hS j hj]
      unfold useN
      rw [if_pos (by omega)]
  | succ n ih =>
    intro p fuel M hp hf hD hC hS
    obtain ⟨f, rfl⟩ : ∃ f, fuel = f + 1 := ⟨fuel - 1, by omega⟩
    have hn6 : ¬ (6 : Int32) ≤ nI p := by rw [show (6 : Int32) = nI 6 from rfl, nIle (by omega) (by omega)]; omega
    rw [f_X0_useUp_l16, if_neg hn6, inb_nI (show p < 6 by omega) (by omega), show (kd q == 10) = true by rw [k1]; rfl, nI_add, nI_add, k2, inb_nI (show 6 * k + p < 12 by omega) (by omega), inb_nI (show 6 * (1 - k) + p < 12 by omega) (by omega)]
    simp only [ck_true]
    rw [nI_clamp (show p < 2 ^ 31 by omega), nI_clamp (show 6 * k + p < 2 ^ 31 by omega), nI_clamp (show 6 * (1 - k) + p < 2 ^ 31 by omega), mun (show 41 ≠ q by omega), hD p (by omega), hC p (by omega), nIp]
    have hne : 6 * (1 - k) + p ≠ 6 * k + p := by omega
    rw [show mu M q (6 * k + p) (M q (6 * k + p) - (tD t p - kCr t k st p)) q (6 * (1 - k) + p) = M q (6 * (1 - k) + p) by rw [mus, upn hne]]
    have h1 : M q (6 * k + p) = st (6 * k + p) := by rw [hS _ (by omega)]; unfold useN; rw [if_neg (by omega)]
    have h2 : M q (6 * (1 - k) + p) = st (6 * (1 - k) + p) := by rw [hS _ (by omega)]; unfold useN; rw [if_neg (by omega)]
    rw [h1, h2]
    obtain ⟨M1, g1, g2, g3⟩ := ih (p + 1) f (mu (mu M q (6 * k + p) (st (6 * k + p) - (tD t p - kCr t k st p))) q (6 * (1 - k) + p) (st (6 * (1 - k) + p) - kCr t k st p)) (by omega) (by omega) (fun i hi => by rw [mun (by omega), mun (by omega)]; exact hD i hi) (fun i hi => by rw [mun (by omega), mun (by omega)]; exact hC i hi) (fun j hj => by
      rw [mus, mus]
      by_cases e1 : j = 6 * (1 - k) + p
      · subst e1
        rw [ups]
        unfold useN kUse
        rw [if_pos (by omega), if_neg (by omega), show (6 * (1 - k) + p) % 6 = p by omega]
      · rw [upn e1]
        by_cases e2 : j = 6 * k + p
        · subst e2
          rw [ups]
          unfold useN kUse
          rw [if_pos (by omega), if_pos (by omega), show (6 * k + p) % 6 = p by omega]
        · rw [upn e2, hS j hj]
          unfold useN
          have : j % 6 ≠ p := by omega
          by_cases e3 : j % 6 < p
          · rw [if_pos e3, if_pos (by omega)]
          · rw [if_neg e3, if_neg (by omega)])
    exact ⟨M1, g1, g2, fun r hr => by rw [g3 r hr, mun hr, mun hr]⟩
theorem useUp_eq {M : Mem} {t : Tk} {k q : Nat} (hk : k < 2) (hq : isSt q) (hD : ∀ i, i < 6 → M 38 i = tD t i) (hC : ∀ i, i < 6 → M 41 i = kCr t k (M q) i) :
    ∃ M1 : Mem, f_X0_useUp (nI k) q M = some M1 ∧ (∀ j, j < 12 → M1 q j = kUse t k (M q) j) ∧ ∀ r, r ≠ q → M1 r = M r := by
  unfold f_X0_useUp
  rw [show (6 : Int32) = nI 6 from rfl, pk_mul, show (1 : Int32) = nI 1 from rfl, pk_sub (by omega), pk_mul, Nat.mul_comm k 6, Nat.mul_comm (1 - k) 6]
  exact useUp_l (st := M q) hk hq 6 0 FU M (by omega) (by have := FU_ge; omega) hD hC (fun j _ => by unfold useN; rw [if_neg (by omega)])
/-- a part of six digits -/
def ndg (x : Int32) (p : Nat) : Int32 := jrem (x / stv 2000 p) 10
def totN (x : Int32) : Nat → Int32
  | 0 => 0
  | p + 1 => totN x p + ndg x p
theorem pw_nz : ∀ p, p < 6 → (!(stv 2000 p == 0)) = true := by decide
theorem needsOf_eq {d p : Nat} (hd : d < 6) (hp : p < 6) (M : Mem) : f_X1_needsOf (nI d) (nI p) M = some (ndg (M 6 d) p, M) := by
  unfold f_X1_needsOf
  rw [inb_nI hd (by omega), inb_nI hp (by omega), nI_clamp (by omega), nI_clamp (by omega), pw_nz p hp]
  rfl
theorem needsTogether_l {d : Nat} (hd : d < 6) (M : Mem) : ∀ (n p fuel : Nat), p + n = 6 → n < fuel → f_X1_needsTogether_l4 fuel (nI d) (totN (M 6 d) p) (nI p) M = some (totN (M 6 d) 6, M) := by
  intro n
  induction n with
  | zero =>
    intro p fuel hp hf
    obtain ⟨f, rfl⟩ : ∃ f, fuel = f + 1 := ⟨fuel - 1, by omega⟩
    have e6 : p = 6 := by omega
    subst e6
    rw [f_X1_needsTogether_l4, if_pos (id (by decide) : (6 : Int32) ≤ nI 6)]
  | succ n ih =>
    intro p fuel hp hf
    obtain ⟨f, rfl⟩ : ∃ f, fuel = f + 1 := ⟨fuel - 1, by omega⟩
    have hn6 : ¬ (6 : Int32) ≤ nI p := by rw [show (6 : Int32) = nI 6 from rfl, nIle (by omega) (by omega)]; omega
    rw [f_X1_needsTogether_l4, if_neg hn6, needsOf_eq hd (by omega)]
    simp only [Option.bind_some]
    rw [nIp]
    exact ih (p + 1) f (by omega) (by omega)
theorem needsTogether_eq {d : Nat} (hd : d < 6) (M : Mem) : f_X1_needsTogether (nI d) M = some (totN (M 6 d) 6, M) :=
  needsTogether_l hd M 6 0 FU (by omega) (by have := FU_ge; omega)
/-- what is taken up of a DISH -/
def tkC (M : Mem) (d : Nat) (ev : Nat → (Nat → Int32) → Int32) : Tk := (M 4 d, M 5 d, M 1 7, M 3, ndg (M 6 d), totN (M 6 d) 6, ev)
/-- TEXT r, as the class holds it -/
def evC (M : Mem) (r : Nat) : Nat → (Nat → Int32) → Int32 := fun s env => evT (M (16 + 3 * r + 1)) (M (16 + 3 * r + 2)) env s
theorem ruleBy_eq {r : Nat} (hr : r < 6) (M : Mem) : f_X0_ruleBy (nI r) M = some (mu M 36 1 (nI (16 + 3 * r))) := by
  unfold f_X0_ruleBy
  rw [if_neg (nI_pos (by omega)), if_neg (by rw [show (6 : Int32) = nI 6 from rfl, nIle (by omega) (by omega)]; omega), inb_nI hr (by omega), nI_clamp (by omega), decide_eq_true (show 16 + 3 * r < 63 by omega)]
  rfl
theorem takeUp_l1 (kx : Int32 → Mem → Option Mem) (v : Int32) : ∀ (n i fuel : Nat) (M : Mem), i + n = 2 → n < fuel → (∀ j, j < i → M 37 j = M 3 j) →
    ∃ M1 : Mem, f_X0_takeUp_l30 kx fuel v (nI i) M = kx v M1 ∧ (∀ j, j < 2 → M1 37 j = M 3 j) ∧ ∀ r, r ≠ 37 → M1 r = M r := by
  intro n
  induction n with
  | zero =>
    intro i fuel M hi hf h
    obtain ⟨f, rfl⟩ : ∃ f, fuel = f + 1 := ⟨fuel - 1, by omega⟩
    have e2 : i = 2 := by omega
    subst e2
    exact ⟨M, by rw [f_X0_takeUp_l30, if_pos (id (by decide) : (2 : Int32) ≤ nI 2)], h, fun _ _ => rfl⟩
  | succ n ih =>
    intro i fuel M hi hf h
    obtain ⟨f, rfl⟩ : ∃ f, fuel = f + 1 := ⟨fuel - 1, by omega⟩
    have hn : ¬ (2 : Int32) ≤ nI i := by rw [show (2 : Int32) = nI 2 from rfl, nIle (by omega) (by omega)]; omega
    rw [f_X0_takeUp_l30, if_neg hn, inb_nI (show i < 2 by omega) (by omega), nI_clamp (by omega), nIp]
    simp only [ck_true]
    obtain ⟨M1, g1, g2, g3⟩ := ih (i + 1) f (mu M 37 i (M 3 i)) (by omega) (by omega) (fun j hj => by
      rw [mus, mun (by omega)]
      by_cases e : j = i
      · subst e; rw [ups]
      · rw [upn e]; exact h j (by omega))
    exact ⟨M1, g1, fun j hj => by rw [g2 j hj, mun (by omega)], fun r hr => by rw [g3 r hr, mun hr]⟩
theorem takeUp_l2 (kx : Int32 → Mem → Option Mem) {d : Nat} (hd : d < 6) : ∀ (n p fuel : Nat) (M : Mem), p + n = 6 → n < fuel → (∀ j, j < p → M 38 j = ndg (M 6 d) j) →
    ∃ M1 : Mem, f_X0_takeUp_l55 kx fuel (nI d) (nI p) M = kx (nI d) M1 ∧ (∀ j, j < 6 → M1 38 j = ndg (M 6 d) j) ∧ ∀ r, r ≠ 38 → M1 r = M r := by
  intro n
  induction n with
  | zero =>
    intro p fuel M hi hf h
    obtain ⟨f, rfl⟩ : ∃ f, fuel = f + 1 := ⟨fuel - 1, by omega⟩
    have e2 : p = 6 := by omega
    subst e2
    exact ⟨M, by rw [f_X0_takeUp_l55, if_pos (id (by decide) : (6 : Int32) ≤ nI 6)], h, fun _ _ => rfl⟩
  | succ n ih =>
    intro p fuel M hi hf h
    obtain ⟨f, rfl⟩ : ∃ f, fuel = f + 1 := ⟨fuel - 1, by omega⟩
    have hn : ¬ (6 : Int32) ≤ nI p := by rw [show (6 : Int32) = nI 6 from rfl, nIle (by omega) (by omega)]; omega
    rw [f_X0_takeUp_l55, if_neg hn, needsOf_eq hd (by omega)]
    simp only [Option.bind_some]
    rw [inb_nI (show p < 6 by omega) (by omega), nI_clamp (by omega), nIp]
    simp only [ck_true]
    obtain ⟨M1, g1, g2, g3⟩ := ih (p + 1) f (mu M 38 p (ndg (M 6 d) p)) (by omega) (by omega) (fun j hj => by
      rw [mus, mun (by omega)]
      by_cases e : j = p
      · subst e; rw [ups]
      · rw [upn e]; exact h j (by omega))
    exact ⟨M1, g1, fun j hj => by rw [g2 j hj, mun (by omega)], fun r hr => by rw [g3 r hr, mun hr]⟩
theorem takeUp_eq {M : Mem} {d r : Nat} (hd : d < 6) (hr : r < 6) (hrule : M 1 8 = nI r) (hw : WfT (M (16 + 3 * r + 2))) :
    ∃ M1 : Mem, f_X0_takeUp (nI d) M = some M1 ∧ Took M1 (tkC M d (evC M r)) ∧ Sm M M1 := by
  unfold f_X0_takeUp
  rw [inb_nI hd (by omega), nI_clamp (by omega)]
  simp only [ck_true]
  generalize hM2 : mu (mu (mu M 36 2 (M 4 d)) 36 3 (M 5 d)) 36 4 (M 1 7) = M2
  have o2 : ∀ r, r ≠ 36 → M2 r = M r := fun r h => by rw [← hM2, mun h, mun h, mun h]
  obtain ⟨M3, a1, a2, a3⟩ := takeUp_l1 f_X0_takeUp_b53 (nI d) 2 0 FU M2 (by omega) (by have := FU_ge; omega) (fun j hj => absurd hj (Nat.not_lt_zero j))
  rw [show (0 : Int32) = nI 0 from rfl, a1]
  unfold f_X0_takeUp_b53
  obtain ⟨M4, b1, b2, b3⟩ := takeUp_l2 f_X0_takeUp_b79 hd 6 0 FU M3 (by omega) (by have := FU_ge; omega) (fun j hj => absurd hj (Nat.not_lt_zero j))
  rw [show (0 : Int32) = nI 0 from rfl, b1]
  unfold f_X0_takeUp_b79
  have o4 : ∀ r, r ≠ 36 → r ≠ 37 → r ≠ 38 → M4 r = M r := fun r h1 h2 h3 => by rw [b3 r h3, a3 r h2, o2 r h1]
  rw [needsTogether_eq hd]
  simp only [Option.bind_some]
  rw [o4 1 (by omega) (by omega) (by omega), hrule, ruleBy_eq hr]
  simp only [Option.bind_some]
  have e36 : ∀ j, mu (mu M4 36 7 (totN (M4 6 d) 6)) 36 1 (nI (16 + 3 * r)) 36 j = if j = 1 then nI (16 + 3 * r) else if j = 7 then totN (M 6 d) 6 else if j = 4 then M 1 7 else if j = 3 then M 5 d else if j = 2 then M 4 d else M 36 j := by
    intro j
    rw [mus]
    by_cases e1 : j = 1
    · subst e1; rw [ups, if_pos rfl]
    · rw [upn e1, if_neg e1, mus]
      by_cases e7 : j = 7
      · subst e7; rw [ups, if_pos rfl, o4 6 (by omega) (by omega) (by omega)]
      · rw [upn e7, if_neg e7, b3 36 (by omega), a3 36 (by omega), ← hM2, mus]
        by_cases e4 : j = 4
        · subst e4; rw [ups, if_pos rfl]
        · rw [upn e4, if_neg e4, mus]
          by_cases e3 : j = 3
          · subst e3; rw [ups, if_pos rfl]
          · rw [upn e3, if_neg e3, mus]
            by_cases e2 : j = 2
            · subst e2; rw [ups, if_pos rfl]
            · rw [upn e2, if_neg e2]
  have oo : ∀ r1, r1 ≠ 36 → mu (mu M4 36 7 (totN (M4 6 d) 6)) 36 1 (nI (16 + 3 * r)) r1 = M4 r1 := fun r1 h => by rw [mun h, mun h]
  refine ⟨_, rfl, ⟨?_, ?_, ?_, fun i hi => ?_, fun i hi => ?_, ?_, 16 + 3 * r, ⟨r, hr, rfl⟩, ?_, ?_, ?_⟩, fun r1 h1 => ?_⟩
  · rw [e36]; rfl
  · rw [e36]; rfl
  · rw [e36]; rfl
  · rw [oo 37 (by omega), b3 37 (by omega), a2 i hi, o2 3 (by omega)]; rfl
  · rw [oo 38 (by omega), b2 i hi, a3 6 (by omega), o2 6 (by omega)]; rfl
  · rw [e36]; rfl
  · rw [e36]; rfl
  · rw [oo _ (by omega), o4 _ (by omega) (by omega) (by omega)]; exact hw
  · rw [oo _ (show 16 + 3 * r + 1 ≠ 36 by omega), oo _ (show 16 + 3 * r + 2 ≠ 36 by omega), o4 (16 + 3 * r + 1) (by omega) (by omega) (by omega), o4 (16 + 3 * r + 2) (by omega) (by omega) (by omega)]
    rfl
  · rw [oo r1 (by omega), o4 r1 (by omega) (by omega) (by omega)]
