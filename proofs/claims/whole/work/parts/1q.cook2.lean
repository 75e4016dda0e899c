/-! ASKS AND COOK, both -/
section
variable {t : Tk} {k : Nat} {s1 s2 : Nat → Int32}
theorem kCr_cg (hk : k < 2) (h : ∀ j, j < 12 → s1 j = s2 j) {p : Nat} (hp : p < 6) : kCr t k s1 p = kCr t k s2 p := kCr_congr (h _ (by omega))
theorem tollN_cg (hk : k < 2) (h : ∀ j, j < 12 → s1 j = s2 j) : ∀ p, p ≤ 6 → tollN t k s1 p = tollN t k s2 p := by
  intro p
  induction p with
  | zero => intro _; rfl
  | succ p ih => intro hp; unfold tollN; rw [kCr_cg hk h (by omega), ih (by omega)]
theorem kToll_cg (hk : k < 2) (h : ∀ j, j < 12 → s1 j = s2 j) : kToll t k s1 = kToll t k s2 := tollN_cg hk h 6 (by omega)
theorem canN_cg (hk : k < 2) (h : ∀ j, j < 12 → s1 j = s2 j) : ∀ p, p ≤ 6 → canN t k s1 p = canN t k s2 p := by
  intro p
  induction p with
  | zero => intro _; rfl
  | succ p ih => intro hp; unfold canN; rw [kCr_cg hk h (by omega), ih (by omega), h _ (by omega)]
theorem kCan_cg (hk : k < 2) (h : ∀ j, j < 12 → s1 j = s2 j) : kCan t k s1 = kCan t k s2 := canN_cg hk h 6 (by omega)
theorem crN_cg (hk : k < 2) (h : ∀ j, j < 12 → s1 j = s2 j) : ∀ p, p ≤ 6 → crN t k s1 p = crN t k s2 p := by
  intro p
  induction p with
  | zero => intro _; rfl
  | succ p ih => intro hp; unfold crN; rw [kCr_cg hk h (by omega), ih (by omega)]
theorem kCk_cg (hk : k < 2) (h : ∀ j, j < 12 → s1 j = s2 j) : kCk t k s1 = kCk t k s2 := by unfold kCk; rw [kCan_cg hk h, kToll_cg hk h]
theorem kUse_cg (hk : k < 2) (h : ∀ j, j < 12 → s1 j = s2 j) : ∀ j, j < 12 → kUse t k s1 j = kUse t k s2 j := by
  intro j hj
  unfold kUse
  rw [kCr_cg hk h (by omega), h j hj]
end
theorem jmaxS {a b : Nat} (ha : a ≤ 99) (hb : b ≤ 99) : jmax 0 (nI b - nI a) = nI (b - a) := by
  by_cases c : a ≤ b
  · rw [pk_sub c]
    unfold jmax
    by_cases z : b - a = 0
    · rw [z]; rfl
    · rw [if_pos (show (0 : Int32) < nI (b - a) by rw [show (0 : Int32) = nI 0 from rfl, nIlt (by omega) (by omega)]; omega)]
  · unfold jmax
    have : (nI b - nI a).toInt = (b : Int) - a := by
      rw [Int32.toInt_sub, i_nI (by omega), i_nI (by omega), Int.bmod_eq_of_le (by omega) (by omega)]
    rw [if_neg (by rw [i_lt, this, show (0 : Int32).toInt = 0 from rfl]; omega), show b - a = 0 by omega]
    rfl
/-- what both make of a DISH -/
theorem tkBoth {Mc Mm : Mem} {many txt d : Nat} (a : HouseI Mc Mm many txt) (c : TextI Mc Mm txt) (hd : d < many) :
    ∃ t : Tk, TkM Mm d t ∧ (∀ Mc2 : Mem, KC Mc Mc2 → ∃ M1 : Mem, f_X0_takeUp (nI d) Mc2 = some M1 ∧ Took M1 t ∧ Sm Mc2 M1) ∧ ∃ b : Nat → Nat, ∀ p, p < 6 → b p ≤ 9 ∧ tD t p = nI (b p) := by
  obtain ⟨⟨hS, hP, hR⟩, hm1, hm2, hm6, ⟨hh, _⟩, hr, r, hr0, hr2⟩ := a
  obtain ⟨t1, t2, t3, t4⟩ := c
  obtain ⟨x1, x2⟩ := t4 r hr0
  obtain ⟨⟨r1, j, hj, r1b⟩, ⟨r2, n2, hn2, r2b⟩, ⟨r3, n3, hn3, r3b⟩, ⟨r4, r4b⟩⟩ := hR d hd
  refine ⟨tkC Mc d (evC Mc r), ⟨r1, r2, hh, fun i hi => (hP i hi).1, ⟨n3, hn3, r3.trans r3b, fun p hp => ?_, ?_⟩, ⟨j, by omega, r1b⟩, ⟨n2, hn2, r2b⟩, ?_, r, by omega, hr.trans hr2, x2⟩, fun Mc2 kc => ?_, fun p => n3 / 10 ^ (5 - p) % 10, fun p hp => ⟨Nat.le_of_lt_succ (Nat.mod_lt _ (by omega)), ?_⟩⟩
  · show ndg (Mc 6 d) p = ndg (nI n3) p
    rw [r3b]
  · show totN (Mc 6 d) 6 = totN (nI n3) 6
    rw [r3b]
  · intro s e1 e2 he
    exact evT_congr he
  · have e1 : Mc2 1 8 = nI r := by rw [kc 1 (by omega)]; exact hr2
    obtain ⟨M1, g1, g2, g3⟩ := takeUp_eq (M := Mc2) (d := d) (r := r) (by omega) (by omega) e1 (by rw [kc _ (by omega)]; exact x1)
    refine ⟨M1, g1, ?_, g3⟩
    have : tkC Mc2 d (evC Mc2 r) = tkC Mc d (evC Mc r) := by
      unfold tkC evC
      rw [kc 4 (by omega), kc 5 (by omega), kc 1 (by omega), kc 3 (by omega), kc 6 (by omega), kc (16 + 3 * r + 1) (by omega), kc (16 + 3 * r + 2) (by omega)]
    rw [← this]
    exact g2
  · show ndg (Mc 6 d) p = _
    rw [r3b, ndg_nI hn3 hp]
theorem kCr_nat {t : Tk} {k : Nat} {st : Nat → Int32} {b a : Nat → Nat} (hb : ∀ p, p < 6 → b p ≤ 9 ∧ tD t p = nI (b p)) (ha : ∀ j, j < 12 → a j ≤ 99 ∧ st j = nI (a j)) (hk : k < 2) {p : Nat} (hp : p < 6) : kCr t k st p = nI (b p - a (6 * k + p)) := by
  unfold kCr
  rw [(hb p hp).2, (ha (6 * k + p) (by omega)).2]
  exact jmaxS (ha _ (by omega)).1 (by have := (hb p hp).1; omega)
theorem canN_at {t : Tk} {k : Nat} {st : Nat → Int32} : ∀ n, canN t k st n = true → ∀ p, p < n → ¬ st (6 * (1 - k) + p) < kCr t k st p := by
  intro n
  induction n with
  | zero => intro _ p hp; omega
  | succ n ih =>
    intro h p hp
    unfold canN at h
    have h := Bool.and_eq_true_iff.mp h
    by_cases e : p = n
    · subst e
      have := h.2
      simpa using this
    · exact ih h.1 p (by omega)
/-- the stores stay between none and ninety-nine -/
theorem kUse_B {t : Tk} {k : Nat} {st : Nat → Int32} {b : Nat → Nat} (hb : ∀ p, p < 6 → b p ≤ 9 ∧ tD t p = nI (b p)) (hst : ∀ j, j < 12 → B99 (st j) 99) (hk : k < 2) (hc : kCan t k st = true) : ∀ j, j < 12 → B99 (kUse t k st j) 99 := by
  obtain ⟨a, ha⟩ : ∃ a : Nat → Nat, ∀ j, j < 12 → a j ≤ 99 ∧ st j = nI (a j) := by
    refine ⟨fun j => (st j).toNatClampNeg, fun j hj => ?_⟩
    obtain ⟨x, hx, he⟩ := hst j hj
    show (st j).toNatClampNeg ≤ 99 ∧ st j = nI (st j).toNatClampNeg
    rw [he, nI_clamp (by omega)]
    exact ⟨hx, rfl⟩
  intro j hj
  have hp : j % 6 < 6 := by omega
  have hcr := kCr_nat (t := t) (st := st) hb ha hk hp
  obtain ⟨b1, b2⟩ := hb (j % 6) hp
  obtain ⟨a1, a2⟩ := ha j hj
  unfold kUse
  rw [hcr]
  by_cases e : j / 6 = k
  · rw [if_pos e, b2, a2]
    have : 6 * k + j % 6 = j := by omega
    rw [this, pk_sub (by omega), pk_sub (by omega)]
    exact ⟨_, by omega, rfl⟩
  · rw [if_neg e, a2]
    have hn := canN_at 6 hc (j % 6) hp
    have hj2 : 6 * (1 - k) + j % 6 = j := by omega
    rw [hj2, hcr, a2, nIlt (by omega) (by omega)] at hn
    rw [pk_sub (by omega)]
    exact ⟨_, by omega, rfl⟩
theorem asks_op {Mc Mm : Mem} (h : Inv Mc Mm) (v1 v2 v3 : Int32) : OpI (f_X8_asks v1 v2 v3) (f_X9_asks v1 v2 v3) Mc Mm := by
  obtain ⟨many, txt, a, b, c, d, e⟩ := id h
  obtain ⟨hs0, hm1, hm2, hm6, hh, hr⟩ := id a
  unfold OpI f_X8_asks f_X9_asks
  rw [hasD hm1 hm6, isD hm2 hm6]
  simp only [Option.bind_some, zI_0]
  cases g1 : inR v1 many with
  | false => rw [bf, bf]; exact ⟨_, _, _, rfl, rfl, h⟩
  | true =>
    rw [bt, bt, hasK, isK]
    simp only [Option.bind_some, zI_0]
    cases g2 : inR v2 2 with
    | false => rw [bf, bf]; exact ⟨_, _, _, rfl, rfl, h⟩
    | true =>
      rw [bt, bt]
      obtain ⟨d1, hd1, rfl⟩ := inR_of g1 (by omega)
      obtain ⟨k, hk, rfl⟩ := inR_of g2 (by omega)
      obtain ⟨t, tm, tc, _⟩ := tkBoth a c hd1
      have hst : ∀ j, j < 12 → Mm 104 j = Mc 2 j := fun j hj => (hs0.1 j hj).1
      obtain ⟨M1, x1, x2, x3⟩ := tc Mc (KC.refl Mc)
      have st1 : M1 2 = Mc 2 := x3 2 (by omega)
      obtain ⟨M2, y1, y2, y3, y4, y5, y6⟩ := cross_eq (M := M1) (t := t) (k := k) (q2 := 2) x2.2.2.2.2.1 hk (by decide) (by decide) (by omega)
      have T2 : Took M2 t := x2.keep (fun j hj => y6 j (by omega) (by omega)) (fun p hp _ => y5 p (by omega) (by omega))
      obtain ⟨M3, z1, z2, z3, z4, z5, z6, z7⟩ := judge_eq (M := M2) (t := t) (k := k) (st := M1 2) hk T2 y2
      rw [x1]
      simp only [Option.bind_some]
      rw [y1]
      simp only [Option.bind_some]
      rw [z1]
      simp only [Option.bind_some]
      have kc : KC Mc M3 := x3.kc.tr (fun q hq => (z6 q (by omega) (by omega) (by omega) (by omega)).trans (y5 q (by omega) (by omega)))
      have e12 : M3 36 12 = zI (kCan t k (Mc 2)) := by rw [z7 12 (by omega) (by omega), y3, st1]
      have e13 : M3 36 13 = crN t k (Mc 2) 6 := by rw [z7 13 (by omega) (by omega), y4, st1]
      rw [st1] at z4 z5
      rw [show (6 : Int64) = (6 : Int32).toInt64 from rfl, inM (n := 7) (by decide)]
      simp only [Option.bind_some, zI_0]
      cases g3 : inR v3 7 with
      | false =>
        have ne := fun k (hk : k < 7) => ne_of_inR (k := k) g3 hk (by omega)
        have n0 : v3 ≠ 0 := ne 0 (by omega)
        have n1 : v3 ≠ 1 := ne 1 (by omega)
        have n2 : v3 ≠ 2 := ne 2 (by omega)
        have n3 : v3 ≠ 3 := ne 3 (by omega)
        have n4 : v3 ≠ 4 := ne 4 (by omega)
        have n5 : v3 ≠ 5 := ne 5 (by omega)
        have n6 : v3 ≠ 6 := ne 6 (by omega)
        rw [bf, if_neg n0, if_neg n1, if_neg n2, if_neg n3, if_neg n4, if_neg n5, if_neg n6]
        exact ⟨_, _, _, rfl, rfl, h.sc kc (KM.refl Mm)⟩
      | true =>
        rw [bt]
        obtain ⟨Mm1, w1, w2⟩ := tollOf_eq (by omega) hk tm
        rw [w1]
        simp only [Option.bind_some]
        have tm1 := tm.sm w2
        have m104 : Mm1 104 = Mm 104 := w2.1 104 (by omega)
        have hst1 : ∀ j, j < 12 → Mm1 104 j = Mc 2 j := fun j hj => by rw [m104]; exact hst j hj
        rw [kToll_cg hk hst]
        obtain ⟨y, hy, rfl⟩ := inR_of g3 (by omega)
        have zz : ∀ (bb : Bool) (P Q : Mem), (if zI bb = 0 then some ((0 : Int32), P) else some (1, P)) = some (zI bb, P) := fun bb P Q => by cases bb <;> rfl
        have cs : y = 0 ∨ y = 1 ∨ y = 2 ∨ y = 3 ∨ y = 4 ∨ y = 5 ∨ y = 6 := by omega
        rcases cs with rfl | rfl | rfl | rfl | rfl | rfl | rfl
        · refine ⟨zI (kCan t k (Mc 2)), M3, Mm1, ?_, ?_, h.sc kc w2.km⟩
          · rw [if_pos (by decide), e12]; exact zz _ _ M3
          · rw [if_neg (by decide), if_pos (by decide), canBe_eq (by omega) hk tm1, kCan_cg hk hst1]; exact zz _ _ Mm1
        · refine ⟨crN t k (Mc 2) 6, M3, Mm1, ?_, ?_, h.sc kc w2.km⟩
          · rw [if_neg (by decide), if_pos (by decide), e13]
          · rw [if_neg (by decide), if_neg (by decide), if_pos (by decide), crossAll_eq (by omega) hk tm1, crN_cg hk hst1 6 (by omega)]; rfl
        · refine ⟨kToll t k (Mc 2), M3, Mm1, ?_, ?_, h.sc kc w2.km⟩
          · rw [if_neg (by decide), if_neg (by decide), if_pos (by decide), z4]
          · rw [if_neg (by decide), if_neg (by decide), if_neg (by decide)]
        · obtain ⟨Mm2, u1, u2⟩ := sgM0_eq (by omega) hk tm1 (kToll t k (Mc 2))
          refine ⟨zI (kSg t k 0 (kToll t k (Mc 2))), M3, Mm2, ?_, ?_, h.sc kc (w2.km.tr u2.km)⟩
          · rw [if_neg (by decide), if_neg (by decide), if_neg (by decide), if_pos (by decide), z5 0 (by omega)]; exact zz _ _ M3
          · rw [if_pos (by decide), if_neg (by decide), show nI 3 - 3 = (0 : Int32) by decide, u1]; exact zz _ _ Mm2
        · obtain ⟨Mm2, u1, u2⟩ := sgM1_eq (by omega) hk tm1 (kToll t k (Mc 2))
          refine ⟨zI (kSg t k 1 (kToll t k (Mc 2))), M3, Mm2, ?_, ?_, h.sc kc (w2.km.tr u2.km)⟩
          · rw [if_neg (by decide), if_neg (by decide), if_neg (by decide), if_neg (by decide), if_pos (by decide), z5 1 (by omega)]; exact zz _ _ M3
          · rw [if_pos (by decide), if_neg (by decide), show nI 4 - 3 = (1 : Int32) by decide, u1]; exact zz _ _ Mm2
        · obtain ⟨Mm2, u1, u2⟩ := feedsOf_eq (by omega) hk tm1
          refine ⟨kFed t k, M3, Mm2, ?_, ?_, h.sc kc (w2.km.tr u2.km)⟩
          · rw [if_neg (by decide), if_neg (by decide), if_neg (by decide), if_neg (by decide), if_neg (by decide), if_pos (by decide), z3]
          · rw [if_pos (by decide), if_pos (by decide), if_pos (by decide), u1]; rfl
        · obtain ⟨Mm2, u1, u2⟩ := feedsOf_eq (by omega) hk tm1
          refine ⟨kFed t k - kToll t k (Mc 2), M3, Mm2, ?_, ?_, h.sc kc (w2.km.tr u2.km)⟩
          · rw [if_neg (by decide), if_neg (by decide), if_neg (by decide), if_neg (by decide), if_neg (by decide), if_neg (by decide), if_pos (by decide), worth_eq, z3, z4]; rfl
          · rw [if_pos (by decide), if_pos (by decide), if_neg (by decide), u1]; rfl
