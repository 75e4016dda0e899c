/-! TOLD -/
theorem inR_le {v : Int32} {a b : Nat} (h : inR v a = true) (hab : a ≤ b) (hb : b < 2 ^ 31) : inR v b = true := by
  obtain ⟨d, hd, rfl⟩ := inR_of h (by omega)
  exact inR_nI (by omega) hb
theorem isPart_eq (v : Int32) (M : Mem) : f_X9_isPart v M = some (zI (inR v 6), M) := by
  unfold f_X9_isPart
  rw [show (5 : Int64) = (5 : Int32).toInt64 from rfl, inM (n := 6) (by decide)]
  simp only [Option.bind_some, zI_zb, ck_true]
theorem inR_small {x n : Nat} (hx : x < 2 ^ 31) : inR (nI x) n = decide (x < n) := by
  unfold inR
  rw [i_nI hx]
  by_cases c : x < n
  · rw [decide_eq_true c, decide_eq_true ⟨by omega, by omega⟩]
  · rw [decide_eq_false c, decide_eq_false (fun h => c (by omega))]
theorem placeBoth (v : Int32) (Mc Mm : Mem) : ∃ b : Bool, f_X8_isPlace v Mc = some (zI b, Mc) ∧ f_X9_isOf 1 v Mm = some (zI b, Mm) ∧ (b = true → ∃ a p, a < 2 ∧ p < 6 ∧ v = nI (10 * a + p)) := by
  have mo : f_X9_isOf 1 v Mm = if inR v 16 = false then some (0, Mm) else (f_X9_isPart (jrem v 10) Mm).bind fun o11 => (if o11.1 = 0 then some (0, o11.2) else some (1, o11.2)) := by
    unfold f_X9_isOf
    rw [if_neg (by decide), if_pos rfl, show (15 : Int64) = (15 : Int32).toInt64 from rfl, inM (n := 16) (by decide)]
    simp only [Option.bind_some, zI_0]
  cases h : inR v 20 with
  | true =>
    obtain ⟨x, hx, rfl⟩ := inR_of h (by omega)
    have hc : f_X8_isPlace (nI x) Mc = some (zI (decide (x % 10 < 6)), Mc) := by
      unfold f_X8_isPlace
      rw [if_neg (nI_pos (by omega)), show (10 : Int32) = nI 10 from rfl, pk_div (by omega) (by omega) (by omega), show (2 : Int32) = nI 2 from rfl, if_neg (by rw [nIle (by omega) (by omega)]; omega), jrem_nI (by omega) (by omega) (by omega), show (6 : Int32) = nI 6 from rfl]
      by_cases c : x % 10 < 6
      · rw [if_neg (by rw [nIle (by omega) (by omega)]; omega), decide_eq_true c]; rfl
      · rw [if_pos (by rw [nIle (by omega) (by omega)]; omega), decide_eq_false c]; rfl
    refine ⟨_, hc, ?_, fun hb => ⟨x / 10, x % 10, by omega, of_decide_eq_true hb, by rw [show 10 * (x / 10) + x % 10 = x by omega]⟩⟩
    rw [mo, inR_small (by omega), isPart_eq, show (10 : Int32) = nI 10 from rfl, jrem_nI (by omega) (by omega) (by omega), inR_small (by omega)]
    simp only [Option.bind_some, zI_0]
    by_cases c : x % 10 < 6
    · have c2 : x < 16 := by omega
      rw [decide_eq_true c, decide_eq_true c2, if_neg (by decide), if_neg (by decide)]; rfl
    · rw [decide_eq_false c]
      by_cases c2 : x < 16
      · rw [decide_eq_true c2, if_neg (by decide), if_pos rfl]; rfl
      · rw [decide_eq_false c2, if_pos rfl]; rfl
  | false =>
    have h16 : inR v 16 = false := by
      cases h2 : inR v 16 with
      | false => rfl
      | true => rw [inR_le h2 (by omega) (by omega)] at h; cases h
    refine ⟨false, ?_, ?_, fun hb => by cases hb⟩
    · unfold f_X8_isPlace
      unfold inR at h
      have h := of_decide_eq_false h
      by_cases c : v < 0
      · rw [if_pos c]; rfl
      · rw [if_neg c]
        have c2 : ¬ v.toInt < 0 := by rw [i_lt] at c; exact c
        have hv : 20 ≤ v.toInt := by omega
        have hv2 : v.toInt < 2147483648 := by have := Int32.toInt_lt v; omega
        have hd : (2 : Int32) ≤ v / 10 := by
          rw [i_le, Int32.toInt_div, show (10 : Int32).toInt = 10 from rfl, show (2 : Int32).toInt = 2 from rfl, Int.tdiv_eq_ediv_of_nonneg (by omega), Int.bmod_eq_of_le (by omega) (by omega)]
          omega
        rw [if_pos hd]; rfl
    · rw [mo, h16, if_pos rfl]; rfl
def sumS (S : Nat → Int32) (a : Nat) : Nat → Int32
  | 0 => 0
  | p + 1 => sumS S a p + S (6 * a + p)
theorem sumS_cg {S T : Nat → Int32} {a : Nat} (ha : a < 2) (h : ∀ j, j < 12 → T j = S j) : ∀ p, p ≤ 6 → sumS T a p = sumS S a p := by
  intro p
  induction p with
  | zero => intro _; rfl
  | succ p ih => intro hp; show sumS T a p + T (6 * a + p) = sumS S a p + S (6 * a + p); rw [ih (by omega), h _ (by omega)]
theorem storeC {a : Nat} (ha : a < 2) (M : Mem) : f_X1_storeOf (nI a) M = some (sumS (M 2) a 6, M) := by
  have l : ∀ m p fuel, p + m = 6 → m < fuel → f_X1_storeOf_l4 fuel (nI a) (sumS (M 2) a p) (nI p) M = some (sumS (M 2) a 6, M) := by
    intro m
    induction m with
    | zero =>
      intro p fuel hp hf
      obtain ⟨f, rfl⟩ : ∃ f, fuel = f + 1 := ⟨fuel - 1, by omega⟩
      rw [f_X1_storeOf_l4, if_pos (by rw [show (6 : Int32) = nI 6 from rfl, nIle (by omega) (by omega)]; omega), show p = 6 by omega]
    | succ m ih =>
      intro p fuel hp hf
      obtain ⟨f, rfl⟩ : ∃ f, fuel = f + 1 := ⟨fuel - 1, by omega⟩
      rw [f_X1_storeOf_l4, if_neg (by rw [show (6 : Int32) = nI 6 from rfl, nIle (by omega) (by omega)]; omega), show (6 : Int32) = nI 6 from rfl, pk_mul, nI_add, inb_nI (by omega) (by omega), nI_clamp (by omega), nIp, Nat.mul_comm a 6]
      exact ih (p + 1) f (by omega) (by omega)
  exact l 6 0 FU (by omega) (by have := FU_ge; omega)
theorem storeM {a : Nat} (ha : a < 2) (M : Mem) : f_X9_storeOf (nI a) M = some (sumS (M 104) a 6, M) := by
  have l : ∀ m p fuel, p + m = 6 → m < fuel → f_X9_storeOf_l4 fuel (nI a) (sumS (M 104) a p) (nI p) M = some (sumS (M 104) a 6, M) := by
    intro m
    induction m with
    | zero =>
      intro p fuel hp hf
      obtain ⟨f, rfl⟩ : ∃ f, fuel = f + 1 := ⟨fuel - 1, by omega⟩
      rw [f_X9_storeOf_l4, if_pos (by rw [show (6 : Int32) = nI 6 from rfl, nIle (by omega) (by omega)]; omega), show p = 6 by omega]
    | succ m ih =>
      intro p fuel hp hf
      obtain ⟨f, rfl⟩ : ∃ f, fuel = f + 1 := ⟨fuel - 1, by omega⟩
      rw [f_X9_storeOf_l4, if_neg (by rw [show (6 : Int32) = nI 6 from rfl, nIle (by omega) (by omega)]; omega), show (6 : Int32) = nI 6 from rfl, pk_mul, nI_add, inb_nI (by omega) (by omega), nI_clamp (by omega), nIp]
      exact ih (p + 1) f (by omega) (by omega)
  exact l 6 0 FU (by omega) (by have := FU_ge; omega)
theorem lits : ∀ i j : Nat, i < 40 → j < 40 → (nI i = nI j) = (i = j) := fun i j hi hj => nIeq (by omega) (by omega)
theorem toldBoth {Mc Mm : Mem} {many txt : Nat} (h : HouseI Mc Mm many txt) (v : Int32) {k : Nat} (hk : k < 9) :
    ∃ (b : Bool) (x : Int32), f_X8_told v (nI k) Mc = some (if b = true then x else -1000, Mc) ∧ f_X9_isOf (nI k) v Mm = some (zI b, Mm) ∧ f_X9_told v (nI k) Mm = some (if b = true then x else -1000, Mm) ∧
      (b = true → (k ≤ 4 → ∃ n, n < 2 ^ 31 ∧ x = nI n) ∧ (k = 1 → ∃ a p, a < 2 ∧ p < 6 ∧ v = nI (10 * a + p)) ∧ (k = 2 → ∃ a, a < 2 ∧ v = nI a) ∧ (3 ≤ k → k < 8 → ∃ d, d < many ∧ v = nI d)) := by
  obtain ⟨⟨hS, hP, hR⟩, hm1, hm2, hm6, ⟨hh, x7, hx7, hh2⟩, hr⟩ := h
  have hin : ∀ k, k < 9 → f_X9_in (nI k).toInt64 0 8 Mm = some (1, Mm) := by
    intro k hk
    rw [show (8 : Int64) = (8 : Int32).toInt64 from rfl, inM (n := 9) (by decide), inR_nI hk (by omega)]
    rfl
  have mt : ∀ b : Bool, f_X9_isOf (nI k) v Mm = some (zI b, Mm) → b = false → f_X9_told v (nI k) Mm = some (-1000, Mm) := by
    intro b hb hf
    subst hf
    unfold f_X9_told
    rw [hin k hk]
    simp only [Option.bind_some]
    rw [if_neg (by decide), hb]
    simp only [Option.bind_some, zI_0]
    rw [if_pos True.intro]
  have q := fun i hi => lits k i (by omega) hi
  have le := fun i (hi : i < 40) => nIle (a := i) (b := k) (by omega) (by omega)
  have q0 : ((nI k : Int32) = 0) = (k = 0) := q 0 (by omega)
  have q1 : ((nI k : Int32) = 1) = (k = 1) := q 1 (by omega)
  have q2 : ((nI k : Int32) = 2) = (k = 2) := q 2 (by omega)
  have q3 : ((nI k : Int32) = 3) = (k = 3) := q 3 (by omega)
  have q4 : ((nI k : Int32) = 4) = (k = 4) := q 4 (by omega)
  have q5 : ((nI k : Int32) = 5) = (k = 5) := q 5 (by omega)
  have q6 : ((nI k : Int32) = 6) = (k = 6) := q 6 (by omega)
  have q7 : ((nI k : Int32) = 7) = (k = 7) := q 7 (by omega)
  have q8 : ((nI k : Int32) = 8) = (k = 8) := q 8 (by omega)
  have l3 : ((3 : Int32) ≤ nI k) = (3 ≤ k) := le 3 (by omega)
  have l5 : ((5 : Int32) ≤ nI k) = (5 ≤ k) := le 5 (by omega)
  have l6 : ((6 : Int32) ≤ nI k) = (6 ≤ k) := le 6 (by omega)
  -- what the reference tells of a place that is one
  have mtr : f_X9_isOf (nI k) v Mm = some (zI true, Mm) → f_X9_told v (nI k) Mm = (if 3 ≤ nI k then (if 6 ≤ nI k then (if nI k = 6 then ck (inb ((3 * v) + 2) 18) (some ((Mm 107 (((3 * v) + 2)).toNatClampNeg), Mm)) else (if nI k = 7 then (f_X9_needsAll v Mm).bind fun o13 => some (o13.1, o13.2) else (f_X9_storeOf v Mm).bind fun o11 => some (o11.1, o11.2))) else (if 5 ≤ nI k then ck (inb v 6) (some ((Mm 106 (v).toNatClampNeg), Mm)) else ck (inb (((3 * v) + nI k) - 3) 18) (some ((Mm 107 ((((3 * v) + nI k) - 3)).toNatClampNeg), Mm)))) else (if nI k = 0 then some ((Mm 100 7), Mm) else (if nI k = 1 then ck (inb ((6 * (v / 10)) + (jrem v 10)) 12) (some ((Mm 104 (((6 * (v / 10)) + (jrem v 10))).toNatClampNeg), Mm)) else ck (inb v 2) (some ((Mm 105 (v).toNatClampNeg), Mm))))) := by
    intro hb
    unfold f_X9_told
    rw [hin k hk]
    simp only [Option.bind_some]
    rw [if_neg (by decide), hb]
    simp only [Option.bind_some, zI_0]
    rw [if_neg (by decide)]
  by_cases k0 : k = 0
  · have e : f_X9_isOf (nI k) v Mm = some (zI true, Mm) := by unfold f_X9_isOf; rw [if_pos (q0.mpr k0)]; rfl
    refine ⟨true, nI x7, ?_, e, ?_, fun _ => ⟨fun _ => ⟨x7, by omega, rfl⟩, by omega, by omega, by omega⟩⟩
    · unfold f_X8_told; rw [if_pos (q0.mpr k0), if_pos rfl, hh2]
    · rw [mtr e, if_neg (by rw [l3]; omega), if_pos (q0.mpr k0), if_pos rfl, hh, hh2]
  by_cases k1 : k = 1
  · subst k1
    obtain ⟨b, b1, b2, b3⟩ := placeBoth v Mc Mm
    cases b with
    | false =>
      refine ⟨false, 0, ?_, b2, mt false b2 rfl, fun hb => by cases hb⟩
      unfold f_X8_told
      rw [if_neg (by decide), if_pos (by decide), b1]
      rfl
    | true =>
      obtain ⟨a, p, ha, hp, rfl⟩ := b3 rfl
      have dv : nI (10 * a + p) / 10 = nI a := by rw [show (10 : Int32) = nI 10 from rfl, pk_div (by omega) (by omega) (by omega)]; congr 1; omega
      have rm : jrem (nI (10 * a + p)) 10 = nI p := by rw [show (10 : Int32) = nI 10 from rfl, jrem_nI (by omega) (by omega) (by omega)]; congr 1; omega
      obtain ⟨s1, s2, hs2, s3⟩ := hS (6 * a + p) (by omega)
      refine ⟨true, Mc 2 (6 * a + p), ?_, b2, ?_, fun _ => ⟨fun _ => ⟨s2, by omega, s3⟩, fun _ => ⟨a, p, ha, hp, rfl⟩, by omega, by omega⟩⟩
      · unfold f_X8_told
        rw [if_neg (by decide), if_pos (by decide), b1]
        unfold f_X8_placeOf
        simp only [Option.bind_some]
        rw [if_neg (by decide), dv, rm, show (6 : Int32) = nI 6 from rfl, pk_mul, nI_add, inb_nI (by omega) (by omega), nI_clamp (by omega), Nat.mul_comm a 6]
        rfl
      · rw [mtr b2, if_neg (by decide), if_neg (by decide), if_pos (by decide), dv, rm, show (6 : Int32) = nI 6 from rfl, pk_mul, nI_add, inb_nI (by omega) (by omega), nI_clamp (by omega), s1]
        rfl
  by_cases k2 : k = 2
  · subst k2
    have e : f_X9_isOf (nI 2) v Mm = some (zI (inR v 2), Mm) := by
      unfold f_X9_isOf f_X9_isOf_b50
      rw [if_neg (by decide), if_neg (by decide), if_pos (by decide), isK]
      simp only [Option.bind_some, zI_zb, ck_true]
    have ec : f_X8_told v (nI 2) Mc = (if zI (inR v 2) = 0 then some (-1000, Mc) else (f_X8_toldOfKitchen v (nI 2) Mc).bind fun o19 => some (o19.1, o19.2)) := by
      unfold f_X8_told f_X8_told_b54
      rw [if_neg (by decide), if_neg (by decide), if_pos (by decide), hasK]
      rfl
    cases hb : inR v 2 with
    | false =>
      rw [hb] at e ec
      exact ⟨false, 0, ec, e, mt false e rfl, fun hb => by cases hb⟩
    | true =>
      rw [hb] at e ec
      obtain ⟨a, ha, rfl⟩ := inR_of hb (by omega)
      obtain ⟨s1, s2, hs2, s3⟩ := hP a ha
      refine ⟨true, Mc 3 a, ?_, e, ?_, fun _ => ⟨fun _ => ⟨s2, by omega, s3⟩, by omega, fun _ => ⟨a, ha, rfl⟩, by omega⟩⟩
      · rw [ec, if_neg (by decide)]
        unfold f_X8_toldOfKitchen
        rw [if_pos (by decide), inb_nI ha (by omega), nI_clamp (by omega)]
        rfl
      · rw [mtr e, if_neg (by decide), if_neg (by decide), if_neg (by decide), inb_nI ha (by omega), nI_clamp (by omega), s1]
        rfl
  by_cases k8 : k = 8
  · subst k8
    have e : f_X9_isOf (nI 8) v Mm = some (zI (inR v 2), Mm) := by
      unfold f_X9_isOf f_X9_isOf_b50
      rw [if_neg (by decide), if_neg (by decide), if_neg (by decide), if_pos (by decide), isK]
      simp only [Option.bind_some, zI_zb, ck_true]
    have ec : f_X8_told v (nI 8) Mc = (if zI (inR v 2) = 0 then some (-1000, Mc) else (f_X8_toldOfKitchen v (nI 8) Mc).bind fun o19 => some (o19.1, o19.2)) := by
      unfold f_X8_told f_X8_told_b54
      rw [if_neg (by decide), if_neg (by decide), if_neg (by decide), if_pos (by decide), hasK]
      rfl
    cases hb : inR v 2 with
    | false =>
      rw [hb] at e ec
      exact ⟨false, 0, ec, e, mt false e rfl, fun hb => by cases hb⟩
    | true =>
      rw [hb] at e ec
      obtain ⟨a, ha, rfl⟩ := inR_of hb (by omega)
      refine ⟨true, sumS (Mc 2) a 6, ?_, e, ?_, fun _ => ⟨by omega, by omega, by omega, by omega⟩⟩
      · rw [ec, if_neg (by decide)]
        unfold f_X8_toldOfKitchen
        rw [if_neg (by decide), storeC ha]
        rfl
      · rw [mtr e, if_pos (by decide), if_pos (by decide), if_neg (by decide), if_neg (by decide), storeM ha, sumS_cg ha (fun j hj => (hS j hj).1) 6 (by omega)]
        rfl
  have e : f_X9_isOf (nI k) v Mm = some (zI (inR v many), Mm) := by
    unfold f_X9_isOf
    rw [if_neg (by rw [q0]; exact k0), if_neg (by rw [q1]; exact k1), if_neg (by rw [q2]; exact k2), if_neg (by rw [q8]; exact k8), isD hm2 hm6]
    simp only [Option.bind_some, zI_zb, ck_true]
  have ec : f_X8_told v (nI k) Mc = (if zI (inR v many) = 0 then some (-1000, Mc) else (f_X8_toldOfDish v (nI k) Mc).bind fun o8 => some (o8.1, o8.2)) := by
    unfold f_X8_told
    rw [if_neg (by rw [q0]; exact k0), if_neg (by rw [q1]; exact k1), if_neg (by rw [q2]; exact k2), if_neg (by rw [q8]; exact k8), hasD hm1 hm6]
    rfl
  cases hb : inR v many with
  | false =>
    rw [hb] at e ec
    exact ⟨false, 0, ec, e, mt false e rfl, fun hb => by cases hb⟩
  | true =>
    rw [hb] at e ec
    obtain ⟨d, hd, rfl⟩ := inR_of hb (by omega)
    obtain ⟨⟨r1, r1b⟩, ⟨r2, n2, hn2, r2b⟩, ⟨r3, n3, hn3, r3b⟩, ⟨r4, r4b⟩⟩ := hR d hd
    have i6 : inb (nI d) 6 = true := inb_nI (by omega) (by omega)
    have c6 : (nI d).toNatClampNeg = d := nI_clamp (by omega)
    have ec2 : f_X8_told (nI d) (nI k) Mc = (f_X8_toldOfDish (nI d) (nI k) Mc).bind fun o8 => some (o8.1, o8.2) := by rw [ec, if_neg (by decide)]
    have m3 : (3 : Int32) * nI d = nI (3 * d) := by rw [show (3 : Int32) = nI 3 from rfl, pk_mul]
    have mt3 := mtr e
    rw [if_pos (show (3 : Int32) ≤ nI k by rw [l3]; omega)] at mt3
    have fin : ∀ x, f_X8_toldOfDish (nI d) (nI k) Mc = some (x, Mc) → f_X9_told (nI d) (nI k) Mm = some (x, Mm) → (k ≤ 4 → ∃ n, n < 2 ^ 31 ∧ x = nI n) → ∃ (b : Bool) (x : Int32), f_X8_told (nI d) (nI k) Mc = some (if b = true then x else -1000, Mc) ∧ f_X9_isOf (nI k) (nI d) Mm = some (zI b, Mm) ∧ f_X9_told (nI d) (nI k) Mm = some (if b = true then x else -1000, Mm) ∧
        (b = true → (k ≤ 4 → ∃ n, n < 2 ^ 31 ∧ x = nI n) ∧ (k = 1 → ∃ a p, a < 2 ∧ p < 6 ∧ nI d = nI (10 * a + p)) ∧ (k = 2 → ∃ a, a < 2 ∧ nI d = nI a) ∧ (3 ≤ k → k < 8 → ∃ d2, d2 < many ∧ nI d = nI d2)) := by
      intro x h1 h2 h3
      refine ⟨true, x, ?_, e, ?_, fun _ => ⟨h3, fun h => absurd h k1, fun h => absurd h k2, fun _ _ => ⟨d, hd, rfl⟩⟩⟩
      · rw [ec2, h1]; rfl
      · rw [h2]; rfl
    by_cases k3 : k = 3
    · subst k3
      refine fin (Mc 5 d) ?_ ?_ (fun _ => ⟨n2, by omega, r2b⟩)
      · unfold f_X8_toldOfDish
        rw [if_pos (by decide), i6, c6]; rfl
      · rw [mt3, if_neg (by decide), if_neg (by decide), m3, nI_add, show (3 : Int32) = nI 3 from rfl, pk_sub (by omega), Nat.add_sub_cancel, inb_nI (by omega) (by omega), nI_clamp (by omega), r2]; rfl
    by_cases k4 : k = 4
    · subst k4
      refine fin (Mc 6 d) ?_ ?_ (fun _ => ⟨n3, by omega, r3b⟩)
      · unfold f_X8_toldOfDish
        rw [if_neg (by decide), if_pos (by decide), i6, c6]; rfl
      · rw [mt3, if_neg (by decide), if_neg (by decide), m3, nI_add, show (3 : Int32) = nI 3 from rfl, pk_sub (by omega), show 3 * d + 4 - 3 = 3 * d + 1 by omega, inb_nI (by omega) (by omega), nI_clamp (by omega), r3]; rfl
    by_cases k5 : k = 5
    · subst k5
      refine fin (Mc 4 d) ?_ ?_ (fun h => by omega)
      · unfold f_X8_toldOfDish
        rw [if_neg (by decide), if_neg (by decide), if_pos (by decide), i6, c6]; rfl
      · rw [mt3, if_neg (by decide), if_pos (by decide), i6, c6, r1]; rfl
    by_cases k6 : k = 6
    · subst k6
      refine fin (Mc 7 d) ?_ ?_ (fun h => by omega)
      · unfold f_X8_toldOfDish
        rw [if_neg (by decide), if_neg (by decide), if_neg (by decide), if_pos (by decide), i6, c6]; rfl
      · rw [mt3, if_pos (by decide), if_pos (by decide), m3, show (2 : Int32) = nI 2 from rfl, nI_add, inb_nI (by omega) (by omega), nI_clamp (by omega), r4]; rfl
    have k7 : k = 7 := by omega
    subst k7
    refine fin (totN (Mc 6 d) 6) ?_ ?_ (fun h => by omega)
    · unfold f_X8_toldOfDish
      rw [if_neg (by decide), if_neg (by decide), if_neg (by decide), if_neg (by decide), if_pos (by decide), needsTogether_eq (by omega)]; rfl
    · rw [mt3, if_pos (by decide), if_neg (by decide), if_pos (by decide), needsAll_eq (by omega) hn3 (r3.trans r3b), r3b]; rfl
