/-! LEAVE, BUY, SHARE -/
/-- the best menu's worth, both -/
theorem seekA {many bar : Nat} {Mc Mm : Mem} {T : Nat → Tk} (hT : Tgood Mc Mm many T) (hm1 : Mc 1 6 = nI many) (hm2 : Mm 100 12 = nI many) (hm6 : many ≤ 6) {v : Int32} (hb : ∀ e, e < 6 → (nI e = v ↔ e = bar)) {M N : Mem} (kc : KC Mc M) (kn : KM6 Mm N) {st : Nat → Int32} (hM : ∀ j, j < 12 → M 47 j = st j) (hN : ∀ j, j < 12 → N 104 j = st j) :
    ∃ (M1 N1 : Mem) (l : Lf), f_X3_seek_b53 v M = some M1 ∧ f_X9_bestOf 0 v N = some N1 ∧ KC Mc M1 ∧ KM6 Mm N1 ∧ (∀ j, j < 12 → N1 104 j = N 104 j) ∧ M1 45 4 = nI l.1 ∧ M1 45 5 = vv 0 l ∧ mst N1 = mlay 0 l ∧ GoodL l ∧ Pth T many 0 st 0 0 0 0 0 0 l := by
  obtain ⟨M1, a1, a2, a3, _, _⟩ := seek53 hT hm1 hm6 hb kc hM
  obtain ⟨N1, b1, b2, b3, c, c1, c2⟩ := bestM (b := 0) (by omega) hT hm2 hm6 hb kn hN
  obtain ⟨gd, hd⟩ := lvs_good (bar := bar) hm6 (fun d hd => (hT d hd).2.2) st
  obtain ⟨l, l1, l2, l3⟩ := foldA (fun l hl => (gd l hl).1) hd c1
  rw [l2] at a3
  exact ⟨M1, N1, l, a1, b1, a2, b2, b3, congrArg Prod.fst a3, congrArg Prod.snd a3, c2.trans l3, (gd l l1).1, (gd l l1).2.1⟩
theorem leaveLoop {many : Nat} {Mc Mm : Mem} {T : Nat → Tk} (hT : Tgood Mc Mm many T) (hm1 : Mc 1 6 = nI many) (hm2 : Mm 100 12 = nI many) (hm6 : many ≤ 6) (hs : ∀ j, j < 12 → Mm 104 j = Mc 2 j) (v1 : Int32) : ∀ m i fuel (v2 v3 : Int32) (M N : Mem), i + m = many → m < fuel → KC Mc M → KM6 Mm N → (∀ j, j < 12 → N 104 j = Mm 104 j) →
    ∃ (r : Int32) (M1 N1 : Mem), f_X8_leave_l19 f_X8_leave_b74 fuel v1 v2 v3 (nI i) M = some (r, M1) ∧ f_X9_leave_l21 f_X9_leave_b64 fuel v1 v2 v3 (nI i) N = some (r, N1) ∧ KC Mc M1 ∧ KM6 Mm N1 ∧ (∀ j, j < 12 → N1 104 j = Mm 104 j) := by
  intro m
  induction m with
  | zero =>
    intro i fuel v2 v3 M N hi hf kc kn ns
    obtain ⟨g, rfl⟩ : ∃ g, fuel = g + 1 := ⟨fuel - 1, by omega⟩
    rw [f_X8_leave_l19, f_X9_leave_l21, kc 1 (by omega), kn.2 12 (by omega), hm1, hm2, if_pos (nI_le (by omega) (by omega)), if_pos (nI_le (by omega) (by omega))]
    unfold f_X8_leave_b74 f_X9_leave_b64
    by_cases c : v1 = 0
    · rw [if_pos c, if_pos c]; exact ⟨_, _, _, rfl, rfl, kc, kn, ns⟩
    · rw [if_neg c, if_neg c]; exact ⟨_, _, _, rfl, rfl, kc, kn, ns⟩
  | succ m ih =>
    intro i fuel v2 v3 M N hi hf kc kn ns
    obtain ⟨g, rfl⟩ : ∃ g, fuel = g + 1 := ⟨fuel - 1, by omega⟩
    rw [f_X8_leave_l19, f_X9_leave_l21, kc 1 (by omega), kn.2 12 (by omega), hm1, hm2, if_neg (nI_ge (by omega) (by omega)), if_neg (nI_ge (by omega) (by omega)), seekm1]
    obtain ⟨M1, N1, l, a1, a2, a3, a4, a5, a6, a7, a8, _⟩ := seekA (bar := i) hT hm1 hm2 hm6 (v := nI i) (fun e he => by rw [nIeq (by omega) (by omega)]) (kc47 kc) kn (st := Mc 2) (fun j hj => by rw [mcp_in hj, kc 2 (by omega)]) (fun j hj => (ns j hj).trans (hs j hj))
    rw [a1, a2, Option.bind_some, Option.bind_some, (mst_of a8).2.1, a7]
    unfold f_X8_leave_b57 f_X8_leave_b68 f_X9_leave_b50 f_X9_leave_b58
    rw [(mst_of a8).2.1, a7, nIp]
    have ns1 : ∀ j, j < 12 → N1 104 j = Mm 104 j := fun j hj => (a5 j hj).trans (ns j hj)
    by_cases c1 : v2 = -1
    · rw [if_pos c1, if_pos c1]
      exact ih (i + 1) g _ _ M1 N1 (by omega) (by omega) a3 a4 ns1
    · rw [if_neg c1, if_neg c1]
      by_cases c2 : vv 0 l ≤ v3
      · rw [if_pos c2, if_pos c2]
        exact ih (i + 1) g _ _ M1 N1 (by omega) (by omega) a3 a4 ns1
      · rw [if_neg c2, if_neg c2]
        exact ih (i + 1) g _ _ M1 N1 (by omega) (by omega) a3 a4 ns1
theorem leave_op {Mc Mm : Mem} (h : Inv Mc Mm) (v1 : Int32) : OpI (f_X8_leave v1) (f_X9_leave v1) Mc Mm := by
  obtain ⟨many, txt, hN⟩ := id h
  have hN : InvN many txt Mc Mm := hN
  obtain ⟨hs0, hm1, hm2, hm6, _⟩ := id hN.1
  obtain ⟨T, hT⟩ := getT hN
  unfold OpI f_X8_leave f_X9_leave
  rw [inC3 (b := 1) (n := 2) (by decide), show (1 : Int64) = (1 : Int32).toInt64 from rfl, inM (n := 2) (by decide), Option.bind_some]
  dsimp only
  cases g1 : inR v1 2 with
  | false => rw [ft, if_pos (show zI false = 0 from rfl)]; exact ⟨_, _, _, rfl, rfl, h⟩
  | true =>
    rw [tt, if_neg (show ¬ zI true = 0 by decide)]
    obtain ⟨r, M1, N1, a1, a2, a3, a4, a5⟩ := leaveLoop hT hm1 hm2 hm6 (fun j hj => (hs0.1 j hj).1) v1 many 0 FU (-1) 0 Mc Mm (by omega) (by have := FU_ge; omega) (KC.refl Mc) (KM6.refl Mm) (fun _ _ => rfl)
    exact ⟨r, M1, N1, a1, a2, (hN.sc a3 (a4.km a5)).i⟩
theorem bd_min {n : Nat} (h : n ≤ 1000) : bd (nI n) = jmin 99 (nI n) := by
  unfold bd
  by_cases c : n < 99
  · have : jmin 99 (nI n) = nI n := by unfold jmin; rw [if_pos (show nI n < 99 from nI_lt (b := 99) c (by omega))]
    rw [this]
    unfold jmax
    by_cases z : n = 0
    · subst z; rfl
    · rw [if_pos (show (0 : Int32) < nI n from nI_lt (a := 0) (by omega) (by omega))]
  · have : jmin 99 (nI n) = 99 := by unfold jmin; rw [if_neg (show ¬ nI n < 99 from nI_nlt (b := 99) (by omega) (by omega))]
    rw [this]
    decide
theorem buyLoop {many k : Nat} {Mc Mm : Mem} {T : Nat → Tk} (hk : k < 2) (hT : Tgood Mc Mm many T) (hm1 : Mc 1 6 = nI many) (hm2 : Mm 100 12 = nI many) (hm6 : many ≤ 6) (hs : ∀ j, j < 12 → Mm 104 j = Mc 2 j ∧ B99 (Mc 2 j) 99) (v2 : Int32) : ∀ m i fuel (v3 v4 : Int32) (M N : Mem), i + m = 6 → m < fuel → KC Mc M → KM6 Mm N → (∀ j, j < 12 → N 104 j = Mm 104 j) →
    ∃ (r : Int32) (M1 N1 : Mem), f_X8_buy_l27 f_X8_buy_b84 fuel (nI k) v2 v3 v4 (nI i) M = some (r, M1) ∧ f_X9_buy_l29 f_X9_buy_b121 fuel (nI k) v2 v3 v4 (nI i) N = some (r, N1) ∧ KC Mc M1 ∧ KM6 Mm N1 ∧ (∀ j, j < 12 → N1 104 j = Mm 104 j) := by
  intro m
  induction m with
  | zero =>
    intro i fuel v3 v4 M N hi hf kc kn ns
    obtain ⟨g, rfl⟩ : ∃ g, fuel = g + 1 := ⟨fuel - 1, by omega⟩
    rw [f_X8_buy_l27, f_X9_buy_l29, if_pos (show (6 : Int32) ≤ nI i from nI_le (a := 6) (by omega) (by omega)), if_pos (show (6 : Int32) ≤ nI i from nI_le (a := 6) (by omega) (by omega))]
    unfold f_X8_buy_b84 f_X9_buy_b121
    by_cases c : v2 = 0
    · rw [if_pos c, if_pos c]; exact ⟨_, _, _, rfl, rfl, kc, kn, ns⟩
    · rw [if_neg c, if_neg c]; exact ⟨_, _, _, rfl, rfl, kc, kn, ns⟩
  | succ m ih =>
    intro i fuel v3 v4 M N hi hf kc kn ns
    obtain ⟨g, rfl⟩ : ∃ g, fuel = g + 1 := ⟨fuel - 1, by omega⟩
    have hp : 6 * k + i < 12 := by omega
    obtain ⟨s1, x, hx, ex⟩ := hs (6 * k + i) hp
    have nx : N 104 (6 * k + i) = nI x := by rw [ns _ hp, s1, ex]
    rw [f_X8_buy_l27, f_X9_buy_l29, if_neg (show ¬ (6 : Int32) ≤ nI i from nI_ge (b := 6) (by omega) (by omega)), if_neg (show ¬ (6 : Int32) ≤ nI i from nI_ge (b := 6) (by omega) (by omega)), show (6 : Int32) = nI 6 from rfl, pk_mul, pk_mul, Nat.mul_comm k 6, nI_add, inb_nI hp (by omega), nI_clamp (show 6 * k + i < 2 ^ 31 by omega), ck_true, nx, nIp, within_eq, Option.bind_some]
    dsimp only
    unfold f_X3_seek
    rw [if_neg (show ¬ nI (6 * k + i) < 0 from nI_pos (by omega)), if_neg (show ¬ (12 : Int32) ≤ nI (6 * k + i) from nI_ge (b := 12) hp (by omega)), inb_nI hp (by omega), nI_clamp (show 6 * k + i < 2 ^ 31 by omega), ck_true, mcp_in hp, kc 2 (by omega), ex, nIp, ← bd_min (show x + 1 ≤ 1000 by omega)]
    have kc1 : KC Mc (mu (mcp M 2 0 47 0 12) 47 (6 * k + i) (bd (nI (x + 1)))) := fun q hq => (mun (by omega)).trans (kc47 kc q hq)
    have kn1 : KM6 Mm (mu N 104 (6 * k + i) (bd (nI (x + 1)))) := kn.on (Or.inl rfl) (fun q hq => mun hq)
    obtain ⟨M1, N1, l, a1, a2, a3, a4, a5, a6, a7, a8, _⟩ := seekA (bar := 99) hT hm1 hm2 hm6 nobar kc1 kn1 (st := fun j => if j = 6 * k + i then bd (nI (x + 1)) else Mc 2 j) (fun j hj => by
      by_cases e : j = 6 * k + i
      · rw [e, mu_at, if_pos rfl]
      · rw [mu_o e, mcp_in hj, kc 2 (by omega), if_neg e]) (fun j hj => by
      by_cases e : j = 6 * k + i
      · rw [e, mu_at, if_pos rfl]
      · rw [mu_o e, ns j hj, (hs j hj).1, if_neg e])
    rw [a1, a2, Option.bind_some, Option.bind_some, (mst_of a8).2.1, a7]
    unfold f_X8_buy_b66 f_X8_buy_b78 f_X9_buy_b106 f_X9_buy_b115
    rw [mun (show 100 ≠ 104 by omega), (mst_of a8).2.1, a7, nIp]
    have kn2 : KM6 Mm (mu N1 104 (6 * k + i) (nI x)) := a4.on (Or.inl rfl) (fun q hq => mun hq)
    have ns1 : ∀ j, j < 12 → mu N1 104 (6 * k + i) (nI x) 104 j = Mm 104 j := fun j hj => by
      by_cases e : j = 6 * k + i
      · rw [e, mu_at, s1, ex]
      · rw [mu_o e, a5 j hj, mu_o e, ns j hj]
    by_cases c1 : v3 = -1
    · rw [if_pos c1, if_pos c1]
      exact ih (i + 1) g _ _ M1 _ (by omega) (by omega) a3 kn2 ns1
    · rw [if_neg c1, if_neg c1]
      by_cases c2 : vv 0 l ≤ v4
      · rw [if_pos c2, if_pos c2]
        exact ih (i + 1) g _ _ M1 _ (by omega) (by omega) a3 kn2 ns1
      · rw [if_neg c2, if_neg c2]
        exact ih (i + 1) g _ _ M1 _ (by omega) (by omega) a3 kn2 ns1
theorem buy_op {Mc Mm : Mem} (h : Inv Mc Mm) (v1 v2 : Int32) : OpI (f_X8_buy v1 v2) (f_X9_buy v1 v2) Mc Mm := by
  obtain ⟨many, txt, hN⟩ := id h
  have hN : InvN many txt Mc Mm := hN
  obtain ⟨hs0, hm1, hm2, hm6, _⟩ := id hN.1
  obtain ⟨T, hT⟩ := getT hN
  unfold OpI f_X8_buy f_X9_buy
  rw [hasK, isK, Option.bind_some, Option.bind_some]
  dsimp only
  cases g0 : inR v1 2 with
  | false => rw [if_pos (show zI false = 0 from rfl), if_pos (show zI false = 0 from rfl)]; exact ⟨_, _, _, rfl, rfl, h⟩
  | true =>
    rw [if_neg (show ¬ zI true = 0 by decide), if_neg (show ¬ zI true = 0 by decide), inC3 (b := 1) (n := 2) (by decide), show (1 : Int64) = (1 : Int32).toInt64 from rfl, inM (n := 2) (by decide), Option.bind_some]
    dsimp only
    cases g1 : inR v2 2 with
    | false => rw [ft, if_pos (show zI false = 0 from rfl)]; exact ⟨_, _, _, rfl, rfl, h⟩
    | true =>
      rw [tt, if_neg (show ¬ zI true = 0 by decide)]
      obtain ⟨k, hk, rfl⟩ := inR_of g0 (by omega)
      obtain ⟨r, M1, N1, a1, a2, a3, a4, a5⟩ := buyLoop hk hT hm1 hm2 hm6 hs0.1 v2 6 0 FU (-1) 0 Mc Mm (by omega) (by have := FU_ge; omega) (KC.refl Mc) (KM6.refl Mm) (fun _ _ => rfl)
      exact ⟨r, M1, N1, a1, a2, (hN.sc a3 (a4.km a5)).i⟩
theorem share_op {Mc Mm : Mem} (h : Inv Mc Mm) (v1 : Int32) : OpL (f_X8_share v1) (f_X9_share v1) Mc Mm := by
  obtain ⟨many, txt, hN⟩ := id h
  have hN : InvN many txt Mc Mm := hN
  obtain ⟨hs0, hm1, hm2, hm6, _⟩ := id hN.1
  obtain ⟨T, hT⟩ := getT hN
  unfold OpL f_X8_share f_X9_share
  rw [inC3 (b := 1) (n := 2) (by decide), show (1 : Int64) = (1 : Int32).toInt64 from rfl, inM (n := 2) (by decide), Option.bind_some]
  dsimp only
  cases g1 : inR v1 2 with
  | false => rw [ft, if_pos (show zI false = 0 from rfl)]; exact ⟨_, _, _, rfl, rfl, h⟩
  | true =>
    rw [tt, if_neg (show ¬ zI true = 0 by decide), seekm1]
    obtain ⟨y, hy, rfl⟩ := inR_of g1 (by omega)
    obtain ⟨M1, N1, l, a1, a2, a3, a4, a5, a6, a7, a8, gl, pl⟩ := seekA (bar := 99) hT hm1 hm2 hm6 nobar (kc47 (KC.refl Mc)) (KM6.refl Mm) (st := Mc 2) (fun j hj => mcp_in hj) (fun j hj => (hs0.1 j hj).1)
    obtain ⟨m1, m2, m3, m4, m5⟩ := mst_of a8
    rw [a1, a2, Option.bind_some, Option.bind_some, a6, m3, m4]
    unfold f_X4_play
    have eb : f_X4_begin M1 = some (mu (mu (mu (mu (mcp M1 2 0 44 0 12) 43 3 0) 43 4 0) 43 5 0) 43 6 (-1)) := rfl
    rw [eb, Option.bind_some]
    have z3 : mu (mu (mu (mu (mcp M1 2 0 44 0 12) 43 3 0) 43 4 0) 43 5 0) 43 6 (-1) 43 3 = 0 := by rw [mu_o (by omega), mu_o (by omega), mu_o (by omega), mu_at]
    have z4 : mu (mu (mu (mu (mcp M1 2 0 44 0 12) 43 3 0) 43 4 0) 43 5 0) 43 6 (-1) 43 4 = 0 := by rw [mu_o (by omega), mu_o (by omega), mu_at]
    have z6 : mu (mu (mu (mu (mcp M1 2 0 44 0 12) 43 3 0) 43 4 0) 43 5 0) 43 6 (-1) 43 6 = -1 := mu_at
    have z44 : ∀ j, j < 12 → mu (mu (mu (mu (mcp M1 2 0 44 0 12) 43 3 0) 43 4 0) 43 5 0) 43 6 (-1) 44 j = Mc 2 j := fun j hj => by
      rw [mun (by omega), mun (by omega), mun (by omega), mun (by omega), mcp_in hj, a3 2 (by omega)]
    have kb : KC Mc (mu (mu (mu (mu (mcp M1 2 0 44 0 12) 43 3 0) 43 4 0) 43 5 0) 43 6 (-1)) := fun q hq => by rw [mun (by omega), mun (by omega), mun (by omega), mun (by omega), mcp_o (by omega)]; exact a3 q hq
    generalize mu (mu (mu (mu (mcp M1 2 0 44 0 12) 43 3 0) 43 4 0) 43 5 0) 43 6 (-1) = M2 at z3 z4 z6 z44 kb
    obtain ⟨M3, c1, c2, c3, c4⟩ := pth_play (T := T) hm1 hm6 (fun d hd => (hT d hd).2.1) many 0 FU M2 (Mc 2) 0 0 0 0 0 0 l (by omega) (by have := FU_ge; omega) gl.1 pl kb z3 z4 z6 z44
    rw [show f_X4_play_l6 FU (nI l.1) 0 M2 = some M3 from c1, Option.bind_some, c3, c4]
    have fin : Inv M3 N1 := (hN.sc c2 (a4.km a5)).i
    obtain ⟨_, g6, ⟨f, hf, ef⟩, ⟨f0, hf0, ef0⟩, _⟩ := gl
    rw [ef, ef0]
    by_cases c0 : f = 0
    · subst c0
      rw [if_pos (show nI 0 = 0 from rfl)]
      unfold f_X8_lowestTerms
      obtain ⟨g, hg⟩ : ∃ g, FU = g + 1 := ⟨FU - 1, by have := FU_ge; omega⟩
      rw [hg, f_X8_lowestTerms_l8, if_neg (show ¬ (64 : Int32) ≤ 0 by decide), if_pos (show nI 0 = 0 from rfl)]
      unfold f_X8_lowestTerms_b39
      rw [if_pos (show nI 0 = 0 from rfl), Option.bind_some]
      exact ⟨_, _, _, rfl, rfl, fin⟩
    · rw [if_neg (nI_ne0 (by omega) (by omega)), nI_l (show f0 < 2 ^ 31 by omega), nI_l (show f < 2 ^ 31 by omega)]
      obtain ⟨r, e1, e2⟩ := lowBoth (a := f0) (b := f) (by omega) (by omega) hy M3 N1
      rw [e1, e2, Option.bind_some, Option.bind_some]
      exact ⟨_, _, _, rfl, rfl, fin⟩
