/-! CELL, FILM -/
theorem InvN.item {many txt s j : Nat} {Mc Mm : Mem} {x : Int32} (h : InvN many txt Mc Mm) (hs : s < 4) (hj : j < 40) : InvN many txt (mu Mc (55 + 2 * s + 1) j x) (mu Mm 117 (40 * s + j) x) := by
  refine h.sheet (fun q hq => mun (by omega)) (fun q hq => mun (by omega)) (fun s2 hs2 => ?_)
  have := h.2.2.2.2 s2 hs2
  unfold ShI at this ⊢
  rw [mun (show 55 + 2 * s2 ≠ 55 + 2 * s + 1 by omega), mun (show 114 ≠ 117 by omega), mun (show 115 ≠ 117 by omega), mun (show 116 ≠ 117 by omega)]
  rcases this with t | ⟨so2, z2, t1, t2, t3, t4, t5, t6, t7, t8⟩
  · exact Or.inl t
  · refine Or.inr ⟨so2, z2, t1, t2, t3, t4, t5, t6, t7, fun i hi => ?_⟩
    by_cases e : s2 = s ∧ i = j
    · obtain ⟨rfl, rfl⟩ := e
      rw [show 56 + 2 * s2 = 55 + 2 * s2 + 1 by omega, mu_at, mu_at]
    · by_cases es : s2 = s
      · subst es
        rw [show 56 + 2 * s2 = 55 + 2 * s2 + 1 by omega, mu_o (by omega), mu_o (by omega), ← show 56 + 2 * s2 = 55 + 2 * s2 + 1 by omega]
        exact t8 i hi
      · rw [mun (by omega), mu_o (by omega)]
        exact t8 i hi
theorem miss_eq {s : Nat} (hs : s < 4) {M : Mem} : (M (55 + 2 * s) 0 = -1 → f_X6_isMissing (55 + 2 * s) M = some (1, M)) ∧ (M (55 + 2 * s) 0 ≠ -1 → f_X6_isMissing (55 + 2 * s) M = some (0, M)) := by
  unfold f_X6_isMissing
  rw [(sh_kd s hs).1]
  exact ⟨fun h => by rw [if_pos h]; rfl, fun h => by rw [if_neg h]; rfl⟩
theorem item_eq {s z : Nat} (hs : s < 4) {M : Mem} (hz : z ≤ 40) (h1 : M (55 + 2 * s) 1 = nI z) (v : Int32) : f_X6_hasItem (55 + 2 * s) v M = some (zI (inR v z), M) := by
  unfold f_X6_hasItem
  rw [(sh_kd s hs).1]
  simp only [beq_self_eq_true, ck_true]
  rw [inC h1 (by omega)]
  cases inR v z <;> rfl
def cutI (so : Nat) (x : Int32) : Int32 := if so = 0 then x.toInt8.toInt32 else if so = 1 then x.toInt16.toInt32 else x
theorem put_eq {s so z j : Nat} (hs : s < 4) (hso : so < 3) {M : Mem} (hz : z ≤ 40) (h0 : M (55 + 2 * s) 0 = nI so) (h1 : M (55 + 2 * s) 1 = nI z) (hj : j < z) (x : Int32) : f_X6_put (55 + 2 * s) (nI j) x M = some (mu M (55 + 2 * s + 1) j (cutI so x)) := by
  obtain ⟨k1, k2, k3⟩ := sh_kd s hs
  unfold f_X6_put
  rw [item_eq hs hz h1, inR_nI hj (by omega)]
  simp only [Option.bind_some, zI_0]
  rw [bt, k1, k2, k3, inb_nI (show j < 40 by omega) (by omega), nI_clamp (by omega), h0]
  simp only [beq_self_eq_true, ck_true]
  unfold cutI
  have : so = 0 ∨ so = 1 ∨ so = 2 := by omega
  rcases this with rfl | rfl | rfl
  · rw [if_pos (by decide), if_pos rfl]
  · rw [if_neg (by decide), if_pos (by decide), if_neg (by decide), if_pos rfl]
  · rw [if_neg (by decide), if_neg (by decide), if_neg (by decide), if_neg (by decide)]
theorem nI_n1 {n : Nat} (h : n < 2 ^ 31) : nI n ≠ -1 := fun hx => nI_pos h (by rw [hx]; decide)
theorem cell_op {Mc Mm : Mem} (h : Inv Mc Mm) (v1 v2 v3 : Int32) : OpI (f_X8_cell v1 v2 v3) (f_X9_cell v1 v2 v3) Mc Mm := by
  obtain ⟨many, txt, hN⟩ := id h
  have hN : InvN many txt Mc Mm := hN
  unfold OpI f_X8_cell f_X9_cell
  rw [hasS, isS]
  simp only [Option.bind_some, zI_0]
  cases g1 : inR v1 4 with
  | false => rw [bf, bf]; exact ⟨_, _, _, rfl, rfl, h⟩
  | true =>
    rw [bt, bt]
    obtain ⟨s, hs, rfl⟩ := inR_of g1 (by omega)
    obtain ⟨k1, k2, k3⟩ := sh_kd s hs
    rw [inb_nI hs (by omega), nI_clamp (show s < 2 ^ 31 by omega), k1]
    simp only [ck_true, beq_self_eq_true]
    rcases hN.2.2.2.2 s hs with ⟨t1, t2⟩ | ⟨so, z, t1, t2, t3, t4, t5, t6, t7, t8⟩
    · rw [(miss_eq hs).1 t1, if_pos t2]
      exact ⟨_, _, _, rfl, rfl, h⟩
    · rw [(miss_eq hs).2 (by rw [t3]; exact nI_n1 (by omega)), if_neg (show ¬ Mm 114 s = 0 by rw [t7]; decide)]
      simp only [Option.bind_some]
      rw [if_pos True.intro, item_eq hs t2 t5, inM (n := z) (by rw [t6]; exact nI_prI (by omega))]
      simp only [Option.bind_some, zI_0]
      cases g2 : inR v2 z with
      | false => rw [bf, bf]; exact ⟨_, _, _, rfl, rfl, h⟩
      | true =>
        rw [bt, bt]
        obtain ⟨j, hj, rfl⟩ := inR_of g2 (by omega)
        rw [put_eq hs t1 t2 t3 t5 hj, t4, show (40 : Int32) = nI 40 from rfl, pk_mul, nI_add, inb_nI (show 40 * s + j < 160 by omega) (by omega), nI_clamp (show 40 * s + j < 2 ^ 31 by omega)]
        simp only [ck_true, Option.bind_some]
        have fin : ∀ x, InvN many txt (mu Mc (55 + 2 * s + 1) j x) (mu Mm 117 (40 * s + j) x) := fun x => hN.item hs (by omega)
        unfold cutI
        have : so = 0 ∨ so = 1 ∨ so = 2 := by omega
        rcases this with rfl | rfl | rfl
        · rw [if_pos rfl, if_pos (by decide)]
          exact ⟨_, _, _, rfl, rfl, (fin _).i⟩
        · rw [if_neg (by decide), if_pos rfl, if_neg (by decide), if_pos (by decide)]
          exact ⟨_, _, _, rfl, rfl, (fin _).i⟩
        · rw [if_neg (by decide), if_neg (by decide), if_neg (by decide), if_neg (by decide)]
          exact ⟨_, _, _, rfl, rfl, (fin _).i⟩
/-- what a dish is worth in a kitchen -/
def kW (t : Tk) (k : Nat) (st : Nat → Int32) : Int32 := if kCk t k st = true then kFed t k - kToll t k st else -1
theorem worthIn_eq {M : Mem} {d k : Nat} {t : Tk} (hd : d < 6) (hk : k < 2) (hT : TkM M d t) : ∃ M1 : Mem, f_X9_worthIn (nI d) (nI k) M = some (kW t k (M 104), M1) ∧ SmM M M1 := by
  unfold f_X9_worthIn kW
  obtain ⟨M1, a1, a2⟩ := isCookedM_eq hd hk hT
  rw [a1]
  simp only [Option.bind_some, zI_0]
  cases hc : kCk t k (M 104) with
  | false => rw [bf, ft]; exact ⟨M1, rfl, a2⟩
  | true =>
    rw [bt, tt]
    obtain ⟨M2, b1, b2⟩ := feedsOf_eq hd hk (hT.sm a2)
    obtain ⟨M3, c1, c2⟩ := tollOf_eq hd hk ((hT.sm a2).sm b2)
    rw [b1]
    simp only [Option.bind_some]
    rw [c1, b2.1 104 (by omega), a2.1 104 (by omega)]
    exact ⟨M3, rfl, (a2.trans b2).trans c2⟩
theorem Took.item {M : Mem} {t : Tk} {s j : Nat} {x : Int32} (h : Took M t) : Took (mu M (55 + 2 * s + 1) j x) t := h.keep (fun j hj => by rw [mun (by omega)]) (fun p hp _ => mun (by omega))
theorem filmStep {many txt s d k : Nat} {t : Tk} {Mc Mm : Mem} (hN : InvN many txt Mc Mm) (hs : s < 4) (hd : d < 6) (hk : k < 2) (hT : Took Mc t) (hM : TkM Mm d t) (h0 : Mc (55 + 2 * s) 0 = nI 2) (h1 : Mc (55 + 2 * s) 1 = nI 2) (f : Nat) (v : Int32) :
    ∃ (Mc1 Mm1 : Mem), f_X8_film_l52 (f + 1) (55 + 2 * s) v (nI k) Mc = f_X8_film_l52 f (55 + 2 * s) (v + zI (kCk t k (Mc 2))) (nI (k + 1)) Mc1 ∧ f_X9_film_l31 (f + 1) (nI s) (nI d) v (nI k) Mm = f_X9_film_l31 f (nI s) (nI d) (v + zI (kCk t k (Mc 2))) (nI (k + 1)) Mm1 ∧
      InvN many txt Mc1 Mm1 ∧ Took Mc1 t ∧ TkM Mm1 d t ∧ Mc1 (55 + 2 * s) 0 = nI 2 ∧ Mc1 (55 + 2 * s) 1 = nI 2 := by
  obtain ⟨k1, k2, k3⟩ := sh_kd s hs
  have hst : ∀ j, j < 12 → Mm 104 j = Mc 2 j := fun j hj => (hN.1.1.1 j hj).1
  obtain ⟨M2, y1, y2, y3, y4, y5, y6⟩ := isCooked_eq (t := t) (k := k) (q := 2) hk hT (Or.inl rfl)
  obtain ⟨N1, w1, w2⟩ := worthIn_eq hd hk hM
  have e0 : M2 (55 + 2 * s) 0 = nI 2 := by rw [y3 _ (by omega)]; exact h0
  have e1 : M2 (55 + 2 * s) 1 = nI 2 := by rw [y3 _ (by omega)]; exact h1
  have hN1 : InvN many txt M2 N1 := hN.sc y3.kc w2.km
  have hW : kW t k (Mm 104) = kW t k (Mc 2) := by unfold kW; rw [kCk_cg hk hst, kToll_cg hk hst]
  rw [hW] at w1
  have hM1 := hM.sm w2
  have hM2 : TkM (mu N1 117 (40 * s + k) (kW t k (Mc 2))) d t := hM1.keep (fun p hp => mun (by omega)) (by rw [mun (by omega)]) (by rw [mun (by omega)])
  obtain ⟨N2, u1, u2⟩ := isCookedM_eq hd hk hM2
  have n104 : ∀ j, j < 12 → mu N1 117 (40 * s + k) (kW t k (Mc 2)) 104 j = Mc 2 j := fun j hj => by rw [mun (by omega), w2.1 104 (by omega)]; exact hst j hj
  rw [kCk_cg hk n104] at u1
  have hN2 := (hN1.item (x := kW t k (Mc 2)) hs (show k < 40 by omega)).sc (KC.refl _) u2.km
  have pe := put_eq (x := kW t k (Mc 2)) hs (show 2 < 3 by omega) (show 2 ≤ 40 by omega) e0 e1 hk
  have cut2 : cutI 2 (kW t k (Mc 2)) = kW t k (Mc 2) := rfl
  rw [cut2] at pe
  refine ⟨_, N2, ?_, ?_, hN2, y2.item, hM2.sm u2, ?_, ?_⟩
  · rw [f_X8_film_l52, if_neg (show ¬ (2 : Int32) ≤ nI k by rw [show (2 : Int32) = nI 2 from rfl, nIle (by omega) (by omega)]; omega), y1]
    simp only [Option.bind_some, zI_0]
    unfold f_X8_film_b95 f_X8_film_b110
    unfold kW at pe
    cases hc : kCk t k (Mc 2) with
    | false =>
      rw [hc] at pe
      rw [bf, show (-1 : Int32) = (if false = true then kFed t k - kToll t k (Mc 2) else -1) from rfl, pe, k1]
      simp only [Option.bind_some, beq_self_eq_true, ck_true, zI_0]
      rw [if_pos True.intro, nIp]
      unfold kW
      rw [hc]
      rfl
    | true =>
      rw [hc] at pe
      obtain ⟨f1, f2⟩ := y5 (kCk_can hc)
      rw [bt, worth_eq, f1, f2]
      simp only [Option.bind_some]
      rw [show kFed t k - kToll t k (Mc 2) = (if true = true then kFed t k - kToll t k (Mc 2) else -1) from rfl, pe, k1]
      simp only [Option.bind_some, beq_self_eq_true, ck_true, zI_0]
      first | rw [bt, nIp] | rw [if_neg (by decide), nIp]
      unfold kW
      rw [hc]
      rfl
  · rw [f_X9_film_l31, if_neg (show ¬ (2 : Int32) ≤ nI k by rw [show (2 : Int32) = nI 2 from rfl, nIle (by omega) (by omega)]; omega), w1, show (40 : Int32) = nI 40 from rfl, pk_mul, nI_add, inb_nI (show 40 * s + k < 160 by omega) (by omega), nI_clamp (show 40 * s + k < 2 ^ 31 by omega)]
    simp only [Option.bind_some, ck_true]
    rw [u1]
    simp only [Option.bind_some, zI_0]
    unfold f_X9_film_b72
    cases hc : kCk t k (Mc 2) with
    | false => rw [bf, nIp]; rfl
    | true => rw [bt, nIp]; rfl
  · rw [mun (by omega)]; exact e0
  · rw [mun (by omega)]; exact e1
theorem film_op {Mc Mm : Mem} (h : Inv Mc Mm) (v1 v2 : Int32) : OpI (f_X8_film v1 v2) (f_X9_film v1 v2) Mc Mm := by
  obtain ⟨many, txt, hN⟩ := id h
  have hN : InvN many txt Mc Mm := hN
  obtain ⟨_, hm1, hm2, hm6, _⟩ := id hN.1
  unfold OpI f_X8_film f_X9_film
  rw [hasS, isS]
  simp only [Option.bind_some, zI_0]
  cases g1 : inR v1 4 with
  | false => rw [bf, bf]; exact ⟨_, _, _, rfl, rfl, h⟩
  | true =>
    rw [bt, bt, hasD hm1 hm6, isD hm2 hm6]
    simp only [Option.bind_some, zI_0]
    cases g2 : inR v2 many with
    | false => rw [bf, bf]; exact ⟨_, _, _, rfl, rfl, h⟩
    | true =>
      rw [bt, bt]
      obtain ⟨s, hs, rfl⟩ := inR_of g1 (by omega)
      obtain ⟨d1, hd1, rfl⟩ := inR_of g2 (by omega)
      obtain ⟨k1, k2, k3⟩ := sh_kd s hs
      rw [inb_nI hs (by omega), nI_clamp (show s < 2 ^ 31 by omega), k1]
      simp only [ck_true, beq_self_eq_true]
      obtain ⟨C, D, b1, b2, b3, b4, b5, b6, b7⟩ := layBoth hN hs (show 2 < 3 by omega) (show 2 ≤ 40 by omega)
      have ms : f_X9_sheet (nI s) 2 2 Mm = some (1, D) := by
        unfold f_X9_sheet
        rw [isS, inR_nI hs (by omega)]
        simp only [Option.bind_some, zI_0]
        rw [bt, show (-1 : Int64) = (-1 : Int32).toInt64 from rfl, show (2 : Int64) = (2 : Int32).toInt64 from rfl, in_eq]
        simp only [Option.bind_some]
        rw [if_neg (by decide), if_neg (by decide), if_pos (by decide)]
        exact b2
      rw [show (2 : Int32) = nI 2 from rfl, b1, show f_X9_sheet (nI s) (nI 2) (nI 2) Mm = _ from ms]
      simp only [Option.bind_some]
      obtain ⟨t, tm, tc, _⟩ := tkBoth b3.1 b3.2.2.1 hd1
      obtain ⟨M1, x1, x2, x3⟩ := tc C (KC.refl C)
      rw [x1]
      simp only [Option.bind_some]
      have i1 : InvN many txt M1 D := b3.sc x3.kc (KM.refl D)
      obtain ⟨g, hg⟩ : ∃ g, FU = g + 3 := ⟨FU - 3, by have := FU_ge; omega⟩
      rw [hg]
      obtain ⟨P, Q, p1, p2, p3, p4, p5, p6, p7⟩ := filmStep (k := 0) i1 hs (by omega) (by omega) x2 tm (by rw [x3 _ (by omega)]; exact b6) (by rw [x3 _ (by omega)]; exact b7) (g + 2) 0
      obtain ⟨P2, Q2, r1, r2, r3, r4, r5, r6, r7⟩ := filmStep (k := 1) p3 hs (by omega) (by omega) p4 p5 p6 p7 (g + 1) (0 + zI (kCk t 0 (M1 2)))
      rw [show f_X8_film_l52 (g + 3) (55 + 2 * s) 0 0 M1 = _ from p1, show f_X9_film_l31 (g + 3) (nI s) (nI d1) 0 0 D = _ from p2, r1, r2, f_X8_film_l52, f_X9_film_l31, if_pos (by decide), if_pos (by decide)]
      exact ⟨_, _, _, rfl, rfl, r3.i⟩
