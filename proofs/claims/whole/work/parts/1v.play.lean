/-! PLAYING A MENU, both -/
def KM5 (Mm N : Mem) : Prop := (∀ q, q ≠ 100 → q ≠ 104 → N q = Mm q) ∧ ∀ j, (j < 13 ∨ 37 < j) → N 100 j = Mm 100 j
theorem KM5.tk {Mm N : Mem} {d : Nat} {t : Tk} (h : KM5 Mm N) (k : TkM Mm d t) : TkM N d t := k.keep (fun p hp => h.1 p (by omega) (by omega)) (h.2 4 (by omega)) (h.2 7 (by omega))
theorem KM5.sm {Mm N N1 : Mem} (h : KM5 Mm N) (k : SmM N N1) : KM5 Mm N1 := ⟨fun q a b => (k.1 q a).trans (h.1 q a b), fun j a => (k.2 j (by omega)).trans (h.2 j a)⟩
theorem KM5.mu {Mm N : Mem} (h : KM5 Mm N) {j : Nat} (hj : 13 ≤ j ∧ j ≤ 37) (x : Int32) : KM5 Mm (mu N 100 j x) := ⟨fun q a b => (mun a).trans (h.1 q a b), fun i a => (mu_o (by omega)).trans (h.2 i a)⟩
theorem TkM.mu {N : Mem} {d : Nat} {t : Tk} (k : TkM N d t) {j : Nat} (hj : 13 ≤ j ∧ j ≤ 37) (x : Int32) : TkM (mu N 100 j x) d t := k.keep (fun p hp => mun (by omega)) (mu_o (by omega)) (mu_o (by omega))
theorem kitC {M : Mem} {many x i : Nat} (hm1 : M 1 6 = nI many) (hm : many ≤ 6) (hx : x ≤ 999999) (hi : i < many) : f_X1_kitchenBy (nI x) (nI i) M = some (nI (Dg x (many - 1 - i)) - 1, M) := by
  unfold f_X1_kitchenBy
  rw [hm1, show (6 : Int32) = nI 6 from rfl, pk_sub hm, nI_add, inb_nI (show 6 - many + i < 6 by omega) (by omega), nI_clamp (by omega), pw_nz _ (by omega), digC hx (by omega), show 5 - (6 - many + i) = many - 1 - i by omega]
  rfl
/-- how both stand within a menu -/
def Ply (Mc0 Mm0 M N : Mem) : Prop := KC Mc0 M ∧ KM5 Mm0 N ∧ (∀ j, j < 12 → N 104 j = M 44 j ∧ B99 (M 44 j) 99) ∧ M 43 3 = N 100 30 ∧ M 43 5 = N 100 31 ∧ M 43 6 = -1
theorem playBoth {many txt x : Nat} {Mc0 Mm0 : Mem} (hN : InvN many txt Mc0 Mm0) (hx : x ≤ 999999) (hok : mOk many x) (h109 : ∀ i, i < many → Mm0 109 (many - 1 - i) = nI (Dg x i)) : ∀ m i fuel (M N : Mem), i + m = many → m + 1 < fuel → Ply Mc0 Mm0 M N →
    ∃ (M1 N1 : Mem) (r : Int32), f_X4_play_l6 fuel (nI x) (nI i) M = some M1 ∧ f_X9_cooksAll_l12 fuel (nI i) N = some (r, N1) ∧ KC Mc0 M1 ∧ KM5 Mm0 N1 ∧ M1 43 6 = r ∧ (r = -1 → Ply Mc0 Mm0 M1 N1) := by
  obtain ⟨_, hm1, hm2, hm6, _⟩ := id hN.1
  intro m
  induction m with
  | zero =>
    intro i fuel M N hi hf hP
    obtain ⟨f, rfl⟩ : ∃ f, fuel = f + 1 := ⟨fuel - 1, by omega⟩
    obtain ⟨p1, p2, p3, p4, p5, p6⟩ := id hP
    rw [f_X4_play_l6, f_X9_cooksAll_l12, p1 1 (by omega), p2.2 12 (by omega), hm1, hm2, if_pos (nI_le (by omega) (by omega)), if_pos (nI_le (by omega) (by omega))]
    exact ⟨M, N, -1, rfl, rfl, p1, p2, p6, fun _ => hP⟩
  | succ m ih =>
    intro i fuel M N hi hf hP
    obtain ⟨f, rfl⟩ : ∃ f, fuel = f + 1 := ⟨fuel - 1, by omega⟩
    obtain ⟨p1, p2, p3, p4, p5, p6⟩ := id hP
    have him : i < many := by omega
    have mM : M 1 6 = nI many := by rw [p1 1 (by omega)]; exact hm1
    have mN : N 100 12 = nI many := by rw [p2.2 12 (by omega)]; exact hm2
    have ch : N 109 i = nI (Dg x (many - 1 - i)) := by
      rw [p2.1 109 (by omega) (by omega)]
      have := h109 (many - 1 - i) (by omega)
      rwa [show many - 1 - (many - 1 - i) = i by omega] at this
    rw [f_X4_play_l6, f_X9_cooksAll_l12, mM, mN, if_neg (nI_ge him (by omega)), if_neg (nI_ge him (by omega)), if_pos p6, kitC mM hm6 hx him, inb_nI (show i < 6 by omega) (by omega), nI_clamp (show i < 2 ^ 31 by omega), ch]
    simp only [ck_true, Option.bind_some]
    have hdg := hok.1 (many - 1 - i) (by omega)
    generalize Dg x (many - 1 - i) = g at hdg
    unfold f_X4_play_b54 f_X9_cooksAll_b80
    by_cases g0 : g = 0
    · subst g0
      rw [if_pos (show nI 0 - 1 = -1 by decide), if_pos (show nI 0 - 1 < 0 by decide), nIp]
      exact ih (i + 1) f M N (by omega) (by omega) hP
    · obtain ⟨k, hk, rfl⟩ : ∃ k, k < 2 ∧ g = k + 1 := ⟨g - 1, by omega, by omega⟩
      rw [nIm (by omega), Nat.add_sub_cancel, if_neg (nI_n1 (by omega)), if_neg (show ¬ nI k < 0 from nI_pos (by omega))]
      obtain ⟨t, tm, tc, bb, hb⟩ := tkBoth hN.1 hN.2.2.1 him
      obtain ⟨M1, a1, a2, a3, a4⟩ := goOnC hk tc p1
      have tN := p2.tk tm
      obtain ⟨N1, b1, b2⟩ := isCookedM_eq (show i < 6 by omega) hk tN
      have hst : ∀ j, j < 12 → N 104 j = M 44 j := fun j hj => (p3 j hj).1
      rw [kCk_cg hk hst] at b1
      rw [a1, b1]
      simp only [Option.bind_some, zI_0]
      cases hc : kCk t k (M 44) with
      | false =>
        obtain ⟨c1, c2⟩ := a3 hc
        rw [bf, bf]
        obtain ⟨f2, rfl⟩ : ∃ f2, f = f2 + 1 := ⟨f - 1, by omega⟩
        refine ⟨mu M1 43 6 (nI i), N1, nI i, ?_, rfl, fun q hq => (mun (by omega)).trans (a2 q hq), p2.sm b2, mu_at, fun h => absurd h (nI_n1 (by omega))⟩
        rw [f_X4_play_l6, mu_at, if_neg (nI_n1 (by omega))]
        split <;> rfl
      | true =>
        obtain ⟨c1, c2, c3, c4, c5⟩ := a4 hc
        rw [bt, bt]
        have tN1 := tN.sm b2
        obtain ⟨N2, d1, d2⟩ := feedsOf_eq (show i < 6 by omega) hk tN1
        have tN2 := (tN1.sm d2).mu (j := 30) (by omega) (N1 100 30 + kFed t k)
        obtain ⟨N3, e1, e2⟩ := tollOf_eq (show i < 6 by omega) hk tN2
        have tN3 := (tN2.sm e2).mu (j := 31) (by omega) (N2 100 31 + kToll t k (mu N2 100 30 (N1 100 30 + kFed t k) 104))
        obtain ⟨N4, u1, u2, u3⟩ := uses_eq (show i < 6 by omega) hk tN3
        rw [d1]
        simp only [Option.bind_some]
        rw [e1]
        simp only [Option.bind_some]
        rw [u1]
        simp only [Option.bind_some]
        rw [nIp]
        have n2 : N2 104 = N 104 := by rw [d2.1 104 (by omega), b2.1 104 (by omega)]
        have n3 : N3 104 = N 104 := by rw [e2.1 104 (by omega), mun (by omega), n2]
        have k4 : KM5 Mm0 N4 := by
          have w := ((((p2.sm b2).sm d2).mu (j := 30) (by omega) (N1 100 30 + kFed t k)).sm e2).mu (j := 31) (by omega) (N2 100 31 + kToll t k (mu N2 100 30 (N1 100 30 + kFed t k) 104))
          exact ⟨fun q x y => (u3 q y).trans (w.1 q x y), fun j x => by rw [u3 100 (by omega)]; exact w.2 j x⟩
        refine ih (i + 1) f M1 N4 (by omega) (by omega) ⟨a2, k4, fun j hj => ?_, ?_, ?_, by rw [c4]; exact p6⟩
        · rw [u2 j hj, c5 j hj, mun (by omega), n3]
          exact ⟨kUse_cg hk hst j hj, kUse_B hb (fun j hj => (p3 j hj).2) hk (kCk_can hc) j hj⟩
        · rw [c1, u3 100 (by omega), mu_o (by omega), e2.2 30 (by omega), mu_at, b2.2 30 (by omega), p4]
        · rw [c3, u3 100 (by omega), mu_at, d2.2 31 (by omega), b2.2 31 (by omega), p5, mun (by omega), n2, kToll_cg hk hst]
theorem Ply.start {many txt : Nat} {Mc Mm : Mem} (hN : InvN many txt Mc Mm) : ∃ M : Mem, f_X4_begin Mc = some M ∧ KC Mc M ∧ Ply Mc Mm M (mu (mu Mm 100 30 0) 100 31 0) := by
  refine ⟨_, rfl, ?_, ?_, ⟨fun q x y => by rw [mun x, mun x], fun j x => by rw [mu_o (by omega), mu_o (by omega)]⟩, fun j hj => ?_, ?_, ?_, mu_at⟩
  · intro q hq; rw [mun (by omega), mun (by omega), mun (by omega), mun (by omega), mcp_o (by omega)]
  · intro q hq; rw [mun (by omega), mun (by omega), mun (by omega), mun (by omega), mcp_o (by omega)]
  · rw [mun (by omega), mun (by omega), mun (by omega), mun (by omega), mun (by omega), mun (by omega), mcp_in hj]
    exact hN.1.1.1 j hj
  · rw [mu_o (by omega), mu_o (by omega), mu_o (by omega), mu_at, mu_o (by omega), mu_at]
  · rw [mu_o (by omega), mu_at, mu_at]
/-- a whole menu, the reference's stores laid aside -/
theorem playAll {many txt x : Nat} {Mc Mm : Mem} (hN : InvN many txt Mc Mm) (hx : x ≤ 999999) (hok : mOk many x) (h109 : ∀ i, i < many → Mm 109 (many - 1 - i) = nI (Dg x i)) :
    ∃ (M1 N0 N1 : Mem) (r : Int32), f_X4_play (nI x) Mc = some M1 ∧ f_X9_laysAside Mm = some N0 ∧ f_X9_cooksAll N0 = some (r, N1) ∧ KC Mc M1 ∧ (∀ q, q ≠ 100 → q ≠ 104 → q ≠ 108 → N1 q = Mm q) ∧ (∀ j, (j < 13 ∨ 37 < j) → N1 100 j = Mm 100 j) ∧ (∀ j, j < 12 → N1 108 j = Mm 104 j) ∧ M1 43 6 = r ∧
      (r = -1 → (∀ j, j < 12 → N1 104 j = M1 44 j ∧ B99 (M1 44 j) 99) ∧ M1 43 3 = N1 100 30 ∧ M1 43 5 = N1 100 31) := by
  obtain ⟨N0, a1, a2, a3⟩ := aside_l (M := Mm)
  have hN0 : InvN many txt Mc N0 := hN.sc (KC.refl Mc) ⟨fun q _ _ h _ _ => a2 q h, fun j _ => by rw [a2 104 (by omega)], fun j _ => by rw [a2 100 (by omega)]⟩
  obtain ⟨M, b1, b2, b3⟩ := Ply.start hN0
  obtain ⟨M1, N1, r, c1, c2, c3, c4, c5, c6⟩ := playBoth hN0 hx hok (fun i hi => by rw [a2 109 (by omega)]; exact h109 i hi) many 0 FU M _ (by omega) (by have := FU_ge; have := hN.1.2.2.2.1; omega) b3
  refine ⟨M1, N0, N1, r, ?_, a1, c2, c3, fun q x y z => (c4.1 q x y).trans (a2 q z), fun j x => by rw [c4.2 j x, a2 100 (by omega)], fun j hj => by rw [c4.1 108 (by omega) (by omega)]; exact a3 j hj, c5, fun h => ?_⟩
  · unfold f_X4_play
    rw [b1]
    exact c1
  · obtain ⟨_, _, d3, d4, d5, _⟩ := c6 h
    exact ⟨d3, d4, d5⟩
theorem menu_op {Mc Mm : Mem} (h : Inv Mc Mm) (v1 v2 : Int32) : OpI (f_X8_menu v1 v2) (f_X9_menu v1 v2) Mc Mm := by
  obtain ⟨many, txt, hN⟩ := id h
  have hN : InvN many txt Mc Mm := hN
  unfold OpI f_X8_menu f_X9_menu
  obtain ⟨Mm1, m1, m2⟩ := isMenuBoth hN.1 v1
  have km1 : KM Mm Mm1 := ⟨fun q _ _ _ hq _ => m1 q hq, fun j _ => by rw [m1 104 (by omega)], fun j _ => by rw [m1 100 (by omega)]⟩
  rcases m2 with ⟨e1, e2⟩ | ⟨x, hx, rfl, hok, e1, e2, e3⟩
  · rw [e1, e2]
    simp only [Option.bind_some]
    rw [if_pos True.intro, if_pos True.intro]
    exact ⟨_, _, _, rfl, rfl, h.sc (KC.refl Mc) km1⟩
  · rw [e1, e2]
    simp only [Option.bind_some]
    rw [if_neg (show ¬ (1 : Int32) = 0 by decide), if_neg (show ¬ (1 : Int32) = 0 by decide), inC3 (b := 4) (n := 5) (by decide), show (4 : Int64) = (4 : Int32).toInt64 from rfl, inM (n := 5) (by decide)]
    simp only [Option.bind_some, zI_0]
    cases g1 : inR v2 5 with
    | false => rw [bf, ft]; exact ⟨_, _, _, rfl, rfl, h.sc (KC.refl Mc) km1⟩
    | true =>
      rw [bt, tt]
      obtain ⟨M1, N0, N1, r, a1, a2, a3, a4, a5, a6, a7, a8, a9⟩ := playAll (hN.sc (KC.refl Mc) km1) hx hok e3
      obtain ⟨N2, b1, b2, b3⟩ := laysBack_l (M := N1)
      rw [a1, a2]
      simp only [Option.bind_some]
      rw [a3]
      simp only [Option.bind_some]
      rw [b1]
      simp only [Option.bind_some]
      have km2 : KM Mm N2 := km1.tr ⟨fun q x y z u w => (b2 q y).trans (a5 q x y z), fun j hj => by rw [b3 j hj]; exact a7 j hj, fun j hj => by rw [b2 100 (by omega)]; exact a6 j hj⟩
      have n100 : N2 100 = N1 100 := b2 100 (by omega)
      have fin := h.sc a4 km2
      obtain ⟨y, hy, rfl⟩ := inR_of g1 (by omega)
      rw [a8, n100]
      unfold f_X8_menu_b44 f_X9_menu_b45
      have cs : y = 0 ∨ y = 1 ∨ y = 2 ∨ y = 3 ∨ y = 4 := by omega
      by_cases hr : r = -1
      · obtain ⟨f1, f2, f3⟩ := a9 hr
        simp only [if_pos hr]
        rcases cs with rfl | rfl | rfl | rfl | rfl
        · rw [if_pos (by decide), if_neg (by decide), if_pos (by decide), if_neg (by decide)]; exact ⟨_, _, _, rfl, rfl, fin⟩
        · rw [if_neg (by decide), if_pos (by decide), if_neg (by decide), if_neg (by decide), if_neg (by decide), if_pos (by decide), f2, f3]; exact ⟨_, _, _, rfl, rfl, fin⟩
        · rw [if_neg (by decide), if_neg (by decide), if_pos (by decide), if_neg (by decide), if_neg (by decide), if_neg (by decide), if_neg (by decide), if_pos (by decide), f2]; exact ⟨_, _, _, rfl, rfl, fin⟩
        · rw [if_neg (by decide), if_neg (by decide), if_neg (by decide), if_pos (by decide), if_neg (by decide), if_neg (by decide), if_neg (by decide), if_neg (by decide), if_neg (by decide), f3]; exact ⟨_, _, _, rfl, rfl, fin⟩
        · rw [if_neg (by decide), if_neg (by decide), if_neg (by decide), if_neg (by decide), if_neg (by decide), if_pos (by decide), if_pos (by decide), a8]; exact ⟨_, _, _, rfl, rfl, fin⟩
      · simp only [if_neg hr]
        rcases cs with rfl | rfl | rfl | rfl | rfl
        · rw [if_pos (by decide), if_pos (by decide), if_pos (by decide), if_neg (by decide)]; exact ⟨_, _, _, rfl, rfl, fin⟩
        · rw [if_neg (by decide), if_pos (by decide), if_pos (by decide), if_neg (by decide), if_neg (by decide)]; exact ⟨_, _, _, rfl, rfl, fin⟩
        · rw [if_neg (by decide), if_neg (by decide), if_pos (by decide), if_pos (by decide), if_neg (by decide), if_neg (by decide)]; exact ⟨_, _, _, rfl, rfl, fin⟩
        · rw [if_neg (by decide), if_neg (by decide), if_neg (by decide), if_pos (by decide), if_pos (by decide), if_neg (by decide), if_neg (by decide)]; exact ⟨_, _, _, rfl, rfl, fin⟩
        · rw [if_neg (by decide), if_neg (by decide), if_neg (by decide), if_neg (by decide), if_neg (by decide), if_pos (by decide), if_pos (by decide), a8]; exact ⟨_, _, _, rfl, rfl, fin⟩
