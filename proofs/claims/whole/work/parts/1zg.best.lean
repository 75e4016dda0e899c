/-! BEST, LEAVE, BUY, SHARE -/
def Tgood (Mc Mm : Mem) (many : Nat) (T : Nat → Tk) : Prop := ∀ d, d < many → (∀ N : Mem, KM6 Mm N → TkM N d (T d)) ∧ (∀ Mc2 : Mem, KC Mc Mc2 → ∃ M1 : Mem, f_X0_takeUp (nI d) Mc2 = some M1 ∧ Took M1 (T d) ∧ Sm Mc2 M1) ∧ B99 (tN (T d)) 9
theorem getT {many txt : Nat} {Mc Mm : Mem} (hN : InvN many txt Mc Mm) : ∃ T : Nat → Tk, Tgood Mc Mm many T := by
  have hx : ∀ d : Nat, ∃ t : Tk, d < many → (∀ N : Mem, KM6 Mm N → TkM N d t) ∧ (∀ Mc2 : Mem, KC Mc Mc2 → ∃ M1 : Mem, f_X0_takeUp (nI d) Mc2 = some M1 ∧ Took M1 t ∧ Sm Mc2 M1) ∧ B99 (tN t) 9 := by
    intro d
    by_cases hd : d < many
    · obtain ⟨t, tm, tc, _⟩ := tkBoth hN.1 hN.2.2.1 hd
      exact ⟨t, fun _ => ⟨fun N k => tm.keep (fun p hp => k.1 p (by omega) (by omega) (by omega)) (k.2 4 (by omega)) (k.2 7 (by omega)), tc, tm.2.2.2.2.2.2.1⟩⟩
    · exact ⟨(0, 0, 0, fun _ => 0, fun _ => 0, 0, fun _ _ => 0), fun h => absurd h hd⟩
  exact Classical.skolem.mp hx
theorem DP_ge : 6 < DP := by decide
theorem seek53 {many bar : Nat} {Mc Mm : Mem} {T : Nat → Tk} (hT : Tgood Mc Mm many T) (hm1 : Mc 1 6 = nI many) (hm6 : many ≤ 6) {v : Int32} (hb : ∀ e, e < 6 → (nI e = v ↔ e = bar)) {M : Mem} (kc : KC Mc M) {st : Nat → Int32} (hs : ∀ j, j < 12 → M 47 j = st j) :
    ∃ M1 : Mem, f_X3_seek_b53 v M = some M1 ∧ KC Mc M1 ∧ (M1 45 4, M1 45 5) = (lvs T bar many 0 st 0 0 0 0 0 0).foldl cA (0, 0) ∧ (M1 45 6, M1 45 7) = (lvs T bar many 0 st 0 0 0 0 0 0).foldl cB (0, 0) ∧ (M1 45 8, M1 45 9, M1 45 10) = (lvs T bar many 0 st 0 0 0 0 0 0).foldl cC (0, 0, 0) := by
  unfold f_X3_seek_b53
  generalize hM0 : mu (mu (mu (mu (mu (mu (mu (mu M 45 3 v) 45 4 0) 45 5 0) 45 6 0) 45 7 0) 45 8 0) 45 9 0) 45 10 0 = M0
  have o : ∀ q, q ≠ 45 → M0 q = M q := fun q h => by rw [← hM0, mun h, mun h, mun h, mun h, mun h, mun h, mun h, mun h]
  have e3 : M0 45 3 = v := by rw [← hM0, mu_o (by omega), mu_o (by omega), mu_o (by omega), mu_o (by omega), mu_o (by omega), mu_o (by omega), mu_o (by omega), mu_at]
  have e4 : M0 45 4 = 0 := by rw [← hM0, mu_o (by omega), mu_o (by omega), mu_o (by omega), mu_o (by omega), mu_o (by omega), mu_o (by omega), mu_at]
  have e5 : M0 45 5 = 0 := by rw [← hM0, mu_o (by omega), mu_o (by omega), mu_o (by omega), mu_o (by omega), mu_o (by omega), mu_at]
  have e6 : M0 45 6 = 0 := by rw [← hM0, mu_o (by omega), mu_o (by omega), mu_o (by omega), mu_o (by omega), mu_at]
  have e7 : M0 45 7 = 0 := by rw [← hM0, mu_o (by omega), mu_o (by omega), mu_o (by omega), mu_at]
  have e8 : M0 45 8 = 0 := by rw [← hM0, mu_o (by omega), mu_o (by omega), mu_at]
  have e9 : M0 45 9 = 0 := by rw [← hM0, mu_o (by omega), mu_at]
  have e10 : M0 45 10 = 0 := by rw [← hM0, mu_at]
  obtain ⟨M1, a1, a2, a3, a4, a5, a6, a7⟩ := goC (bar := bar) hm1 hm6 (fun d hd => (hT d hd).2.1) many 0 DP M0 st 0 0 0 0 0 0 (by omega) (by have := DP_ge; omega) (fun q hq => (o q (by omega)).trans (kc q hq)) (fun e he => by rw [e3]; exact hb e he) (fun j hj => by rw [o (47 + 0) (by omega)]; exact hs j hj)
  rw [show f_X3_goThrough DP 0 0 0 0 0 M0 = some M1 from a1]
  rw [e4, e5] at a5
  rw [e6, e7] at a6
  rw [e8, e9, e10] at a7
  exact ⟨M1, rfl, a2, a5, a6, a7⟩
theorem wv_0 (b : Nat) : wv b 0 0 0 = 0 := by
  unfold wv
  split
  · rfl
  · rfl
theorem bestM {many bar b : Nat} {Mc Mm : Mem} {T : Nat → Tk} (hb2 : b ≤ 2) (hT : Tgood Mc Mm many T) (hm2 : Mm 100 12 = nI many) (hm6 : many ≤ 6) {v : Int32} (hb : ∀ e, e < 6 → (nI e = v ↔ e = bar)) {N : Mem} (kn : KM6 Mm N) {st : Nat → Int32} (hs : ∀ j, j < 12 → N 104 j = st j) :
    ∃ N1 : Mem, f_X9_bestOf (nI b) v N = some N1 ∧ KM6 Mm N1 ∧ (∀ j, j < 12 → N1 104 j = N 104 j) ∧ ∃ c : Mst, c.1 = -1 ∧ mst N1 = (lvs T bar many 0 st 0 0 0 0 0 0).foldl (mstep b) c := by
  unfold f_X9_bestOf
  generalize hN0 : mu (mu N 100 32 (-1)) 100 37 v = N0
  have o : ∀ q, q ≠ 100 → N0 q = N q := fun q h => by rw [← hN0, mun h, mun h]
  have e37 : N0 100 37 = v := by rw [← hN0, mu_at]
  have e32 : N0 100 32 = -1 := by rw [← hN0, mu_o (by omega), mu_at]
  have k0 : KM6 Mm N0 := ⟨fun q a b c => (o q a).trans (kn.1 q a b c), fun j hj => by rw [← hN0, mu_o (by omega), mu_o (by omega)]; exact kn.2 j hj⟩
  obtain ⟨N1, a1, a2, a3, a4, a5, a6⟩ := goM (bar := bar) hb2 hm2 hm6 (fun d hd => (hT d hd).1) many 0 DP N0 st 0 0 0 0 0 0 (by omega) (by have := DP_ge; omega) k0 (fun e he => by rw [e37]; exact hb e he) (fun j hj => by rw [o 104 (by omega)]; exact hs j hj)
  rw [wv_0] at a1
  rw [show f_X9_menus DP (nI b) 0 0 0 0 0 0 N0 = some N1 from a1]
  exact ⟨N1, rfl, a2, fun j hj => by rw [a4 j hj, o 104 (by omega)], mst N0, e32, a6⟩
theorem nobar : ∀ e, e < 6 → (nI e = -1 ↔ e = 99) := fun e he => ⟨fun h => absurd h (nI_n1 (by omega)), fun h => by omega⟩
theorem mst_of {N : Mem} {b : Nat} {l : Lf} (h : mst N = mlay b l) : N 100 32 = nI l.1 ∧ N 100 33 = vv b l ∧ N 100 34 = l.2.2.1 ∧ N 100 35 = l.2.2.2.1 ∧ N 100 36 = l.2.2.2.2.2 :=
  ⟨congrArg (fun c : Mst => c.1) h, congrArg (fun c : Mst => c.2.1) h, congrArg (fun c : Mst => c.2.2.1) h, congrArg (fun c : Mst => c.2.2.2.1) h, congrArg (fun c : Mst => c.2.2.2.2) h⟩
theorem KM6.km {Mm N : Mem} (h : KM6 Mm N) (hs : ∀ j, j < 12 → N 104 j = Mm 104 j) : KM Mm N := ⟨fun q a b _ _ c => h.1 q a b c, hs, h.2⟩
theorem KM6.refl (Mm : Mem) : KM6 Mm Mm := ⟨fun _ _ _ _ => rfl, fun _ _ => rfl⟩
theorem subself (a t : Int32) : a - (a - t) = t := by
  rw [Int32.sub_eq_add_neg, Int32.sub_eq_add_neg, Int32.neg_add, Int32.sub_eq_add_neg, Int32.neg_neg, ← Int32.add_assoc, Int32.add_right_neg, Int32.zero_add]
theorem seekm1 (v : Int32) (M : Mem) : f_X3_seek v (-1) M = f_X3_seek_b53 v (mcp M 2 0 47 0 12) := by
  unfold f_X3_seek
  rw [if_pos (show (-1 : Int32) < 0 by decide)]
theorem kc47 {Mc M : Mem} (kc : KC Mc M) : KC Mc (mcp M 2 0 47 0 12) := fun q hq => (mcp_o (by omega)).trans (kc q hq)
theorem best_op {Mc Mm : Mem} (h : Inv Mc Mm) (v1 : Int32) : OpI (f_X8_best v1) (f_X9_best v1) Mc Mm := by
  obtain ⟨many, txt, hN⟩ := id h
  have hN : InvN many txt Mc Mm := hN
  obtain ⟨hs0, hm1, hm2, hm6, _⟩ := id hN.1
  obtain ⟨T, hT⟩ := getT hN
  unfold OpI f_X8_best f_X9_best
  rw [inC3 (b := 7) (n := 8) (by decide), show (7 : Int64) = (7 : Int32).toInt64 from rfl, inM (n := 8) (by decide), Option.bind_some]
  dsimp only
  cases g1 : inR v1 8 with
  | false => rw [ft, if_pos (show zI false = 0 from rfl)]; exact ⟨_, _, _, rfl, rfl, h⟩
  | true =>
    rw [tt, if_neg (show ¬ zI true = 0 by decide), seekm1]
    obtain ⟨y, hy, rfl⟩ := inR_of g1 (by omega)
    obtain ⟨M1, a1, a2, a3, a4, a5⟩ := seek53 (bar := 99) hT hm1 hm6 nobar (kc47 (KC.refl Mc)) (st := Mc 2) (fun j hj => mcp_in hj)
    obtain ⟨gd, hd⟩ := lvs_good (bar := 99) hm6 (fun d hd => (hT d hd).2.2) (Mc 2)
    have gL : ∀ l, l ∈ lvs T 99 many 0 (Mc 2) 0 0 0 0 0 0 → GoodL l := fun l hl => (gd l hl).1
    have bM := fun b (hb2 : b ≤ 2) => bestM (bar := 99) hb2 hT hm2 hm6 nobar (KM6.refl Mm) (fun j hj => (hs0.1 j hj).1)
    rw [a1, Option.bind_some]
    have fin : ∀ N1 : Mem, KM6 Mm N1 → (∀ j, j < 12 → N1 104 j = Mm 104 j) → Inv M1 N1 := fun N1 k6 k7 => (hN.sc a2 (k6.km k7)).i
    have cs : y = 0 ∨ y = 1 ∨ y = 2 ∨ y = 3 ∨ y = 4 ∨ y = 5 ∨ y = 6 ∨ y = 7 := by omega
    unfold f_X9_best_b28
    have dm : ∀ (N1 : Mem) (x : Nat), x < 10 ^ many → f_X9_dishesOf (nI x) N1 = some (nI (nz many x), N1) := fun N1 x hx => by
      have := dishesM (M := N1) many x 0 FU hx (by omega) (by have := FU_ge; omega)
      rw [Nat.zero_add] at this
      exact this
    rcases cs with rfl | rfl | rfl | rfl | rfl | rfl | rfl | rfl
    · obtain ⟨N1, b1, b2, b3, c, c1, c2⟩ := bM 0 (by omega)
      obtain ⟨l, l1, l2, l3⟩ := foldA gL hd c1
      obtain ⟨m1, m2, m3, m4, m5⟩ := mst_of (c2.trans l3)
      rw [l2] at a3
      rw [if_pos (show nI 0 = 0 from rfl), if_pos (show nI 0 < 2 by decide)]
      unfold f_X9_best_b42
      rw [show f_X9_bestOf 0 (-1) Mm = some N1 from b1, Option.bind_some, if_neg (show ¬ 4 ≤ nI 0 by decide), if_pos (show jrem (nI 0) 2 = 0 by decide), m1, show M1 45 4 = nI l.1 from congrArg Prod.fst a3]
      exact ⟨_, _, _, rfl, rfl, fin N1 b2 b3⟩
    · obtain ⟨N1, b1, b2, b3, c, c1, c2⟩ := bM 0 (by omega)
      obtain ⟨l, l1, l2, l3⟩ := foldA gL hd c1
      obtain ⟨m1, m2, m3, m4, m5⟩ := mst_of (c2.trans l3)
      rw [l2] at a3
      rw [if_neg (show ¬ nI 1 = 0 by decide), if_pos (show nI 1 = 1 from rfl), if_pos (show nI 1 < 2 by decide)]
      unfold f_X9_best_b42
      rw [show f_X9_bestOf 0 (-1) Mm = some N1 from b1, Option.bind_some, if_neg (show ¬ 4 ≤ nI 1 by decide), if_neg (show ¬ jrem (nI 1) 2 = 0 by decide), m2, show M1 45 5 = vv 0 l from congrArg Prod.snd a3]
      exact ⟨_, _, _, rfl, rfl, fin N1 b2 b3⟩
    · obtain ⟨N1, b1, b2, b3, c, c1, c2⟩ := bM 1 (by omega)
      obtain ⟨l, l1, l2, l3⟩ := foldB gL hd c1
      obtain ⟨m1, m2, m3, m4, m5⟩ := mst_of (c2.trans l3)
      rw [l2] at a4
      rw [if_neg (show ¬ nI 2 = 0 by decide), if_neg (show ¬ nI 2 = 1 by decide), if_pos (show nI 2 = 2 from rfl), if_neg (show ¬ nI 2 < 2 by decide), if_neg (show ¬ nI 2 = 7 by decide), if_neg (show ¬ 4 ≤ nI 2 by decide)]
      unfold f_X9_best_b42
      rw [show f_X9_bestOf 1 (-1) Mm = some N1 from b1, Option.bind_some, if_neg (show ¬ 4 ≤ nI 2 by decide), if_pos (show jrem (nI 2) 2 = 0 by decide), m1, show M1 45 6 = nI l.1 from congrArg Prod.fst a4]
      exact ⟨_, _, _, rfl, rfl, fin N1 b2 b3⟩
    · obtain ⟨N1, b1, b2, b3, c, c1, c2⟩ := bM 1 (by omega)
      obtain ⟨l, l1, l2, l3⟩ := foldB gL hd c1
      obtain ⟨m1, m2, m3, m4, m5⟩ := mst_of (c2.trans l3)
      rw [l2] at a4
      rw [if_neg (show ¬ nI 3 = 0 by decide), if_neg (show ¬ nI 3 = 1 by decide), if_neg (show ¬ nI 3 = 2 by decide), if_pos (show nI 3 = 3 from rfl), if_neg (show ¬ nI 3 < 2 by decide), if_neg (show ¬ nI 3 = 7 by decide), if_neg (show ¬ 4 ≤ nI 3 by decide)]
      unfold f_X9_best_b42
      rw [show f_X9_bestOf 1 (-1) Mm = some N1 from b1, Option.bind_some, if_neg (show ¬ 4 ≤ nI 3 by decide), if_neg (show ¬ jrem (nI 3) 2 = 0 by decide), m2, show M1 45 7 = vv 1 l from congrArg Prod.snd a4]
      exact ⟨_, _, _, rfl, rfl, fin N1 b2 b3⟩
    · obtain ⟨N1, b1, b2, b3, c, c1, c2⟩ := bM 2 (by omega)
      obtain ⟨l, l1, l2, l3⟩ := foldC gL hd c1
      obtain ⟨m1, m2, m3, m4, m5⟩ := mst_of (c2.trans l3)
      rw [l2] at a5
      rw [if_neg (show ¬ nI 4 = 0 by decide), if_neg (show ¬ nI 4 = 1 by decide), if_neg (show ¬ nI 4 = 2 by decide), if_neg (show ¬ nI 4 = 3 by decide), if_pos (show nI 4 = 4 from rfl), if_neg (show ¬ nI 4 < 2 by decide), if_neg (show ¬ nI 4 = 7 by decide), if_pos (show 4 ≤ nI 4 by decide)]
      unfold f_X9_best_b42
      rw [show f_X9_bestOf 2 (-1) Mm = some N1 from b1, Option.bind_some, if_pos (show 4 ≤ nI 4 by decide), m1, dm N1 l.1 (gd l l1).2.2.1, Option.bind_some]
      dsimp only
      rw [if_pos (show nI 4 = 4 from rfl), m1, show M1 45 8 = nI l.1 from congrArg Prod.fst a5]
      exact ⟨_, _, _, rfl, rfl, fin N1 b2 b3⟩
    · obtain ⟨N1, b1, b2, b3, c, c1, c2⟩ := bM 2 (by omega)
      obtain ⟨l, l1, l2, l3⟩ := foldC gL hd c1
      obtain ⟨m1, m2, m3, m4, m5⟩ := mst_of (c2.trans l3)
      rw [l2] at a5
      rw [if_neg (show ¬ nI 5 = 0 by decide), if_neg (show ¬ nI 5 = 1 by decide), if_neg (show ¬ nI 5 = 2 by decide), if_neg (show ¬ nI 5 = 3 by decide), if_neg (show ¬ nI 5 = 4 by decide), if_pos (show nI 5 = 5 from rfl), if_neg (show ¬ nI 5 < 2 by decide), if_neg (show ¬ nI 5 = 7 by decide), if_pos (show 4 ≤ nI 5 by decide)]
      unfold f_X9_best_b42
      rw [show f_X9_bestOf 2 (-1) Mm = some N1 from b1, Option.bind_some, if_pos (show 4 ≤ nI 5 by decide), m1, dm N1 l.1 (gd l l1).2.2.1, Option.bind_some]
      dsimp only
      have ev : (10000 : Int32) * nI (nz many l.1) - N1 100 33 = l.2.2.2.2.1 := by
        rw [m2, ← (gd l l1).2.2.2, show (10000 : Int32) = nI 10000 from rfl, pk_mul]
        exact subself _ _
      rw [if_neg (show ¬ nI 5 = 4 by decide), if_pos (show nI 5 = 5 from rfl), ev, show M1 45 9 = l.2.2.2.2.1 from congrArg (fun c : Int32 × Int32 × Int32 => c.2.1) a5]
      exact ⟨_, _, _, rfl, rfl, fin N1 b2 b3⟩
    · obtain ⟨N1, b1, b2, b3, c, c1, c2⟩ := bM 2 (by omega)
      obtain ⟨l, l1, l2, l3⟩ := foldC gL hd c1
      obtain ⟨m1, m2, m3, m4, m5⟩ := mst_of (c2.trans l3)
      rw [l2] at a5
      rw [if_neg (show ¬ nI 6 = 0 by decide), if_neg (show ¬ nI 6 = 1 by decide), if_neg (show ¬ nI 6 = 2 by decide), if_neg (show ¬ nI 6 = 3 by decide), if_neg (show ¬ nI 6 = 4 by decide), if_neg (show ¬ nI 6 = 5 by decide), if_pos (show nI 6 = 6 from rfl), if_neg (show ¬ nI 6 < 2 by decide), if_neg (show ¬ nI 6 = 7 by decide), if_pos (show 4 ≤ nI 6 by decide)]
      unfold f_X9_best_b42
      rw [show f_X9_bestOf 2 (-1) Mm = some N1 from b1, Option.bind_some, if_pos (show 4 ≤ nI 6 by decide), m1, dm N1 l.1 (gd l l1).2.2.1, Option.bind_some]
      dsimp only
      rw [if_neg (show ¬ nI 6 = 4 by decide), if_neg (show ¬ nI 6 = 5 by decide), if_pos (show nI 6 = 6 from rfl), ← (gd l l1).2.2.2, show M1 45 10 = nI l.2.1 from congrArg (fun c : Int32 × Int32 × Int32 => c.2.2) a5]
      exact ⟨_, _, _, rfl, rfl, fin N1 b2 b3⟩
    · obtain ⟨N1, b1, b2, b3, c, c1, c2⟩ := bM 0 (by omega)
      obtain ⟨l, l1, l2, l3⟩ := foldA gL hd c1
      obtain ⟨m1, m2, m3, m4, m5⟩ := mst_of (c2.trans l3)
      rw [l2] at a3
      rw [if_neg (show ¬ nI 7 = 0 by decide), if_neg (show ¬ nI 7 = 1 by decide), if_neg (show ¬ nI 7 = 2 by decide), if_neg (show ¬ nI 7 = 3 by decide), if_neg (show ¬ nI 7 = 4 by decide), if_neg (show ¬ nI 7 = 5 by decide), if_neg (show ¬ nI 7 = 6 by decide), if_neg (show ¬ nI 7 < 2 by decide), if_pos (show nI 7 = 7 from rfl)]
      unfold f_X9_best_b42
      rw [show f_X9_bestOf 0 (-1) Mm = some N1 from b1, Option.bind_some, if_pos (show 4 ≤ nI 7 by decide), m1, dm N1 l.1 (gd l l1).2.2.1, Option.bind_some]
      dsimp only
      rw [if_neg (show ¬ nI 7 = 4 by decide), if_neg (show ¬ nI 7 = 5 by decide), if_neg (show ¬ nI 7 = 6 by decide), m5, show M1 45 4 = nI l.1 from congrArg Prod.fst a3]
      have sd := pth_side (M := M1) (by rw [a2 1 (by omega)]; exact hm1) hm6 many 0 FU (Mc 2) 0 0 0 0 0 0 l (by omega) (by have := FU_ge; omega) (gd l l1).1.1 (gd l l1).2.1
      unfold f_X8_sideOf
      rw [show (f_X8_sideOf_l4 FU) (nI l.1) 0 0 M1 = _ from sd, Option.bind_some]
      exact ⟨_, _, _, rfl, rfl, fin N1 b2 b3⟩
