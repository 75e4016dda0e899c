/-! TELLS, the call -/
theorem gB {Mc Mm : Mem} {many txt d s n as w p k : Nat} {Tv : Nat → Tk} {so ofv : Int32} (hN : InvN many txt Mc Mm) (hs : s < 4) (hd : d < many) (has : as < 7) (hn : n ≤ 100) (hi : Mm 117 (40 * s) = Mc (56 + 2 * s) 0 ∧ Mm 117 (40 * s + 1) = Mc (56 + 2 * s) 1) (hp : p ≠ 100 ∨ k < 13) (hp1 : p ≠ 104) (hp2 : p ≠ 117)
    (hC : ∀ v, v < n → ∀ M : Mem, KC Mc M → ∃ M1 M2 : Mem, f_X0_takeUp (if as = 6 then nI v else nI d) M = some M1 ∧ f_X0_suppose (nI as) (nI v) M1 = some M2 ∧ Took M2 (Tv v) ∧ Sm M M2)
    (hL : ∀ v, v < n → ∀ N : Mem, KQ p k Mm N → ∃ N1 : Mem, f_X9_lays so ofv (nI v) N = some N1 ∧ TkM N1 d (Tv v) ∧ KQ p k Mm N1) (hB : ∀ N : Mem, f_X9_lays so ofv (Mm p k) N = some (mu N p k (Mm p k))) (v3 : Int32) :
    ∃ (U R : Gs) (M1 N1 : Mem), f_X8_guess (nI as) (nI n) (nI w) (55 + 2 * s) (nI d) Mc = f_X8_guess_b105 (nI w) U.1 U.2.1 U.2.2 M1 ∧ (n ≤ 10 → R.1 = U.1) ∧ R.2.1 = U.2.1 ∧ R.2.2 = U.2.2 ∧
      f_X9_tells_b201 (nI s) (nI d) v3 so ofv (Mm p k) (nI n - 1) Mm = (if v3 = 3 then some (R.2.1, N1) else (if v3 = 5 then some (R.2.1, N1) else (if v3 = 4 then some (R.2.2, N1) else (if v3 = 6 then some (R.2.2, N1) else some (R.1, N1))))) ∧ Inv M1 N1 := by
  obtain ⟨hs0, hm1, hm2, hm6, _⟩ := id hN.1
  obtain ⟨M1, a1, a2⟩ := guessC (w := w) hs has hn hC n 0 FU Mc (by omega) (by unfold FU; omega) (KC.refl Mc)
  have k0 : KQ p k Mm Mm := fun _ _ _ _ => rfl
  obtain ⟨N1, b1, b2⟩ := guessM (was := Mm p k) (v3 := v3) (st := Mc 2) (a := Mc (56 + 2 * s) 0) (b := Mc (56 + 2 * s) 1) (KQ p k Mm) hs (show d < 6 by omega) hn (fun N N1 h1 h2 => h1.sm h2) (fun N h1 j hj => by rw [h1 104 j (by omega) (by omega)]; exact (hs0.1 j hj).1) (fun N h1 => ⟨(h1 117 _ (by omega) (by omega)).trans hi.1, (h1 117 _ (by omega) (by omega)).trans hi.2⟩) hL n 0 FU Mm (by omega) (by unfold FU; omega) k0
  obtain ⟨e1, e2, e3⟩ := updn (hitV Tv (Mc 2) (Mc (56 + 2 * s) 0) (Mc (56 + 2 * s) 1)) n (by omega) n 0 (by omega)
  refine ⟨_, gdn (hitV Tv (Mc 2) (Mc (56 + 2 * s) 0) (Mc (56 + 2 * s) 1)) n n, M1, mu N1 p k (Mm p k), a1, fun h10 => ?_, ?_, ?_, ?_, (hN.sc a2 (b2.back hp)).i⟩
  · rw [← e1 h10]
    exact (Int32.zero_or).symm
  · rw [← e2]
    exact (Int32.zero_add _).symm
  · rw [← e3]
    exact (if_pos rfl).symm
  · unfold f_X9_tells_b201
    rw [show f_X9_tells_l216 f_X9_tells_b274 FU (nI s) (nI d) v3 so ofv (Mm p k) 0 0 (-1) (nI n - 1) Mm = _ from b1]
    unfold f_X9_tells_b274
    rw [hB N1, Option.bind_some]
theorem isDn {Mm : Mem} {many d : Nat} (hm2 : Mm 100 12 = nI many) (hm6 : many ≤ 6) (hd : d < many) : f_X9_isDish (nI d) Mm = some (1, Mm) := by
  rw [isD hm2 hm6, inR_nI hd (by omega)]
  rfl
theorem told_in {Mm : Mem} {k : Nat} (hk : k < 9) : f_X9_in (nI k).toInt64 0 8 Mm = some (1, Mm) := by
  rw [show (8 : Int64) = (8 : Int32).toInt64 from rfl, inM (n := 9) (by decide), inR_nI hk (by omega)]
  rfl
theorem toldM5 {Mm : Mem} {many d : Nat} (hm2 : Mm 100 12 = nI many) (hm6 : many ≤ 6) (hd : d < many) : f_X9_told (nI d) 5 Mm = some (Mm 106 d, Mm) := by
  unfold f_X9_told f_X9_isOf
  rw [show f_X9_in (5 : Int32).toInt64 0 8 Mm = some (1, Mm) from told_in (k := 5) (by omega), Option.bind_some, if_neg (show ¬ (1 : Int32) = 0 by decide), if_neg (show ¬ (5 : Int32) = 0 by decide), if_neg (show ¬ (5 : Int32) = 1 by decide), if_neg (show ¬ (5 : Int32) = 2 by decide), if_neg (show ¬ (5 : Int32) = 8 by decide), isDn hm2 hm6 hd, Option.bind_some]
  dsimp only
  rw [show zb 1 = true from rfl, ck_true, Option.bind_some]
  dsimp only
  rw [if_neg (show ¬ (1 : Int32) = 0 by decide), if_pos (show (3 : Int32) ≤ 5 by decide), if_neg (show ¬ (6 : Int32) ≤ 5 by decide), if_pos (show (5 : Int32) ≤ 5 by decide), inb_nI (show d < 6 by omega) (by omega), nI_clamp (show d < 2 ^ 31 by omega), ck_true]
theorem ix3 {d : Nat} (hd : d < 6) : ((3 : Int32) * nI d) + 3 - 3 = nI (3 * d) := by
  rw [show (3 : Int32) = nI 3 from rfl, pk_mul, nI_add, pk_sub (by omega), Nat.add_sub_cancel]
theorem toldM3 {Mm : Mem} {many d : Nat} (hm2 : Mm 100 12 = nI many) (hm6 : many ≤ 6) (hd : d < many) : f_X9_told (nI d) 3 Mm = some (Mm 107 (3 * d), Mm) := by
  unfold f_X9_told f_X9_isOf
  rw [show f_X9_in (3 : Int32).toInt64 0 8 Mm = some (1, Mm) from told_in (k := 3) (by omega), Option.bind_some, if_neg (show ¬ (1 : Int32) = 0 by decide), if_neg (show ¬ (3 : Int32) = 0 by decide), if_neg (show ¬ (3 : Int32) = 1 by decide), if_neg (show ¬ (3 : Int32) = 2 by decide), if_neg (show ¬ (3 : Int32) = 8 by decide), isDn hm2 hm6 hd, Option.bind_some]
  dsimp only
  rw [show zb 1 = true from rfl, ck_true, Option.bind_some]
  dsimp only
  rw [if_neg (show ¬ (1 : Int32) = 0 by decide), if_pos (show (3 : Int32) ≤ 3 by decide), if_neg (show ¬ (6 : Int32) ≤ 3 by decide), if_neg (show ¬ (5 : Int32) ≤ 3 by decide), ix3 (by omega), inb_nI (show 3 * d < 18 by omega) (by omega), nI_clamp (show 3 * d < 2 ^ 31 by omega), ck_true]
theorem toldM0 {Mm : Mem} (v : Int32) : f_X9_told v 0 Mm = some (Mm 100 7, Mm) := by
  unfold f_X9_told f_X9_isOf
  rw [show f_X9_in (0 : Int32).toInt64 0 8 Mm = some (1, Mm) from told_in (k := 0) (by omega), Option.bind_some, if_neg (show ¬ (1 : Int32) = 0 by decide), if_pos rfl, Option.bind_some]
  dsimp only
  rw [if_neg (show ¬ (1 : Int32) = 0 by decide), if_neg (show ¬ (3 : Int32) ≤ 0 by decide), if_pos rfl]
theorem toldM2 {Mm : Mem} : f_X9_told 0 2 Mm = some (Mm 105 0, Mm) := by
  unfold f_X9_told f_X9_isOf f_X9_isOf_b50
  rw [show f_X9_in (2 : Int32).toInt64 0 8 Mm = some (1, Mm) from told_in (k := 2) (by omega), Option.bind_some, if_neg (show ¬ (1 : Int32) = 0 by decide), if_neg (show ¬ (2 : Int32) = 0 by decide), if_neg (show ¬ (2 : Int32) = 1 by decide), if_pos rfl, isK, show inR 0 2 = true by decide, Option.bind_some]
  dsimp only
  rw [show zb (zI true) = true from rfl, ck_true, Option.bind_some]
  dsimp only
  rw [if_neg (show ¬ zI true = 0 by decide), if_neg (show ¬ (3 : Int32) ≤ 2 by decide), if_neg (show ¬ (2 : Int32) = 0 by decide), if_neg (show ¬ (2 : Int32) = 1 by decide), show inb 0 2 = true by decide, show (0 : Int32).toNatClampNeg = 0 by decide, ck_true]
theorem lays5 {d : Nat} (hd : d < 6) (v : Int32) (N : Mem) : f_X9_lays 5 (nI d) v N = some (mu N 106 d v) := by
  unfold f_X9_lays
  rw [if_neg (show ¬ (5 : Int32) = 0 by decide), if_neg (show ¬ (5 : Int32) = 1 by decide), if_neg (show ¬ (5 : Int32) = 2 by decide), if_pos (show (5 : Int32) ≤ 5 by decide), if_pos rfl, inb_nI hd (by omega), nI_clamp (show d < 2 ^ 31 by omega), ck_true]
theorem lays3 {d : Nat} (hd : d < 6) (v : Int32) (N : Mem) : f_X9_lays 3 (nI d) v N = some (mu N 107 (3 * d) v) := by
  unfold f_X9_lays
  rw [if_neg (show ¬ (3 : Int32) = 0 by decide), if_neg (show ¬ (3 : Int32) = 1 by decide), if_neg (show ¬ (3 : Int32) = 2 by decide), if_neg (show ¬ (5 : Int32) ≤ 3 by decide), ix3 hd, inb_nI (show 3 * d < 18 by omega) (by omega), nI_clamp (show 3 * d < 2 ^ 31 by omega), ck_true]
theorem lays0 (x v : Int32) (N : Mem) : f_X9_lays 0 x v N = some (mu N 100 7 v) := by
  unfold f_X9_lays
  rw [if_pos rfl]
theorem lays2 (v : Int32) (N : Mem) : f_X9_lays 2 0 v N = some (mu N 105 0 v) := by
  unfold f_X9_lays
  rw [if_neg (show ¬ (2 : Int32) = 0 by decide), if_neg (show ¬ (2 : Int32) = 1 by decide), if_pos rfl, show inb 0 2 = true by decide, show (0 : Int32).toNatClampNeg = 0 by decide, ck_true]
theorem lays6 (x v : Int32) (N : Mem) : f_X9_lays 6 x v N = some (mu N 100 4 v) := by
  unfold f_X9_lays
  rw [if_neg (show ¬ (6 : Int32) = 0 by decide), if_neg (show ¬ (6 : Int32) = 1 by decide), if_neg (show ¬ (6 : Int32) = 2 by decide), if_pos (show (5 : Int32) ≤ 6 by decide), if_neg (show ¬ (6 : Int32) = 5 by decide)]
theorem tells_op {Mc Mm : Mem} (h : Inv Mc Mm) (v1 v2 v3 : Int32) : OpI (f_X8_tells v1 v2 v3) (f_X9_tells v1 v2 v3) Mc Mm := by
  obtain ⟨many, txt, hN⟩ := id h
  have hN : InvN many txt Mc Mm := hN
  obtain ⟨hs0, hm1, hm2, hm6, _⟩ := id hN.1
  obtain ⟨tx6, tx1, tx2, tx3⟩ := id hN.2.2.1
  unfold OpI f_X8_tells f_X9_tells
  rw [hasS, isS, Option.bind_some, Option.bind_some]
  dsimp only
  cases g1 : inR v1 4 with
  | false => rw [if_pos (show zI false = 0 from rfl), if_pos (show zI false = 0 from rfl)]; exact ⟨_, _, _, rfl, rfl, h⟩
  | true =>
    rw [if_neg (show ¬ zI true = 0 by decide), if_neg (show ¬ zI true = 0 by decide), hasD hm1 hm6, isD hm2 hm6, Option.bind_some, Option.bind_some]
    dsimp only
    cases g2 : inR v2 many with
    | false => rw [if_pos (show zI false = 0 from rfl), if_pos (show zI false = 0 from rfl)]; exact ⟨_, _, _, rfl, rfl, h⟩
    | true =>
      rw [if_neg (show ¬ zI true = 0 by decide), if_neg (show ¬ zI true = 0 by decide), inC3 (b := 8) (n := 9) (by decide), show (8 : Int64) = (8 : Int32).toInt64 from rfl, inM (n := 9) (by decide), Option.bind_some]
      dsimp only
      cases g3 : inR v3 9 with
      | false => rw [ft, if_pos (show zI false = 0 from rfl)]; exact ⟨_, _, _, rfl, rfl, h⟩
      | true =>
        rw [tt, if_neg (show ¬ zI true = 0 by decide)]
        obtain ⟨s, hs, rfl⟩ := inR_of g1 (by omega)
        obtain ⟨d, hd, rfl⟩ := inR_of g2 (by omega)
        obtain ⟨y, hy, rfl⟩ := inR_of g3 (by omega)
        obtain ⟨k1, k2, k3⟩ := sh_kd s hs
        rw [inb_nI hs (by omega), nI_clamp (show s < 2 ^ 31 by omega), k1, show ((5 : Nat) == 5) = true from rfl]
        repeat rw [ck_true]
        rcases hN.2.2.2.2 s hs with ⟨t1, t2⟩ | ⟨so, z, p1, p2, p3, p4, p5, p6, p7, p8⟩
        · rw [(miss_eq hs).1 t1, Option.bind_some, ck_true, if_neg (show ¬ (1 : Int32) = 0 by decide), if_pos t2]
          exact ⟨_, _, _, rfl, rfl, h⟩
        rw [(miss_eq hs).2 (by rw [p3]; exact nI_n1 (by omega)), Option.bind_some, ck_true, if_pos rfl, if_neg (show ¬ Mm 114 s = 0 by rw [p7]; decide)]
        dsimp only
        by_cases z2 : z = 2
        · subst z2
          rw [if_pos (show Mc (55 + 2 * s) 1 = 2 from p5), if_pos (show Mm 116 s = 2 from p6)]
          have hi : Mm 117 (40 * s) = Mc (56 + 2 * s) 0 ∧ Mm 117 (40 * s + 1) = Mc (56 + 2 * s) 1 := ⟨(p8 0 (by omega)).symm, (p8 1 (by omega)).symm⟩
          obtain ⟨t, tm, tc, _⟩ := tkBoth hN.1 hN.2.2.1 hd
          have hd6 : d < 6 := by omega
          have cs : y = 0 ∨ y = 1 ∨ y = 2 ∨ y = 3 ∨ y = 4 ∨ y = 5 ∨ y = 6 ∨ y = 7 ∨ y = 8 := by omega
          rcases cs with rfl | rfl | rfl | rfl | rfl | rfl | rfl | rfl | rfl
          · rw [if_neg (show ¬ nI 0 = 1 by decide), if_neg (show ¬ nI 0 = 2 by decide), if_neg (show ¬ nI 0 = 3 by decide), if_neg (show ¬ nI 0 = 4 by decide), if_neg (show ¬ nI 0 = 5 by decide), if_neg (show ¬ nI 0 = 6 by decide), if_neg (show ¬ nI 0 = 7 by decide), if_neg (show ¬ nI 0 = 8 by decide), if_pos (show nI 0 = 0 from rfl)]
            unfold f_X9_tells_b65
            rw [if_pos (show nI 0 = 0 from rfl)]
            obtain ⟨M1, x1, x2, x3⟩ := tc Mc (KC.refl Mc)
            obtain ⟨M2, c1, c2⟩ := foC hs x2
            rw [x3 2 (by omega), x3 (56 + 2 * s) (by omega)] at c1
            obtain ⟨N1, e1, e2⟩ := foM (st := Mc 2) hs hd6 tm (fun j hj => (hs0.1 j hj).1)
            rw [hi.1, hi.2] at e1
            rw [x1, Option.bind_some, c1, Option.bind_some, e1, Option.bind_some]
            exact ⟨_, _, _, rfl, rfl, (hN.sc (x3.kc.tr c2.kc) e2.km).i⟩
          · obtain ⟨U, R, M1, N1, r1, r2, r3, r4, r5, r6⟩ := gB (n := 6) (as := 1) (w := 0) (p := 106) (k := d) (so := 5) (ofv := nI d) (Tv := tk1 t) hN hs hd (by omega) (by omega) hi (by omega) (by omega) (by omega)
              (fun v hv M kc => by
                obtain ⟨M1, x1, x2, x3⟩ := tc M kc
                exact ⟨M1, mu M1 36 2 (nI v), by rw [if_neg (by omega)]; exact x1, rfl, sup1 x2 v, fun q hq => (mun (by omega)).trans (x3 q hq)⟩)
              (fun v hv N kn => ⟨_, lays5 hd6 _ N, layK1 tm (kn.lay _) hv mu_at, kn.lay _⟩) (fun N => lays5 hd6 _ N) (nI 1)
            rw [if_pos (show nI 1 = 1 from rfl), show f_X8_guess 1 6 0 (55 + 2 * s) (nI d) Mc = _ from r1, if_neg (show ¬ nI 1 = 0 by decide), if_neg (show ¬ nI 1 = 8 by decide), if_pos (show nI 1 = 1 from rfl)]
            unfold f_X9_tells_b123 f_X9_tells_b136 f_X9_tells_b160
            rw [if_neg (show ¬ (5 : Int32) = 2 by decide), if_neg (show ¬ (5 : Int32) = 6 by decide), toldM5 hm2 hm6 hd, Option.bind_some]
            dsimp only
            rw [if_neg (show ¬ (5 : Int32) = 6 by decide), if_pos (show (5 : Int32) = 5 from rfl), show f_X9_tells_b201 (nI s) (nI d) (nI 1) 5 (nI d) (Mm 106 d) 5 Mm = _ from r5, r2 (by omega)]
            unfold f_X8_guess_b105
            rw [if_pos (show nI 0 = 0 from rfl), Option.bind_some]
            exact ⟨_, _, _, rfl, rfl, r6⟩
          · obtain ⟨U, R, M1, N1, r1, r2, r3, r4, r5, r6⟩ := gB (n := 10) (as := 2) (w := 0) (p := 107) (k := 3 * d) (so := 3) (ofv := nI d) (Tv := tk2 t) hN hs hd (by omega) (by omega) hi (by omega) (by omega) (by omega)
              (fun v hv M kc => by
                obtain ⟨M1, x1, x2, x3⟩ := tc M kc
                exact ⟨M1, mu M1 36 3 (nI v), by rw [if_neg (by omega)]; exact x1, rfl, sup2 x2 v, fun q hq => (mun (by omega)).trans (x3 q hq)⟩)
              (fun v hv N kn => ⟨_, lays3 hd6 _ N, layK2 tm (kn.lay _) (by omega) mu_at, kn.lay _⟩) (fun N => lays3 hd6 _ N) (nI 2)
            rw [if_neg (show ¬ nI 2 = 1 by decide), if_pos (show nI 2 = 2 from rfl), show f_X8_guess 2 10 0 (55 + 2 * s) (nI d) Mc = _ from r1, if_neg (show ¬ nI 2 = 0 by decide), if_neg (show ¬ nI 2 = 8 by decide), if_neg (show ¬ nI 2 = 1 by decide), if_pos (show nI 2 = 2 from rfl)]
            unfold f_X9_tells_b123 f_X9_tells_b136 f_X9_tells_b160
            rw [if_neg (show ¬ (3 : Int32) = 2 by decide), if_neg (show ¬ (3 : Int32) = 6 by decide), toldM3 hm2 hm6 hd, Option.bind_some]
            dsimp only
            rw [if_neg (show ¬ (3 : Int32) = 6 by decide), if_neg (show ¬ (3 : Int32) = 5 by decide), if_pos (show (3 : Int32) = 3 from rfl), show f_X9_tells_b201 (nI s) (nI d) (nI 2) 3 (nI d) (Mm 107 (3 * d)) 9 Mm = _ from r5, r2 (by omega)]
            unfold f_X8_guess_b105
            rw [if_pos (show nI 0 = 0 from rfl), Option.bind_some]
            exact ⟨_, _, _, rfl, rfl, r6⟩
          · obtain ⟨U, R, M1, N1, r1, r2, r3, r4, r5, r6⟩ := gB (n := 100) (as := 3) (w := 1) (p := 100) (k := 7) (so := 0) (ofv := nI d) (Tv := tk3 t) hN hs hd (by omega) (by omega) hi (by omega) (by omega) (by omega)
              (fun v hv M kc => by
                obtain ⟨M1, x1, x2, x3⟩ := tc M kc
                exact ⟨M1, mu M1 36 4 (nI v), by rw [if_neg (by omega)]; exact x1, rfl, sup3 x2 v, fun q hq => (mun (by omega)).trans (x3 q hq)⟩)
              (fun v hv N kn => ⟨_, lays0 _ _ N, layK3 tm (kn.lay _) mu_at, kn.lay _⟩) (fun N => lays0 _ _ N) (nI 3)
            rw [if_neg (show ¬ nI 3 = 1 by decide), if_neg (show ¬ nI 3 = 2 by decide), if_pos (show nI 3 = 3 from rfl), show f_X8_guess 3 100 1 (55 + 2 * s) (nI d) Mc = _ from r1, if_neg (show ¬ nI 3 = 0 by decide), if_neg (show ¬ nI 3 = 8 by decide), if_neg (show ¬ nI 3 = 1 by decide), if_neg (show ¬ nI 3 = 2 by decide), if_neg (show ¬ 5 ≤ nI 3 by decide)]
            unfold f_X9_tells_b123 f_X9_tells_b136 f_X9_tells_b160
            rw [if_neg (show ¬ (0 : Int32) = 2 by decide), if_neg (show ¬ (0 : Int32) = 6 by decide), toldM0, Option.bind_some]
            dsimp only
            rw [if_neg (show ¬ (0 : Int32) = 6 by decide), if_neg (show ¬ (0 : Int32) = 5 by decide), if_neg (show ¬ (0 : Int32) = 3 by decide), show f_X9_tells_b201 (nI s) (nI d) (nI 3) 0 (nI d) (Mm 100 7) 99 Mm = _ from r5, r3]
            unfold f_X8_guess_b105
            rw [if_neg (show ¬ nI 1 = 0 by decide), if_pos (show nI 1 = 1 from rfl), Option.bind_some, if_pos (show nI 3 = 3 from rfl)]
            exact ⟨_, _, _, rfl, rfl, r6⟩
          · obtain ⟨U, R, M1, N1, r1, r2, r3, r4, r5, r6⟩ := gB (n := 100) (as := 3) (w := 2) (p := 100) (k := 7) (so := 0) (ofv := nI d) (Tv := tk3 t) hN hs hd (by omega) (by omega) hi (by omega) (by omega) (by omega)
              (fun v hv M kc => by
                obtain ⟨M1, x1, x2, x3⟩ := tc M kc
                exact ⟨M1, mu M1 36 4 (nI v), by rw [if_neg (by omega)]; exact x1, rfl, sup3 x2 v, fun q hq => (mun (by omega)).trans (x3 q hq)⟩)
              (fun v hv N kn => ⟨_, lays0 _ _ N, layK3 tm (kn.lay _) mu_at, kn.lay _⟩) (fun N => lays0 _ _ N) (nI 4)
            rw [if_neg (show ¬ nI 4 = 1 by decide), if_neg (show ¬ nI 4 = 2 by decide), if_neg (show ¬ nI 4 = 3 by decide), if_pos (show nI 4 = 4 from rfl), show f_X8_guess 3 100 2 (55 + 2 * s) (nI d) Mc = _ from r1, if_neg (show ¬ nI 4 = 0 by decide), if_neg (show ¬ nI 4 = 8 by decide), if_neg (show ¬ nI 4 = 1 by decide), if_neg (show ¬ nI 4 = 2 by decide), if_neg (show ¬ 5 ≤ nI 4 by decide)]
            unfold f_X9_tells_b123 f_X9_tells_b136 f_X9_tells_b160
            rw [if_neg (show ¬ (0 : Int32) = 2 by decide), if_neg (show ¬ (0 : Int32) = 6 by decide), toldM0, Option.bind_some]
            dsimp only
            rw [if_neg (show ¬ (0 : Int32) = 6 by decide), if_neg (show ¬ (0 : Int32) = 5 by decide), if_neg (show ¬ (0 : Int32) = 3 by decide), show f_X9_tells_b201 (nI s) (nI d) (nI 4) 0 (nI d) (Mm 100 7) 99 Mm = _ from r5, r4]
            unfold f_X8_guess_b105
            rw [if_neg (show ¬ nI 2 = 0 by decide), if_neg (show ¬ nI 2 = 1 by decide), Option.bind_some, if_neg (show ¬ nI 4 = 3 by decide), if_neg (show ¬ nI 4 = 5 by decide), if_pos (show nI 4 = 4 from rfl)]
            exact ⟨_, _, _, rfl, rfl, r6⟩
          · obtain ⟨U, R, M1, N1, r1, r2, r3, r4, r5, r6⟩ := gB (n := 100) (as := 4) (w := 1) (p := 105) (k := 0) (so := 2) (ofv := 0) (Tv := tk4 t) hN hs hd (by omega) (by omega) hi (by omega) (by omega) (by omega)
              (fun v hv M kc => by
                obtain ⟨M1, x1, x2, x3⟩ := tc M kc
                exact ⟨M1, mu M1 37 0 (nI v), by rw [if_neg (by omega)]; exact x1, rfl, sup4 x2 v, fun q hq => (mun (by omega)).trans (x3 q hq)⟩)
              (fun v hv N kn => ⟨_, lays2 _ N, layK4 tm (kn.lay _) mu_at, kn.lay _⟩) (fun N => lays2 _ N) (nI 5)
            rw [if_neg (show ¬ nI 5 = 1 by decide), if_neg (show ¬ nI 5 = 2 by decide), if_neg (show ¬ nI 5 = 3 by decide), if_neg (show ¬ nI 5 = 4 by decide), if_pos (show nI 5 = 5 from rfl), show f_X8_guess 4 100 1 (55 + 2 * s) (nI d) Mc = _ from r1, if_neg (show ¬ nI 5 = 0 by decide), if_neg (show ¬ nI 5 = 8 by decide), if_neg (show ¬ nI 5 = 1 by decide), if_neg (show ¬ nI 5 = 2 by decide), if_pos (show 5 ≤ nI 5 by decide), if_neg (show ¬ 7 ≤ nI 5 by decide)]
            unfold f_X9_tells_b123 f_X9_tells_b136 f_X9_tells_b160
            rw [if_pos (show (2 : Int32) = 2 from rfl), if_neg (show ¬ (2 : Int32) = 6 by decide), toldM2, Option.bind_some]
            dsimp only
            rw [if_neg (show ¬ (2 : Int32) = 6 by decide), if_neg (show ¬ (2 : Int32) = 5 by decide), if_neg (show ¬ (2 : Int32) = 3 by decide), show f_X9_tells_b201 (nI s) (nI d) (nI 5) 2 0 (Mm 105 0) 99 Mm = _ from r5, r3]
            unfold f_X8_guess_b105
            rw [if_neg (show ¬ nI 1 = 0 by decide), if_pos (show nI 1 = 1 from rfl), Option.bind_some, if_neg (show ¬ nI 5 = 3 by decide), if_pos (show nI 5 = 5 from rfl)]
            exact ⟨_, _, _, rfl, rfl, r6⟩
          · obtain ⟨U, R, M1, N1, r1, r2, r3, r4, r5, r6⟩ := gB (n := 100) (as := 4) (w := 2) (p := 105) (k := 0) (so := 2) (ofv := 0) (Tv := tk4 t) hN hs hd (by omega) (by omega) hi (by omega) (by omega) (by omega)
              (fun v hv M kc => by
                obtain ⟨M1, x1, x2, x3⟩ := tc M kc
                exact ⟨M1, mu M1 37 0 (nI v), by rw [if_neg (by omega)]; exact x1, rfl, sup4 x2 v, fun q hq => (mun (by omega)).trans (x3 q hq)⟩)
              (fun v hv N kn => ⟨_, lays2 _ N, layK4 tm (kn.lay _) mu_at, kn.lay _⟩) (fun N => lays2 _ N) (nI 6)
            rw [if_neg (show ¬ nI 6 = 1 by decide), if_neg (show ¬ nI 6 = 2 by decide), if_neg (show ¬ nI 6 = 3 by decide), if_neg (show ¬ nI 6 = 4 by decide), if_neg (show ¬ nI 6 = 5 by decide), if_pos (show nI 6 = 6 from rfl), show f_X8_guess 4 100 2 (55 + 2 * s) (nI d) Mc = _ from r1, if_neg (show ¬ nI 6 = 0 by decide), if_neg (show ¬ nI 6 = 8 by decide), if_neg (show ¬ nI 6 = 1 by decide), if_neg (show ¬ nI 6 = 2 by decide), if_pos (show 5 ≤ nI 6 by decide), if_neg (show ¬ 7 ≤ nI 6 by decide)]
            unfold f_X9_tells_b123 f_X9_tells_b136 f_X9_tells_b160
            rw [if_pos (show (2 : Int32) = 2 from rfl), if_neg (show ¬ (2 : Int32) = 6 by decide), toldM2, Option.bind_some]
            dsimp only
            rw [if_neg (show ¬ (2 : Int32) = 6 by decide), if_neg (show ¬ (2 : Int32) = 5 by decide), if_neg (show ¬ (2 : Int32) = 3 by decide), show f_X9_tells_b201 (nI s) (nI d) (nI 6) 2 0 (Mm 105 0) 99 Mm = _ from r5, r4]
            unfold f_X8_guess_b105
            rw [if_neg (show ¬ nI 2 = 0 by decide), if_neg (show ¬ nI 2 = 1 by decide), Option.bind_some, if_neg (show ¬ nI 6 = 3 by decide), if_neg (show ¬ nI 6 = 5 by decide), if_neg (show ¬ nI 6 = 4 by decide), if_pos (show nI 6 = 6 from rfl)]
            exact ⟨_, _, _, rfl, rfl, r6⟩
          · obtain ⟨U, R, M1, N1, r1, r2, r3, r4, r5, r6⟩ := gB (n := txt) (as := 5) (w := 0) (p := 100) (k := 4) (so := 6) (ofv := nI d) (Tv := fun v => tk5 t (evC Mc v)) hN hs hd (by omega) (by omega) hi (by omega) (by omega) (by omega)
              (fun v hv M kc => by
                obtain ⟨M1, x1, x2, x3⟩ := tc M kc
                have e1 : M1 (16 + 3 * v + 1) = Mc (16 + 3 * v + 1) := (x3 _ (by omega)).trans (kc _ (by omega))
                have e2 : M1 (16 + 3 * v + 2) = Mc (16 + 3 * v + 2) := (x3 _ (by omega)).trans (kc _ (by omega))
                have ee : evC M1 v = evC Mc v := by unfold evC; rw [e1, e2]
                have sp := sup5 (v := v) x2 (by omega) (by rw [e2]; exact (tx3 v hv).1)
                rw [ee] at sp
                refine ⟨M1, mu M1 36 1 (nI (16 + 3 * v)), by rw [if_neg (by omega)]; exact x1, ?_, sp, fun q hq => (mun (by omega)).trans (x3 q hq)⟩
                unfold f_X0_suppose
                rw [if_neg (show ¬ nI 5 = 1 by decide), if_neg (show ¬ nI 5 = 2 by decide), if_neg (show ¬ nI 5 = 3 by decide), if_neg (show ¬ nI 5 = 4 by decide), if_pos (show nI 5 = 5 from rfl), ruleBy_eq (by omega)]
                rfl)
              (fun v hv N kn => ⟨_, lays6 _ _ N, layK5 tm (kn.lay _) (by omega) mu_at (fun s e1 e2 he => evT_congr he) (tx3 v hv).2, kn.lay _⟩) (fun N => lays6 _ _ N) (nI 7)
            rw [if_neg (show ¬ nI 7 = 1 by decide), if_neg (show ¬ nI 7 = 2 by decide), if_neg (show ¬ nI 7 = 3 by decide), if_neg (show ¬ nI 7 = 4 by decide), if_neg (show ¬ nI 7 = 5 by decide), if_neg (show ¬ nI 7 = 6 by decide), if_pos (show nI 7 = 7 from rfl), tx1, show f_X8_guess 5 (nI txt) 0 (55 + 2 * s) (nI d) Mc = _ from r1, if_neg (show ¬ nI 7 = 0 by decide), if_neg (show ¬ nI 7 = 8 by decide), if_neg (show ¬ nI 7 = 1 by decide), if_neg (show ¬ nI 7 = 2 by decide), if_pos (show 5 ≤ nI 7 by decide), if_pos (show 7 ≤ nI 7 by decide)]
            unfold f_X9_tells_b123 f_X9_tells_b136 f_X9_tells_b160
            rw [if_neg (show ¬ (6 : Int32) = 2 by decide), if_pos (show (6 : Int32) = 6 from rfl), if_pos (show (6 : Int32) = 6 from rfl), tx2, r5, r2 (by omega)]
            unfold f_X8_guess_b105
            rw [if_pos (show nI 0 = 0 from rfl), Option.bind_some]
            exact ⟨_, _, _, rfl, rfl, r6⟩
          · obtain ⟨T, hT⟩ := getT hN
            obtain ⟨M1, r1, r2⟩ := guessC (Mc := Mc) (as := 6) (n := many) (w := 0) (d := d) (Tv := T) hs (by omega) (by omega)
              (fun v hv M kc => by
                obtain ⟨M1, x1, x2, x3⟩ := (hT v hv).2.1 M kc
                exact ⟨M1, M1, by rw [if_pos rfl]; exact x1, rfl, x2, x3⟩) many 0 FU Mc (by omega) (by have := FU_ge; omega) (KC.refl Mc)
            obtain ⟨N1, e1, e2⟩ := likeM (T := T) (st := Mc 2) hs hm2 hm6 (fun j hj => (hs0.1 j hj).1) hi (fun d hd => (hT d hd).1) many 0 FU Mm (by omega) (by have := FU_ge; omega) (SmM.refl Mm)
            rw [if_neg (show ¬ nI 8 = 1 by decide), if_neg (show ¬ nI 8 = 2 by decide), if_neg (show ¬ nI 8 = 3 by decide), if_neg (show ¬ nI 8 = 4 by decide), if_neg (show ¬ nI 8 = 5 by decide), if_neg (show ¬ nI 8 = 6 by decide), if_neg (show ¬ nI 8 = 7 by decide), if_pos (show nI 8 = 8 from rfl), if_neg (show ¬ nI 8 = 0 by decide), if_pos (show nI 8 = 8 from rfl), hm1]
            unfold f_X9_tells_b65 f_X8_guess f_X9_likeSet
            rw [if_neg (show ¬ nI 8 = 0 by decide), show (f_X8_guess_l12 f_X8_guess_b105 FU) 6 (nI many) 0 (55 + 2 * s) (nI d) 0 0 (-1) 0 Mc = _ from r1, show (f_X9_likeSet_l4 FU) (nI s) 0 0 Mm = _ from e1, Option.bind_some]
            unfold f_X8_guess_b105
            rw [if_pos (show nI 0 = 0 from rfl), Option.bind_some]
            exact ⟨_, _, _, rfl, rfl, (hN.sc r2 e2.km).i⟩
        · have ne : ¬ nI z = 2 := by rw [show (2 : Int32) = nI 2 from rfl, nIeq (by omega) (by omega)]; exact z2
          rw [if_neg (show ¬ Mc (55 + 2 * s) 1 = 2 by rw [p5]; exact ne), if_neg (show ¬ Mm 116 s = 2 by rw [p6]; exact ne)]
          exact ⟨_, _, _, rfl, rfl, h⟩
