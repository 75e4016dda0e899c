/-! ALL MENUS THAT STAND, in their order: the class's walk -/
/-- digits, how many dishes, how many are fed, of these in the first kitchen, tolls, side -/
abbrev Lf : Type := Nat × Nat × Int32 × Int32 × Int32 × Int32
def lvk (g : Nat → (Nat → Int32) → Nat → Nat → Int32 → Int32 → Int32 → Int32 → List Lf) (u : Tk) (d : Nat) (st : Nat → Int32) (x n : Nat) (f f0 t s : Int32) (k : Nat) : List Lf :=
  if kCk u k st = true then g (d + 1) (kUse u k st) (x * 10 + k + 1) (n + 1) (f + kFed u k) (if k = 0 then f0 + kFed u k else f0) (t + kToll u k st) (if k = 0 then s + 1 else s - 1) else []
def lvs (T : Nat → Tk) (bar : Nat) : Nat → Nat → (Nat → Int32) → Nat → Nat → Int32 → Int32 → Int32 → Int32 → List Lf
  | 0, _, _, x, n, f, f0, t, s => [(x, n, f, f0, t, s)]
  | m + 1, d, st, x, n, f, f0, t, s => lvs T bar m (d + 1) st (x * 10) n f f0 t s ++ (if d = bar then [] else lvk (lvs T bar m) (T d) d st x n f f0 t s 0 ++ lvk (lvs T bar m) (T d) d st x n f f0 t s 1)
def cA (c : Int32 × Int32) (l : Lf) : Int32 × Int32 := if l.2.2.1 - l.2.2.2.2.1 ≤ c.2 then c else (nI l.1, l.2.2.1 - l.2.2.2.2.1)
def cB (c : Int32 × Int32) (l : Lf) : Int32 × Int32 := if l.2.2.1 ≤ c.2 then c else (nI l.1, l.2.2.1)
def cC (c : Int32 × Int32 × Int32) (l : Lf) : Int32 × Int32 × Int32 := if c.2.2 < nI l.2.1 then (nI l.1, l.2.2.2.2.1, nI l.2.1) else if nI l.2.1 = c.2.2 then (if c.2.1 ≤ l.2.2.2.2.1 then c else (nI l.1, l.2.2.2.2.1, nI l.2.1)) else c
def CG (Mc0 M M1 : Mem) (d : Nat) (L : List Lf) : Prop := KC Mc0 M1 ∧ M1 45 3 = M 45 3 ∧ (∀ q, 47 ≤ q → q ≤ 47 + d → M1 q = M q) ∧ (M1 45 4, M1 45 5) = L.foldl cA (M 45 4, M 45 5) ∧ (M1 45 6, M1 45 7) = L.foldl cB (M 45 6, M 45 7) ∧ (M1 45 8, M1 45 9, M1 45 10) = L.foldl cC (M 45 8, M 45 9, M 45 10)
theorem CG.tr {Mc0 M M1 M2 : Mem} {d : Nat} {L L2 : List Lf} (h : CG Mc0 M M1 d L) (h2 : CG Mc0 M1 M2 d L2) : CG Mc0 M M2 d (L ++ L2) := by
  obtain ⟨a1, a2, a3, a4, a5, a6⟩ := h
  obtain ⟨b1, b2, b3, b4, b5, b6⟩ := h2
  refine ⟨b1, b2.trans a2, fun q x y => (b3 q x y).trans (a3 q x y), ?_, ?_, ?_⟩
  · rw [b4, a4, List.foldl_append]
  · rw [b5, a5, List.foldl_append]
  · rw [b6, a6, List.foldl_append]
theorem CG.pre {Mc0 M N N1 : Mem} {d e : Nat} {L : List Lf} (h : CG Mc0 N N1 e L) (he : d ≤ e) (h45 : N 45 = M 45) (hr : ∀ q, 47 ≤ q → q ≤ 47 + d → N q = M q) : CG Mc0 M N1 d L := by
  obtain ⟨a1, a2, a3, a4, a5, a6⟩ := h
  rw [h45] at a2 a4 a5 a6
  exact ⟨a1, a2, fun q x y => (a3 q x (by omega)).trans (hr q x y), a4, a5, a6⟩
theorem CG.nil {Mc0 M N : Mem} {d : Nat} (kc : KC Mc0 N) (h45 : N 45 = M 45) (hr : ∀ q, 47 ≤ q → q ≤ 47 + d → N q = M q) : CG Mc0 M N d [] := by
  refine ⟨kc, by rw [h45], hr, ?_, ?_, ?_⟩ <;> rw [h45] <;> rfl
theorem weigh_eq (M : Mem) (x n : Nat) (f f0 t s : Int32) : ∃ M1 : Mem, f_X3_weigh (nI x) f t (nI n) M = some M1 ∧ (∀ q, q ≠ 45 → M1 q = M q) ∧ M1 45 3 = M 45 3 ∧ (M1 45 4, M1 45 5) = cA (M 45 4, M 45 5) (x, n, f, f0, t, s) ∧ (M1 45 6, M1 45 7) = cB (M 45 6, M 45 7) (x, n, f, f0, t, s) ∧ (M1 45 8, M1 45 9, M1 45 10) = cC (M 45 8, M 45 9, M 45 10) (x, n, f, f0, t, s) := by
  have h1 : ∃ M1 : Mem, f_X3_weigh (nI x) f t (nI n) M = f_X3_weigh_b22 (nI x) f t (nI n) M1 ∧ (∀ q, q ≠ 45 → M1 q = M q) ∧ (∀ j, j ≠ 4 → j ≠ 5 → M1 45 j = M 45 j) ∧ (M1 45 4, M1 45 5) = cA (M 45 4, M 45 5) (x, n, f, f0, t, s) := by
    unfold f_X3_weigh cA
    by_cases c : f - t ≤ M 45 5
    · exact ⟨M, by rw [if_pos c], fun _ _ => rfl, fun _ _ _ => rfl, by rw [if_pos c]⟩
    · refine ⟨mu (mu M 45 4 (nI x)) 45 5 (f - t), by rw [if_neg c], fun q h => by rw [mun h, mun h], fun j a b => by rw [mu_o b, mu_o a], ?_⟩
      rw [if_neg c, mu_at, mu_o (by omega), mu_at]
  obtain ⟨M1, a1, a2, a3, a4⟩ := h1
  have h2 : ∃ M2 : Mem, f_X3_weigh_b22 (nI x) f t (nI n) M1 = f_X3_weigh_b40 (nI x) t (nI n) M2 ∧ (∀ q, q ≠ 45 → M2 q = M1 q) ∧ (∀ j, j ≠ 6 → j ≠ 7 → M2 45 j = M1 45 j) ∧ (M2 45 6, M2 45 7) = cB (M1 45 6, M1 45 7) (x, n, f, f0, t, s) := by
    unfold f_X3_weigh_b22 cB
    by_cases c : f ≤ M1 45 7
    · exact ⟨M1, by rw [if_pos c], fun _ _ => rfl, fun _ _ _ => rfl, by rw [if_pos c]⟩
    · refine ⟨mu (mu M1 45 6 (nI x)) 45 7 f, by rw [if_neg c], fun q h => by rw [mun h, mun h], fun j a b => by rw [mu_o b, mu_o a], ?_⟩
      rw [if_neg c, mu_at, mu_o (by omega), mu_at]
  obtain ⟨M2, b1, b2, b3, b4⟩ := h2
  have h3 : ∃ M3 : Mem, f_X3_weigh_b40 (nI x) t (nI n) M2 = some M3 ∧ (∀ q, q ≠ 45 → M3 q = M2 q) ∧ (∀ j, j ≠ 8 → j ≠ 9 → j ≠ 10 → M3 45 j = M2 45 j) ∧ (M3 45 8, M3 45 9, M3 45 10) = cC (M2 45 8, M2 45 9, M2 45 10) (x, n, f, f0, t, s) := by
    have st : (∀ q, q ≠ 45 → mu (mu (mu M2 45 8 (nI x)) 45 9 t) 45 10 (nI n) q = M2 q) ∧ (∀ j, j ≠ 8 → j ≠ 9 → j ≠ 10 → mu (mu (mu M2 45 8 (nI x)) 45 9 t) 45 10 (nI n) 45 j = M2 45 j) ∧ mu (mu (mu M2 45 8 (nI x)) 45 9 t) 45 10 (nI n) 45 8 = nI x ∧ mu (mu (mu M2 45 8 (nI x)) 45 9 t) 45 10 (nI n) 45 9 = t ∧ mu (mu (mu M2 45 8 (nI x)) 45 9 t) 45 10 (nI n) 45 10 = nI n :=
      ⟨fun q h => by rw [mun h, mun h, mun h], fun j a b c => by rw [mu_o c, mu_o b, mu_o a], by rw [mu_o (by omega), mu_o (by omega), mu_at], by rw [mu_o (by omega), mu_at], mu_at⟩
    obtain ⟨s1, s2, s3, s4, s5⟩ := st
    unfold f_X3_weigh_b40 f_X3_weigh_b66 cC
    by_cases c : M2 45 10 < nI n
    · refine ⟨_, by rw [if_pos c], s1, s2, ?_⟩
      rw [s3, s4, s5, if_pos c]
    · rw [if_neg c]
      by_cases c2 : nI n = M2 45 10
      · rw [if_pos c2]
        by_cases c3 : M2 45 9 ≤ t
        · refine ⟨M2, by rw [if_pos c3], fun _ _ => rfl, fun _ _ _ _ => rfl, ?_⟩
          rw [if_neg c, if_pos c2, if_pos c3]
        · refine ⟨_, by rw [if_neg c3], s1, s2, ?_⟩
          rw [s3, s4, s5, if_neg c, if_pos c2, if_neg c3]
      · refine ⟨M2, by rw [if_neg c2], fun _ _ => rfl, fun _ _ _ _ => rfl, ?_⟩
        rw [if_neg c, if_neg c2]
  obtain ⟨M3, c1, c2, c3, c4⟩ := h3
  refine ⟨M3, by rw [a1, b1, c1], fun q h => by rw [c2 q h, b2 q h, a2 q h], by rw [c3 3 (by omega) (by omega) (by omega), b3 3 (by omega) (by omega), a3 3 (by omega) (by omega)], ?_, ?_, ?_⟩
  · rw [c3 4 (by omega) (by omega) (by omega), c3 5 (by omega) (by omega) (by omega), b3 4 (by omega) (by omega), b3 5 (by omega) (by omega), a4]
  · rw [c3 6 (by omega) (by omega) (by omega), c3 7 (by omega) (by omega) (by omega), b4, a3 6 (by omega) (by omega), a3 7 (by omega) (by omega)]
  · rw [c4, b3 8 (by omega) (by omega), b3 9 (by omega) (by omega), b3 10 (by omega) (by omega), a3 8 (by omega) (by omega), a3 9 (by omega) (by omega), a3 10 (by omega) (by omega)]
theorem goC {Mc0 : Mem} {many bar : Nat} {T : Nat → Tk} (hm1 : Mc0 1 6 = nI many) (hm6 : many ≤ 6) (hT : ∀ d, d < many → ∀ Mc2 : Mem, KC Mc0 Mc2 → ∃ M1 : Mem, f_X0_takeUp (nI d) Mc2 = some M1 ∧ Took M1 (T d) ∧ Sm Mc2 M1) :
    ∀ m d fuel (M : Mem) (st : Nat → Int32) x n (f f0 t s : Int32), d + m = many → m < fuel → KC Mc0 M → (∀ e, e < 6 → (nI e = M 45 3 ↔ e = bar)) → (∀ j, j < 12 → M (47 + d) j = st j) →
    ∃ M1 : Mem, f_X3_goThrough fuel (nI d) (nI x) f t (nI n) M = some M1 ∧ CG Mc0 M M1 d (lvs T bar m d st x n f f0 t s) := by
  intro m
  induction m with
  | zero =>
    intro d fuel M st x n f f0 t s hd hf kc hb hs
    obtain ⟨g, rfl⟩ : ∃ g, fuel = g + 1 := ⟨fuel - 1, by omega⟩
    show ∃ M1 : Mem, f_X3_goThrough_b (f_X3_goThrough g) (nI d) (nI x) f t (nI n) M = some M1 ∧ _
    unfold f_X3_goThrough_b f_X3_goThrough_b17
    rw [kc 1 (by omega), hm1, if_pos (nI_le (by omega) (by omega))]
    obtain ⟨M1, a1, a2, a3, a4, a5, a6⟩ := weigh_eq M x n f f0 t s
    rw [a1]
    exact ⟨M1, rfl, fun q hq => (a2 q (by omega)).trans (kc q hq), a3, fun q _ _ => a2 q (by omega), a4, a5, a6⟩
  | succ m ih =>
    intro d fuel M st x n f f0 t s hd hf kc hb hs
    obtain ⟨g, rfl⟩ : ∃ g, fuel = g + 1 := ⟨fuel - 1, by omega⟩
    have hd6 : d < 6 := by omega
    have q0 : isSt (47 + d) := Or.inr (Or.inr (Or.inr ⟨by omega, by omega⟩))
    have q1 : isSt (47 + (d + 1)) := Or.inr (Or.inr (Or.inr ⟨by omega, by omega⟩))
    obtain ⟨k1, k2, k3, k4, k5⟩ := st_kd q0
    obtain ⟨l1, l2, l3, l4, l5⟩ := st_kd q1
    have b10 : ((10 : Nat) == 10) = true := rfl
    have bcp : cpk 0 12 0 12 12 = true := by decide
    show ∃ M1 : Mem, f_X3_goThrough_b (f_X3_goThrough g) (nI d) (nI x) f t (nI n) M = some M1 ∧ _
    unfold f_X3_goThrough_b
    rw [kc 1 (by omega), hm1, if_neg (nI_ge (by omega) (by omega)), if_pos (show nI d < 6 from nI_lt (b := 6) hd6 (by omega)), nIp, inb_nI (show d < 7 by omega) (by omega), inb_nI (show d + 1 < 7 by omega) (by omega), nI_clamp (show d < 2 ^ 31 by omega), nI_clamp (show d + 1 < 2 ^ 31 by omega), k1, l1, k2, l2, b10, bcp, show (10 : Int32) = nI 10 from rfl, pk_mul]
    repeat rw [ck_true]
    have kcm : KC Mc0 (mcp M (47 + d) 0 (47 + (d + 1)) 0 12) := fun q hq => (mcp_o (by omega)).trans (kc q hq)
    obtain ⟨o8, c1, c2⟩ := ih (d + 1) g (mcp M (47 + d) 0 (47 + (d + 1)) 0 12) st (x * 10) n f f0 t s (by omega) (by omega) kcm (fun e he => by rw [mcp_o (by omega)]; exact hb e he) (fun j hj => by rw [mcp_in hj]; exact hs j hj)
    rw [c1, Option.bind_some]
    have cg1 : CG Mc0 M o8 d (lvs T bar m (d + 1) st (x * 10) n f f0 t s) := c2.pre (by omega) (mcp_o (by omega)) (fun q h1 h2 => mcp_o (by omega))
    have o3 : o8 45 3 = M 45 3 := cg1.2.1
    rw [o3]
    by_cases db : d = bar
    · rw [if_pos ((hb d hd6).mpr db)]
      refine ⟨o8, rfl, ?_⟩
      unfold lvs
      rw [if_pos db, List.append_nil]
      exact cg1
    · rw [if_neg (fun h => db ((hb d hd6).mp h))]
      have one : ∀ k, k < 2 → ∀ (g2 : Nat) (N : Mem), KC Mc0 N → N 45 3 = M 45 3 → (∀ j, j < 12 → N (47 + d) j = st j) → ∃ N1 : Mem, f_X3_goThrough_l77 (f_X3_goThrough g) (g2 + 1) (nI d) (nI x) f t (nI n) (nI k) N = f_X3_goThrough_l77 (f_X3_goThrough g) g2 (nI d) (nI x) f t (nI n) (nI (k + 1)) N1 ∧ CG Mc0 N N1 d (lvk (lvs T bar m) (T d) d st x n f f0 t s k) := by
        intro k hk g2 N kn n3 ns
        rw [f_X3_goThrough_l77, if_neg (show ¬ (2 : Int32) ≤ nI k from nI_ge (b := 2) hk (by omega))]
        obtain ⟨N1, u1, u2, u3⟩ := hT d (by omega) N kn
        have r1 : N1 (47 + d) = N (47 + d) := u3 _ (by omega)
        obtain ⟨N2, y1, y2, y3, y4, y5, y6⟩ := isCooked_eq (t := T d) (k := k) (q := 47 + d) hk u2 q0
        rw [u1, Option.bind_some, inb_nI (show d < 7 by omega) (by omega), nI_clamp (show d < 2 ^ 31 by omega), ck_true, y1, Option.bind_some]
        rw [r1] at y4 y5 y6
        have kn2 : KC Mc0 N2 := (kn.tr u3.kc).tr y3.kc
        have n45 : N2 45 = N 45 := by rw [y3 45 (by omega), u3 45 (by omega)]
        have nrow : ∀ q, 47 ≤ q → N2 q = N q := fun q hq => by rw [y3 q (by omega), u3 q (by omega)]
        rw [r1, kCk_cg hk ns]
        dsimp only
        unfold f_X3_goThrough_b190 lvk
        rw [nIp]
        cases hc : kCk (T d) k st with
        | false =>
          rw [if_pos (show zI false = 0 from rfl), if_neg (by decide)]
          exact ⟨N2, rfl, CG.nil kn2 n45 (fun q h _ => nrow q h)⟩
        | true =>
          rw [if_neg (show ¬ zI true = 0 by decide), if_pos rfl, nIp, inb_nI (show d + 1 < 7 by omega) (by omega), nI_clamp (show d + 1 < 2 ^ 31 by omega), k1, l1, k2, l2, b10, bcp]
          repeat rw [ck_true]
          have hcN : kCk (T d) k (N (47 + d)) = true := by rw [kCk_cg hk ns]; exact hc
          obtain ⟨f1, f2⟩ := y5 (kCk_can hcN)
          generalize hN3 : mcp N2 (47 + d) 0 (47 + (d + 1)) 0 12 = N3
          have o : ∀ q, q ≠ 47 + (d + 1) → N3 q = N2 q := fun q h => by rw [← hN3]; exact mcp_o h
          have r3 : ∀ j, j < 12 → N3 (47 + (d + 1)) j = st j := fun j hj => by rw [← hN3, mcp_in hj, nrow _ (by omega)]; exact ns j hj
          obtain ⟨N4, j1, j2, j3⟩ := useUp_eq (M := N3) (t := T d) (k := k) (q := 47 + (d + 1)) hk q1 (fun i hi => by rw [o 38 (by omega)]; exact y2.2.2.2.2.1 i hi) (fun i hi => by
            rw [o 41 (by omega), y6 i hi]
            exact kCr_cg hk (fun j hj => (ns j hj).trans (r3 j hj).symm) hi)
          rw [j1, Option.bind_some]
          have e15 : N4 36 15 = kFed (T d) k := by rw [j3 36 (by omega), o 36 (by omega)]; exact f1
          have e14 : N4 36 14 = kToll (T d) k st := by rw [j3 36 (by omega), o 36 (by omega), f2, kToll_cg hk ns]
          rw [e15, e14, show (10 : Int32) = nI 10 from rfl, pk_mul, nI_add, nIp, nIp]
          have kn4 : KC Mc0 N4 := fun q hq => by rw [j3 q (by omega), o q (by omega)]; exact kn2 q hq
          have n445 : N4 45 = N 45 := by rw [j3 45 (by omega), o 45 (by omega), n45]
          obtain ⟨N5, w1, w2⟩ := ih (d + 1) g N4 (kUse (T d) k st) (x * 10 + k + 1) (n + 1) (f + kFed (T d) k) (if k = 0 then f0 + kFed (T d) k else f0) (t + kToll (T d) k st) (if k = 0 then s + 1 else s - 1) (by omega) (by omega) kn4 (fun e he => by rw [n445, n3]; exact hb e he) (fun j hj => by rw [j2 j hj]; exact kUse_cg hk r3 j hj)
          rw [w1, Option.bind_some]
          exact ⟨N5, rfl, w2.pre (by omega) n445 (fun q h1 h2 => by rw [j3 q (by omega), o q (by omega), nrow q h1])⟩
      have r8 : ∀ j, j < 12 → o8 (47 + d) j = st j := fun j hj => by rw [cg1.2.2.1 _ (by omega) (by omega)]; exact hs j hj
      obtain ⟨h, hh⟩ : ∃ h, FU = h + 1 + 1 + 1 := ⟨FU - 3, by have := FU_ge; omega⟩
      obtain ⟨P1, p1, p2⟩ := one 0 (by omega) (h + 1 + 1) o8 cg1.1 o3 r8
      obtain ⟨P2, s1, s2⟩ := one 1 (by omega) (h + 1) P1 p2.1 (p2.2.1.trans o3) (fun j hj => by rw [p2.2.2.1 _ (by omega) (by omega)]; exact r8 j hj)
      rw [hh, show (0 : Int32) = nI 0 from rfl, p1, s1, f_X3_goThrough_l77, if_pos (show (2 : Int32) ≤ nI (1 + 1) by decide)]
      refine ⟨P2, rfl, ?_⟩
      unfold lvs
      rw [if_neg db]
      exact cg1.tr (p2.tr s2)
