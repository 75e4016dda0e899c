/-! A WHOLE TEXT, READ SIDE BY SIDE -/
section
variable {n t : Nat} {B : Nat → Nat}
def FrR (t : Nat) (M M1 : Mem) : Prop := ∀ q, q ≠ 34 → q ≠ t → q ≠ t + 1 → q ≠ t + 2 → M1 q = M q
def Fr19 (M M1 : Mem) : Prop := (∀ q, q ≠ 100 → M1 q = M q) ∧ (∀ j, (j < 19 ∨ 27 < j) → M1 100 j = M 100 j)
theorem FrR.tr {a b c : Mem} (h : FrR t a b) (k : FrR t b c) : FrR t a c := fun q x y z u => (k q x y z u).trans (h q x y z u)
theorem FrC.r {a b : Mem} (h : FrC t a b) : FrR t a b := fun q x y z _ => h.1 q x y z
theorem FrM.n19 {a b : Mem} (h : FrM a b) : Fr19 a b := ⟨h.1, fun j x => h.2 j (by omega)⟩
theorem Fr19.tr {a b c : Mem} (h : Fr19 a b) (k : Fr19 b c) : Fr19 a c := ⟨fun q x => (k.1 q x).trans (h.1 q x), fun j x => (k.2 j x).trans (h.2 j x)⟩
theorem FrR.en (M : Mem) (i : Nat) (x : Int32) : FrR t M (mu M (t + 2) i x) := fun q _ _ _ u => mun u
theorem Dead.en (ht : isTx t) {f : Nat} {Mc Mm : Mem} (h : Dead t f Mc Mm) (i : Nat) (x : Int32) : Dead t f (mu Mc (t + 2) i x) Mm := by
  obtain ⟨h3, h6, h26, h27, hf, s, hs, h2⟩ := h
  obtain ⟨r, hr, rfl⟩ := ht
  exact ⟨(by rw [mun (by omega)]; exact h3), (by rw [mun (by omega)]; exact h6), h26, h27, hf, s, hs, (by rw [mun (by omega)]; exact h2)⟩
theorem l20step (ht : isTx t) (k : Mem → Option (Int32 × Mem)) (f : Nat) {i : Nat} (hi : i < 3) (M : Mem) :
    f_X5_readInto_l20 k (f + 1) t (nI i) M = (partC t (nI (260 + i)) M).bind fun o => f_X5_readInto_l20 k f t (nI (i + 1)) (mu o (t + 2) i (o t 2)) := by
  rw [f_X5_readInto_l20, if_neg (by rw [show (3 : Int32) = nI 3 from rfl, nIle (by omega) (by omega)]; omega)]
  unfold partC
  simp only [Option.bind_assoc]
  rw [show (260 : Int32) + nI i = nI (260 + i) from nI_add 260 i]
  congr 1; funext o1
  congr 1; funext o2
  congr 1; funext o3
  rw [endS ht o3 hi, kd6 ht, nIp]
  rfl
theorem deadRun (ht : isTx t) (hn : n ≤ 160) (hB : ∀ j, j < n → B j < 256) (k : Mem → Option (Int32 × Mem)) {f : Nat} : ∀ m i g (Mc Mm : Mem), i + m = 3 → Dead t f Mc Mm → ∃ C : Mem, f_X5_readInto_l20 k (m + 1 + g) t (nI i) Mc = k C ∧ FrR t Mc C ∧ Dead t f C Mm := by
  intro m
  induction m with
  | zero =>
    intro i g Mc Mm hi h
    refine ⟨Mc, ?_, fun _ _ _ _ _ => rfl, h⟩
    rw [show 0 + 1 + g = g + 1 by omega, f_X5_readInto_l20, if_pos (by rw [show i = 3 by omega]; decide)]
  | succ m ih =>
    intro i g Mc Mm hi h
    obtain ⟨C, e1, e2, e3⟩ := partDead (n := n) (B := B) ht hn hB h (key := nI (260 + i)) (by rw [show (257 : Int32) = nI 257 from rfl]; intro x; rw [nIeq (by omega) (by omega)] at x; omega)
    obtain ⟨D, g1, g2, g3⟩ := ih (i + 1) g (mu C (t + 2) i (C t 2)) Mm (by omega) (e3.en ht i _)
    refine ⟨D, ?_, (e2.r.tr (FrR.en C i _)).tr g2, g3⟩
    rw [show m + 1 + 1 + g = (m + 1 + g) + 1 by omega, l20step ht k _ (by omega), e1]
    exact g1
theorem deadEnd {f : Nat} {Mc Mm : Mem} (h : Dead t f Mc Mm) : f_X5_readInto_b57 Mc = some (nI f, mu Mc 34 1 0) := by
  unfold f_X5_readInto_b57 f_X5_readInto_b71
  rw [h.1, if_neg (by decide), (failDead h).1]
  simp only [Option.bind_some]
  rw [h.2.1]
theorem b146 (w : Nat) (hw : w < 3) (v : Nat → Int32) (M : Mem) : f_X9_read_b146 (nI w) (v 0) (v 1) (v 2) M = some (v w, M) := by
  unfold f_X9_read_b146
  by_cases h0 : w = 0
  · subst h0; rw [if_pos (show nI 0 = 0 from rfl)]
  · rw [if_neg (by rw [show (0 : Int32) = nI 0 from rfl, nIeq (by omega) (by omega)]; exact h0)]
    by_cases h1 : w = 1
    · subst h1; rw [if_pos (show nI 1 = 1 from rfl)]
    · rw [if_neg (by rw [show (1 : Int32) = nI 1 from rfl, nIeq (by omega) (by omega)]; exact h1), show w = 2 by omega]
theorem b146e (w : Nat) (hw : w < 3) (a b c : Int32) (M : Mem) : ∃ v, f_X9_read_b146 (nI w) a b c M = some (v, M) :=
  ⟨_, b146 w hw (fun i => if i = 0 then a else if i = 1 then b else c) M⟩
theorem obsE {Mc Mm : Mem} {p w : Nat} (hB : ∀ j, j < n → B j < 256) (h : Lx n B Mc Mm p w) : (Mc 34 3 = 256 ∧ Mm 100 22 = 0) ∨ (Mc 34 3 ≠ 256 ∧ Mm 100 22 ≠ 0) := by
  obtain ⟨hp, h4, h23, h1 | h1 | h1 | h1 | h1⟩ := h
  · exact Or.inl ⟨h1.2.2.1, h1.2.2.2⟩
  · obtain ⟨e, a1, a2, a3, a4, a5, a6, a7, a8⟩ := h1
    have hw : w ≤ 12 := by rw [a6]; exact fw_le B p e
    refine Or.inr ⟨?_, by rw [a5]; decide⟩
    rw [a7, tkW_f w hw, show (256 : Int32) = nI 256 from rfl]
    split
    · intro x; rw [nIeq (by omega) (by omega)] at x; omega
    · split
      · intro x; rw [nIeq (by omega) (by omega)] at x; omega
      · intro x; rw [nIeq (by omega) (by omega)] at x; omega
  · obtain ⟨e, v, a1, a2, a3, a4, a5, a6, a7, a8⟩ := h1
    exact Or.inr ⟨by rw [a7]; decide, by rw [a6]; decide⟩
  · obtain ⟨a1, a2, a3, a4, a5, a6, a7, a8⟩ := h1
    have hbp := hB p a1
    refine Or.inr ⟨?_, by rw [a6]; decide⟩
    rw [a7, show (256 : Int32) = nI 256 from rfl]
    intro x; rw [nIeq (by omega) (by omega)] at x; omega
  · obtain ⟨a1, a2, a3, a4⟩ := h1
    exact Or.inr ⟨by rw [a3]; decide, by rw [a4]; decide⟩
theorem readM_eq (v1 v2 : Int32) (M : Mem) : f_X9_read v1 v2 M = ck (inb v1 6) ((f_X9_next (mu (mu (mu (mu (mu M 100 19 (160 * v1)) 100 20 (M 102 (v1).toNatClampNeg)) 100 21 0) 100 25 0) 100 26 0)).bind fun o2 => (partM (sw 6) o2).bind fun o6 => (if (o6.2 100 26) = 0 then (partM (sw 7) o6.2).bind fun o11 => f_X9_read_b92 v2 o6.1 o11.1 o11.2 else f_X9_read_b92 v2 o6.1 0 o6.2)) := by
  unfold partM
  simp only [Option.bind_assoc]
  rfl
theorem b92_eq (v2 v3 s0 : Int32) (M : Mem) : f_X9_read_b92 v2 v3 s0 M = (if (M 100 26) = 0 then (partM (sw 8) M).bind fun o16 => f_X9_read_b126 v2 v3 s0 o16.1 o16.2 else f_X9_read_b126 v2 v3 s0 0 M) := by
  unfold partM
  simp only [Option.bind_assoc]
  rfl
theorem r160 : ∀ r, r < 6 → (160 : Int32) * nI r = nI (160 * r) ∧ inb (nI r) 6 = true ∧ (nI r).toNatClampNeg = r := by decide +kernel
theorem deadM {w : Nat} (hw : w < 3) {M : Mem} (h : M 100 26 = 1) (a b c : Int32) : (∃ v, f_X9_read_b126 (nI w) a b c M = some (v, M)) ∧ ∃ v, f_X9_read_b92 (nI w) a b M = some (v, M) := by
  have g : ∀ c, ∃ v, f_X9_read_b126 (nI w) a b c M = some (v, M) := by
    intro c
    unfold f_X9_read_b126
    rw [if_neg (by rw [h]; decide)]
    exact b146e w hw a b c M
  refine ⟨g c, ?_⟩
  rw [b92_eq, if_neg (by rw [h]; decide)]
  exact g 0
theorem readSim (ht : isTx t) (hn : n ≤ 160) (hB : ∀ j, j < n → B j < 256) {Mc Mm : Mem} (hC : BC Mc n B) {r : Nat} (hr : r < 6) (h102 : Mm 102 r = nI n) (h101 : ∀ j, j < n → Mm 101 (160 * r + j) = nI (B j)) {w : Nat} (hw : w < 3) :
    ∃ (x : Int32) (C : Mem) (v : Int32) (Cm : Mem), f_X5_readInto t Mc = some (x, C) ∧ f_X9_read (nI r) (nI w) Mm = some (v, Cm) ∧ FrR t Mc C ∧ C 34 1 = 0 ∧ Fr19 Mm Cm ∧
      ((x = -1 ∧ WfT (C (t + 2)) ∧ v = evT (C (t + 1)) (C (t + 2)) (env Mm) w ∧ Cm 100 26 = 0) ∨ (∃ f, f ≤ 160 ∧ x = nI f ∧ Cm 100 26 = 1 ∧ Cm 100 27 = nI f)) := by
  obtain ⟨q1, q2, q3⟩ := r160 r hr
  obtain ⟨g, hg⟩ : ∃ g, FU = g + 4 := ⟨FU - 4, by have := FU_ge; omega⟩
  unfold f_X5_readInto f_X7_clear
  rw [(tx_kd ht).1, readM_eq, q1, q2, q3, h102]
  simp only [beq_self_eq_true, ck_true, Option.bind_some]
  -- before the first token
  generalize hM0 : mu (mu (mu (mu (mu Mm 100 19 (nI (160 * r))) 100 20 (nI n)) 100 21 0) 100 25 0) 100 26 0 = M0
  generalize hC0 : mu (mu (mu Mc t 2 0) 34 2 0) 34 6 (-1) = C0
  have f0 : Fr19 Mm M0 := by
    rw [← hM0]
    exact ⟨fun q x => by rw [mun x, mun x, mun x, mun x, mun x], fun j x => by rw [mu_o (by omega), mu_o (by omega), mu_o (by omega), mu_o (by omega), mu_o (by omega)]⟩
  have hBM : BM M0 (160 * r) n B := by
    rw [← hM0]
    refine ⟨?_, ?_, by omega, fun j hj => ?_⟩
    · rw [mu_o (by omega), mu_o (by omega), mu_o (by omega), mu_o (by omega), mu_at]
    · rw [mu_o (by omega), mu_o (by omega), mu_o (by omega), mu_at]
    · rw [mun (by omega), mun (by omega), mun (by omega), mun (by omega), mun (by omega)]; exact h101 j hj
  have m21 : M0 100 21 = nI 0 := by rw [← hM0, mu_o (by omega), mu_o (by omega), mu_at]; rfl
  have m25 : M0 100 25 = nI 0 := by rw [← hM0, mu_o (by omega), mu_at]; rfl
  have m26 : M0 100 26 = 0 := by rw [← hM0, mu_at]
  have ht2 := ht
  obtain ⟨r0, hr0, rfl⟩ := ht2
  have fc0 : FrR (16 + 3 * r0) Mc C0 := by rw [← hC0]; exact fun q x y z u => by rw [mun x, mun x, mun y]
  have hBC : BC C0 n B := by
    rw [← hC0]
    refine ⟨?_, fun j hj => ?_⟩
    · rw [mu_o (by omega), mu_o (by omega), mun (by omega)]; exact hC.1
    · rw [mun (by omega), mun (by omega), mun (by omega)]; exact hC.2 j hj
  have c2 : C0 34 2 = nI 0 := by rw [← hC0, mu_o (by omega), mu_at]; rfl
  have c6 : C0 34 6 = -1 := by rw [← hC0, mu_at]
  have ct : C0 (16 + 3 * r0) 2 = nI 0 := by rw [← hC0, mun (by omega), mun (by omega), mu_at]; rfl
  obtain ⟨A, Am, p, w0, b1, b2, b3, b4, b5, b6, b7, b8⟩ := advBoth hn hB hBC hBM c2 m21 (by omega)
  have env0 : env Am = env Mm := by
    funext i
    unfold env
    by_cases c : i < 6
    · rw [if_pos c, if_pos c, b8 _ (by omega) (by omega) (by omega) (by omega)]; exact f0.2 _ (by omega)
    · rw [if_neg c, if_neg c]
  have L0 : Live n B (160 * r) (16 + 3 * r0) 0 A Am p w0 0 := by
    refine ⟨b3, ⟨?_, ?_⟩, ⟨?_, ?_, hBM.2.2.1, ?_⟩, ?_, ?_, ?_, ?_, by omega⟩
    · rw [b6 1 (by omega) (by omega) (by omega) (by omega)]; exact hBC.1
    · intro j hj; rw [b5 35 (by omega)]; exact hBC.2 j hj
    · rw [b8 19 (by omega) (by omega) (by omega) (by omega)]; exact hBM.1
    · rw [b8 20 (by omega) (by omega) (by omega) (by omega)]; exact hBM.2.1
    · intro j hj; rw [b7 101 (by omega)]; exact hBM.2.2.2 j hj
    · rw [b6 6 (by omega) (by omega) (by omega) (by omega)]; exact c6
    · rw [b8 26 (by omega) (by omega) (by omega) (by omega)]; exact m26
    · rw [b8 25 (by omega) (by omega) (by omega) (by omega)]; exact m25
    · rw [b5 _ (by omega)]; exact ct
  have fA : FrR (16 + 3 * r0) Mc A := fc0.tr (fun q x _ _ _ => b5 q x)
  have fAm : Fr19 Mm Am := f0.tr ⟨b7, fun j x => b8 j (by omega) (by omega) (by omega) (by omega)⟩
  rw [b1, b2]
  simp only [Option.bind_some]
  have l0 := l20step ht f_X5_readInto_b57 (g + 3) (show 0 < 3 by omega) A
  rw [hg, show f_X5_readInto_l20 f_X5_readInto_b57 (g + 4) (16 + 3 * r0) 0 A = _ from l0]
  -- the first part
  have S0 : Sec (16 + 3 * r0) 0 0 A (env Am) (fun _ => 0) (fun _ => 0) := ⟨rfl, fun c hc => by omega⟩
  obtain ⟨P1, Pm1, v1, e1, e2, e3, e4, e5⟩ := partBoth ht hn hB (k := 6) (by omega) L0
  rw [show nI (260 + 0) = nI (254 + 6) from rfl, e1, e2]
  simp only [Option.bind_some]
  have fP1 := fA.tr e3.r
  have fPm1 := fAm.tr e4.n19
  rcases e5 with e5 | ⟨f, e5⟩
  rotate_left
  · obtain ⟨C, g1, g2, g3⟩ := deadRun ht hn hB f_X5_readInto_b57 2 1 g _ Pm1 (by omega) (e5.en ht 0 (P1 (16 + 3 * r0) 2))
    rw [show g + 3 = 2 + 1 + g by omega, show (0 + 1) = 1 from rfl, g1, deadEnd g3, if_neg (by rw [e5.2.2.1]; decide)]
    obtain ⟨v, hv⟩ := (deadM hw e5.2.2.1 v1 0 0).2
    rw [hv]
    refine ⟨_, _, v, Pm1, rfl, rfl, ((fP1.tr (FrR.en P1 0 _)).tr g2).tr (fun q x _ _ _ => mun x), mu_at, fPm1, Or.inr ⟨f, e5.2.2.2.2.1, rfl, e5.2.2.1, e5.2.2.2.1⟩⟩
  obtain ⟨p1, w1, s1, L1, S1⟩ := S0.step e5 e3 ht
  have fQ1 := fP1.tr (FrR.en P1 0 (P1 (16 + 3 * r0) 2))
  generalize mu P1 (16 + 3 * r0 + 2) 0 (P1 (16 + 3 * r0) 2) = Q1 at L1 S1 fQ1
  rw [if_pos L1.2.2.2.2.1, l20step ht _ (g + 2) (show 0 + 1 < 3 by omega)]
  rw [← e4.en] at S1
  -- the second part
  obtain ⟨P2, Pm2, v2, i1, i2, i3, i4, i5⟩ := partBoth ht hn hB (k := 7) (by omega) L1
  rw [show nI (260 + (0 + 1)) = nI (254 + 7) from rfl, i1, i2]
  simp only [Option.bind_some]
  have fP2 := fQ1.tr i3.r
  have fPm2 := fPm1.tr i4.n19
  rcases i5 with i5 | ⟨f, i5⟩
  rotate_left
  · obtain ⟨C, g1, g2, g3⟩ := deadRun ht hn hB f_X5_readInto_b57 1 2 g _ Pm2 (by omega) (i5.en ht 1 (P2 (16 + 3 * r0) 2))
    rw [show g + 2 = 1 + 1 + g by omega, show (0 + 1 + 1) = 2 from rfl, show (0 + 1) = 1 from rfl, g1, deadEnd g3]
    obtain ⟨v, hv⟩ := (deadM hw i5.2.2.1 v1 v2 0).2
    rw [hv]
    refine ⟨_, _, v, Pm2, rfl, rfl, ((fP2.tr (FrR.en P2 1 _)).tr g2).tr (fun q x _ _ _ => mun x), mu_at, fPm2, Or.inr ⟨f, i5.2.2.2.2.1, rfl, i5.2.2.1, i5.2.2.2.1⟩⟩
  obtain ⟨p2, w2, s2, L2, S2⟩ := S1.step i5 i3 ht
  have fQ2 := fP2.tr (FrR.en P2 (0 + 1) (P2 (16 + 3 * r0) 2))
  generalize mu P2 (16 + 3 * r0 + 2) (0 + 1) (P2 (16 + 3 * r0) 2) = Q2 at L2 S2 fQ2
  rw [b92_eq, if_pos L2.2.2.2.2.1, l20step ht _ (g + 1) (show 0 + 1 + 1 < 3 by omega)]
  rw [← i4.en] at S2
  -- the third part
  obtain ⟨P3, Pm3, v3, j1, j2, j3, j4, j5⟩ := partBoth ht hn hB (k := 8) (by omega) L2
  rw [show nI (260 + (0 + 1 + 1)) = nI (254 + 8) from rfl, j1, j2]
  simp only [Option.bind_some]
  have fP3 := fQ2.tr j3.r
  have fPm3 := fPm2.tr j4.n19
  rcases j5 with j5 | ⟨f, j5⟩
  rotate_left
  · obtain ⟨C, g1, g2, g3⟩ := deadRun ht hn hB f_X5_readInto_b57 0 3 g _ Pm3 (by omega) (j5.en ht 2 (P3 (16 + 3 * r0) 2))
    rw [show g + 1 = 0 + 1 + g by omega, show (0 + 1 + 1 + 1) = 3 from rfl, show (0 + 1 + 1) = 2 from rfl, g1, deadEnd g3]
    obtain ⟨v, hv⟩ := (deadM hw j5.2.2.1 v1 v2 v3).1
    rw [hv]
    refine ⟨_, _, v, Pm3, rfl, rfl, ((fP3.tr (FrR.en P3 2 _)).tr g2).tr (fun q x _ _ _ => mun x), mu_at, fPm3, Or.inr ⟨f, j5.2.2.2.2.1, rfl, j5.2.2.1, j5.2.2.2.1⟩⟩
  obtain ⟨p3, w3, s3, L3, S3⟩ := S2.step j5 j3 ht
  have fQ3 := fP3.tr (FrR.en P3 (0 + 1 + 1) (P3 (16 + 3 * r0) 2))
  generalize mu P3 (16 + 3 * r0 + 2) (0 + 1 + 1) (P3 (16 + 3 * r0) 2) = Q3 at L3 S3 fQ3
  rw [f_X5_readInto_l20, if_pos (show (3 : Int32) ≤ nI (0 + 1 + 1 + 1) by decide)]
  unfold f_X9_read_b126
  rw [if_pos L3.2.2.2.2.1]
  have hs3 : s3 ≤ 160 := by have := L3.1.1; have := L3.2.2.2.2.2.2.2; omega
  rcases obsE hB L3.1 with ⟨z1, z2⟩ | ⟨z1, z2⟩
  · unfold f_X5_readInto_b57 f_X5_readInto_b71
    rw [if_pos z1, if_pos z2, L3.2.2.2.1]
    obtain ⟨u1, u2⟩ := S3.done hs3
    have hb := b146 w hw (fun i => if i = 0 then v1 else if i = 1 then v2 else v3) Pm3
    have hv : f_X9_read_b146 (nI w) v1 v2 v3 Pm3 = some ((fun i => if i = 0 then v1 else if i = 1 then v2 else v3) w, Pm3) := hb
    rw [hv]
    refine ⟨_, _, _, Pm3, rfl, rfl, fQ3.tr (fun q x _ _ _ => mun x), mu_at, fPm3, Or.inl ⟨rfl, ?_, ?_, L3.2.2.2.2.1⟩⟩
    · rw [mun (by omega)]; exact u1
    · rw [mun (by omega), mun (by omega)]
      have hE : env Pm2 = env Mm := by rw [i4.en, e4.en, env0]
      have := u2 w hw
      rw [i4.en, e4.en, env0] at this
      rw [this]
      have : w = 0 ∨ w = 1 ∨ w = 2 := by omega
      rcases this with rfl | rfl | rfl <;> rfl
  · obtain ⟨D, Dm, y1, y2, y3, y4, y5⟩ := failBoth ht hn L3
    unfold f_X5_readInto_b57 f_X5_readInto_b71
    rw [if_neg z1, if_neg z2, y1, y2]
    simp only [Option.bind_some]
    obtain ⟨v, hv⟩ := b146e w hw v1 v2 v3 Dm
    rw [hv, y5.2.1]
    refine ⟨_, _, v, Dm, rfl, rfl, (fQ3.tr y3.r).tr (fun q x _ _ _ => mun x), mu_at, fPm3.tr y4.n19, Or.inr ⟨p3, y5.2.2.2.2.1, rfl, y5.2.2.1, y5.2.2.2.1⟩⟩
end
