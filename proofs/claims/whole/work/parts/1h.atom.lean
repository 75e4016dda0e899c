/-! ONE -/
section
variable {n f0 t d : Nat} {B : Nat → Nat} {rE rB rN rS rT rO : Nat → Int32 → Mem → Option Mem} {me mb mn ma mt mo : Mem → Option (Int32 × Mem)}
theorem appAdv {Mc Mm : Mem} {p w s : Nat} (ht : isTx t) (hn : n ≤ 160) (hB : ∀ j, j < n → B j < 256) (h : Live n B f0 t d Mc Mm p w s) (h6 : Mc 34 3 ≠ 256) (h7 : Mc 34 3 ≠ 257) (c : Int32) :
    ∃ (P Mc1 Mm1 : Mem) (p1 w1 : Nat), f_X7_append t c Mc = some P ∧ f_X5_advance P = some Mc1 ∧ f_X9_next Mm = some Mm1 ∧ FrC t Mc Mc1 ∧ FrM Mm Mm1 ∧ Live n B f0 t d Mc1 Mm1 p1 w1 (s + 1) ∧ p < p1 ∧ Mc1 (t + 1) s = c ∧ ∀ j, j ≠ s → Mc1 (t + 1) j = Mc (t + 1) j := by
  obtain ⟨hL, hC, hM, a6, a26, a25, hs, hsp⟩ := h
  have hp := hL.1
  have key : ∃ i, p < i ∧ i ≤ n ∧ Mc 34 2 = nI i ∧ Mm 100 21 = nI i := by
    obtain ⟨hp, h4, h23, h1 | h1 | h1 | h1 | h1⟩ := hL
    · exact absurd h1.2.2.1 h6
    · obtain ⟨e, a1, a2, a3, a4, a5⟩ := h1
      exact ⟨e, a1, a2, a3, a4⟩
    · obtain ⟨e, v, a1, a2, a3, a4, a5, a6⟩ := h1
      exact ⟨e, a1, a2, a4, a5⟩
    · obtain ⟨a1, a2, a3, a4, a5, a6⟩ := h1
      exact ⟨p + 1, by omega, by omega, a4, a5⟩
    · exact absurd h1.2.2.1 h7
  obtain ⟨i, i1, i2, i3, i4⟩ := key
  have ha := app_eq ht hs (show s < 160 by omega) c
  have hf := app_fr (s := s) ht Mc c (nI (s + 1))
  have hx1 : mu (mu Mc (t + 1) s c) t 2 (nI (s + 1)) (t + 1) s = c := by rw [mun (by omega), mu_at]
  have hx2 : ∀ j, j ≠ s → mu (mu Mc (t + 1) s c) t 2 (nI (s + 1)) (t + 1) j = Mc (t + 1) j := fun j hj => by rw [mun (by omega), mu_o hj]
  have hx3 : mu (mu Mc (t + 1) s c) t 2 (nI (s + 1)) t 2 = nI (s + 1) := mu_at
  obtain ⟨r, hr, rfl⟩ := ht
  have hx4 : ∀ j, mu (mu Mc (16 + 3 * r + 1) s c) (16 + 3 * r) 2 (nI (s + 1)) 34 j = Mc 34 j := fun j => by rw [mun (by omega), mun (by omega)]
  have hx5 : ∀ j, mu (mu Mc (16 + 3 * r + 1) s c) (16 + 3 * r) 2 (nI (s + 1)) 35 j = Mc 35 j := fun j => by rw [mun (by omega), mun (by omega)]
  generalize mu (mu Mc (16 + 3 * r + 1) s c) (16 + 3 * r) 2 (nI (s + 1)) = P at ha hf hx1 hx2 hx3 hx4 hx5
  obtain ⟨Mc1, Mm1, p1, w1, b1, b2, b3, b4, b5, b6, b7, b8⟩ := advBoth hn hB (Mc := P) ⟨(hx4 1).trans hC.1, fun j hj => (hx5 j).trans (hC.2 j hj)⟩ hM ((hx4 2).trans i3) i4 i2
  refine ⟨P, Mc1, Mm1, p1, w1, ha, b1, b2, hf.tr ⟨fun q x y z => b5 q x, fun j x => b6 j (by omega) (by omega) (by omega) (by omega), fun j x => by rw [b5 _ (by omega)]⟩, ⟨b7, fun j x => b8 j (by omega) (by omega) (by omega) (by omega)⟩, ⟨b3, ⟨?_, ?_⟩, ⟨?_, ?_, hM.2.2.1, ?_⟩, ?_, ?_, ?_, ?_, by omega⟩, by omega, ?_, ?_⟩
  · rw [b6 1 (by omega) (by omega) (by omega) (by omega), hx4]; exact hC.1
  · intro j hj; rw [b5 35 (by omega), hx5]; exact hC.2 j hj
  · rw [b8 19 (by omega) (by omega) (by omega) (by omega)]; exact hM.1
  · rw [b8 20 (by omega) (by omega) (by omega) (by omega)]; exact hM.2.1
  · intro j hj; rw [b7 101 (by omega)]; exact hM.2.2.2 j hj
  · rw [b6 6 (by omega) (by omega) (by omega) (by omega), hx4]; exact a6
  · rw [b8 26 (by omega) (by omega) (by omega) (by omega)]; exact a26
  · rw [b8 25 (by omega) (by omega) (by omega) (by omega)]; exact a25
  · rw [b5 _ (by omega)]; exact hx3
  · rw [b5 _ (by omega)]; exact hx1
  · intro j hj; rw [b5 _ (by omega)]; exact hx2 j hj
theorem nmC : ∀ w, w < 6 → ¬ ((-1) - nI w < -6) ∧ ((-1) - nI w < 0) ∧ ((-1) - ((-1) - nI w)).toNatClampNeg = w := by decide +kernel
theorem evS_name {w : Nat} (hw : w < 6) (M : Mem) (st : List Int32) : evS ((-1) - nI w) (env M) st = M 100 (13 + w) :: st := by
  obtain ⟨a, b, c⟩ := nmC w hw
  unfold evS
  rw [if_neg a, if_pos b, c]
  unfold env
  rw [if_pos hw]
theorem evS_num {v : Nat} (hv : v < 10000) (e : Nat → Int32) (st : List Int32) : evS (nI v) e st = nI v :: st := by
  unfold evS
  have h0 : ¬ nI v < 0 := nI_pos (by omega)
  rw [if_neg (fun x => h0 (Int32.lt_trans x (by decide))), if_neg h0]
theorem nameM (hn : n ≤ 160) (hB : ∀ j, j < n → B j < 256) {Mc Mm : Mem} {p w : Nat} (hM : BM Mm f0 n B) (h : Lx n B Mc Mm p w) (hb : Mm 100 26 = 0) :
    f_X9_name Mm = if w < 6 then some (Mm 100 (13 + w), Mm) else (f_X9_fail Mm).bind fun o19 => some (0, o19) := by
  have o0 := obsW hn hB hM h hb (k := 0) (by omega)
  have o1 := obsW hn hB hM h hb (k := 1) (by omega)
  have o2 := obsW hn hB hM h hb (k := 2) (by omega)
  have o3 := obsW hn hB hM h hb (k := 3) (by omega)
  have o4 := obsW hn hB hM h hb (k := 4) (by omega)
  have o5 := obsW hn hB hM h hb (k := 5) (by omega)
  have g : f_X9_name Mm = (wordM0 (sw 0) Mm).bind fun o1 => (if o1.1 = 0 then (wordM0 (sw 1) o1.2).bind fun o4 => (if o4.1 = 0 then (wordM0 (sw 2) o4.2).bind fun o7 => (if o7.1 = 0 then (wordM0 (sw 3) o7.2).bind fun o10 => (if o10.1 = 0 then (wordM0 (sw 4) o10.2).bind fun o13 => (if o13.1 = 0 then (wordM0 (sw 5) o13.2).bind fun o16 => (if o16.1 = 0 then (f_X9_fail o16.2).bind fun o19 => some (0, o19) else some ((o16.2 100 18), o16.2)) else some ((o13.2 100 17), o13.2)) else some ((o10.2 100 16), o10.2)) else some ((o7.2 100 15), o7.2)) else some ((o4.2 100 14), o4.2)) else some ((o1.2 100 13), o1.2)) := rfl
  rw [g]
  simp only [o0, o1, o2, o3, o4, o5, Option.bind_some, zI_0, decide_eq_false_iff_not]
  by_cases c0 : w = 0
  · subst c0; rw [if_neg (fun x => x rfl), if_pos (by omega)]
  rw [if_pos c0]
  by_cases c1 : w = 1
  · subst c1; rw [if_neg (fun x => x rfl), if_pos (by omega)]
  rw [if_pos c1]
  by_cases c2 : w = 2
  · subst c2; rw [if_neg (fun x => x rfl), if_pos (by omega)]
  rw [if_pos c2]
  by_cases c3 : w = 3
  · subst c3; rw [if_neg (fun x => x rfl), if_pos (by omega)]
  rw [if_pos c3]
  by_cases c4 : w = 4
  · subst c4; rw [if_neg (fun x => x rfl), if_pos (by omega)]
  rw [if_pos c4]
  by_cases c5 : w = 5
  · subst c5; rw [if_neg (fun x => x rfl), if_pos (by omega)]
  rw [if_pos c5, if_neg (by omega)]
theorem onePS (ht : isTx t) (hn : n ≤ 160) (hd : d ≤ 5) (hB : ∀ j, j < n → B j < 256) (hE : d < 5 → PS n B f0 t rE me (d + 1)) (hO : d < 5 → PS n B f0 t rO mo (d + 1)) : PS n B f0 t (f_X5_readOne_b rE rB rN rS rT rO) (f_X9_atom_b me mb mn ma mt mo) d := by
  intro Mc Mm
  constructor
  · intro p w s h
    have h26 := h.2.2.2.2.1
    have h25 := h.2.2.2.2.2.1
    have hp := h.1.1
    have o45 := obsS hB h.1 h26 (c := 45) (by omega)
    have o40 := obsS hB h.1 h26 (c := 40) (by omega)
    -- neither can go on
    have dead : Mc 34 3 ≠ 258 → Mc 34 3 ≠ 259 → (Mc 34 3 = nI 45 ∨ Mc 34 3 = nI 40 → d = 5) → Mm 100 22 ≠ 2 → (Mm 100 22 = 1 → 6 ≤ w) →
        ∃ (Mc1 Mm1 : Mem) (v : Int32), f_X5_readOne_b rE rB rN rS rT rO t (nI d) Mc = some Mc1 ∧ f_X9_atom_b me mb mn ma mt mo Mm = some (v, Mm1) ∧ FrC t Mc Mc1 ∧ FrM Mm Mm1 ∧ (Go n B f0 t d Mc Mm p s Mc1 Mm1 v ∨ ∃ f, Dead t f Mc1 Mm1) := by
      intro n8 n9 nb n2 n1
      obtain ⟨Mc1, Mm1, e1, e2, e3, e4, e5⟩ := failBoth ht hn h
      have d26 := e5.2.2.1
      refine ⟨Mc1, Mm1, 0, ?_, ?_, e3, e4, Or.inr ⟨p, e5⟩⟩
      · unfold f_X5_readOne_b
        rw [if_neg n8, if_neg n9]
        have fin : f_X5_readOne_b66 rE rB rN rS rT rO Mc = some Mc1 := by unfold f_X5_readOne_b66; rw [e1]; rfl
        have g1 : d = 5 → f_X5_readOne_b51 rE rB rN rS rT rO t (nI d) Mc = some Mc1 := by
          intro hd5
          unfold f_X5_readOne_b51 f_X5_readOne_b56
          rw [if_neg (by decide), hd5, if_neg (show ¬ nI 5 < 5 by decide), fin]
        by_cases c1 : Mc 34 3 = nI 45
        · rw [if_pos (show Mc 34 3 = 45 from c1)]; exact g1 (nb (Or.inl c1))
        · rw [if_neg (show ¬ Mc 34 3 = 45 from c1)]
          by_cases c2 : Mc 34 3 = nI 40
          · rw [if_pos (show Mc 34 3 = 40 from c2)]; exact g1 (nb (Or.inr c2))
          · rw [if_neg (show ¬ Mc 34 3 = 40 from c2)]
            unfold f_X5_readOne_b56
            rw [if_pos rfl, fin]
      · unfold f_X9_atom_b
        rw [show (45 : Int32) = nI 45 from rfl, show (40 : Int32) = nI 40 from rfl, o45]
        simp only [Option.bind_some, zI_0, o40]
        have g1 : d = 5 → ((f_X9_opens Mm).bind fun o => (if o.1 = 0 then some ((0 : Int32), o.2) else none)) = some (0, Mm1) ∧ f_X9_opens Mm = some (0, Mm1) := by
          intro hd5
          have : f_X9_opens Mm = some (0, Mm1) := by
            unfold f_X9_opens
            rw [h25, hd5, if_pos (show nI 5 = 5 from rfl), e2]
            rfl
          rw [this]
          exact ⟨rfl, rfl⟩
        by_cases c1 : Mc 34 3 = nI 45
        · rw [decide_eq_true c1, if_neg (show ¬ (true = false) by decide), (g1 (nb (Or.inl c1))).2]
          rfl
        · rw [decide_eq_false c1, if_pos rfl]
          by_cases c2 : Mc 34 3 = nI 40
          · rw [decide_eq_true c2, if_neg (show ¬ (true = false) by decide), (g1 (nb (Or.inr c2))).2]
            rfl
          · rw [decide_eq_false c2, if_pos rfl, if_pos h26, if_neg n2]
            unfold f_X9_atom_b123 f_X9_atom_b157
            rw [if_pos h26]
            by_cases c3 : Mm 100 22 = 1
            · rw [if_pos c3, nameM hn hB h.2.2.1 h.1 h26, if_neg (by have := n1 c3; omega), e2]
              simp only [Option.bind_some]
              rw [if_neg (by rw [d26]; decide)]
            · rw [if_neg c3, e2]
              rfl
    -- a number or a name: one code, and on
    have put : Mc 34 3 ≠ 256 → Mc 34 3 ≠ 257 → (Mc 34 3 = 258 ∨ Mc 34 3 = 259) → ∀ v : Int32, (∀ Mm1, f_X9_next Mm = some Mm1 → f_X9_atom_b me mb mn ma mt mo Mm = some (v, Mm1)) → (∀ st, evS (Mc 34 5) (env Mm) st = v :: st) →
        ∃ (Mc1 Mm1 : Mem) (v : Int32), f_X5_readOne_b rE rB rN rS rT rO t (nI d) Mc = some Mc1 ∧ f_X9_atom_b me mb mn ma mt mo Mm = some (v, Mm1) ∧ FrC t Mc Mc1 ∧ FrM Mm Mm1 ∧ (Go n B f0 t d Mc Mm p s Mc1 Mm1 v ∨ ∃ f, Dead t f Mc1 Mm1) := by
      intro h6 h7 h8 v hv he
      obtain ⟨P, Mc1, Mm1, p1, w1, e1, e2, e3, e4, e5, e6, e7, e8, e9⟩ := appAdv ht hn hB h h6 h7 (Mc 34 5)
      refine ⟨Mc1, Mm1, v, ?_, hv Mm1 e3, e4, e5, Or.inl ⟨p1, w1, s + 1, e6, e7, by omega, by omega, fun j hj => e9 j (by omega), fun st => ?_⟩⟩
      · have g : f_X5_readOne_b20 rE rB rN rS rT rO t Mc = some Mc1 := by
          unfold f_X5_readOne_b20
          rw [e1, kd6 ht]
          simp only [Option.bind_some, ck_true]
          rw [e2]
          rfl
        unfold f_X5_readOne_b
        rcases h8 with h8 | h8
        · rw [if_pos h8, g]
        · rw [if_neg (by rw [h8]; decide), if_pos h8, g]
      · rw [show s + 1 - s = 0 + 1 by omega]
        show evS (Mc1 (t + 1) s) (env Mm) st = v :: st
        rw [e8]
        exact he st
    obtain ⟨_, h4, h23, h1 | h1 | h1 | h1 | h1⟩ := h.1
    · obtain ⟨a1, a2, a3, a4⟩ := h1
      exact dead (by rw [a3]; decide) (by rw [a3]; decide) (by rw [a3]; intro x; rcases x with x | x <;> exact absurd x (by decide)) (by rw [a4]; decide) (by rw [a4]; intro x; exact absurd x (by decide))
    · obtain ⟨e, a1, a2, a3, a4, a5, a6, a7, a8, a9⟩ := h1
      have hw : w ≤ 12 := by rw [a6]; exact fw_le B p e
      have n45 : ¬ Mc 34 3 = nI 45 := by rw [a7]; exact tkW_sg hw (by omega)
      have n40 : ¬ Mc 34 3 = nI 40 := by rw [a7]; exact tkW_sg hw (by omega)
      by_cases c : w < 6
      · have tk : Mc 34 3 = 259 := by rw [a7]; unfold tkW; rw [if_pos c]
        refine put (by rw [tk]; decide) (by rw [tk]; decide) (Or.inr tk) (Mm 100 (13 + w)) ?_ ?_
        · intro Mm1 hx
          unfold f_X9_atom_b
          rw [show (45 : Int32) = nI 45 from rfl, show (40 : Int32) = nI 40 from rfl, o45]
          simp only [Option.bind_some, zI_0, o40]
          rw [decide_eq_false n45, if_pos rfl, decide_eq_false n40, if_pos rfl, if_pos h26, if_neg (by rw [a5]; decide)]
          unfold f_X9_atom_b123
          rw [if_pos h26, if_pos a5, nameM hn hB h.2.2.1 h.1 h26, if_pos c]
          simp only [Option.bind_some]
          rw [if_pos h26, hx]
          rfl
        · intro st
          rw [a8 c, evS_name c]
      · have tk : Mc 34 3 ≠ 258 ∧ Mc 34 3 ≠ 259 := by
          rw [a7, tkW_f w hw, if_neg c, show (258 : Int32) = nI 258 from rfl, show (259 : Int32) = nI 259 from rfl]
          split
          · exact ⟨fun x => by rw [nIeq (by omega) (by omega)] at x; omega, fun x => by rw [nIeq (by omega) (by omega)] at x; omega⟩
          · exact ⟨fun x => by rw [nIeq (by omega) (by omega)] at x; omega, fun x => by rw [nIeq (by omega) (by omega)] at x; omega⟩
        exact dead tk.1 tk.2 (fun x => by rcases x with x | x; exact absurd x n45; exact absurd x n40) (by rw [a5]; decide) (fun _ => by omega)
    · obtain ⟨e, v, a1, a2, a3, a4, a5, a6, a7, a8, a9, a10⟩ := h1
      have n45 : ¬ Mc 34 3 = nI 45 := by rw [a7]; decide
      have n40 : ¬ Mc 34 3 = nI 40 := by rw [a7]; decide
      refine put (by rw [a7]; decide) (by rw [a7]; decide) (Or.inl a7) (nI v) ?_ (fun st => by rw [a9]; exact evS_num a8 _ _)
      intro Mm1 hx
      unfold f_X9_atom_b
      rw [show (45 : Int32) = nI 45 from rfl, show (40 : Int32) = nI 40 from rfl, o45]
      simp only [Option.bind_some, zI_0, o40]
      rw [decide_eq_false n45, if_pos rfl, decide_eq_false n40, if_pos rfl, if_pos h26, if_pos a6, hx, a10]
      simp only [Option.bind_some]
      rw [nI_l (by omega), lN_i]
    · obtain ⟨a1, a2, a3, a4, a5, a6, a7, a8⟩ := h1
      have hbp := hB p a1
      have nn : ∀ k, 256 ≤ k → k < 300 → ¬ Mc 34 3 = nI k := fun k hk hk2 => by rw [a7, nIeq (by omega) (by omega)]; omega
      have nn8 : ¬ Mc 34 3 = 258 := nn 258 (by omega) (by omega)
      have nn9 : ¬ Mc 34 3 = 259 := nn 259 (by omega) (by omega)
      by_cases c5 : d < 5
      · by_cases c1 : Mc 34 3 = nI 45
        · -- minus
          have h2 := h.op (d + 1)
          obtain ⟨A, Am, C, Mc1, Mm1, v, e1, e2, e3, e4, e5, e6, e7, e8⟩ := opStep ht hn hB (hO c5) h2 (nn 256 (by omega) (by omega)) (nn 257 (by omega) (by omega)) (-15)
          have fm : FrM Mm Mm1 := (FrM.mu Mm (by omega) _).tr e7
          refine ⟨Mc1, mu Mm1 100 25 (Mm1 100 25 - 1), -v, ?_, ?_, e6, fm.tr (FrM.mu Mm1 (by omega) _), ?_⟩
          · unfold f_X5_readOne_b
            rw [if_neg nn8, if_neg nn9, if_pos (show Mc 34 3 = 45 from c1)]
            unfold f_X5_readOne_b51 f_X5_readOne_b56
            rw [if_neg (by decide), if_pos (show nI d < 5 by exact nI_lt (b := 5) c5 (by omega)), if_pos (show Mc 34 3 = 45 from c1)]
            unfold f_X5_readOne_b85
            rw [e1]
            simp only [Option.bind_some]
            rw [if_neg (by decide), nIp, e3]
            simp only [Option.bind_some]
            rw [e5, kd6 ht]
            rfl
          · unfold f_X9_atom_b
            rw [show (45 : Int32) = nI 45 from rfl, o45, decide_eq_true c1]
            simp only [Option.bind_some]
            rw [if_neg (by decide)]
            unfold f_X9_opens
            rw [h25, if_neg (by rw [show (5 : Int32) = nI 5 from rfl, nIeq (by omega) (by omega)]; omega), nIp, e2]
            simp only [Option.bind_some]
            rw [if_neg (by decide), e4]
            rfl
          · rcases e8 with ⟨p1, w1, s1, k1, k2, k3, k4, k5, k6⟩ | ⟨f, k1⟩
            · have o25 := k1.2.2.2.2.2.1
              rw [o25, nIm (by omega), Nat.add_sub_cancel]
              refine Or.inl ⟨p1, w1, s1 + 1, k1.op d, k2, by omega, by omega, k5, fun st => ?_⟩
              have := k6 st
              rw [(FrM.mu Mm (by omega) (nI (d + 1))).en] at this
              rw [this]
              unfold evS
              rw [if_pos (by decide), if_neg (by decide), if_pos rfl]
            · exact Or.inr ⟨f, k1.op _⟩
        · by_cases c2 : Mc 34 3 = nI 40
          · -- in brackets
            have h2 := h.op (d + 1)
            obtain ⟨A, Am, p1, w1, e1, e2, e3, e4, e5, e6, e7⟩ := advLive ht hn hB h2 (nn 256 (by omega) (by omega)) (nn 257 (by omega) (by omega))
            obtain ⟨C, Cm, v, g1, g2, g3, g4, g5⟩ := (hE c5 A Am).1 _ _ _ e5
            have cl : ∀ x, f_X5_expect 41 C = some x → f_X5_readOne_b rE rB rN rS rT rO t (nI d) Mc = some x := by
              intro x hx
              unfold f_X5_readOne_b
              rw [if_neg nn8, if_neg nn9, if_neg (show ¬ Mc 34 3 = 45 from c1), if_pos (show Mc 34 3 = 40 from c2)]
              unfold f_X5_readOne_b51 f_X5_readOne_b56
              rw [if_neg (by decide), if_pos (show nI d < 5 by exact nI_lt (b := 5) c5 (by omega)), if_neg (show ¬ Mc 34 3 = 45 from c1)]
              unfold f_X5_readOne_b85
              rw [e1]
              simp only [Option.bind_some]
              rw [if_pos True.intro, nIp, g1]
              simp only [Option.bind_some]
              rw [hx]
              rfl
            have mo1 : f_X9_atom_b me mb mn ma mt mo Mm = (f_X9_isSign 41 Cm).bind fun o16 => (if o16.1 = 0 then (f_X9_fail o16.2).bind fun o19 => (f_X9_atom_b71 me mb mn ma mt mo) v o19 else (f_X9_atom_b71 me mb mn ma mt mo) v o16.2) := by
              unfold f_X9_atom_b
              rw [show (45 : Int32) = nI 45 from rfl, show (40 : Int32) = nI 40 from rfl, o45]
              simp only [Option.bind_some, zI_0, o40]
              rw [decide_eq_false c1, if_pos rfl, decide_eq_true c2, if_neg (by decide)]
              unfold f_X9_opens
              rw [h25, if_neg (by rw [show (5 : Int32) = nI 5 from rfl, nIeq (by omega) (by omega)]; omega), nIp, e2]
              simp only [Option.bind_some]
              rw [if_neg (by decide), g2]
              rfl
            have fmm : FrM Mm Cm := ((FrM.mu Mm (by omega) (nI (d + 1))).tr e4).tr g4
            rcases g5 with ⟨p2, w2, s2, k1, k2, k3, k4, k5, k6⟩ | ⟨f, k1⟩
            · have k26 := k1.2.2.2.2.1
              have k25 := k1.2.2.2.2.2.1
              have o41 := obsS hB k1.1 k26 (c := 41) (by omega)
              rw [mo1, show (41 : Int32) = nI 41 from rfl, o41]
              simp only [Option.bind_some, zI_0]
              by_cases c41 : C 34 3 = nI 41
              · have k1b := k1.op d
                obtain ⟨D, Dm, p3, w3, i1, i2, i3, i4, i5, i6, i7⟩ := advLive ht hn hB k1b (by rw [c41]; decide) (by rw [c41]; decide)
                rw [decide_eq_true c41, if_neg (by decide)]
                refine ⟨D, Dm, v, cl D ?_, ?_, e3.tr (g3.tr i3), fmm.tr ((FrM.mu Cm (by omega) _).tr i4), Or.inl ⟨p3, w3, s2, i5, by omega, by omega, by omega, fun j hj => by rw [i7, k5 j hj, e7], fun st => ?_⟩⟩
                · unfold f_X5_expect
                  rw [if_pos (show C 34 3 = 41 from c41), i1]
                  rfl
                · unfold f_X9_atom_b71
                  rw [if_pos k26, k25, nIm (by omega), Nat.add_sub_cancel, i2]
                  rfl
                · rw [i7]
                  have := k6 st
                  rw [e4.en, (FrM.mu Mm (by omega) (nI (d + 1))).en] at this
                  exact this
              · obtain ⟨D, Dm, i1, i2, i3, i4, i5⟩ := failBoth ht hn k1
                rw [decide_eq_false c41, if_pos rfl, i2]
                simp only [Option.bind_some]
                refine ⟨D, mu Dm 100 25 (Dm 100 25 - 1), v, cl D ?_, ?_, e3.tr (g3.tr i3), fmm.tr (i4.tr (FrM.mu Dm (by omega) _)), Or.inr ⟨p2, i5.op _⟩⟩
                · unfold f_X5_expect
                  rw [if_neg (show ¬ C 34 3 = 41 from c41), i1]
                  rfl
                · unfold f_X9_atom_b71
                  rw [if_neg (by rw [i5.2.2.1]; decide)]
            · obtain ⟨x1, x2⟩ := failDead k1
              rw [mo1, obsS0 k1.2.2.1]
              simp only [Option.bind_some, if_true, x2]
              refine ⟨C, mu Cm 100 25 (Cm 100 25 - 1), v, cl C ?_, ?_, e3.tr g3, fmm.tr (FrM.mu Cm (by omega) _), Or.inr ⟨f, k1.op _⟩⟩
              · unfold f_X5_expect
                rw [if_neg (by rw [k1.1]; decide), x1]
                rfl
              · unfold f_X9_atom_b71
                rw [if_neg (by rw [k1.2.2.1]; decide)]
          · exact dead (nn 258 (by omega) (by omega)) (nn 259 (by omega) (by omega)) (fun x => by rcases x with x | x; exact absurd x c1; exact absurd x c2) (by rw [a6]; decide) (by rw [a6]; intro x; exact absurd x (by decide))
      · exact dead (nn 258 (by omega) (by omega)) (nn 259 (by omega) (by omega)) (fun _ => by omega) (by rw [a6]; decide) (by rw [a6]; intro x; exact absurd x (by decide))
    · obtain ⟨a1, a2, a3, a4⟩ := h1
      exact dead (by rw [a3]; decide) (by rw [a3]; decide) (by rw [a3]; intro x; rcases x with x | x <;> exact absurd x (by decide)) (by rw [a4]; decide) (by rw [a4]; intro x; exact absurd x (by decide))
  · intro f h
    obtain ⟨x1, x2⟩ := failDead h
    have h26 := h.2.2.1
    refine ⟨Mc, Mm, 0, ?_, ?_, FrC.refl t Mc, FrM.refl Mm, h⟩
    · unfold f_X5_readOne_b
      rw [h.1, if_neg (by decide), if_neg (by decide), if_neg (by decide), if_neg (by decide)]
      unfold f_X5_readOne_b56 f_X5_readOne_b66
      rw [if_pos rfl, x1]
      rfl
    · unfold f_X9_atom_b
      rw [obsS0 h26]
      simp only [Option.bind_some, if_true, obsS0 h26]
      rw [if_neg (by rw [h26]; decide)]
      unfold f_X9_atom_b123 f_X9_atom_b157
      rw [if_neg (by rw [h26]; decide), x2]
      rfl
end
section
variable {n f0 t : Nat} {B : Nat → Nat}
/-- EVERYTHING of one part, read side by side -/
theorem parsePS (ht : isTx t) (hn : n ≤ 160) (hB : ∀ j, j < n → B j < 256) : ∀ D d, d ≤ 5 →
    (6 * (5 - d) + 1 ≤ D → PS n B f0 t (f_X5_readOne D) (f_X9_atom D) d) ∧ (6 * (5 - d) + 2 ≤ D → PS n B f0 t (f_X5_readTerm D) (f_X9_term D) d) ∧ (6 * (5 - d) + 3 ≤ D → PS n B f0 t (f_X5_readSum D) (f_X9_added D) d) ∧ (6 * (5 - d) + 4 ≤ D → PS n B f0 t (f_X5_readNot D) (f_X9_not D) d) ∧ (6 * (5 - d) + 5 ≤ D → PS n B f0 t (f_X5_readBoth D) (f_X9_both D) d) ∧ (6 * (5 - d) + 6 ≤ D → PS n B f0 t (f_X5_readEither D) (f_X9_either D) d) := by
  intro D
  induction D with
  | zero => intro d hd; exact ⟨fun h => by omega, fun h => by omega, fun h => by omega, fun h => by omega, fun h => by omega, fun h => by omega⟩
  | succ D ih =>
    intro d hd
    obtain ⟨i1, i2, i3, i4, i5, i6⟩ := ih d hd
    refine ⟨fun h => ?_, fun h => ?_, fun h => ?_, fun h => ?_, fun h => ?_, fun h => ?_⟩
    · exact onePS ht hn hd hB (fun h5 => (ih (d + 1) (by omega)).2.2.2.2.2 (by omega)) (fun h5 => (ih (d + 1) (by omega)).1 (by omega))
    · exact termPS ht hn hB (i1 (by omega))
    · exact sumPS ht hn hB (i2 (by omega))
    · exact notPS ht hn hd hB (i3 (by omega)) (fun h5 => (ih (d + 1) (by omega)).2.2.2.1 (by omega))
    · exact bothPS ht hn hB (i4 (by omega))
    · exact eitherPS ht hn hB (i5 (by omega))
theorem eitherAll (ht : isTx t) (hn : n ≤ 160) (hB : ∀ j, j < n → B j < 256) : PS n B f0 t (f_X5_readEither DP) (f_X9_either DP) 0 :=
  (parsePS ht hn hB DP 0 (by omega)).2.2.2.2.2 (by unfold DP; omega)
end
