/-! NOT, AND ONE -/
section
variable {n f0 t d : Nat} {B : Nat → Nat} {rE rB rN rS rT rO : Nat → Int32 → Mem → Option Mem} {me mb mn ma mt mo : Mem → Option (Int32 × Mem)}
theorem Live.op {Mc Mm : Mem} {p w s : Nat} (h : Live n B f0 t d Mc Mm p w s) (d2 : Nat) : Live n B f0 t d2 Mc (mu Mm 100 25 (nI d2)) p w s := by
  obtain ⟨hL, hC, hM, a6, a26, a25, hs, hsp⟩ := h
  exact ⟨hL.cg (fun _ _ _ => rfl) (fun j h1 h2 => mu_o (by omega)), hC, hM.mu (by omega), a6, (by rw [mu_o (by omega)]; exact a26), mu_at, hs, hsp⟩
theorem Dead.op {Mc Mm : Mem} {f : Nat} (h : Dead t f Mc Mm) (x : Int32) : Dead t f Mc (mu Mm 100 25 x) := by
  obtain ⟨h3, h6, h26, h27, hf, h⟩ := h
  exact ⟨h3, h6, (by rw [mu_o (by omega)]; exact h26), (by rw [mu_o (by omega)]; exact h27), hf, h⟩
theorem Go.fst {Mc Mm Mc1 Mm1 A Am : Mem} {p s p1 : Nat} {v : Int32} (h1 : p < p1 ∨ p = p1) (h2 : A (t + 1) = Mc (t + 1)) (h3 : env Am = env Mm) (h : Go n B f0 t d A Am p1 s Mc1 Mm1 v) : Go n B f0 t d Mc Mm p s Mc1 Mm1 v := by
  obtain ⟨p2, w2, s2, k1, k2, k3, k4, k5, k6⟩ := h
  exact ⟨p2, w2, s2, k1, by omega, k3, by omega, fun j hj => by rw [k5 j hj, h2], fun st => by rw [← h3]; exact k6 st⟩
theorem cmpS {c k : Nat} (hc : c < 256) (hk : k < 256) : (lg_cmp (nI c).toInt64 (nI k).toInt64 = 0) = (c = k) := by
  apply propext
  constructor
  · intro hz
    rw [nI_l (by omega), nI_l (by omega)] at hz
    unfold lg_cmp at hz
    split at hz
    · cases hz
    · split at hz
      · rename_i u1 u2
        have g := congrArg Int64.toInt32 u2
        rw [lN_i, lN_i, nIeq (by omega) (by omega)] at g
        exact g
      · cases hz
  · intro e
    subst e
    unfold lg_cmp
    simp
theorem notPS (ht : isTx t) (hn : n ≤ 160) (hd : d ≤ 5) (hB : ∀ j, j < n → B j < 256) (hS : PS n B f0 t rS ma d) (hN : d < 5 → PS n B f0 t rN mn (d + 1)) : PS n B f0 t (f_X5_readNot_b rE rB rN rS rT rO) (f_X9_not_b me mb mn ma mt mo) d := by
  intro Mc Mm
  constructor
  · intro p w s h
    have h26 := h.2.2.2.2.1
    have h25 := h.2.2.2.2.2.1
    have hp := h.1.1
    have ow := obsW hn hB h.2.2.1 h.1 h26 (k := 11) (by omega)
    have ok := obsK hB h.1 (k := 11) (by omega)
    unfold f_X5_readNot_b
    have gm : f_X9_not_b me mb mn ma mt mo Mm = (wordM0 (sw 11) Mm).bind fun o1 => (if o1.1 = 0 then (ma o1.2).bind fun o4 => (f_X9_isSign 60 o4.2).bind fun o6 => (if o6.1 = 0 then (f_X9_isSign 61 o6.2).bind fun o9 => (if o9.1 = 0 then some (o4.1, o9.2) else (f_X9_not_b77 me mb mn ma mt mo) o4.1 o9.2) else (f_X9_not_b77 me mb mn ma mt mo) o4.1 o6.2) else (f_X9_opens o1.2).bind fun o12 => (if o12.1 = 0 then some (0, o12.2) else (mn o12.2).bind fun o15 => (if o15.1 = 0 then some (1, (mu o15.2 100 25 ((o15.2 100 25) - 1))) else some (0, (mu o15.2 100 25 ((o15.2 100 25) - 1)))))) := rfl
    rw [gm, ow]
    simp only [Option.bind_some, zI_0]
    by_cases c : w = 11
    · have tk : Mc 34 3 = 265 := by have := ok; rw [eq_true c] at this; exact of_eq_true this
      rw [if_pos tk, decide_eq_true c, if_neg (show ¬ (true = false) by decide)]
      unfold f_X9_opens
      rw [h25]
      by_cases c5 : d < 5
      · rw [if_pos (show nI d < 5 by exact nI_lt (b := 5) c5 (by omega)), if_neg (by rw [show (5 : Int32) = nI 5 from rfl, nIeq (by omega) (by omega)]; omega), nIp]
        have h2 := h.op (d + 1)
        obtain ⟨A, Am, C, Mc1, Mm1, v, e1, e2, e3, e4, e5, e6, e7, e8⟩ := opStep ht hn hB (hN c5) h2 (by rw [tk]; decide) (by rw [tk]; decide) (-9)
        rw [e1, e2]
        simp only [Option.bind_some, nIp]
        rw [if_neg (by decide), e3, e4]
        simp only [Option.bind_some]
        rw [e5, kd6 ht]
        simp only [Option.bind_some, ck_true]
        have fm : FrM Mm Mm1 := (FrM.mu Mm (by omega) _).tr e7
        have r : (if v = 0 then some ((1 : Int32), (mu Mm1 100 25 ((Mm1 100 25) - 1))) else some (0, (mu Mm1 100 25 ((Mm1 100 25) - 1)))) = some (if v = 0 then 1 else 0, mu Mm1 100 25 ((Mm1 100 25) - 1)) := by
          by_cases z : v = 0
          · rw [if_pos z, if_pos z]
          · rw [if_neg z, if_neg z]
        rw [r]
        refine ⟨Mc1, _, _, rfl, rfl, e6, fm.tr (FrM.mu Mm1 (by omega) _), ?_⟩
        rcases e8 with ⟨p1, w1, s1, k1, k2, k3, k4, k5, k6⟩ | ⟨f, k1⟩
        · have o25 := k1.2.2.2.2.2.1
          rw [o25, nIm (by omega), Nat.add_sub_cancel]
          refine Or.inl ⟨p1, w1, s1 + 1, k1.op d, k2, by omega, by omega, k5, fun st => ?_⟩
          have := k6 st
          rw [(FrM.mu Mm (by omega) (nI (d + 1))).en] at this
          rw [this]
          unfold evS
          rw [if_pos (by decide), if_pos rfl]
        · exact Or.inr ⟨f, k1.op _⟩
      · have e5 : d = 5 := by omega
        subst e5
        rw [if_neg (show ¬ nI 5 < 5 by decide), if_pos (show nI 5 = 5 from rfl)]
        obtain ⟨Mc1, Mm1, e1, e2, e3, e4, e5⟩ := failBoth ht hn h
        rw [e1, e2]
        simp only [Option.bind_some]
        exact ⟨Mc1, Mm1, 0, rfl, rfl, e3, e4, Or.inr ⟨p, e5⟩⟩
    · have tk : ¬ Mc 34 3 = 265 := fun x => c ((eq_true x ▸ ok).mp True.intro)
      rw [if_neg tk, decide_eq_false c, if_pos rfl]
      obtain ⟨A, Am, a, e1, e2, e3, e4, e5⟩ := (hS Mc Mm).1 p w s h
      rw [e1, e2]
      simp only [Option.bind_some]
      rcases e5 with e5 | ⟨f, e5⟩
      · obtain ⟨p1, w1, s1, k1, k2, k3, k4, k5, k6⟩ := e5
        have b26 := k1.2.2.2.2.1
        have o60 := obsS hB k1.1 b26 (c := 60) (by omega)
        have o61 := obsS hB k1.1 b26 (c := 61) (by omega)
        rw [show (60 : Int32) = nI 60 from rfl, show (61 : Int32) = nI 61 from rfl, o60]
        simp only [Option.bind_some, zI_0, o61]
        -- what stands after the sign
        have go : ∀ (c : Int32) (q : Nat), q < 256 → A 34 3 = nI q → c < -6 → c ≠ -9 → c ≠ -15 → (∀ (v : Int32) (o : Mem), (if (if q = 60 then (1 : Int32) else 0) = 0 then (if a = v then some ((1 : Int32), o) else some (0, o)) else (if v ≤ a then some (0, o) else some (1, o))) = some (jn c a v, o)) →
            ∃ (Mc1 Mm1 : Mem) (v : Int32), f_X5_readNot_b79 rE rB rN rS rT rO t (nI d) c A = some Mc1 ∧ f_X9_not_b77 me mb mn ma mt mo a Am = some (v, Mm1) ∧ FrC t Mc Mc1 ∧ FrM Mm Mm1 ∧ (Go n B f0 t d Mc Mm p s Mc1 Mm1 v ∨ ∃ f, Dead t f Mc1 Mm1) := by
          intro c q hq h3 hc1 hc2 hc3 hj
          obtain ⟨A2, Am2, C, Mc1, Mm1, v, g1, g2, g3, g4, g5, g6, g7, g8⟩ := opStep ht hn hB hS k1 (by rw [h3, show (256 : Int32) = nI 256 from rfl]; intro x; rw [nIeq (by omega) (by omega)] at x; omega) (by rw [h3, show (257 : Int32) = nI 257 from rfl]; intro x; rw [nIeq (by omega) (by omega)] at x; omega) c
          have ov := obsV k1.1 hq h3
          refine ⟨Mc1, Mm1, jn c a v, ?_, ?_, e3.tr g6, e4.tr g7, ?_⟩
          · unfold f_X5_readNot_b79
            rw [g1]
            simp only [Option.bind_some]
            rw [g3]
            simp only [Option.bind_some]
            rw [g5, kd6 ht]
            rfl
          · unfold f_X9_not_b77 f_X9_not_b93
            rw [ov, show (60 : Int64) = (nI 60).toInt64 from rfl, g2]
            simp only [Option.bind_some]
            rw [g4]
            simp only [Option.bind_some]
            have := hj v Mm1
            by_cases z : q = 60
            · rw [if_pos ((cmpS hq (by omega)).mpr z)]; rw [if_pos z] at this; exact this
            · rw [if_neg (fun x => z ((cmpS hq (by omega)).mp x))]; rw [if_neg z] at this; exact this
          · rcases g8 with ⟨p2, w2, s2, i1, i2, i3, i4, i5, i6⟩ | g8
            · refine Or.inl ⟨p2, w2, s2 + 1, i1, by omega, by omega, by omega, fun j hj => (i5 j (by omega)).trans (k5 j hj), fun st => ?_⟩
              rw [show s2 + 1 - s = (s1 - s) + (s2 + 1 - s1) by omega, evR_add, show s + (s1 - s) = s1 by omega]
              rw [evR_cg (cs2 := A (t + 1)) (s1 - s) s st (fun j h1 h2 => i5 j (by omega)), k6]
              have := i6 (a :: st)
              rw [e4.en] at this
              rw [this, evJ hc1 hc2 hc3]
            · exact Or.inr g8
        by_cases c60 : A 34 3 = nI 60
        · rw [if_pos c60, decide_eq_true c60, if_neg (by decide)]
          unfold f_X5_readNot_b63
          rw [if_pos (show A 34 3 = 60 from c60)]
          obtain ⟨Mc1, Mm1, v, x1, x2, x3, x4, x5⟩ := go (-10) 60 (by omega) c60 (by decide) (by decide) (by decide) (fun v o => by
            rw [if_pos rfl, if_neg (by decide)]
            unfold jn
            rw [if_neg (show ¬ ((-10 : Int32) = (-13)) by decide), if_neg (show ¬ ((-10 : Int32) = (-12)) by decide), if_neg (show ¬ ((-10 : Int32) = (-11)) by decide), if_pos rfl]
            by_cases z : v ≤ a
            · rw [if_pos z, if_pos z]
            · rw [if_neg z, if_neg z])
          rw [x1]
          exact ⟨Mc1, Mm1, v, rfl, x2, x3, x4, x5⟩
        · rw [if_neg c60, decide_eq_false c60, if_pos rfl]
          by_cases c61 : A 34 3 = nI 61
          · rw [if_pos c61, decide_eq_true c61, if_neg (by decide)]
            unfold f_X5_readNot_b63
            rw [if_neg (show ¬ A 34 3 = 60 from c60)]
            obtain ⟨Mc1, Mm1, v, x1, x2, x3, x4, x5⟩ := go (-11) 61 (by omega) c61 (by decide) (by decide) (by decide) (fun v o => by
              rw [if_pos (show (if (61 : Nat) = 60 then (1 : Int32) else 0) = 0 from rfl)]
              unfold jn
              rw [if_neg (show ¬ ((-11 : Int32) = (-13)) by decide), if_neg (show ¬ ((-11 : Int32) = (-12)) by decide), if_pos rfl]
              by_cases z : a = v
              · rw [if_pos z, if_pos z]
              · rw [if_neg z, if_neg z])
            rw [x1]
            exact ⟨Mc1, Mm1, v, rfl, x2, x3, x4, x5⟩
          · rw [if_neg c61, decide_eq_false c61, if_pos rfl]
            exact ⟨A, Am, a, rfl, rfl, e3, e4, Or.inl ⟨p1, w1, s1, k1, k2, k3, k4, k5, k6⟩⟩
      · rw [obsS0 e5.2.2.1]
        simp only [Option.bind_some]
        rw [obsS0 e5.2.2.1, e5.1, if_neg (by decide), if_neg (by decide)]
        exact ⟨A, Am, a, rfl, rfl, e3, e4, Or.inr ⟨f, e5⟩⟩
  · intro f h
    unfold f_X5_readNot_b
    have gm : f_X9_not_b me mb mn ma mt mo Mm = (wordM0 (sw 11) Mm).bind fun o1 => (if o1.1 = 0 then (ma o1.2).bind fun o4 => (f_X9_isSign 60 o4.2).bind fun o6 => (if o6.1 = 0 then (f_X9_isSign 61 o6.2).bind fun o9 => (if o9.1 = 0 then some (o4.1, o9.2) else (f_X9_not_b77 me mb mn ma mt mo) o4.1 o9.2) else (f_X9_not_b77 me mb mn ma mt mo) o4.1 o6.2) else (f_X9_opens o1.2).bind fun o12 => (if o12.1 = 0 then some (0, o12.2) else (mn o12.2).bind fun o15 => (if o15.1 = 0 then some (1, (mu o15.2 100 25 ((o15.2 100 25) - 1))) else some (0, (mu o15.2 100 25 ((o15.2 100 25) - 1)))))) := rfl
    rw [gm, obsW0 h.2.2.1, h.1, if_neg (by decide)]
    obtain ⟨A, Am, a, e1, e2, e3, e4, e5⟩ := (hS Mc Mm).2 f h
    simp only [Option.bind_some, e1, if_true, e2, obsS0 e5.2.2.1]
    rw [e5.1, if_neg (by decide), if_neg (by decide)]
    exact ⟨A, Am, a, rfl, rfl, e3, e4, e5⟩
end
