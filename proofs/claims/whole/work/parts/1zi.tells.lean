/-! TELLS: what both suppose, and the first number that is not as told -/
def foV (t : Tk) (st : Nat → Int32) (a b : Int32) : Int32 := if a = kW t 0 st then (if b = kW t 1 st then -1 else 1) else 0
theorem foC {M : Mem} {t : Tk} {s : Nat} (hs : s < 4) (hT : Took M t) : ∃ M1 : Mem, f_X0_firstOtherwise (55 + 2 * s) 2 M = some (foV t (M 2) (M (56 + 2 * s) 0) (M (56 + 2 * s) 1), M1) ∧ Sm M M1 := by
  obtain ⟨k1, k2, k3⟩ := sh_kd s hs
  have one : ∀ k, k < 2 → ∀ (f : Nat) (P : Mem), Took P t → P 2 = M 2 → Sm M P → ∃ P1 : Mem, f_X0_firstOtherwise_l2 (f + 1) (55 + 2 * s) 2 (nI k) P = (if M (56 + 2 * s) k = kW t k (M 2) then f_X0_firstOtherwise_l2 f (55 + 2 * s) 2 (nI (k + 1)) P1 else some (nI k, P1)) ∧ Took P1 t ∧ P1 2 = M 2 ∧ Sm M P1 := by
    intro k hk f P hP p2 sm
    obtain ⟨M2, y1, y2, y3, y4, y5, y6⟩ := isCooked_eq (t := t) (k := k) (q := 2) hk hP (Or.inl rfl)
    rw [p2] at y1 y5
    have s2 : Sm M M2 := sm.trans y3
    refine ⟨M2, ?_, y2, by rw [y3 2 (by omega), p2], s2⟩
    rw [f_X0_firstOtherwise_l2, if_neg (show ¬ (2 : Int32) ≤ nI k from nI_ge (b := 2) hk (by omega)), y1, Option.bind_some]
    dsimp only
    unfold f_X0_firstOtherwise_b24 kW
    rw [k1, k2, k3, inb_nI (show k < 40 by omega) (by omega), nI_clamp (show k < 2 ^ 31 by omega), nIp, show ((5 : Nat) == 5) = true from rfl, show ((10 : Nat) == 10) = true from rfl]
    repeat rw [ck_true]
    have ei : M2 (55 + 2 * s + 1) k = M (56 + 2 * s) k := by rw [show 55 + 2 * s + 1 = 56 + 2 * s by omega, s2 _ (by omega)]
    cases hc : kCk t k (M 2) with
    | false =>
      rw [if_pos (show zI false = 0 from rfl), ft]
      by_cases c : M (56 + 2 * s) k = -1
      · rw [if_pos c, if_pos (ei.trans c)]
      · rw [if_neg c, if_neg (fun h => c (ei.symm.trans h))]
    | true =>
      obtain ⟨f1, f2⟩ := y5 (kCk_can hc)
      rw [if_neg (show ¬ zI true = 0 by decide), tt, worth_eq, Option.bind_some, f1, f2]
      dsimp only
      repeat rw [ck_true]
      by_cases c : M (56 + 2 * s) k = kFed t k - kToll t k (M 2)
      · rw [if_pos c, if_pos (ei.trans c)]
      · rw [if_neg c, if_neg (fun h => c (ei.symm.trans h))]
  obtain ⟨h, hh⟩ : ∃ h, FU = h + 1 + 1 + 1 := ⟨FU - 3, by have := FU_ge; omega⟩
  unfold f_X0_firstOtherwise foV
  obtain ⟨P1, a1, a2, a3, a4⟩ := one 0 (by omega) (h + 1 + 1) M hT rfl (Sm.refl M)
  rw [hh, show (0 : Int32) = nI 0 from rfl, a1]
  by_cases c0 : M (56 + 2 * s) 0 = kW t 0 (M 2)
  · rw [if_pos c0, if_pos c0]
    obtain ⟨P2, b1, b2, b3, b4⟩ := one 1 (by omega) (h + 1) P1 a2 a3 a4
    rw [b1]
    by_cases c1 : M (56 + 2 * s) 1 = kW t 1 (M 2)
    · rw [if_pos c1, if_pos c1, f_X0_firstOtherwise_l2, if_pos (show (2 : Int32) ≤ nI (1 + 1) by decide)]
      exact ⟨P2, rfl, b4⟩
    · rw [if_neg c1, if_neg c1]
      exact ⟨P2, rfl, b4⟩
  · rw [if_neg c0, if_neg c0]
    exact ⟨P1, rfl, a4⟩
theorem kW_cg {t : Tk} {k : Nat} {s1 s2 : Nat → Int32} (hk : k < 2) (h : ∀ j, j < 12 → s1 j = s2 j) : kW t k s1 = kW t k s2 := by unfold kW; rw [kCk_cg hk h, kToll_cg hk h]
theorem foM {N : Mem} {t : Tk} {s d : Nat} {st : Nat → Int32} (hs : s < 4) (hd : d < 6) (hT : TkM N d t) (hst : ∀ j, j < 12 → N 104 j = st j) : ∃ N1 : Mem, f_X9_firstOther (nI s) (nI d) N = some (foV t st (N 117 (40 * s)) (N 117 (40 * s + 1)), N1) ∧ SmM N N1 := by
  have one : ∀ k, k < 2 → ∀ (f : Nat) (P : Mem), TkM P d t → SmM N P → ∃ P1 : Mem, f_X9_firstOther_l2 (f + 1) (nI s) (nI d) (nI k) P = (if N 117 (40 * s + k) = kW t k st then f_X9_firstOther_l2 f (nI s) (nI d) (nI (k + 1)) P1 else some (nI k, P1)) ∧ TkM P1 d t ∧ SmM N P1 := by
    intro k hk f P hP sm
    obtain ⟨N1, w1, w2⟩ := worthIn_eq hd hk hP
    have s2 : SmM N N1 := sm.trans w2
    rw [show kW t k (P 104) = kW t k st from kW_cg hk (fun j hj => by rw [sm.1 104 (by omega)]; exact hst j hj)] at w1
    refine ⟨N1, ?_, hP.sm w2, s2⟩
    rw [f_X9_firstOther_l2, if_neg (show ¬ (2 : Int32) ≤ nI k from nI_ge (b := 2) hk (by omega)), w1, Option.bind_some, show (40 : Int32) = nI 40 from rfl, pk_mul, nI_add, inb_nI (show 40 * s + k < 160 by omega) (by omega), nI_clamp (show 40 * s + k < 2 ^ 31 by omega), ck_true, nIp]
    dsimp only
    have e7 : N1 117 = N 117 := s2.1 117 (by omega)
    by_cases c : N 117 (40 * s + k) = kW t k st
    · rw [if_pos c, if_pos (by rw [e7]; exact c.symm)]
    · rw [if_neg c, if_neg (fun h => c (by rw [← e7]; exact h.symm))]
  obtain ⟨h, hh⟩ : ∃ h, FU = h + 1 + 1 + 1 := ⟨FU - 3, by have := FU_ge; omega⟩
  unfold f_X9_firstOther foV
  obtain ⟨P1, a1, a2, a3⟩ := one 0 (by omega) (h + 1 + 1) N hT (SmM.refl N)
  rw [hh, show (0 : Int32) = nI 0 from rfl, a1, Nat.add_zero]
  by_cases c0 : N 117 (40 * s) = kW t 0 st
  · rw [if_pos c0, if_pos c0]
    obtain ⟨P2, b1, b2, b3⟩ := one 1 (by omega) (h + 1) P1 a2 a3
    rw [b1]
    by_cases c1 : N 117 (40 * s + 1) = kW t 1 st
    · rw [if_pos c1, if_pos c1, f_X9_firstOther_l2, if_pos (show (2 : Int32) ≤ nI (1 + 1) by decide)]
      exact ⟨P2, rfl, b3⟩
    · rw [if_neg c1, if_neg c1]
      exact ⟨P2, rfl, b3⟩
  · rw [if_neg c0, if_neg c0]
    exact ⟨P1, rfl, a3⟩
/-! one thing of what was taken up is another -/
def tk1 (t : Tk) (v : Nat) : Tk := (nI v, t.2)
def tk2 (t : Tk) (v : Nat) : Tk := (t.1, nI v, t.2.2)
def tk3 (t : Tk) (v : Nat) : Tk := (t.1, t.2.1, nI v, t.2.2.2)
def tk4 (t : Tk) (v : Nat) : Tk := (t.1, t.2.1, t.2.2.1, (fun i => if i = 0 then nI v else tP t i), t.2.2.2.2)
def tk5 (t : Tk) (ev : Nat → (Nat → Int32) → Int32) : Tk := (t.1, t.2.1, t.2.2.1, t.2.2.2.1, t.2.2.2.2.1, t.2.2.2.2.2.1, ev)
theorem sup1 {M : Mem} {t : Tk} (h : Took M t) (v : Nat) : Took (mu M 36 2 (nI v)) (tk1 t v) := by
  obtain ⟨a, b, c, d, e, f, q, q1, q2, q3, q4⟩ := h
  obtain ⟨x, hx, rfl⟩ := q1
  exact ⟨mu_at, (mu_o (by omega)).trans b, (mu_o (by omega)).trans c, fun i hi => by rw [mun (by omega)]; exact d i hi, fun i hi => by rw [mun (by omega)]; exact e i hi, (mu_o (by omega)).trans f, _, ⟨x, hx, rfl⟩, (mu_o (by omega)).trans q2, by rw [mun (by omega)]; exact q3, by rw [mun (show 16 + 3 * x + 1 ≠ 36 by omega), mun (show 16 + 3 * x + 2 ≠ 36 by omega)]; exact q4⟩
theorem sup2 {M : Mem} {t : Tk} (h : Took M t) (v : Nat) : Took (mu M 36 3 (nI v)) (tk2 t v) := by
  obtain ⟨a, b, c, d, e, f, q, q1, q2, q3, q4⟩ := h
  obtain ⟨x, hx, rfl⟩ := q1
  exact ⟨(mu_o (by omega)).trans a, mu_at, (mu_o (by omega)).trans c, fun i hi => by rw [mun (by omega)]; exact d i hi, fun i hi => by rw [mun (by omega)]; exact e i hi, (mu_o (by omega)).trans f, _, ⟨x, hx, rfl⟩, (mu_o (by omega)).trans q2, by rw [mun (by omega)]; exact q3, by rw [mun (show 16 + 3 * x + 1 ≠ 36 by omega), mun (show 16 + 3 * x + 2 ≠ 36 by omega)]; exact q4⟩
theorem sup3 {M : Mem} {t : Tk} (h : Took M t) (v : Nat) : Took (mu M 36 4 (nI v)) (tk3 t v) := by
  obtain ⟨a, b, c, d, e, f, q, q1, q2, q3, q4⟩ := h
  obtain ⟨x, hx, rfl⟩ := q1
  exact ⟨(mu_o (by omega)).trans a, (mu_o (by omega)).trans b, mu_at, fun i hi => by rw [mun (by omega)]; exact d i hi, fun i hi => by rw [mun (by omega)]; exact e i hi, (mu_o (by omega)).trans f, _, ⟨x, hx, rfl⟩, (mu_o (by omega)).trans q2, by rw [mun (by omega)]; exact q3, by rw [mun (show 16 + 3 * x + 1 ≠ 36 by omega), mun (show 16 + 3 * x + 2 ≠ 36 by omega)]; exact q4⟩
theorem sup4 {M : Mem} {t : Tk} (h : Took M t) (v : Nat) : Took (mu M 37 0 (nI v)) (tk4 t v) := by
  obtain ⟨a, b, c, d, e, f, q, q1, q2, q3, q4⟩ := h
  obtain ⟨x, hx, rfl⟩ := q1
  refine ⟨by rw [mun (by omega)]; exact a, by rw [mun (by omega)]; exact b, by rw [mun (by omega)]; exact c, fun i hi => ?_, fun i hi => by rw [mun (by omega)]; exact e i hi, by rw [mun (by omega)]; exact f, _, ⟨x, hx, rfl⟩, by rw [mun (by omega)]; exact q2, by rw [mun (by omega)]; exact q3, by rw [mun (show 16 + 3 * x + 1 ≠ 37 by omega), mun (show 16 + 3 * x + 2 ≠ 37 by omega)]; exact q4⟩
  show _ = if i = 0 then nI v else tP t i
  by_cases i0 : i = 0
  · rw [i0, mu_at, if_pos rfl]
  · rw [mu_o i0, if_neg i0]; exact d i hi
theorem sup5 {M : Mem} {t : Tk} (h : Took M t) {v : Nat} (hv : v < 6) (hw : WfT (M (16 + 3 * v + 2))) : Took (mu M 36 1 (nI (16 + 3 * v))) (tk5 t (evC M v)) := by
  obtain ⟨a, b, c, d, e, f, q, q1, q2, q3, q4⟩ := h
  refine ⟨(mu_o (by omega)).trans a, (mu_o (by omega)).trans b, (mu_o (by omega)).trans c, fun i hi => by rw [mun (by omega)]; exact d i hi, fun i hi => by rw [mun (by omega)]; exact e i hi, (mu_o (by omega)).trans f, _, ⟨v, hv, rfl⟩, mu_at, by rw [mun (by omega)]; exact hw, ?_⟩
  rw [mun (show 16 + 3 * v + 1 ≠ 36 by omega), mun (show 16 + 3 * v + 2 ≠ 36 by omega)]
  rfl
/-- the reference has changed nothing but its reader's cells and the number at (p, k) -/
def KQ (p k : Nat) (M N : Mem) : Prop := ∀ q j, (q ≠ p ∨ j ≠ k) → (q ≠ 100 ∨ j < 13 ∨ 27 < j) → N q j = M q j
theorem KQ.sm {p k : Nat} {M N N1 : Mem} (h : KQ p k M N) (s : SmM N N1) : KQ p k M N1 := fun q j a b => by
  by_cases c : q = 100
  · rw [c, s.2 j (by omega)]; exact h 100 j (by omega) (by omega)
  · rw [s.1 q c]; exact h q j a b
theorem KQ.lay {p k : Nat} {M N : Mem} (h : KQ p k M N) (x : Int32) : KQ p k M (mu N p k x) := fun q j a b => by
  by_cases c : q = p
  · rw [c, mu_o (by omega)]
    have := h q j a b
    rwa [c] at this
  · rw [mun c]; exact h q j a b
theorem KQ.back {p k : Nat} {M N : Mem} (h : KQ p k M N) (hp : p ≠ 100 ∨ k < 13) : KM M (mu N p k (M p k)) := by
  have e : ∀ q j, (q ≠ 100 ∨ j < 13 ∨ 27 < j) → mu N p k (M p k) q j = M q j := fun q j b => by
    by_cases c : q = p ∧ j = k
    · rw [c.1, c.2, mu_at]
    · exact (h.lay (M p k)) q j (by omega) b
  exact ⟨fun q a _ _ _ _ => funext (fun j => e q j (Or.inl a)), fun j _ => e 104 j (by omega), fun j hj => e 100 j (by omega)⟩
