/-! A PART, AND ITS END -/
section
variable {n f0 t : Nat} {B : Nat → Nat}
def partC (t : Nat) (key : Int32) (M : Mem) : Option Mem := (f_X5_expect key M).bind fun o7 => (f_X5_readEither DP t 0 o7).bind fun o9 => f_X5_expect 59 o9
def partM (s : List Nat) (M : Mem) : Option (Int32 × Mem) := (wordM0 s M).bind fun o => f_X9_part o.1 o.2
theorem Dead.mix {f : Nat} {Mc Mm C Cm : Mem} (h : Dead t f Mc Mm) (k : Dead t f C Cm) : Dead t f C Mm := ⟨k.1, k.2.1, h.2.2.1, h.2.2.2.1, h.2.2.2.2.1, k.2.2.2.2.2⟩
theorem partDead (ht : isTx t) (hn : n ≤ 160) (hB : ∀ j, j < n → B j < 256) {f : Nat} {Mc Mm : Mem} (h : Dead t f Mc Mm) {key : Int32} (hk : key ≠ 257) : ∃ C : Mem, partC t key Mc = some C ∧ FrC t Mc C ∧ Dead t f C Mm := by
  obtain ⟨x1, x2⟩ := failDead h
  obtain ⟨C, Cm, v, g1, g2, g3, g4, g5⟩ := (eitherAll (f0 := 0) ht hn hB Mc Mm).2 f h
  obtain ⟨y1, y2⟩ := failDead g5
  refine ⟨C, ?_, g3, h.mix g5⟩
  unfold partC f_X5_expect
  rw [h.1, if_neg (Ne.symm hk), x1]
  simp only [Option.bind_some]
  rw [show (0 : Int32) = nI 0 from rfl, g1]
  simp only [Option.bind_some]
  rw [g5.1, if_neg (by decide), y1]
  rfl
theorem partBoth (ht : isTx t) (hn : n ≤ 160) (hB : ∀ j, j < n → B j < 256) {Mc Mm : Mem} {p w s k : Nat} (hk : 6 ≤ k ∧ k < 9) (h : Live n B f0 t 0 Mc Mm p w s) :
    ∃ (C Cm : Mem) (v : Int32), partC t (nI (254 + k)) Mc = some C ∧ partM (sw k) Mm = some (v, Cm) ∧ FrC t Mc C ∧ FrM Mm Cm ∧ (Go n B f0 t 0 Mc Mm p s C Cm v ∨ ∃ f, Dead t f C Cm) := by
  have h26 := h.2.2.2.2.1
  have hp := h.1.1
  have ow := obsW hn hB h.2.2.1 h.1 h26 (k := k) (by omega)
  have ok := obsK hB h.1 (k := k) (by omega)
  unfold partM
  rw [ow]
  simp only [Option.bind_some]
  unfold f_X9_part
  simp only [zI_0]
  by_cases c : w = k
  · have tk : Mc 34 3 = nI (254 + k) := by have := ok; rw [eq_true c] at this; exact of_eq_true this
    have n6 : Mc 34 3 ≠ 256 := by rw [tk, show (256 : Int32) = nI 256 from rfl]; intro x; rw [nIeq (by omega) (by omega)] at x; omega
    have n7 : Mc 34 3 ≠ 257 := by rw [tk, show (257 : Int32) = nI 257 from rfl]; intro x; rw [nIeq (by omega) (by omega)] at x; omega
    obtain ⟨A, Am, p1, w1, e1, e2, e3, e4, e5, e6, e7⟩ := advLive ht hn hB h n6 n7
    obtain ⟨C, Cm, v, g1, g2, g3, g4, g5⟩ := (eitherAll ht hn hB A Am).1 _ _ _ e5
    have cl : ∀ x, f_X5_expect 59 C = some x → partC t (nI (254 + k)) Mc = some x := by
      intro x hx
      unfold partC
      have : f_X5_expect (nI (254 + k)) Mc = some A := by unfold f_X5_expect; rw [if_pos tk, e1]; rfl
      rw [this]
      simp only [Option.bind_some]
      rw [show (0 : Int32) = nI 0 from rfl, g1]
      exact hx
    rw [decide_eq_true c, if_neg (by decide)]
    unfold f_X9_part_b8
    rw [if_pos h26, e2]
    simp only [Option.bind_some]
    unfold f_X9_part_b19
    rw [if_pos e5.2.2.2.2.1, g2]
    simp only [Option.bind_some]
    unfold f_X9_part_b34
    rcases g5 with ⟨p2, w2, s2, k1, k2, k3, k4, k5, k6⟩ | ⟨f, k1⟩
    · have k26 := k1.2.2.2.2.1
      have o59 := obsS hB k1.1 k26 (c := 59) (by omega)
      rw [show (59 : Int32) = nI 59 from rfl, o59]
      simp only [Option.bind_some, zI_0]
      by_cases c9 : C 34 3 = nI 59
      · obtain ⟨D, Dm, p3, w3, i1, i2, i3, i4, i5, i6, i7⟩ := advLive ht hn hB k1 (by rw [c9]; decide) (by rw [c9]; decide)
        rw [decide_eq_true c9, if_neg (by decide)]
        unfold f_X9_part_b48
        rw [if_pos k26, i2]
        refine ⟨D, Dm, v, cl D ?_, rfl, e3.tr (g3.tr i3), e4.tr (g4.tr i4), Or.inl ⟨p3, w3, s2, i5, by omega, by omega, by omega, fun j hj => by rw [i7, k5 j hj, e7], fun st => ?_⟩⟩
        · unfold f_X5_expect
          rw [if_pos (show C 34 3 = 59 from c9), i1]
          rfl
        · rw [i7]
          have := k6 st
          rw [e4.en] at this
          exact this
      · obtain ⟨D, Dm, i1, i2, i3, i4, i5⟩ := failBoth ht hn k1
        rw [decide_eq_false c9, if_pos rfl, i2]
        simp only [Option.bind_some]
        unfold f_X9_part_b48
        rw [if_neg (by rw [i5.2.2.1]; decide)]
        refine ⟨D, Dm, v, cl D ?_, rfl, e3.tr (g3.tr i3), e4.tr (g4.tr i4), Or.inr ⟨p2, i5⟩⟩
        unfold f_X5_expect
        rw [if_neg (show ¬ C 34 3 = 59 from c9), i1]
        rfl
    · obtain ⟨x1, x2⟩ := failDead k1
      rw [obsS0 k1.2.2.1]
      simp only [Option.bind_some, if_true, x2]
      unfold f_X9_part_b48
      rw [if_neg (by rw [k1.2.2.1]; decide)]
      refine ⟨C, Cm, v, cl C ?_, rfl, e3.tr g3, e4.tr g4, Or.inr ⟨f, k1⟩⟩
      unfold f_X5_expect
      rw [if_neg (by rw [k1.1]; decide), x1]
      rfl
  · have tk : ¬ Mc 34 3 = nI (254 + k) := fun x => c ((eq_true x ▸ ok).mp True.intro)
    obtain ⟨D, Dm, i1, i2, i3, i4, i5⟩ := failBoth ht hn h
    obtain ⟨x1, x2⟩ := failDead i5
    obtain ⟨C, Cm, v, g1, g2, g3, g4, g5⟩ := (eitherAll (f0 := f0) ht hn hB D Dm).2 p i5
    obtain ⟨y1, y2⟩ := failDead g5
    rw [decide_eq_false c, if_pos rfl, i2]
    simp only [Option.bind_some]
    have d26 := i5.2.2.1
    unfold f_X9_part_b8
    rw [if_neg (by rw [d26]; decide)]
    unfold f_X9_part_b19
    rw [if_neg (by rw [d26]; decide)]
    unfold f_X9_part_b34
    rw [obsS0 d26]
    simp only [Option.bind_some, if_true, x2]
    unfold f_X9_part_b48
    rw [if_neg (by rw [d26]; decide)]
    refine ⟨C, Dm, 0, ?_, rfl, i3.tr g3, i4, Or.inr ⟨p, i5.mix g5⟩⟩
    unfold partC f_X5_expect
    rw [if_neg tk, i1]
    simp only [Option.bind_some]
    rw [show (0 : Int32) = nI 0 from rfl, g1]
    simp only [Option.bind_some]
    rw [g5.1, if_neg (by decide), y1]
    rfl
theorem endS (ht : isTx t) (M : Mem) {i : Nat} (hi : i < 3) : f_X7_endSection t (nI i) M = some (mu M (t + 2) i (M t 2)) := by
  obtain ⟨k1, k2, k3, l1, l2, q1, q2⟩ := tx_kd ht
  unfold f_X7_endSection
  rw [k1, k3, l2, inb_nI hi (by omega), nI_clamp (by omega)]
  rfl
def setN {α : Type} (e : Nat → α) (i : Nat) (x : α) : Nat → α := fun j => if j = i then x else e j
theorem setN_at {α : Type} {e : Nat → α} {i : Nat} {x : α} : setN e i x i = x := if_pos rfl
theorem setN_ne {α : Type} {e : Nat → α} {i j : Nat} {x : α} (h : j ≠ i) : setN e i x j = e j := if_neg h
def bOf (e : Nat → Nat) (i : Nat) : Nat := if i = 0 then 0 else e (i - 1)
/-- the parts before the i-th stand in the codes, up to s -/
def Sec (t i s : Nat) (Mc : Mem) (en : Nat → Int32) (e : Nat → Nat) (v : Nat → Int32) : Prop :=
  s = bOf e i ∧ ∀ c, c < i → Mc (t + 2) c = nI (e c) ∧ bOf e c ≤ e c ∧ e c ≤ s ∧ evR (Mc (t + 1)) en (e c - bOf e c) (bOf e c) [] = [v c]
theorem Sec.step {i s p d : Nat} {Mc C Mm Cm : Mem} {e : Nat → Nat} {v : Nat → Int32} {x : Int32} (h : Sec t i s Mc (env Mm) e v) (hg : Go n B f0 t d Mc Mm p s C Cm x) (hf : FrC t Mc C) (ht : isTx t) :
    ∃ p1 w1 s1, Live n B f0 t d (mu C (t + 2) i (C t 2)) Cm p1 w1 s1 ∧ Sec t (i + 1) s1 (mu C (t + 2) i (C t 2)) (env Mm) (setN e i s1) (setN v i x) := by
  obtain ⟨p1, w1, s1, k1, k2, k3, k4, k5, k6⟩ := hg
  obtain ⟨h1, h2⟩ := h
  obtain ⟨hL, hC, hM, a6, a26, a25, hs, hsp⟩ := k1
  obtain ⟨r, hr, rfl⟩ := ht
  refine ⟨p1, w1, s1, ⟨hL.cg (fun j _ _ => by rw [mun (by omega)]) (fun _ _ _ => rfl), ⟨?_, fun j hj => ?_⟩, hM, ?_, a26, a25, ?_, hsp⟩, ?_, fun c hc => ?_⟩
  · rw [mun (by omega)]; exact hC.1
  · rw [mun (by omega)]; exact hC.2 j hj
  · rw [mun (by omega)]; exact a6
  · rw [mun (by omega)]; exact hs
  · unfold bOf
    rw [if_neg (by omega), Nat.add_sub_cancel, setN_at]
  · rw [mun (show 16 + 3 * r + 1 ≠ 16 + 3 * r + 2 by omega)]
    by_cases e0 : c = i
    · subst e0
      rw [mu_at, setN_at, setN_at]
      have hb : bOf (setN e c s1) c = s := by
        rw [h1]
        unfold bOf
        by_cases z : c = 0
        · rw [if_pos z, if_pos z]
        · rw [if_neg z, if_neg z]
          rw [setN_ne (by omega)]
      rw [hb]
      exact ⟨hs, k3, Nat.le_refl _, k6 []⟩
    · have hci : c < i := by omega
      obtain ⟨q1, q2, q3, q4⟩ := h2 c hci
      have hb : bOf (setN e i s1) c = bOf e c := by
        unfold bOf
        by_cases z : c = 0
        · rw [if_pos z, if_pos z]
        · rw [if_neg z, if_neg z]
          rw [setN_ne (by omega)]
      rw [mu_o e0, setN_ne e0, setN_ne e0, hb]
      refine ⟨?_, q2, by omega, ?_⟩
      · rw [hf.1 _ (by omega) (by omega) (by omega)]; exact q1
      · rw [evR_cg (cs2 := Mc (16 + 3 * r + 1)) _ _ _ (fun j h1 h2 => k5 j (by omega))]; exact q4
theorem Sec.done {s : Nat} {M : Mem} {en : Nat → Int32} {e : Nat → Nat} {v : Nat → Int32} (h : Sec t 3 s M en e v) (hs : s ≤ 160) : WfT (M (t + 2)) ∧ ∀ c, c < 3 → evT (M (t + 1)) (M (t + 2)) en c = v c := by
  obtain ⟨h1, h2⟩ := h
  have E : ∀ c, c < 3 → secE (M (t + 2)) c = e c := fun c hc => by
    obtain ⟨q1, q2, q3, q4⟩ := h2 c hc
    unfold secE
    rw [q1, nI_clamp (by omega)]
  have Bb : ∀ c, c < 3 → secB (M (t + 2)) c = bOf e c := fun c hc => by
    unfold secB bOf
    by_cases z : c = 0
    · rw [if_pos z, if_pos z]
    · rw [if_neg z, if_neg z]
      have := E (c - 1) (by omega)
      unfold secE at this
      exact this
  constructor
  · intro c hc
    obtain ⟨q1, q2, q3, q4⟩ := h2 c hc
    rw [E c hc, Bb c hc]
    exact ⟨q2, by omega, q1⟩
  · intro c hc
    obtain ⟨q1, q2, q3, q4⟩ := h2 c hc
    unfold evT
    rw [E c hc, Bb c hc, q4]
    rfl
end
