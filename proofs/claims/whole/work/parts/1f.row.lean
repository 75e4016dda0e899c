/-! THE ROWS: term, sum, both, either -/
section
variable {n f0 t d : Nat} {B : Nat → Nat} {rE rB rN rS rT rO : Nat → Int32 → Mem → Option Mem} {me mb mn ma mt mo : Mem → Option (Int32 × Mem)}
theorem jn8 (a b : Int32) : jn (-8) a b = if a = 0 then 0 else if b = 0 then 0 else 1 := by
  unfold jn
  rw [if_neg (show ¬ ((-8 : Int32) = (-13)) by decide), if_neg (show ¬ ((-8 : Int32) = (-12)) by decide), if_neg (show ¬ ((-8 : Int32) = (-11)) by decide), if_neg (show ¬ ((-8 : Int32) = (-10)) by decide), if_neg (show ¬ ((-8 : Int32) = (-9)) by decide), if_pos rfl]
theorem jn7 (a b : Int32) : jn (-7) a b = if a = 0 then (if b = 0 then 0 else 1) else 1 := by
  unfold jn
  rw [if_neg (show ¬ ((-7 : Int32) = (-13)) by decide), if_neg (show ¬ ((-7 : Int32) = (-12)) by decide), if_neg (show ¬ ((-7 : Int32) = (-11)) by decide), if_neg (show ¬ ((-7 : Int32) = (-10)) by decide), if_neg (show ¬ ((-7 : Int32) = (-9)) by decide), if_neg (show ¬ ((-7 : Int32) = (-8)) by decide), if_pos rfl]
theorem kd6 (ht : isTx t) : (kd t == 6) = true := by rw [(tx_kd ht).1]; rfl
theorem evJ {c : Int32} (h1 : c < -6) (h2 : c ≠ -9) (h3 : c ≠ -15) (e : Nat → Int32) (b a : Int32) (st : List Int32) : evS c e (b :: a :: st) = jn c a b :: st := by
  unfold evS
  rw [if_pos h1, if_neg h2, if_neg h3]
theorem termPS (ht : isTx t) (hn : n ≤ 160) (hB : ∀ j, j < n → B j < 256) (hP : PS n B f0 t rO mo d) : PS n B f0 t (f_X5_readTerm_b rE rB rN rS rT rO) (f_X9_term_b me mb mn ma mt mo) d := by
  refine rowPS ht hn hB hP (f_X5_readTerm_l8 rE rB rN rS rT rO) (f_X9_term_l5 me mb mn ma mt mo) (fun x => if x = 42 then some (-14) else none) ?_ ?_ ?_ ?_ (by decide) (by decide) ?_
  · intro f v2 v3 M
    rw [f_X5_readTerm_l8, kd6 ht]
    by_cases c : M 34 3 = 42
    · simp only [c, if_true, ck_true]
    · simp only [c, if_false]
  · intro f v Mc Mm p w s h hk
    have c : ¬ Mc 34 3 = nI 42 := fun e => by simp only [e] at hk; exact absurd hk (by decide)
    have o := obsS hB h.1 h.2.2.2.2.1 (c := 42) (by omega)
    rw [decide_eq_false c] at o
    rw [f_X9_term_l5, show (42 : Int32) = nI 42 from rfl, o]
    rfl
  · intro f v Mc Mm p w s c h hk
    by_cases e : Mc 34 3 = nI 42
    · have o := obsS hB h.1 h.2.2.2.2.1 (c := 42) (by omega)
      rw [decide_eq_true e] at o
      rw [f_X9_term_l5, show (42 : Int32) = nI 42 from rfl, o]
      simp only [e] at hk
      cases hk
      rfl
    · have : (if Mc 34 3 = 42 then some (-14 : Int32) else none) = none := if_neg e
      rw [this] at hk
      cases hk
  · intro f v Mm h
    rw [f_X9_term_l5, obsS0 h]
    rfl
  · intro x c hx
    have hc : c = -14 := by
      by_cases e : x = 42
      · simp only [e, if_true] at hx; cases hx; rfl
      · simp only [e, if_false] at hx; cases hx
    subst hc
    exact fun e b a st => evJ (by decide) (by decide) (by decide) e b a st
theorem sumPS (ht : isTx t) (hn : n ≤ 160) (hB : ∀ j, j < n → B j < 256) (hP : PS n B f0 t rT mt d) : PS n B f0 t (f_X5_readSum_b rE rB rN rS rT rO) (f_X9_added_b me mb mn ma mt mo) d := by
  refine rowPS ht hn hB hP (f_X5_readSum_l8 rE rB rN rS rT rO) (f_X9_added_l5 me mb mn ma mt mo) (fun x => if x = 43 then some (-12) else if x = 45 then some (-13) else none) ?_ ?_ ?_ ?_ (by decide) (by decide) ?_
  · intro f v2 v3 M
    rw [f_X5_readSum_l8]
    unfold f_X5_readSum_b33 f_X5_readSum_b49
    rw [kd6 ht]
    by_cases c : M 34 3 = 43
    · simp only [c, if_true, ck_true]
    · by_cases c2 : M 34 3 = 45
      · simp only [c2, show ¬ (45 : Int32) = 43 by decide, if_true, if_false, ck_true]
      · simp only [c, c2, if_false]
  · intro f v Mc Mm p w s h hk
    have c : ¬ Mc 34 3 = nI 43 := fun e => by simp only [e] at hk; exact absurd hk (by decide)
    have c2 : ¬ Mc 34 3 = nI 45 := fun e => by simp only [e] at hk; exact absurd hk (by decide)
    have o := obsS hB h.1 h.2.2.2.2.1 (c := 43) (by omega)
    rw [decide_eq_false c] at o
    have o2 := obsS hB h.1 h.2.2.2.2.1 (c := 45) (by omega)
    rw [decide_eq_false c2] at o2
    rw [f_X9_added_l5, show (43 : Int32) = nI 43 from rfl, show (45 : Int32) = nI 45 from rfl, o]
    simp only [Option.bind_some, o2]
    rfl
  · intro f v Mc Mm p w s c h hk
    by_cases e : Mc 34 3 = nI 43
    · have o := obsS hB h.1 h.2.2.2.2.1 (c := 43) (by omega)
      rw [decide_eq_true e] at o
      rw [f_X9_added_l5, show (43 : Int32) = nI 43 from rfl, o]
      have ov := obsV h.1 (c := 43) (by omega) e
      simp only [e] at hk
      cases hk
      simp only [Option.bind_some]
      unfold f_X9_added_b23 f_X9_added_b39
      rw [ov, if_neg (by decide), if_pos (by decide)]
      rfl
    · by_cases e2 : Mc 34 3 = nI 45
      · have o := obsS hB h.1 h.2.2.2.2.1 (c := 43) (by omega)
        rw [decide_eq_false e] at o
        have o2 := obsS hB h.1 h.2.2.2.2.1 (c := 45) (by omega)
        rw [decide_eq_true e2] at o2
        rw [f_X9_added_l5, show (43 : Int32) = nI 43 from rfl, show (45 : Int32) = nI 45 from rfl, o]
        simp only [Option.bind_some, o2]
        have ov := obsV h.1 (c := 45) (by omega) e2
        simp only [e2] at hk
        cases hk
        unfold f_X9_added_b23 f_X9_added_b39
        rw [ov, if_pos (by decide), if_neg (by decide), if_neg (by decide)]
        rfl
      · have : (if Mc 34 3 = 43 then some (-12 : Int32) else if Mc 34 3 = 45 then some (-13) else none) = none := (if_neg e).trans (if_neg e2)
        rw [this] at hk
        cases hk
  · intro f v Mm h
    rw [f_X9_added_l5, obsS0 h]
    simp only [Option.bind_some, obsS0 h]
    rfl
  · intro x c hx
    by_cases e : x = 43
    · simp only [e, if_true] at hx; cases hx
      exact fun e b a st => evJ (by decide) (by decide) (by decide) e b a st
    · by_cases e2 : x = 45
      · simp only [e2, show ¬ (45 : Int32) = 43 by decide, if_true, if_false] at hx; cases hx
        exact fun e b a st => evJ (by decide) (by decide) (by decide) e b a st
      · simp only [e, e2, if_false] at hx; cases hx
theorem bothPS (ht : isTx t) (hn : n ≤ 160) (hB : ∀ j, j < n → B j < 256) (hP : PS n B f0 t rN mn d) : PS n B f0 t (f_X5_readBoth_b rE rB rN rS rT rO) (f_X9_both_b me mb mn ma mt mo) d := by
  refine rowPS ht hn hB hP (f_X5_readBoth_l8 rE rB rN rS rT rO) (f_X9_both_l5 me mb mn ma mt mo) (fun x => if x = 264 then some (-8) else none) ?_ ?_ ?_ ?_ (by decide) (by decide) ?_
  · intro f v2 v3 M
    rw [f_X5_readBoth_l8, kd6 ht]
    by_cases c : M 34 3 = 264
    · simp only [c, if_true, ck_true]
    · simp only [c, if_false]
  · intro f v Mc Mm p w s h hk
    have c : ¬ w = 10 := fun e => by
      have := obsK hB h.1 (k := 10) (by omega)
      rw [eq_true e] at this
      rw [of_eq_true this] at hk
      exact absurd hk (by decide)
    have o := obsW hn hB h.2.2.1 h.1 h.2.2.2.2.1 (k := 10) (by omega)
    rw [decide_eq_false c] at o
    show (wordM0 (sw 10) Mm).bind _ = _
    rw [o]
    rfl
  · intro f v Mc Mm p w s c h hk
    by_cases e : w = 10
    · have o := obsW hn hB h.2.2.1 h.1 h.2.2.2.2.1 (k := 10) (by omega)
      rw [decide_eq_true e] at o
      have := obsK hB h.1 (k := 10) (by omega)
      rw [eq_true e] at this
      rw [of_eq_true this] at hk
      cases hk
      show (wordM0 (sw 10) Mm).bind _ = _
      rw [o]
      simp only [Option.bind_some]
      rw [if_neg (by decide)]
      congr 1
      funext o6
      congr 1
      funext o8
      unfold f_X9_both_b44 f_X9_both_b45
      rw [jn8]
      by_cases z : v = 0
      · rw [if_pos z, if_pos z]
      · rw [if_neg z, if_neg z]
        by_cases z2 : o8.1 = 0
        · rw [if_pos z2, if_pos z2]
        · rw [if_neg z2, if_neg z2]
    · have e2 : ¬ Mc 34 3 = 264 := fun x => e ((obsK hB h.1 (k := 10) (by omega)).mp x)
      have : (if Mc 34 3 = 264 then some (-8 : Int32) else none) = none := if_neg e2
      rw [this] at hk
      cases hk
  · intro f v Mm h
    show (wordM0 (sw 10) Mm).bind _ = _
    rw [obsW0 h]
    rfl
  · intro x c hx
    have hc : c = -8 := by
      by_cases e : x = 264
      · simp only [e, if_true] at hx; cases hx; rfl
      · simp only [e, if_false] at hx; cases hx
    subst hc
    exact fun e b a st => evJ (by decide) (by decide) (by decide) e b a st
theorem eitherPS (ht : isTx t) (hn : n ≤ 160) (hB : ∀ j, j < n → B j < 256) (hP : PS n B f0 t rB mb d) : PS n B f0 t (f_X5_readEither_b rE rB rN rS rT rO) (f_X9_either_b me mb mn ma mt mo) d := by
  refine rowPS ht hn hB hP (f_X5_readEither_l8 rE rB rN rS rT rO) (f_X9_either_l5 me mb mn ma mt mo) (fun x => if x = 263 then some (-7) else none) ?_ ?_ ?_ ?_ (by decide) (by decide) ?_
  · intro f v2 v3 M
    rw [f_X5_readEither_l8, kd6 ht]
    by_cases c : M 34 3 = 263
    · simp only [c, if_true, ck_true]
    · simp only [c, if_false]
  · intro f v Mc Mm p w s h hk
    have c : ¬ w = 9 := fun e => by
      have := obsK hB h.1 (k := 9) (by omega)
      rw [eq_true e] at this
      rw [of_eq_true this] at hk
      exact absurd hk (by decide)
    have o := obsW hn hB h.2.2.1 h.1 h.2.2.2.2.1 (k := 9) (by omega)
    rw [decide_eq_false c] at o
    show (wordM0 (sw 9) Mm).bind _ = _
    rw [o]
    rfl
  · intro f v Mc Mm p w s c h hk
    by_cases e : w = 9
    · have o := obsW hn hB h.2.2.1 h.1 h.2.2.2.2.1 (k := 9) (by omega)
      rw [decide_eq_true e] at o
      have := obsK hB h.1 (k := 9) (by omega)
      rw [eq_true e] at this
      rw [of_eq_true this] at hk
      cases hk
      show (wordM0 (sw 9) Mm).bind _ = _
      rw [o]
      simp only [Option.bind_some]
      rw [if_neg (by decide)]
      congr 1
      funext o6
      congr 1
      funext o8
      unfold f_X9_either_b39 f_X9_either_b44
      rw [jn7]
      by_cases z : v = 0
      · rw [if_pos z, if_pos z]
        by_cases z2 : o8.1 = 0
        · rw [if_pos z2, if_pos z2]
        · rw [if_neg z2, if_neg z2]
      · rw [if_neg z, if_neg z]
    · have e2 : ¬ Mc 34 3 = 263 := fun x => e ((obsK hB h.1 (k := 9) (by omega)).mp x)
      have : (if Mc 34 3 = 263 then some (-7 : Int32) else none) = none := if_neg e2
      rw [this] at hk
      cases hk
  · intro f v Mm h
    show (wordM0 (sw 9) Mm).bind _ = _
    rw [obsW0 h]
    rfl
  · intro x c hx
    have hc : c = -7 := by
      by_cases e : x = 263
      · simp only [e, if_true] at hx; cases hx; rfl
      · simp only [e, if_false] at hx; cases hx
    subst hc
    exact fun e b a st => evJ (by decide) (by decide) (by decide) e b a st
end
