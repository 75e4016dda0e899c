/-! THE KERNEL: what a DISH that was taken up comes to, in plain numbers -/
/-- kind, number, hour, prides, needs, needs together, what the rule tells (section, names) -/
abbrev Tk : Type := Int32 × Int32 × Int32 × (Nat → Int32) × (Nat → Int32) × Int32 × (Nat → (Nat → Int32) → Int32)
def tK (t : Tk) : Int32 := t.1
def tN (t : Tk) : Int32 := t.2.1
def tH (t : Tk) : Int32 := t.2.2.1
def tP (t : Tk) : Nat → Int32 := t.2.2.2.1
def tD (t : Tk) : Nat → Int32 := t.2.2.2.2.1
def tT (t : Tk) : Int32 := t.2.2.2.2.2.1
def tE (t : Tk) : Nat → (Nat → Int32) → Int32 := t.2.2.2.2.2.2
def bd (x : Int32) : Int32 := jmax 0 (jmin 99 x)
def envS (t : Tk) (part much : Int32) (k : Nat) : Nat → Int32 := fun i => if i = 0 then part else if i = 1 then much else if i = 2 then nI k else if i = 3 then tH t else if i = 4 then tN t else tP t k
def kAsk (t : Tk) (s : Nat) (part much : Int32) (k : Nat) : Int32 := tE t s (envS t part much k)
def fedK (kind v : Int32) (k : Nat) (hour num : Int32) : Int32 :=
  if kind = 1 then bd (v * 2) else if kind = 2 then v / 2 else if kind = 3 then (if k = 1 then num else bd (v * 2)) else if kind = 4 then (if jrem hour 4 = 0 then v / 2 + 10 else v / 2) else if kind = 5 then bd (v + num) else v
def kFed (t : Tk) (k : Nat) : Int32 := fedK (tK t) (bd (kAsk t 0 0 (tT t) k)) k (tH t) (tN t)
def tollK (kind v p much num : Int32) : Int32 :=
  if kind = 1 then 0 else if kind = 2 then bd (v * much) else if kind = 3 then 1 else if kind = 4 then (if p = jrem num 6 then 0 else bd (v * much)) else if kind = 5 then 9 else v
def kTp (t : Tk) (k p : Nat) (much : Int32) : Int32 := tollK (tK t) (bd (kAsk t 1 (nI p) much k)) (nI p) much (tN t)
/-- what crosses of a part -/
def kCr (t : Tk) (k : Nat) (st : Nat → Int32) (p : Nat) : Int32 := jmax 0 (tD t p - st (6 * k + p))
def tollN (t : Tk) (k : Nat) (st : Nat → Int32) : Nat → Int32
  | 0 => 0
  | p + 1 => if kCr t k st p ≤ 0 then tollN t k st p else tollN t k st p + kTp t k p (kCr t k st p)
def kToll (t : Tk) (k : Nat) (st : Nat → Int32) : Int32 := tollN t k st 6
def canN (t : Tk) (k : Nat) (st : Nat → Int32) : Nat → Bool
  | 0 => true
  | p + 1 => canN t k st p && !decide (st (6 * (1 - k) + p) < kCr t k st p)
def kCan (t : Tk) (k : Nat) (st : Nat → Int32) : Bool := canN t k st 6
def crN (t : Tk) (k : Nat) (st : Nat → Int32) : Nat → Int32
  | 0 => 0
  | p + 1 => crN t k st p + kCr t k st p
def sgK (kind : Int32) (yes cooks below : Bool) : Bool :=
  if kind = 1 then true else if kind = 2 then yes && below else if kind = 3 then true else if kind = 4 then (yes && below) || cooks else if kind = 5 then yes || cooks else yes
/-- whether kitchen i signs, if k cooks it -/
def kSg (t : Tk) (k i : Nat) (toll : Int32) : Bool := sgK (tK t) (!decide (kAsk t 2 0 toll i = 0)) (decide (i = k)) (!decide (tP t i ≤ toll))
def kCk (t : Tk) (k : Nat) (st : Nat → Int32) : Bool := kCan t k st && (kSg t k 0 (kToll t k st) && kSg t k 1 (kToll t k st))
/-- the stores, when it was cooked -/
def kUse (t : Tk) (k : Nat) (st : Nat → Int32) : Nat → Int32 := fun j => if j / 6 = k then st j - (tD t (j % 6) - kCr t k st (j % 6)) else st j - kCr t k st (j % 6)
def zI (b : Bool) : Int32 := if b then 1 else 0
theorem zI_zb (b : Bool) : zb (zI b) = true := by cases b <;> decide
theorem zI_0 (b : Bool) : (zI b = 0) = (b = false) := by cases b <;> simp [zI]
theorem evS_congr {c : Int32} {e1 e2 : Nat → Int32} {t : List Int32} (h : ∀ i, i < 6 → e1 i = e2 i) : evS c e1 t = evS c e2 t := by
  unfold evS
  by_cases c6 : c < (-6)
  · rw [if_pos c6, if_pos c6]
  · rw [if_neg c6, if_neg c6]
    by_cases c0 : c < 0
    · rw [if_pos c0, if_pos c0]
      obtain ⟨j, hj, ej⟩ := negix c6 c0
      rw [ej, nI_clamp (by omega), h j hj]
    · rw [if_neg c0, if_neg c0]
theorem evR_congr {cs e1 e2 : Nat → Int32} (h : ∀ i, i < 6 → e1 i = e2 i) : ∀ (n i : Nat) (t : List Int32), evR cs e1 n i t = evR cs e2 n i t := by
  intro n
  induction n with
  | zero => intro i t; rfl
  | succ n ih =>
    intro i t
    show evR cs e1 n (i + 1) (evS (cs i) e1 t) = evR cs e2 n (i + 1) (evS (cs i) e2 t)
    rw [evS_congr h, ih]
theorem evT_congr {cs ends e1 e2 : Nat → Int32} {s : Nat} (h : ∀ i, i < 6 → e1 i = e2 i) : evT cs ends e1 s = evT cs ends e2 s := by
  unfold evT
  rw [evR_congr h]
/-- what Cooking holds of a DISH -/
def Took (M : Mem) (t : Tk) : Prop := M 36 2 = tK t ∧ M 36 3 = tN t ∧ M 36 4 = tH t ∧ (∀ i, i < 2 → M 37 i = tP t i) ∧ (∀ i, i < 6 → M 38 i = tD t i) ∧ M 36 7 = tT t ∧ ∃ q, isTx q ∧ M 36 1 = nI q ∧ WfT (M (q + 2)) ∧ tE t = (fun s env => evT (M (q + 1)) (M (q + 2)) env s)
theorem Took.keep {M M1 : Mem} {t : Tk} (h : Took M t) (h36 : ∀ j, j < 12 → M1 36 j = M 36 j) (hp : ∀ p, (p < 34 ∨ p = 37 ∨ p = 38) → 16 ≤ p → M1 p = M p) : Took M1 t := by
  obtain ⟨a, b, c, d, e, f, q, q1, q2, q3, q4⟩ := h
  obtain ⟨z1, z2, z3, z4, z5, z6, z7⟩ := tx_kd q1
  have w : ∃ t, t < 6 ∧ q = 16 + 3 * t := q1
  obtain ⟨tt, ht, rfl⟩ := w
  refine ⟨(h36 2 (by omega)).trans a, (h36 3 (by omega)).trans b, (h36 4 (by omega)).trans c, fun i hi => ?_, fun i hi => ?_, (h36 7 (by omega)).trans f, 16 + 3 * tt, q1, (h36 1 (by omega)).trans q2, ?_, ?_⟩
  · rw [hp 37 (by omega) (by omega)]; exact d i hi
  · rw [hp 38 (by omega) (by omega)]; exact e i hi
  · rw [hp _ (by omega) (by omega)]; exact q3
  · rw [hp (16 + 3 * tt + 1) (by omega) (by omega), hp (16 + 3 * tt + 2) (by omega) (by omega)]; exact q4
theorem ask_eq {M : Mem} {t : Tk} (hT : Took M t) {s k : Nat} (hs : s < 3) (hk : k < 2) (part much : Int32) :
    ∃ M1 : Mem, f_X0_ask (nI s) part much (nI k) M = some (kAsk t s part much k, M1) ∧ ∀ p, p ≠ 39 → p ≠ 40 → M1 p = M p := by
  obtain ⟨a, b, c, d, e, f, q, q1, q2, q3, q4⟩ := hT
  have qb := tx_kd q1
  unfold f_X0_ask
  rw [inb_nI hk (by omega), q2, nI_clamp (by omega), nI_clamp (show k < 2 ^ 31 by omega)]
  simp only [ck_true]
  generalize hM2 : mu (mu (mu (mu (mu (mu M 39 0 part) 39 1 much) 39 2 (nI k)) 39 3 (M 36 4)) 39 4 (M 36 3)) 39 5 (M 37 k) = M2
  have o : ∀ p, p ≠ 39 → M2 p = M p := fun p hp => by rw [← hM2, mun hp, mun hp, mun hp, mun hp, mun hp, mun hp]
  have hw : WfT (M2 (q + 2)) := by rw [o _ (by omega)]; exact q3
  obtain ⟨M1, g1, g2⟩ := value_eq q1 hs M2 hw
  refine ⟨M1, ?_, fun p h1 h2 => (g2 p h2).trans (o p h1)⟩
  rw [g1]
  simp only [Option.bind_some]
  rw [show (kd q == 6) = true by rw [qb.1]; rfl]
  simp only [ck_true]
  congr 2
  unfold kAsk
  rw [q4, o _ (show q + 1 ≠ 39 by omega), o _ (show q + 2 ≠ 39 by omega)]
  apply evT_congr
  intro i hi
  have e39 : M2 39 = upd (upd (upd (upd (upd (upd (M 39) 0 part) 1 much) 2 (nI k)) 3 (M 36 4)) 4 (M 36 3)) 5 (M 37 k) := by
    rw [← hM2]; simp only [mus]
  rw [e39]
  unfold envS
  rw [← c, ← b, ← d k hk]
  rcases Nat.lt_or_ge i 3 with h3 | h3
  · rcases Nat.lt_or_ge i 1 with h | h
    · have : i = 0 := by omega
      subst this; rfl
    · rcases Nat.lt_or_ge i 2 with h | h
      · have : i = 1 := by omega
        subst this; rfl
      · have : i = 2 := by omega
        subst this; rfl
  · rcases Nat.lt_or_ge i 4 with h | h
    · have : i = 3 := by omega
      subst this; rfl
    · rcases Nat.lt_or_ge i 5 with h | h
      · have : i = 4 := by omega
        subst this; rfl
      · have : i = 5 := by omega
        subst this; rfl
theorem bounded_eq (x : Int32) (M : Mem) : f_X2_bounded x M = some (bd x, M) := rfl
theorem fed_eq (kind v : Int32) {k : Nat} (hk : k < 2) (hour num : Int32) (M : Mem) : f_X2_fed kind v (nI k) hour num M = some (fedK kind v k hour num, M) := by
  unfold f_X2_fed fedK
  simp only [bounded_eq, Option.bind_some]
  have e : (nI k = 1) = (k = 1) := by rw [show (1 : Int32) = nI 1 from rfl, nIeq (by omega) (by omega)]
  simp only [e]
  repeat (first | rfl | split)
theorem toll_eq (kind v p much num : Int32) (M : Mem) : f_X2_toll kind v p much num M = some (tollK kind v p much num, M) := by
  unfold f_X2_toll tollK
  simp only [bounded_eq, Option.bind_some]
  repeat (first | rfl | split)
theorem signs_eq (kind : Int32) (a b c : Bool) (M : Mem) : f_X2_signs kind (zI a) (zI b) (zI c) M = some (zI (sgK kind a b c), M) := by
  unfold f_X2_signs sgK f_X2_signs_b62
  simp only [zI_0, zI_zb, ck_true]
  by_cases k1 : kind = 1
  · simp only [if_pos k1]; rfl
  · simp only [if_neg k1]
    by_cases k2 : kind = 2
    · simp only [if_pos k2]
      cases a <;> cases c <;> rfl
    · simp only [if_neg k2]
      by_cases k3 : kind = 3
      · simp only [if_pos k3]; rfl
      · simp only [if_neg k3]
        by_cases k4 : kind = 4
        · simp only [if_pos k4]
          cases a <;> cases b <;> cases c <;> rfl
        · simp only [if_neg k4]
          by_cases k5 : kind = 5
          · simp only [if_pos k5]
            cases a <;> cases b <;> rfl
          · simp only [if_neg k5]
theorem ask1_eq {M : Mem} {t : Tk} (hT : Took M t) {k : Nat} (hk : k < 2) (part much : Int32) : ∃ M1 : Mem, f_X0_ask 1 part much (nI k) M = some (kAsk t 1 part much k, M1) ∧ ∀ p, p ≠ 39 → p ≠ 40 → M1 p = M p := ask_eq hT (s := 1) (by omega) hk part much
theorem ask0_eq {M : Mem} {t : Tk} (hT : Took M t) {k : Nat} (hk : k < 2) (part much : Int32) : ∃ M1 : Mem, f_X0_ask 0 part much (nI k) M = some (kAsk t 0 part much k, M1) ∧ ∀ p, p ≠ 39 → p ≠ 40 → M1 p = M p := ask_eq hT (s := 0) (by omega) hk part much
theorem ask2_eq {M : Mem} {t : Tk} (hT : Took M t) {k : Nat} (hk : k < 2) (part much : Int32) : ∃ M1 : Mem, f_X0_ask 2 part much (nI k) M = some (kAsk t 2 part much k, M1) ∧ ∀ p, p ≠ 39 → p ≠ 40 → M1 p = M p := ask_eq hT (s := 2) (by omega) hk part much
/-- a loop's fuel is more than its turns -/
theorem FU_ge : 200 < FU := by decide
/-- cross: what crosses, and whether it can be -/
theorem cross_l {t : Tk} {k q2 : Nat} {st : Nat → Int32} (hk : k < 2) (hq : kd q2 = 10) (hl : ln q2 = 12) (hq3 : q2 ≠ 36 ∧ q2 ≠ 41) :
    ∀ (n p fuel : Nat) (M : Mem), p + n = 6 → n < fuel → (∀ i, i < 6 → M 38 i = tD t i) → M q2 = st → (∀ i, i < p → M 41 i = kCr t k st i) → M 36 12 = zI (canN t k st p) → M 36 13 = crN t k st p →
    ∃ M1 : Mem, f_X0_cross_l26 fuel q2 (nI (6 * k)) (nI (6 * (1 - k))) (nI p) M = some M1 ∧ (∀ i, i < 6 → M1 41 i = kCr t k st i) ∧ M1 36 12 = zI (kCan t k st) ∧ M1 36 13 = crN t k st 6 ∧ (∀ r, r ≠ 36 → r ≠ 41 → M1 r = M r) ∧ (∀ j, j ≠ 12 → j ≠ 13 → M1 36 j = M 36 j) := by
  intro n
  induction n with
  | zero =>
    intro p fuel M hp hf hD hq2 h41 hc hs
    obtain ⟨f, rfl⟩ : ∃ f, fuel = f + 1 := ⟨fuel - 1, by omega⟩
    have e6 : p = 6 := by omega
    subst e6
    refine ⟨M, ?_, h41, hc, hs, fun _ _ _ => rfl, fun _ _ _ => rfl⟩
    rw [f_X0_cross_l26, if_pos (id (by decide) : (6 : Int32) ≤ nI 6)]
  | succ n ih =>
    intro p fuel M hp hf hD hq2 h41 hc hs
    obtain ⟨f, rfl⟩ : ∃ f, fuel = f + 1 := ⟨fuel - 1, by omega⟩
    have hn6 : ¬ (6 : Int32) ≤ nI p := by rw [show (6 : Int32) = nI 6 from rfl, nIle (by omega) (by omega)]; omega
    have k1 : 1 - k < 2 := by omega
    rw [f_X0_cross_l26, if_neg hn6, inb_nI (show p < 6 by omega) (by omega), show (kd q2 == 10) = true by rw [hq]; rfl, nI_add, nI_add, hl, inb_nI (show 6 * k + p < 12 by omega) (by omega), inb_nI (show 6 * (1 - k) + p < 12 by omega) (by omega)]
    simp only [ck_true]
    rw [nI_clamp (show p < 2 ^ 31 by omega), nI_clamp (show 6 * k + p < 2 ^ 31 by omega), nI_clamp (show 6 * (1 - k) + p < 2 ^ 31 by omega), hD p (by omega), hq2]
    have ecr : jmax 0 (tD t p - st (6 * k + p)) = kCr t k st p := rfl
    rw [ecr]
    generalize hM2 : mu (mu M 41 p (kCr t k st p)) 36 13 (M 36 13 + kCr t k st p) = M2
    have o : ∀ r, r ≠ 36 → r ≠ 41 → M2 r = M r := fun r h1 h2 => by rw [← hM2, mun h1, mun h2]
    have o36 : ∀ j, j ≠ 13 → M2 36 j = M 36 j := fun j h1 => by rw [← hM2, mus, upn h1, mun (by omega)]
    have o3613 : M2 36 13 = crN t k st (p + 1) := by rw [← hM2, mus, ups, hs]; rfl
    have o41 : ∀ i, i < p + 1 → M2 41 i = kCr t k st i := fun i hi => by
      rw [← hM2, mun (by omega), mus]
      by_cases e : i = p
      · subst e; rw [ups]
      · rw [upn e]; exact h41 i (by omega)
    have fin : ∀ b : Bool, canN t k st (p + 1) = b → ∃ M1 : Mem, f_X0_cross_b104 (f_X0_cross_l26 f) q2 (nI (6 * k)) (nI (6 * (1 - k))) (nI p) (zI b) M2 = some M1 ∧ (∀ i, i < 6 → M1 41 i = kCr t k st i) ∧ M1 36 12 = zI (kCan t k st) ∧ M1 36 13 = crN t k st 6 ∧ (∀ r, r ≠ 36 → r ≠ 41 → M1 r = M r) ∧ (∀ j, j ≠ 12 → j ≠ 13 → M1 36 j = M 36 j) := by
      intro b hb
      unfold f_X0_cross_b104
      rw [zI_zb, nIp]
      simp only [ck_true]
      obtain ⟨M1, g1, g2, g3, g4, g5, g6⟩ := ih (p + 1) f (mu M2 36 12 (zI b)) (by omega) (by omega) (fun i hi => by rw [mun (by omega), o 38 (by omega) (by omega)]; exact hD i hi) (by rw [mun hq3.1, o q2 hq3.1 hq3.2]; exact hq2) (fun i hi => by rw [mun (by omega)]; exact o41 i hi) (by rw [mus, ups, hb]) (by rw [mus, upn (by omega)]; exact o3613)
      exact ⟨M1, g1, g2, g3, g4, fun r h1 h2 => by rw [g5 r h1 h2, mun h1, o r h1 h2], fun j h1 h2 => by rw [g6 j h1 h2, mus, upn h1, o36 j h2]⟩
    have c0 : M 36 12 = 0 ↔ canN t k st p = false := by rw [hc]; exact Iff.of_eq (zI_0 _)
    by_cases hcb : canN t k st p = false
    · rw [if_pos (c0.mpr hcb)]
      unfold f_X0_cross_b103
      refine fin false ?_
      show (canN t k st p && _) = false
      rw [hcb]; rfl
    · rw [if_neg (fun h => hcb (c0.mp h)), o q2 hq3.1 hq3.2, hq2]
      have hct : canN t k st p = true := by cases hx : canN t k st p; exact absurd hx hcb; rfl
      by_cases hlt : st (6 * (1 - k) + p) < kCr t k st p
      · rw [if_pos hlt]
        unfold f_X0_cross_b103
        refine fin false ?_
        show (canN t k st p && !decide _) = false
        rw [decide_eq_true hlt]; simp
      · rw [if_neg hlt]
        refine fin true ?_
        show (canN t k st p && !decide _) = true
        rw [decide_eq_false hlt, hct]; rfl
theorem cross_eq {M : Mem} {t : Tk} {k q2 : Nat} (hD : ∀ i, i < 6 → M 38 i = tD t i) (hk : k < 2) (hq : kd q2 = 10) (hl : ln q2 = 12) (hq3 : q2 ≠ 36 ∧ q2 ≠ 41) :
    ∃ M1 : Mem, f_X0_cross (nI k) q2 M = some M1 ∧ (∀ i, i < 6 → M1 41 i = kCr t k (M q2) i) ∧ M1 36 12 = zI (kCan t k (M q2)) ∧ M1 36 13 = crN t k (M q2) 6 ∧ (∀ r, r ≠ 36 → r ≠ 41 → M1 r = M r) ∧ (∀ j, j ≠ 12 → j ≠ 13 → M1 36 j = M 36 j) := by
  unfold f_X0_cross
  rw [show (6 : Int32) = nI 6 from rfl, pk_mul, show (1 : Int32) = nI 1 from rfl, pk_sub (by omega), pk_mul, Nat.mul_comm k 6, Nat.mul_comm (1 - k) 6]
  obtain ⟨M1, g1, g2, g3, g4, g5, g6⟩ := cross_l (t := t) (st := M q2) hk hq hl hq3 6 0 FU (mu (mu M 36 12 (nI 1)) 36 13 0) (by omega) (by have := FU_ge; omega) (fun i hi => by rw [mun (by omega), mun (by omega)]; exact hD i hi) (by rw [mun hq3.1, mun hq3.1]) (fun i hi => absurd hi (Nat.not_lt_zero i)) (by rw [mus, upn (by omega), mus, ups]; rfl) (by rw [mus, ups]; rfl)
  exact ⟨M1, g1, g2, g3, g4, fun r h1 h2 => by rw [g5 r h1 h2, mun h1, mun h1], fun j h1 h2 => by rw [g6 j h1 h2, mus, upn h2, mus, upn h1]⟩
