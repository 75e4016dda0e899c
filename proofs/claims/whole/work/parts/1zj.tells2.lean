/-! TELLS: value by value, one up, the other down -/
section
variable {Mm N : Mem} {d : Nat} {t : Tk}
theorem layK1 (tm : TkM Mm d t) (e : KQ 106 d Mm N) {v : Nat} (hv : v < 6) (e0 : N 106 d = nI v) : TkM N d (tk1 t v) := by
  obtain ⟨a, b, c, e1, ⟨n, n1, n2, n3⟩, g, g2, i, r, r1, r2, r3⟩ := tm
  exact ⟨e0, (e 107 (3 * d) (by omega) (by omega)).trans b, (e 100 7 (by omega) (by omega)).trans c, fun i hi => (e 105 i (by omega) (by omega)).trans (e1 i hi), ⟨n, n1, (e 107 (3 * d + 1) (by omega) (by omega)).trans n2, n3⟩, ⟨v, hv, rfl⟩, g2, i, r, r1, (e 100 4 (by omega) (by omega)).trans r2, r3.keep (fun j _ => e 101 _ (by omega) (by omega)) (e 102 r (by omega) (by omega))⟩
theorem layK2 (tm : TkM Mm d t) (e : KQ 107 (3 * d) Mm N) {v : Nat} (hv : v ≤ 9) (e0 : N 107 (3 * d) = nI v) : TkM N d (tk2 t v) := by
  obtain ⟨a, b, c, e1, ⟨n, n1, n2, n3⟩, g, g2, i, r, r1, r2, r3⟩ := tm
  exact ⟨(e 106 d (by omega) (by omega)).trans a, e0, (e 100 7 (by omega) (by omega)).trans c, fun i hi => (e 105 i (by omega) (by omega)).trans (e1 i hi), ⟨n, n1, (e 107 (3 * d + 1) (by omega) (by omega)).trans n2, n3⟩, g, ⟨v, hv, rfl⟩, i, r, r1, (e 100 4 (by omega) (by omega)).trans r2, r3.keep (fun j _ => e 101 _ (by omega) (by omega)) (e 102 r (by omega) (by omega))⟩
theorem layK3 (tm : TkM Mm d t) (e : KQ 100 7 Mm N) {v : Nat} (e0 : N 100 7 = nI v) : TkM N d (tk3 t v) := by
  obtain ⟨a, b, c, e1, ⟨n, n1, n2, n3⟩, g, g2, i, r, r1, r2, r3⟩ := tm
  exact ⟨(e 106 d (by omega) (by omega)).trans a, (e 107 (3 * d) (by omega) (by omega)).trans b, e0, fun i hi => (e 105 i (by omega) (by omega)).trans (e1 i hi), ⟨n, n1, (e 107 (3 * d + 1) (by omega) (by omega)).trans n2, n3⟩, g, g2, i, r, r1, (e 100 4 (by omega) (by omega)).trans r2, r3.keep (fun j _ => e 101 _ (by omega) (by omega)) (e 102 r (by omega) (by omega))⟩
theorem layK4 (tm : TkM Mm d t) (e : KQ 105 0 Mm N) {v : Nat} (e0 : N 105 0 = nI v) : TkM N d (tk4 t v) := by
  obtain ⟨a, b, c, e1, ⟨n, n1, n2, n3⟩, g, g2, i, r, r1, r2, r3⟩ := tm
  refine ⟨(e 106 d (by omega) (by omega)).trans a, (e 107 (3 * d) (by omega) (by omega)).trans b, (e 100 7 (by omega) (by omega)).trans c, fun i hi => ?_, ⟨n, n1, (e 107 (3 * d + 1) (by omega) (by omega)).trans n2, n3⟩, g, g2, i, r, r1, (e 100 4 (by omega) (by omega)).trans r2, r3.keep (fun j _ => e 101 _ (by omega) (by omega)) (e 102 r (by omega) (by omega))⟩
  show _ = if i = 0 then nI v else tP t i
  by_cases i0 : i = 0
  · rw [i0, e0, if_pos rfl]
  · rw [if_neg i0]; exact (e 105 i (by omega) (by omega)).trans (e1 i hi)
theorem layK5 (tm : TkM Mm d t) (e : KQ 100 4 Mm N) {v : Nat} (hv : v < 6) (e0 : N 100 4 = nI v) {ev : Nat → (Nat → Int32) → Int32} (hE : EvC ev) (hx : TxM Mm v ev) : TkM N d (tk5 t ev) := by
  obtain ⟨a, b, c, e1, ⟨n, n1, n2, n3⟩, g, g2, i, r, r1, r2, r3⟩ := tm
  exact ⟨(e 106 d (by omega) (by omega)).trans a, (e 107 (3 * d) (by omega) (by omega)).trans b, (e 100 7 (by omega) (by omega)).trans c, fun i hi => (e 105 i (by omega) (by omega)).trans (e1 i hi), ⟨n, n1, (e 107 (3 * d + 1) (by omega) (by omega)).trans n2, n3⟩, g, g2, hE, v, hv, e0, hx.keep (fun j _ => e 101 _ (by omega) (by omega)) (e 102 v (by omega) (by omega))⟩
end
abbrev Gs : Type := Int32 × Int32 × Int32
def gst (h : Nat → Bool) (v : Nat) (c : Gs) : Gs := if h v = true then (c.1 ||| jshl 1 (nI v), c.2.1 + 1, if c.2.2 = -1 then nI v else c.2.2) else c
def rst (h : Nat → Bool) (v : Nat) (c : Gs) : Gs := if h v = true then (c.1 ||| (if 10 ≤ v then 0 else jshl 1 (nI v)), c.2.1 + 1, nI v) else c
def gup (h : Nat → Bool) : Nat → Gs
  | 0 => (0, 0, -1)
  | v + 1 => gst h v (gup h v)
def gdn (h : Nat → Bool) (n : Nat) : Nat → Gs
  | 0 => (0, 0, -1)
  | m + 1 => rst h (n - 1 - m) (gdn h n m)
theorem updn (h : Nat → Bool) (n : Nat) (hn : n < 2 ^ 31) : ∀ m i, i + m = n → (n ≤ 10 → (gup h i).1 ||| (gdn h n m).1 = (gup h n).1) ∧ (gup h i).2.1 + (gdn h n m).2.1 = (gup h n).2.1 ∧ (if (gup h i).2.2 = -1 then (gdn h n m).2.2 else (gup h i).2.2) = (gup h n).2.2 := by
  intro m
  induction m with
  | zero =>
    intro i hi
    rw [show i = n by omega]
    refine ⟨fun _ => Int32.or_zero, Int32.add_zero _, ?_⟩
    show (if (gup h n).2.2 = -1 then (-1 : Int32) else (gup h n).2.2) = _
    by_cases c : (gup h n).2.2 = -1
    · rw [if_pos c, c]
    · rw [if_neg c]
  | succ m ih =>
    intro i hi
    obtain ⟨a, b, c⟩ := ih (i + 1) (by omega)
    rw [show gup h (i + 1) = gst h i (gup h i) from rfl] at a b c
    rw [show gdn h n (m + 1) = rst h (n - 1 - m) (gdn h n m) from rfl, show n - 1 - m = i by omega]
    unfold gst at a b c
    unfold rst
    cases hh : h i with
    | false =>
      rw [hh, ft] at a b c
      rw [ft]
      exact ⟨a, b, c⟩
    | true =>
      rw [hh, tt] at a b c
      rw [tt]
      refine ⟨fun h10 => ?_, ?_, ?_⟩
      · rw [← a h10, if_neg (by omega)]
        show _ ||| (_ ||| _) = (_ ||| _) ||| _
        rw [Int32.or_assoc, Int32.or_comm (gdn h n m).1]
      · rw [← b]
        show _ + (_ + 1) = (_ + 1) + _
        rw [Int32.add_assoc, Int32.add_comm 1]
      · rw [← c]
        show (if (gup h i).2.2 = -1 then nI i else (gup h i).2.2) = if (if (gup h i).2.2 = -1 then nI i else (gup h i).2.2) = -1 then (gdn h n m).2.2 else (if (gup h i).2.2 = -1 then nI i else (gup h i).2.2)
        by_cases cc : (gup h i).2.2 = -1
        · simp only [if_pos cc]
          rw [if_neg (nI_n1 (by omega))]
        · simp only [if_neg cc]
def hitV (Tv : Nat → Tk) (st : Nat → Int32) (a b : Int32) (v : Nat) : Bool := decide (foV (Tv v) st a b = -1)
theorem guessC {Mc : Mem} {as n d s w : Nat} {Tv : Nat → Tk} (hs : s < 4) (has : as < 7) (hn : n ≤ 100) (hC : ∀ v, v < n → ∀ M : Mem, KC Mc M → ∃ M1 M2 : Mem, f_X0_takeUp (if as = 6 then nI v else nI d) M = some M1 ∧ f_X0_suppose (nI as) (nI v) M1 = some M2 ∧ Took M2 (Tv v) ∧ Sm M M2) :
    ∀ m i fuel (M : Mem), i + m = n → m < fuel → KC Mc M → ∃ M1 : Mem, f_X8_guess_l12 f_X8_guess_b105 fuel (nI as) (nI n) (nI w) (55 + 2 * s) (nI d) (gup (hitV Tv (Mc 2) (Mc (56 + 2 * s) 0) (Mc (56 + 2 * s) 1)) i).1 (gup (hitV Tv (Mc 2) (Mc (56 + 2 * s) 0) (Mc (56 + 2 * s) 1)) i).2.1 (gup (hitV Tv (Mc 2) (Mc (56 + 2 * s) 0) (Mc (56 + 2 * s) 1)) i).2.2 (nI i) M = f_X8_guess_b105 (nI w) (gup (hitV Tv (Mc 2) (Mc (56 + 2 * s) 0) (Mc (56 + 2 * s) 1)) n).1 (gup (hitV Tv (Mc 2) (Mc (56 + 2 * s) 0) (Mc (56 + 2 * s) 1)) n).2.1 (gup (hitV Tv (Mc 2) (Mc (56 + 2 * s) 0) (Mc (56 + 2 * s) 1)) n).2.2 M1 ∧ KC Mc M1 := by
  generalize hH : hitV Tv (Mc 2) (Mc (56 + 2 * s) 0) (Mc (56 + 2 * s) 1) = H
  intro m
  induction m with
  | zero =>
    intro i fuel M hi hf kc
    obtain ⟨g, rfl⟩ : ∃ g, fuel = g + 1 := ⟨fuel - 1, by omega⟩
    rw [f_X8_guess_l12, if_pos (nI_le (by omega) (by omega)), show i = n by omega]
    exact ⟨M, rfl, kc⟩
  | succ m ih =>
    intro i fuel M hi hf kc
    obtain ⟨g, rfl⟩ : ∃ g, fuel = g + 1 := ⟨fuel - 1, by omega⟩
    rw [f_X8_guess_l12, if_neg (nI_ge (by omega) (by omega))]
    obtain ⟨M1, M2, a1, a2, a3, a4⟩ := hC i (by omega) M kc
    have kc2 : KC Mc M2 := kc.tr a4.kc
    obtain ⟨M3, b1, b2⟩ := foC hs a3
    rw [kc2 2 (by omega), kc2 (56 + 2 * s) (by omega)] at b1
    have kc3 : KC Mc M3 := kc2.tr b2.kc
    have key : ∀ x : Int32, f_X0_takeUp x M = some M1 → ∃ M1' : Mem, f_X8_guess_b39 (f_X8_guess_l12 f_X8_guess_b105 g) f_X8_guess_b105 (nI as) (nI n) (nI w) (55 + 2 * s) (nI d) (gup H i).1 (gup H i).2.1 (gup H i).2.2 (nI i) x M = f_X8_guess_b105 (nI w) (gup H n).1 (gup H n).2.1 (gup H n).2.2 M1' ∧ KC Mc M1' := by
      intro x hx
      unfold f_X8_guess_b39 f_X8_guess_b97 f_X8_guess_b99
      rw [hx, Option.bind_some, a2, Option.bind_some, b1, Option.bind_some, nIp]
      dsimp only
      have nx := ih (i + 1) g M3 (by omega) (by omega) kc3
      rw [show gup H (i + 1) = gst H i (gup H i) from rfl] at nx
      have hi1 : H i = decide (foV (Tv i) (Mc 2) (Mc (56 + 2 * s) 0) (Mc (56 + 2 * s) 1) = -1) := by rw [← hH]; rfl
      unfold gst at nx
      by_cases c : foV (Tv i) (Mc 2) (Mc (56 + 2 * s) 0) (Mc (56 + 2 * s) 1) = -1
      · rw [hi1, decide_eq_true c, if_pos rfl] at nx
        rw [if_pos c]
        by_cases c2 : (gup H i).2.2 = -1
        · rw [if_pos c2]
          simp only [if_pos c2] at nx
          exact nx
        · rw [if_neg c2]
          simp only [if_neg c2] at nx
          exact nx
      · rw [hi1, decide_eq_false c, if_neg (by decide)] at nx
        rw [if_neg c]
        exact nx
    by_cases a6 : as = 6
    · rw [if_pos (show nI as = 6 by rw [a6]; rfl)]
      rw [if_pos a6] at a1
      exact key _ a1
    · rw [if_neg (show ¬ nI as = 6 by rw [show (6 : Int32) = nI 6 from rfl, nIeq (by omega) (by omega)]; exact a6)]
      rw [if_neg a6] at a1
      exact key _ a1
theorem guessM {n d s : Nat} {Tv : Nat → Tk} {so ofv was v3 : Int32} {st : Nat → Int32} {a b : Int32} (K : Mem → Prop) (hs : s < 4) (hd : d < 6) (hn : n ≤ 100) (hsm : ∀ N N1, K N → SmM N N1 → K N1) (h104 : ∀ N, K N → ∀ j, j < 12 → N 104 j = st j) (h117 : ∀ N, K N → N 117 (40 * s) = a ∧ N 117 (40 * s + 1) = b) (hL : ∀ v, v < n → ∀ N : Mem, K N → ∃ N1 : Mem, f_X9_lays so ofv (nI v) N = some N1 ∧ TkM N1 d (Tv v) ∧ K N1) :
    ∀ i m fuel (N : Mem), i + m = n → i < fuel → K N → ∃ N1 : Mem, f_X9_tells_l216 f_X9_tells_b274 fuel (nI s) (nI d) v3 so ofv was (gdn (hitV Tv st a b) n m).1 (gdn (hitV Tv st a b) n m).2.1 (gdn (hitV Tv st a b) n m).2.2 (nI i - 1) N = f_X9_tells_b274 v3 so ofv was (gdn (hitV Tv st a b) n n).1 (gdn (hitV Tv st a b) n n).2.1 (gdn (hitV Tv st a b) n n).2.2 N1 ∧ K N1 := by
  generalize hH : hitV Tv st a b = H
  intro i
  induction i with
  | zero =>
    intro m fuel N hi hf kn
    obtain ⟨g, rfl⟩ : ∃ g, fuel = g + 1 := ⟨fuel - 1, by omega⟩
    rw [f_X9_tells_l216, if_pos (show nI 0 - 1 < 0 by decide), show m = n by omega]
    exact ⟨N, rfl, kn⟩
  | succ i ih =>
    intro m fuel N hi hf kn
    obtain ⟨g, rfl⟩ : ∃ g, fuel = g + 1 := ⟨fuel - 1, by omega⟩
    rw [f_X9_tells_l216, nIm (by omega), Nat.add_sub_cancel, if_neg (show ¬ nI i < 0 from nI_pos (by omega))]
    obtain ⟨N1, a1, a2, a3⟩ := hL i (by omega) N kn
    obtain ⟨N2, b1, b2⟩ := foM hs hd a2 (h104 N1 a3)
    rw [(h117 N1 a3).1, (h117 N1 a3).2] at b1
    have k2 : K N2 := hsm _ _ a3 b2
    rw [a1, Option.bind_some, b1, Option.bind_some]
    dsimp only
    unfold f_X9_tells_b258 f_X9_tells_b268
    rw [show nI i + (-1) = nI i - 1 by rw [Int32.sub_eq_add_neg]]
    have nx := ih (m + 1) g N2 (by omega) (by omega) k2
    rw [show gdn H n (m + 1) = rst H (n - 1 - m) (gdn H n m) from rfl, show n - 1 - m = i by omega] at nx
    have hi1 : H i = decide (foV (Tv i) st a b = -1) := by rw [← hH]; rfl
    unfold rst at nx
    by_cases c : foV (Tv i) st a b = -1
    · rw [hi1, decide_eq_true c, if_pos rfl] at nx
      rw [if_pos c]
      by_cases c2 : 10 ≤ i
      · rw [if_pos (show (10 : Int32) ≤ nI i from nI_le (a := 10) c2 (by omega))]
        simp only [if_pos c2] at nx
        exact nx
      · rw [if_neg (show ¬ (10 : Int32) ≤ nI i from nI_ge (b := 10) (by omega) (by omega))]
        simp only [if_neg c2] at nx
        exact nx
    · rw [hi1, decide_eq_false c, if_neg (by decide)] at nx
      rw [if_neg c]
      exact nx
theorem likeM {Mm : Mem} {many s : Nat} {T : Nat → Tk} {st : Nat → Int32} {a b : Int32} (hs : s < 4) (hm2 : Mm 100 12 = nI many) (hm6 : many ≤ 6) (hst : ∀ j, j < 12 → Mm 104 j = st j) (ha : Mm 117 (40 * s) = a ∧ Mm 117 (40 * s + 1) = b) (hT : ∀ d, d < many → ∀ N : Mem, KM6 Mm N → TkM N d (T d)) :
    ∀ m i fuel (N : Mem), i + m = many → m < fuel → SmM Mm N → ∃ N1 : Mem, f_X9_likeSet_l4 fuel (nI s) (gup (hitV T st a b) i).1 (nI i) N = some ((gup (hitV T st a b) many).1, N1) ∧ SmM Mm N1 := by
  generalize hH : hitV T st a b = H
  intro m
  induction m with
  | zero =>
    intro i fuel N hi hf sm
    obtain ⟨g, rfl⟩ : ∃ g, fuel = g + 1 := ⟨fuel - 1, by omega⟩
    rw [f_X9_likeSet_l4, sm.2 12 (by omega), hm2, if_pos (nI_le (by omega) (by omega)), show i = many by omega]
    exact ⟨N, rfl, sm⟩
  | succ m ih =>
    intro i fuel N hi hf sm
    obtain ⟨g, rfl⟩ : ∃ g, fuel = g + 1 := ⟨fuel - 1, by omega⟩
    rw [f_X9_likeSet_l4, sm.2 12 (by omega), hm2, if_neg (nI_ge (by omega) (by omega))]
    have k6 : KM6 Mm N := (KM6.refl Mm).sm sm
    obtain ⟨N2, b1, b2⟩ := foM (st := st) hs (show i < 6 by omega) (hT i (by omega) N k6) (fun j hj => by rw [sm.1 104 (by omega)]; exact hst j hj)
    rw [sm.1 117 (by omega), ha.1, ha.2] at b1
    rw [b1, Option.bind_some]
    dsimp only
    unfold f_X9_likeSet_b28
    rw [nIp]
    have nx := ih (i + 1) g N2 (by omega) (by omega) (sm.trans b2)
    rw [show gup H (i + 1) = gst H i (gup H i) from rfl] at nx
    have hi1 : H i = decide (foV (T i) st a b = -1) := by rw [← hH]; rfl
    unfold gst at nx
    by_cases c : foV (T i) st a b = -1
    · rw [hi1, decide_eq_true c, if_pos rfl] at nx
      rw [if_pos c]
      exact nx
    · rw [hi1, decide_eq_false c, if_neg (by decide)] at nx
      rw [if_neg c, show (gup H i).1 ||| jshl 0 (nI i) = (gup H i).1 by
        unfold jshl
        rw [Int32.zero_shiftLeft, Int32.or_zero]]
      exact nx
