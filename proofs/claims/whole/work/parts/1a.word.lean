/-! WORDS -/
def wN (B : Nat → Nat) (p : Nat) (s : List Nat) : Nat → Nat → Bool
  | 0, _ => true
  | m + 1, i => B (p + i) == s.getD i 0 && wN B p s m (i + 1)
/-- the word from p to e is s -/
def wIs (B : Nat → Nat) (p e : Nat) (s : List Nat) : Bool := decide (e - p = s.length) && wN B p s s.length 0
theorem wN_iff (B : Nat → Nat) (p : Nat) (s : List Nat) : ∀ m i, wN B p s m i = true ↔ ∀ x, x < m → B (p + (i + x)) = s.getD (i + x) 0 := by
  intro m
  induction m with
  | zero => intro i; exact ⟨fun _ x hx => absurd hx (Nat.not_lt_zero x), fun _ => rfl⟩
  | succ m ih =>
    intro i
    unfold wN
    rw [Bool.and_eq_true, ih (i + 1), beq_iff_eq]
    constructor
    · intro h x hx
      cases x with
      | zero => exact h.1
      | succ x => have := h.2 x (by omega); rw [show i + 1 + x = i + (x + 1) by omega] at this; exact this
    · intro h
      refine ⟨h 0 (by omega), fun x hx => ?_⟩
      rw [show i + 1 + x = i + (x + 1) by omega]
      exact h (x + 1) (by omega)
theorem wIs_iff (B : Nat → Nat) (p e : Nat) (s : List Nat) : wIs B p e s = true ↔ e - p = s.length ∧ ∀ x, x < s.length → B (p + x) = s.getD x 0 := by
  unfold wIs
  rw [Bool.and_eq_true, decide_eq_true_eq, wN_iff]
  simp only [Nat.zero_add]
theorem wIs_one {B : Nat → Nat} {p e : Nat} {s t : List Nat} (h : wIs B p e s = true) (h2 : wIs B p e t = true) : s = t := by
  rw [wIs_iff] at h h2
  have hl : s.length = t.length := h.1.symm.trans h2.1
  apply List.ext_getElem hl
  intro i h3 h4
  have a := h.2 i h3
  have b := h2.2 i h4
  rw [a] at b
  simpa [List.getD_eq_getElem?_getD, h3, h4] using b
/-- a word's letters, by its number -/
def sw (k : Nat) : List Nat := strs.getD k []
theorem sw_one : ∀ j, j < 12 → ∀ k, k < 12 → sw j = sw k → j = k := by decide +kernel
theorem sw_ok : ∀ k, k < 13 → isStr (1000 + k) = true ∧ slenN (1000 + k) = (sw k).length ∧ ((sw k).length ≤ 40) := by decide +kernel
theorem sw_byte : ∀ k, k < 13 → ∀ i, i < (sw k).length → (sw k).getD i 0 < 256 := by decide +kernel
theorem sw_lt : ∀ k, k < 12 → (sw k).length ≤ 8 ∧ ∀ i, i < (sw k).length → (sw k).getD i 0 ≠ 0 := by decide +kernel
theorem schar_eq (k j : Nat) : schar (1000 + k) j = nI ((sw k).getD j 0) := by
  unfold schar sw
  rw [Nat.add_sub_cancel_left]
  rfl
theorem slen_eq {k : Nat} (hk : k < 13) : slen (1000 + k) = nI (sw k).length := by
  unfold slen
  rw [(sw_ok k hk).2.1]
  rfl
theorem isWordC_l {k n p : Nat} {B : Nat → Nat} {M : Mem} (hk : k < 13) (hn : n ≤ 160) (hB : ∀ j, j < n → B j < 256) (hC : BC M n B) (h4 : M 34 4 = nI p) (hp : p + (sw k).length ≤ n) : ∀ (m i fuel : Nat), i + m = (sw k).length → m < fuel → f_X5_isWord_l20 fuel (1000 + k) (nI i) M = some (zI (wN B p (sw k) m i), M) := by
  obtain ⟨a1, a2, a3⟩ := sw_ok k hk
  intro m
  induction m with
  | zero =>
    intro i fuel hi hf
    obtain ⟨f, rfl⟩ : ∃ f, fuel = f + 1 := ⟨fuel - 1, by omega⟩
    rw [f_X5_isWord_l20, a1, slen_eq hk]
    simp only [ck_true]
    rw [if_pos (nI_le (by omega) (by omega))]
    rfl
  | succ m ih =>
    intro i fuel hi hf
    obtain ⟨f, rfl⟩ : ∃ f, fuel = f + 1 := ⟨fuel - 1, by omega⟩
    rw [f_X5_isWord_l20, a1, slen_eq hk]
    simp only [ck_true]
    rw [if_neg (nI_ge (by omega) (by omega)), h4, nI_add, inb_nI (show p + i < 160 by omega) (by omega), a2, inb_nI (show i < (sw k).length by omega) (by omega), nI_clamp (by omega), nI_clamp (by omega), hC.2 (p + i) (by omega), schar_eq]
    simp only [ck_true]
    have hb := hB (p + i) (by omega)
    have hs := sw_byte k hk i (by omega)
    show _ = some (zI (B (p + i) == (sw k).getD i 0 && wN B p (sw k) m (i + 1)), M)
    by_cases e : B (p + i) = (sw k).getD i 0
    · rw [if_pos (by rw [e]), nIp, ih (i + 1) f (by omega) (by omega), e, beq_self_eq_true]
      rfl
    · rw [if_neg (by rw [nIeq (by omega) (by omega)]; exact e), beq_eq_false_iff_ne.mpr e]
      rfl
theorem isWordC {k n p e : Nat} {B : Nat → Nat} {M : Mem} (hk : k < 13) (hn : n ≤ 160) (hB : ∀ j, j < n → B j < 256) (hC : BC M n B) (h4 : M 34 4 = nI p) (h2 : M 34 2 = nI e) (hpe : p ≤ e) (he : e ≤ n) : f_X5_isWord (1000 + k) M = some (zI (wIs B p e (sw k)), M) := by
  obtain ⟨a1, a2, a3⟩ := sw_ok k hk
  unfold f_X5_isWord wIs
  rw [a1, h2, h4, pk_sub hpe, slen_eq hk]
  simp only [ck_true]
  by_cases c : e - p = (sw k).length
  · rw [if_pos (by rw [c]), decide_eq_true c, show (0 : Int32) = nI 0 from rfl, isWordC_l hk hn hB hC h4 (by omega) (sw k).length 0 FU (by omega) (by have := FU_ge; omega)]
    rfl
  · rw [if_neg (by rw [nIeq (by omega) (by omega)]; exact c), decide_eq_false c]
    rfl
/-- the reference's look at a letter -/
def lM (B : Nat → Nat) (p e l i : Nat) : Bool := if e ≤ p + i then l == 0 else B (p + i) == l
theorem isLetterM {f0 n p e i l : Nat} {B : Nat → Nat} {M : Mem} (hn : n ≤ 160) (hB : ∀ j, j < n → B j < 256) (hC : BM M f0 n B) (h23 : M 100 23 = nI p) (h21 : M 100 21 = nI e) (he : e ≤ n) (hp : p ≤ 160) (hi : i < 8) (hl : l < 256) : f_X9_isLetter (nI i) (nI l) M = some (zI (lM B p e l i), M) := by
  unfold f_X9_isLetter lM
  rw [h21, h23, nI_add]
  by_cases c : e ≤ p + i
  · rw [if_pos (nI_le c (by omega)), if_pos c]
    by_cases z : l = 0
    · subst z; rw [if_pos (id rfl : nI 0 = 0)]; rfl
    · rw [if_neg (nI_ne0 (by omega) (by omega)), beq_eq_false_iff_ne.mpr z]; rfl
  · rw [if_neg (nI_ge (by omega) (by omega)), if_neg c, byteAt_eq hn (by omega) hC, if_pos (by omega)]
    simp only [Option.bind_some]
    have hb := hB (p + i) (by omega)
    by_cases z : B (p + i) = l
    · rw [if_pos (by rw [z]), z, beq_self_eq_true]; rfl
    · rw [if_neg (by rw [nIeq (by omega) (by omega)]; exact z), beq_eq_false_iff_ne.mpr z]; rfl
theorem isWordM {f0 n p e : Nat} {B : Nat → Nat} {M : Mem} {s : List Nat} (hs : s.length ≤ 8) (hs0 : ∀ i, i < s.length → s.getD i 0 ≠ 0) (hs2 : ∀ i, i < 8 → s.getD i 0 < 256) (hn : n ≤ 160) (hB : ∀ j, j < n → B j < 256) (hC : BM M f0 n B) (h23 : M 100 23 = nI p) (h21 : M 100 21 = nI e) (hpe : p ≤ e) (he : e ≤ n) (hw : ∀ j, p ≤ j → j < e → B j ≠ 0) (hb : M 100 26 = 0) (ht : M 100 22 = 1) :
    f_X9_isWord (nI (s.getD 0 0)) (nI (s.getD 1 0)) (nI (s.getD 2 0)) (nI (s.getD 3 0)) (nI (s.getD 4 0)) (nI (s.getD 5 0)) (nI (s.getD 6 0)) (nI (s.getD 7 0)) M = some (zI (wIs B p e s), M) := by
  have L : ∀ i, i < 8 → f_X9_isLetter (nI i) (nI (s.getD i 0)) M = some (zI (lM B p e (s.getD i 0) i), M) := fun i hi => isLetterM hn hB hC h23 h21 he (by omega) hi (hs2 i hi)
  have l0 := L 0 (by omega)
  have l1 := L 1 (by omega)
  have l2 := L 2 (by omega)
  have l3 := L 3 (by omega)
  have l4 := L 4 (by omega)
  have l5 := L 5 (by omega)
  have l6 := L 6 (by omega)
  have l7 := L 7 (by omega)
  have key : wIs B p e s = true ↔ e ≤ p + 8 ∧ ∀ i, i < 8 → lM B p e (s.getD i 0) i = true := by
    rw [wIs_iff]
    constructor
    · intro ⟨h1, h2⟩
      refine ⟨by omega, fun i hi => ?_⟩
      unfold lM
      by_cases c : e ≤ p + i
      · rw [if_pos c, beq_iff_eq, List.getD_eq_getElem?_getD, List.getElem?_eq_none (by omega)]; rfl
      · rw [if_neg c, beq_iff_eq]; exact h2 i (by omega)
    · intro ⟨h1, h2⟩
      have a : ∀ i, i < s.length → p + i < e := fun i hi => by
        have := h2 i (by omega)
        unfold lM at this
        by_cases c : e ≤ p + i
        · rw [if_pos c, beq_iff_eq] at this; exact absurd this (hs0 i hi)
        · omega
      have b : ∀ i, i < 8 → s.length ≤ i → e ≤ p + i := fun i hi hl => by
        have := h2 i hi
        unfold lM at this
        by_cases c : e ≤ p + i
        · exact c
        · rw [if_neg c, beq_iff_eq, List.getD_eq_getElem?_getD, List.getElem?_eq_none hl] at this
          exact absurd this (hw (p + i) (by omega) (by omega))
      refine ⟨?_, fun x hx => ?_⟩
      · by_cases c8 : s.length = 8
        · have := a 7 (by omega); omega
        · have := b s.length (by omega) (Nat.le_refl _)
          by_cases c0 : s.length = 0
          · omega
          · have := a (s.length - 1) (by omega); omega
      · have := h2 x (by omega)
        unfold lM at this
        rw [if_neg (by have := a x hx; omega), beq_iff_eq] at this
        exact this
  unfold f_X9_isWord
  rw [if_pos hb, if_pos ht, h23, h21, show (8 : Int32) = nI 8 from rfl, nI_add]
  by_cases c : p + 8 < e
  · rw [if_pos (nI_lt c (by omega))]
    have : wIs B p e s = false := by
      cases hx : wIs B p e s
      · rfl
      · have := (key.mp hx).1; omega
    rw [this]; rfl
  · rw [if_neg (nI_nlt (by omega) (by omega))]
    rw [show (0 : Int32) = nI 0 from rfl, show (1 : Int32) = nI 1 from rfl, show (2 : Int32) = nI 2 from rfl, show (3 : Int32) = nI 3 from rfl, show (4 : Int32) = nI 4 from rfl, show (5 : Int32) = nI 5 from rfl, show (6 : Int32) = nI 6 from rfl, show (7 : Int32) = nI 7 from rfl]
    simp only [l0, l1, l2, l3, l4, l5, l6, l7, Option.bind_some]
    simp only [show nI 0 = (0 : Int32) from rfl, show nI 1 = (1 : Int32) from rfl, zI_0]
    have all : wIs B p e s = (lM B p e (s.getD 0 0) 0 && (lM B p e (s.getD 1 0) 1 && (lM B p e (s.getD 2 0) 2 && (lM B p e (s.getD 3 0) 3 && (lM B p e (s.getD 4 0) 4 && (lM B p e (s.getD 5 0) 5 && (lM B p e (s.getD 6 0) 6 && lM B p e (s.getD 7 0) 7))))))) := by
      apply Bool.eq_iff_iff.mpr
      rw [key]
      simp only [Bool.and_eq_true]
      constructor
      · intro h; exact ⟨h.2 0 (by omega), h.2 1 (by omega), h.2 2 (by omega), h.2 3 (by omega), h.2 4 (by omega), h.2 5 (by omega), h.2 6 (by omega), h.2 7 (by omega)⟩
      · intro ⟨h0, h1, h2, h3, h4, h5, h6, h7⟩
        refine ⟨by omega, fun i hi => ?_⟩
        match i, hi with
        | 0, _ => exact h0
        | 1, _ => exact h1
        | 2, _ => exact h2
        | 3, _ => exact h3
        | 4, _ => exact h4
        | 5, _ => exact h5
        | 6, _ => exact h6
        | 7, _ => exact h7
    rw [all]
    cases lM B p e (s.getD 0 0) 0
    · rfl
    cases lM B p e (s.getD 1 0) 1
    · rfl
    cases lM B p e (s.getD 2 0) 2
    · rfl
    cases lM B p e (s.getD 3 0) 3
    · rfl
    cases lM B p e (s.getD 4 0) 4
    · rfl
    cases lM B p e (s.getD 5 0) 5
    · rfl
    cases lM B p e (s.getD 6 0) 6
    · rfl
    cases lM B p e (s.getD 7 0) 7
    · rfl
    · rfl
