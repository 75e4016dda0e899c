/-! WHAT BOTH READERS SEE OF A TOKEN; THE TWO STATES OF A READING -/
def FrC (t : Nat) (M M1 : Mem) : Prop := (∀ q, q ≠ 34 → q ≠ t → q ≠ t + 1 → M1 q = M q) ∧ (∀ j, (j < 2 ∨ 6 < j) → M1 34 j = M 34 j) ∧ (∀ j, j ≠ 2 → M1 t j = M t j)
def FrM (M M1 : Mem) : Prop := (∀ q, q ≠ 100 → M1 q = M q) ∧ (∀ j, (j < 21 ∨ 27 < j) → M1 100 j = M 100 j)
theorem FrC.refl (t : Nat) (M : Mem) : FrC t M M := ⟨fun _ _ _ _ => rfl, fun _ _ => rfl, fun _ _ => rfl⟩
theorem FrM.refl (M : Mem) : FrM M M := ⟨fun _ _ => rfl, fun _ _ => rfl⟩
theorem FrC.tr {t : Nat} {a b c : Mem} (h : FrC t a b) (k : FrC t b c) : FrC t a c := ⟨fun q x y z => (k.1 q x y z).trans (h.1 q x y z), fun j x => (k.2.1 j x).trans (h.2.1 j x), fun j x => (k.2.2 j x).trans (h.2.2 j x)⟩
theorem FrM.tr {a b c : Mem} (h : FrM a b) (k : FrM b c) : FrM a c := ⟨fun q x => (k.1 q x).trans (h.1 q x), fun j x => (k.2 j x).trans (h.2 j x)⟩
theorem FrC.mu {t : Nat} (ht : isTx t) (M : Mem) {k : Nat} (hk : 2 ≤ k ∧ k ≤ 6) (v : Int32) : FrC t M (mu M 34 k v) := by
  obtain ⟨r, hr, rfl⟩ := ht
  exact ⟨fun q x y z => mun x, fun j x => mu_o (by omega), fun j x => by rw [mun (by omega)]⟩
theorem FrM.mu (M : Mem) {k : Nat} (hk : 21 ≤ k ∧ k ≤ 27) (v : Int32) : FrM M (mu M 100 k v) := ⟨fun q x => mun x, fun j x => mu_o (by omega)⟩
def env (M : Mem) : Nat → Int32 := fun i => if i < 6 then M 100 (13 + i) else 0
theorem FrM.en {a b : Mem} (h : FrM a b) : env b = env a := by
  funext i
  unfold env
  by_cases c : i < 6
  · rw [if_pos c, if_pos c]; exact h.2 _ (by omega)
  · rw [if_neg c, if_neg c]
def Live (n : Nat) (B : Nat → Nat) (f0 t d : Nat) (Mc Mm : Mem) (p w s : Nat) : Prop :=
  Lx n B Mc Mm p w ∧ BC Mc n B ∧ BM Mm f0 n B ∧ Mc 34 6 = -1 ∧ Mm 100 26 = 0 ∧ Mm 100 25 = nI d ∧ Mc t 2 = nI s ∧ s ≤ p
def Dead (t f : Nat) (Mc Mm : Mem) : Prop := Mc 34 3 = 257 ∧ Mc 34 6 = nI f ∧ Mm 100 26 = 1 ∧ Mm 100 27 = nI f ∧ f ≤ 160 ∧ ∃ s, s ≤ 160 ∧ Mc t 2 = nI s
theorem tkW_f : ∀ w, w ≤ 12 → (tkW w = if w < 6 then nI 259 else if w < 12 then nI (254 + w) else nI 257) := by decide +kernel
theorem tkW_sg {w c : Nat} (hw : w ≤ 12) (hc : c < 256) : tkW w ≠ nI c := by
  rw [tkW_f w hw]
  split
  · exact fun h => by rw [nIeq (by omega) (by omega)] at h; omega
  · split
    · exact fun h => by rw [nIeq (by omega) (by omega)] at h; omega
    · exact fun h => by rw [nIeq (by omega) (by omega)] at h; omega
/-- a sign, to both -/
theorem obsS {n : Nat} {B : Nat → Nat} {Mc Mm : Mem} {p w : Nat} (hB : ∀ j, j < n → B j < 256) (h : Lx n B Mc Mm p w) (hb : Mm 100 26 = 0) {c : Nat} (hc : c < 256) : f_X9_isSign (nI c) Mm = some (zI (decide (Mc 34 3 = nI c)), Mm) := by
  unfold f_X9_isSign
  rw [if_pos hb]
  obtain ⟨hp, h4, h23, h1 | h1 | h1 | h1 | h1⟩ := h
  · obtain ⟨a1, a2, a3, a4⟩ := h1
    rw [a3, a4, if_neg (by decide), decide_eq_false (show ¬ (256 : Int32) = nI c by rw [show (256 : Int32) = nI 256 from rfl, nIeq (by omega) (by omega)]; omega)]
    rfl
  · obtain ⟨e, a1, a2, a3, a4, a5, a6, a7, a8⟩ := h1
    rw [a5, a7, if_neg (by decide), decide_eq_false (tkW_sg (by rw [a6]; exact fw_le B p e) hc)]
    rfl
  · obtain ⟨e, v, a1, a2, a3, a4, a5, a6, a7, a8⟩ := h1
    rw [a6, a7, if_neg (by decide), decide_eq_false (show ¬ (258 : Int32) = nI c by rw [show (258 : Int32) = nI 258 from rfl, nIeq (by omega) (by omega)]; omega)]
    rfl
  · obtain ⟨a1, a2, a3, a4, a5, a6, a7, a8⟩ := h1
    have hbp := hB p a1
    rw [a6, a7, a8, if_pos rfl]
    by_cases e : B p = c
    · rw [e, if_pos (by unfold lg_cmp; simp), decide_eq_true rfl]; rfl
    · have e2 : ¬ nI (B p) = nI c := by rw [nIeq (by omega) (by omega)]; exact e
      rw [decide_eq_false e2, if_neg]
      · rfl
      · rw [nI_l (by omega), nI_l (by omega)]
        intro hz
        unfold lg_cmp at hz
        split at hz
        · cases hz
        · split at hz
          · rename_i u1 u2
            apply e
            have g := congrArg Int64.toInt32 u2
            rw [lN_i, lN_i, nIeq (by omega) (by omega)] at g
            exact g
          · cases hz
  · obtain ⟨a1, a2, a3, a4⟩ := h1
    rw [a3, a4, if_neg (by decide), decide_eq_false (show ¬ (257 : Int32) = nI c by rw [show (257 : Int32) = nI 257 from rfl, nIeq (by omega) (by omega)]; omega)]
    rfl
def wordM0 (s : List Nat) (M : Mem) : Option (Int32 × Mem) := f_X9_isWord (nI (s.getD 0 0)) (nI (s.getD 1 0)) (nI (s.getD 2 0)) (nI (s.getD 3 0)) (nI (s.getD 4 0)) (nI (s.getD 5 0)) (nI (s.getD 6 0)) (nI (s.getD 7 0)) M
theorem sw_b8 : ∀ k, k < 12 → ∀ i, i < 8 → (sw k).getD i 0 < 256 := by decide +kernel
/-- a word, to both -/
theorem obsW {n f0 : Nat} {B : Nat → Nat} {Mc Mm : Mem} {p w : Nat} (hn : n ≤ 160) (hB : ∀ j, j < n → B j < 256) (hM : BM Mm f0 n B) (h : Lx n B Mc Mm p w) (hb : Mm 100 26 = 0) {k : Nat} (hk : k < 12) : wordM0 (sw k) Mm = some (zI (decide (w = k)), Mm) := by
  have no : w = 12 → Mm 100 22 ≠ 1 → wordM0 (sw k) Mm = some (zI (decide (w = k)), Mm) := by
    intro h1 h2
    unfold wordM0 f_X9_isWord
    rw [if_pos hb, if_neg h2, decide_eq_false (show ¬ w = k by omega)]
    rfl
  obtain ⟨hp, h4, h23, h1 | h1 | h1 | h1 | h1⟩ := h
  · obtain ⟨a1, a2, a3, a4⟩ := h1
    exact no a2 (by rw [a4]; decide)
  · obtain ⟨e, a1, a2, a3, a4, a5, a6, a7, a8, a9⟩ := h1
    unfold wordM0
    rw [isWordM (p := p) (e := e) (sw_lt k hk).1 (sw_lt k hk).2 (sw_b8 k hk) hn hB hM h23 a4 (by omega) a2 a9 hb a5, fw_is hk, a6]
  · obtain ⟨e, v, a1, a2, a3, a4, a5, a6, a7, a8⟩ := h1
    exact no a3 (by rw [a6]; decide)
  · obtain ⟨a1, a2, a3, a4, a5, a6, a7, a8⟩ := h1
    exact no a2 (by rw [a6]; decide)
  · obtain ⟨a1, a2, a3, a4⟩ := h1
    exact no a2 (by rw [a4]; decide)
theorem obsS0 {M : Mem} (hb : M 100 26 = 1) (c : Int32) : f_X9_isSign c M = some (0, M) := by
  unfold f_X9_isSign; rw [if_neg (by rw [hb]; decide)]
theorem obsW0 {M : Mem} (hb : M 100 26 = 1) (s : List Nat) : wordM0 s M = some (0, M) := by
  unfold wordM0 f_X9_isWord; rw [if_neg (by rw [hb]; decide)]
/-- the word's token, to the class -/
theorem obsK {n : Nat} {B : Nat → Nat} {Mc Mm : Mem} {p w : Nat} (hB : ∀ j, j < n → B j < 256) (h : Lx n B Mc Mm p w) {k : Nat} (hk : 6 ≤ k ∧ k < 12) : (Mc 34 3 = nI (254 + k)) = (w = k) := by
  apply propext
  obtain ⟨hp, h4, h23, h1 | h1 | h1 | h1 | h1⟩ := h
  · obtain ⟨a1, a2, a3, a4⟩ := h1
    rw [a3, a2, show (256 : Int32) = nI 256 from rfl, nIeq (by omega) (by omega)]; omega
  · obtain ⟨e, a1, a2, a3, a4, a5, a6, a7, a8⟩ := h1
    have hw : w ≤ 12 := by rw [a6]; exact fw_le B p e
    rw [a7, tkW_f w hw]
    split
    · rw [nIeq (by omega) (by omega)]; omega
    · split
      · rw [nIeq (by omega) (by omega)]; omega
      · rw [nIeq (by omega) (by omega)]; omega
  · obtain ⟨e, v, a1, a2, a3, a4, a5, a6, a7, a8⟩ := h1
    rw [a7, a3, show (258 : Int32) = nI 258 from rfl, nIeq (by omega) (by omega)]; omega
  · obtain ⟨a1, a2, a3, a4, a5, a6, a7, a8⟩ := h1
    have hbp := hB p a1
    rw [a7, a2, nIeq (by omega) (by omega)]; omega
  · obtain ⟨a1, a2, a3, a4⟩ := h1
    rw [a3, a2, show (257 : Int32) = nI 257 from rfl, nIeq (by omega) (by omega)]; omega
theorem failBoth {n f0 t d : Nat} {B : Nat → Nat} {Mc Mm : Mem} {p w s : Nat} (ht : isTx t) (hn : n ≤ 160) (h : Live n B f0 t d Mc Mm p w s) :
    ∃ Mc1 Mm1 : Mem, f_X5_fail Mc = some Mc1 ∧ f_X9_fail Mm = some Mm1 ∧ FrC t Mc Mc1 ∧ FrM Mm Mm1 ∧ Dead t p Mc1 Mm1 := by
  obtain ⟨hL, hC, hM, h6, h26, h25, hs, hsp⟩ := h
  unfold f_X5_fail f_X9_fail
  rw [if_pos h6, if_pos h26]
  have hp := hL.1
  have h4 := hL.2.1
  have h23 := hL.2.2.1
  refine ⟨_, _, rfl, rfl, (FrC.mu ht Mc (by omega) _).tr (FrC.mu ht _ (by omega) _), (FrM.mu Mm (by omega) _).tr (FrM.mu _ (by omega) _), mu_at, ?_, ?_, ?_, by omega, s, by omega, ?_⟩
  · rw [mu_o (by omega), mu_at, h4]
  · rw [mu_o (by omega), mu_at]
  · rw [mu_at, h23]
  · obtain ⟨r, hr, rfl⟩ := ht
    rw [mun (by omega), mun (by omega)]; exact hs
theorem failDead {t f : Nat} {Mc Mm : Mem} (h : Dead t f Mc Mm) : f_X5_fail Mc = some Mc ∧ f_X9_fail Mm = some Mm := by
  obtain ⟨h3, h6, h26, h27, hf, h⟩ := h
  unfold f_X5_fail f_X9_fail
  rw [if_neg (by rw [h6]; intro hx; exact nI_pos (n := f) (by omega) (by rw [hx]; decide)), if_neg (by rw [h26]; decide), mu_id h3]
  exact ⟨rfl, rfl⟩
theorem app_eq {t s : Nat} (ht : isTx t) {M : Mem} (hs : M t 2 = nI s) (h : s < 160) (v : Int32) : f_X7_append t v M = some (mu (mu M (t + 1) s v) t 2 (nI (s + 1))) := by
  obtain ⟨k1, k2, k3, l1, l2, q1, q2⟩ := tx_kd ht
  unfold f_X7_append
  rw [k1, hs, if_neg (by rw [show (160 : Int32) = nI 160 from rfl, nIle (by omega) (by omega)]; omega), k2, l1, inb_nI h (by omega), nI_clamp (by omega), nIp]
  rfl
theorem app_fr {t s : Nat} (ht : isTx t) (M : Mem) (v u : Int32) : FrC t M (mu (mu M (t + 1) s v) t 2 u) := by
  obtain ⟨r, hr, rfl⟩ := ht
  exact ⟨fun q x y z => by rw [mun y, mun z], fun j x => by rw [mun (by omega), mun (by omega)], fun j x => by rw [mu_o x, mun (by omega)]⟩
theorem app_dead {t f : Nat} (ht : isTx t) {Mc Mm : Mem} (h : Dead t f Mc Mm) (v : Int32) : ∃ M1 : Mem, f_X7_append t v Mc = some M1 ∧ FrC t Mc M1 ∧ Dead t f M1 Mm := by
  obtain ⟨h3, h6, h26, h27, hf, s, hs, h2⟩ := h
  by_cases c : s < 160
  · refine ⟨_, app_eq ht h2 c v, app_fr ht Mc v _, ?_, ?_, h26, h27, hf, s + 1, c, mu_at⟩
    · obtain ⟨r, hr, rfl⟩ := ht
      rw [mun (by omega), mun (by omega)]; exact h3
    · obtain ⟨r, hr, rfl⟩ := ht
      rw [mun (by omega), mun (by omega)]; exact h6
  · have e : s = 160 := by omega
    subst e
    refine ⟨Mc, ?_, FrC.refl t Mc, h3, h6, h26, h27, hf, 160, by omega, h2⟩
    unfold f_X7_append
    rw [(tx_kd ht).1, h2, if_pos (by decide)]
    rfl
