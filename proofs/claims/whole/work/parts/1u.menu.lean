/-! MENUS' DIGITS; GOING ON WITH A MENU -/
def Dg (x i : Nat) : Nat := x / 10 ^ i % 10
def mOk (many x : Nat) : Prop := (∀ i, i < many → Dg x i ≤ 2) ∧ x / 10 ^ many = 0
def okA (many x : Nat) : Nat → Nat → Bool
  | 0, _ => true
  | m + 1, j => decide (Dg x (5 - j) ≤ if j < 6 - many then 0 else 2) && okA many x m (j + 1)
theorem okA_iff (many x : Nat) : ∀ m j, okA many x m j = true ↔ ∀ i, j ≤ i → i < j + m → Dg x (5 - i) ≤ if i < 6 - many then 0 else 2 := by
  intro m
  induction m with
  | zero => intro j; exact ⟨fun _ i h1 h2 => by omega, fun _ => rfl⟩
  | succ m ih =>
    intro j
    unfold okA
    rw [Bool.and_eq_true, ih (j + 1), decide_eq_true_eq]
    constructor
    · intro h i h1 h2
      by_cases e : i = j
      · subst e; exact h.1
      · exact h.2 i (by omega) (by omega)
    · intro h
      exact ⟨h j (by omega) (by omega), fun i h1 h2 => h i (by omega) (by omega)⟩
theorem okA_mOk {many x : Nat} (hm : many ≤ 6) (hx : x ≤ 999999) : okA many x 6 0 = true ↔ mOk many x := by
  rw [okA_iff]
  unfold mOk
  constructor
  · intro h
    refine ⟨fun i hi => ?_, ?_⟩
    · have := h (5 - i) (by omega) (by omega)
      rw [if_neg (by omega), show 5 - (5 - i) = i by omega] at this
      exact this
    · have g : ∀ i, many ≤ i → i < 6 → Dg x i = 0 := fun i h1 h2 => by
        have := h (5 - i) (by omega) (by omega)
        rw [if_pos (by omega), show 5 - (5 - i) = i by omega] at this
        omega
      have g0 := g 0
      have g1 := g 1
      have g2 := g 2
      have g3 := g 3
      have g4 := g 4
      have g5 := g 5
      unfold Dg at g0 g1 g2 g3 g4 g5
      match many, hm with
      | 0, _ => simp at *; omega
      | 1, _ => simp at *; omega
      | 2, _ => simp at *; omega
      | 3, _ => simp at *; omega
      | 4, _ => simp at *; omega
      | 5, _ => simp at *; omega
      | 6, _ => simp at *; omega
  · intro ⟨h1, h2⟩ i _ hi
    by_cases c : i < 6 - many
    · rw [if_pos c]
      have : Dg x (5 - i) = 0 := by
        unfold Dg
        have e : x / 10 ^ (5 - i) = x / 10 ^ many / 10 ^ (5 - i - many) := by
          rw [Nat.div_div_eq_div_mul, ← Nat.pow_add, show many + (5 - i - many) = 5 - i by omega]
        rw [e, h2]
        simp
      omega
    · rw [if_neg c]
      exact h1 (5 - i) (by omega)
theorem pw5 : ∀ p, p < 6 → stv 2000 p = nI (10 ^ (5 - p)) ∧ 0 < 10 ^ (5 - p) ∧ 10 ^ (5 - p) < 2 ^ 31 := by decide +kernel
theorem digC {x p : Nat} (hx : x ≤ 999999) (hp : p < 6) : jrem (nI x / stv 2000 p) 10 = nI (Dg x (5 - p)) := by
  obtain ⟨a, b, c⟩ := pw5 p hp
  rw [a, pk_div (by omega) b c, show (10 : Int32) = nI 10 from rfl, jrem_nI (Nat.lt_of_le_of_lt (Nat.div_le_self _ _) (by omega)) (by omega) (by omega)]
  rfl
theorem isMenuC_l {M : Mem} {many x : Nat} (hm1 : M 1 6 = nI many) (hm : many ≤ 6) (hx : x ≤ 999999) : ∀ m j fuel, j + m = 6 → m < fuel → f_X8_isMenu_l14 fuel (nI x) (nI j) M = some (zI (okA many x m j), M) := by
  intro m
  induction m with
  | zero =>
    intro j fuel hj hf
    obtain ⟨f, rfl⟩ : ∃ f, fuel = f + 1 := ⟨fuel - 1, by omega⟩
    rw [f_X8_isMenu_l14, if_pos (by rw [show (6 : Int32) = nI 6 from rfl, nIle (by omega) (by omega)]; omega)]
    rfl
  | succ m ih =>
    intro j fuel hj hf
    obtain ⟨f, rfl⟩ : ∃ f, fuel = f + 1 := ⟨fuel - 1, by omega⟩
    rw [f_X8_isMenu_l14, if_neg (by rw [show (6 : Int32) = nI 6 from rfl, nIle (by omega) (by omega)]; omega), inb_nI (show j < 6 by omega) (by omega), nI_clamp (show j < 2 ^ 31 by omega), pw_nz j (by omega), hm1, show (6 : Int32) = nI 6 from rfl, pk_sub hm, digC hx (by omega)]
    simp only [ck_true]
    have dl : Dg x (5 - j) < 10 := Nat.mod_lt _ (by omega)
    unfold f_X8_isMenu_b54 f_X8_isMenu_b67
    have go : ∀ c : Nat, c ≤ 2 → (if nI (Dg x (5 - j)) ≤ nI c then f_X8_isMenu_l14 f (nI x) (nI j + 1) M else some (0, M)) = some (zI (decide (Dg x (5 - j) ≤ c) && okA many x m (j + 1)), M) := by
      intro c hc
      by_cases e : Dg x (5 - j) ≤ c
      · rw [if_pos (nI_le e (by omega)), nIp, ih (j + 1) f (by omega) (by omega), decide_eq_true e]; rfl
      · rw [if_neg (nI_ge (by omega) (by omega)), decide_eq_false e]; rfl
    unfold okA
    by_cases c : j < 6 - many
    · rw [if_pos (nI_lt c (by omega)), if_pos rfl, if_pos c]
      exact go 0 (by omega)
    · rw [if_neg (nI_nlt (by omega) (by omega)), if_neg (by decide), if_neg c]
      exact go 2 (by omega)
theorem isMenuM_l (k : Int32 → Mem → Option (Int32 × Mem)) {many x : Nat} (hm : many ≤ 6) (hx : x < 2 ^ 31) (v1 : Int32) (hv : ¬ v1 < 0) : ∀ m c fuel (M : Mem), c + m = many → m < fuel →
    ∃ M1 : Mem, (∀ q, q ≠ 109 → M1 q = M q) ∧ (((∀ i, c ≤ i → i < many → Dg x i ≤ 2) ∧ f_X9_isMenu_l9 k fuel v1 (nI (x / 10 ^ c)) (nI (many - c) - 1) M = k (nI (x / 10 ^ many)) M1 ∧ (∀ i, c ≤ i → i < many → M1 109 (many - 1 - i) = nI (Dg x i)) ∧ ∀ j, many - c ≤ j → M1 109 j = M 109 j) ∨
      ((¬ ∀ i, c ≤ i → i < many → Dg x i ≤ 2) ∧ f_X9_isMenu_l9 k fuel v1 (nI (x / 10 ^ c)) (nI (many - c) - 1) M = some (0, M1))) := by
  intro m
  induction m with
  | zero =>
    intro c fuel M hc hf
    obtain ⟨f, rfl⟩ : ∃ f, fuel = f + 1 := ⟨fuel - 1, by omega⟩
    refine ⟨M, fun _ _ => rfl, Or.inl ⟨fun i h1 h2 => by omega, ?_, fun i h1 h2 => by omega, fun _ _ => rfl⟩⟩
    rw [f_X9_isMenu_l9, show many - c = 0 by omega, if_pos (by decide), show c = many by omega]
  | succ m ih =>
    intro c fuel M hc hf
    obtain ⟨f, rfl⟩ : ∃ f, fuel = f + 1 := ⟨fuel - 1, by omega⟩
    have hl : x / 10 ^ c < 2 ^ 31 := Nat.lt_of_le_of_lt (Nat.div_le_self _ _) hx
    have dl : Dg x c < 10 := Nat.mod_lt _ (by omega)
    rw [f_X9_isMenu_l9, nIm (by omega), if_neg (nI_pos (by omega)), inb_nI (show many - c - 1 < 6 by omega) (by omega), nI_clamp (show many - c - 1 < 2 ^ 31 by omega), if_neg hv, show (10 : Int32) = nI 10 from rfl, jrem_nI hl (by omega) (by omega), pk_div hl (by omega) (by omega), Nat.div_div_eq_div_mul, ← Nat.pow_succ]
    simp only [ck_true]
    show ∃ M1 : Mem, _ ∧ (_ ∧ (if nI (Dg x c) ≤ nI 2 then _ else some (0, mu M 109 (many - c - 1) (nI (Dg x c)))) = _ ∧ _ ∨ _ ∧ (if nI (Dg x c) ≤ nI 2 then _ else some (0, mu M 109 (many - c - 1) (nI (Dg x c)))) = _)
    by_cases e : Dg x c ≤ 2
    · rw [if_pos (nI_le e (by omega)), show nI (many - c - 1) + (-1) = nI (many - (c + 1)) - 1 by rw [Int32.sub_eq_add_neg, Nat.sub_sub]]
      obtain ⟨M1, a1, a2⟩ := ih (c + 1) f (mu M 109 (many - c - 1) (nI (Dg x c))) (by omega) (by omega)
      refine ⟨M1, fun q hq => (a1 q hq).trans (mun hq), ?_⟩
      rcases a2 with ⟨b1, b2, b3, b4⟩ | ⟨b1, b2⟩
      · refine Or.inl ⟨fun i h1 h2 => ?_, b2, fun i h1 h2 => ?_, fun j hj => ?_⟩
        · by_cases ei : i = c
          · rw [ei]; exact e
          · exact b1 i (by omega) h2
        · by_cases ei : i = c
          · rw [ei, show many - 1 - c = many - c - 1 by omega, b4 _ (by omega), mu_at]
          · exact b3 i (by omega) h2
        · rw [b4 j (by omega), mu_o (by omega)]
      · exact Or.inr ⟨fun h => b1 (fun i h1 h2 => h i (by omega) h2), b2⟩
    · rw [if_neg (nI_ge (by omega) (by omega))]
      exact ⟨_, fun q hq => mun hq, Or.inr ⟨fun h => e (h c (Nat.le_refl _) (by omega)), rfl⟩⟩
theorem isMenuBoth {Mc Mm : Mem} {many txt : Nat} (a : HouseI Mc Mm many txt) (v : Int32) :
    ∃ Mm1 : Mem, (∀ q, q ≠ 109 → Mm1 q = Mm q) ∧ ((f_X8_isMenu v Mc = some (0, Mc) ∧ f_X9_isMenu v Mm = some (0, Mm1)) ∨
      ∃ x, x ≤ 999999 ∧ v = nI x ∧ mOk many x ∧ f_X8_isMenu v Mc = some (1, Mc) ∧ f_X9_isMenu v Mm = some (1, Mm1) ∧ ∀ i, i < many → Mm1 109 (many - 1 - i) = nI (Dg x i)) := by
  obtain ⟨_, hm1, hm2, hm6, _⟩ := a
  have big : ∀ x, x < 2 ^ 31 → v = nI x → ∃ Mm1 : Mem, (∀ q, q ≠ 109 → Mm1 q = Mm q) ∧ ((¬ mOk many x ∧ f_X9_isMenu v Mm = some (0, Mm1)) ∨ (mOk many x ∧ f_X9_isMenu v Mm = some (1, Mm1) ∧ ∀ i, i < many → Mm1 109 (many - 1 - i) = nI (Dg x i))) := by
    intro x hx hv
    obtain ⟨M1, a1, a2⟩ := isMenuM_l f_X9_isMenu_b50 hm6 hx v (by rw [hv]; exact nI_pos hx) many 0 FU Mm (by omega) (by have := FU_ge; omega)
    have e : f_X9_isMenu v Mm = f_X9_isMenu_l9 f_X9_isMenu_b50 FU v (nI (x / 10 ^ 0)) (nI (many - 0) - 1) Mm := by
      unfold f_X9_isMenu
      rw [hm2, Nat.pow_zero, Nat.div_one, ← hv, Nat.sub_zero]
    rw [e]
    refine ⟨M1, a1, ?_⟩
    rcases a2 with ⟨b1, b2, b3, b4⟩ | ⟨b1, b2⟩
    · rw [b2]
      unfold f_X9_isMenu_b50
      have hl : x / 10 ^ many < 2 ^ 31 := Nat.lt_of_le_of_lt (Nat.div_le_self _ _) hx
      by_cases z : x / 10 ^ many = 0
      · rw [z, if_pos (show nI 0 = 0 from rfl)]
        exact Or.inr ⟨⟨fun i hi => b1 i (by omega) hi, z⟩, rfl, fun i hi => b3 i (by omega) hi⟩
      · rw [if_neg (nI_ne0 (by first | exact z | exact Nat.pos_of_ne_zero z) hl)]
        exact Or.inl ⟨fun h => z h.2, rfl⟩
    · exact Or.inl ⟨fun h => b1 (fun i _ hi => h.1 i hi), b2⟩
  by_cases c0 : v < 0
  · -- below none
    refine ⟨if many = 0 then Mm else mu Mm 109 (many - 1) (jrem v 10), fun q hq => by split; rfl; exact mun hq, Or.inl ⟨?_, ?_⟩⟩
    · unfold f_X8_isMenu; rw [if_pos c0]
    · unfold f_X9_isMenu
      obtain ⟨g, hg⟩ : ∃ g, FU = g + 1 := ⟨FU - 1, by have := FU_ge; omega⟩
      rw [hg, f_X9_isMenu_l9, hm2]
      by_cases cm : many = 0
      · subst cm
        rw [if_pos (by decide), if_pos rfl]
        unfold f_X9_isMenu_b50
        rw [if_neg (by intro hx; rw [hx] at c0; exact absurd c0 (by decide))]
      · rw [nIm (by omega), if_neg (nI_pos (by omega)), inb_nI (by omega) (by omega), if_pos c0, if_neg cm, nI_clamp (by omega)]
        rfl
  · obtain ⟨x, hx, hv⟩ := nI_of c0
    obtain ⟨Mm1, b1, b2⟩ := big x hx hv
    refine ⟨Mm1, b1, ?_⟩
    by_cases c9 : x ≤ 999999
    · have e : f_X8_isMenu v Mc = some (zI (okA many x 6 0), Mc) := by
        unfold f_X8_isMenu
        rw [if_neg c0, hv, if_pos (show nI x ≤ 999999 from nI_le (b := 999999) c9 (by omega))]
        exact isMenuC_l hm1 hm6 c9 6 0 FU (by omega) (by have := FU_ge; omega)
      rcases b2 with ⟨c1, c2⟩ | ⟨c1, c2, c3⟩
      · have : okA many x 6 0 = false := by
          cases h : okA many x 6 0 with
          | false => rfl
          | true => exact absurd ((okA_mOk hm6 c9).mp h) c1
        rw [this] at e
        exact Or.inl ⟨e, c2⟩
      · rw [(okA_mOk hm6 c9).mpr c1] at e
        exact Or.inr ⟨x, c9, hv, c1, e, c2, c3⟩
    · have e : f_X8_isMenu v Mc = some (0, Mc) := by
        unfold f_X8_isMenu
        rw [if_neg c0, hv, if_neg (show ¬ nI x ≤ 999999 by rw [show (999999 : Int32) = nI 999999 from rfl, nIle hx (by omega)]; exact c9)]
      rcases b2 with ⟨c1, c2⟩ | ⟨c1, c2, c3⟩
      · exact Or.inl ⟨e, c2⟩
      · exfalso
        have h2 := c1.2
        have h6 : 10 ^ many ≤ 10 ^ 6 := Nat.pow_le_pow_right (by omega) hm6
        have h7 : x < 10 ^ many := by
          rcases Nat.div_eq_zero_iff.mp h2 with y | y
          · exact absurd y (Nat.ne_of_gt (Nat.pow_pos (by omega)))
          · exact y
        exact c9 (Nat.le_of_lt_succ (Nat.lt_of_lt_of_le h7 h6))
/-! GOING ON -/
theorem goOnC {Mc0 M : Mem} {t : Tk} {d k : Nat} (hk : k < 2) (tc : ∀ Mc2 : Mem, KC Mc0 Mc2 → ∃ M1 : Mem, f_X0_takeUp (nI d) Mc2 = some M1 ∧ Took M1 t ∧ Sm Mc2 M1) (kc : KC Mc0 M) :
    ∃ M1 : Mem, f_X4_goOn (nI d) (nI k) M = some (zI (kCk t k (M 44)), M1) ∧ KC Mc0 M1 ∧ (kCk t k (M 44) = false → M1 43 = M 43 ∧ M1 44 = M 44) ∧
      (kCk t k (M 44) = true → M1 43 3 = M 43 3 + kFed t k ∧ M1 43 4 = M 43 4 + (if k = 0 then kFed t k else 0) ∧ M1 43 5 = M 43 5 + kToll t k (M 44) ∧ M1 43 6 = M 43 6 ∧ ∀ j, j < 12 → M1 44 j = kUse t k (M 44) j) := by
  obtain ⟨M1, x1, x2, x3⟩ := tc M kc
  have st1 : M1 44 = M 44 := x3 44 (by omega)
  obtain ⟨M2, y1, y2, y3, y4, y5, y6⟩ := isCooked_eq (t := t) (k := k) (q := 44) hk x2 (Or.inr (Or.inr (Or.inl rfl)))
  rw [st1] at y1 y4 y5 y6
  have kc2 : KC Mc0 M2 := (kc.tr x3.kc).tr y3.kc
  unfold f_X4_goOn
  rw [x1]
  simp only [Option.bind_some]
  rw [y1]
  simp only [Option.bind_some, zI_0]
  have m43 : M2 43 = M 43 := by rw [y3 43 (by omega), x3 43 (by omega)]
  have m44 : M2 44 = M 44 := by rw [y3 44 (by omega), st1]
  cases hc : kCk t k (M 44) with
  | false =>
    rw [bf]
    exact ⟨M2, rfl, kc2, fun _ => ⟨m43, m44⟩, fun h => by cases h⟩
  | true =>
    rw [bt]
    obtain ⟨M3, j1, j2, j3⟩ := useUp_eq (M := M2) (t := t) (k := k) (q := 44) hk (Or.inr (Or.inr (Or.inl rfl))) y2.2.2.2.2.1 (fun i hi => by rw [y6 i hi, m44])
    rw [m44] at j2
    rw [j1]
    simp only [Option.bind_some]
    obtain ⟨f1, f2⟩ := y5 (kCk_can hc)
    have g1 : M3 36 15 = kFed t k := by rw [j3 36 (by omega)]; exact f1
    have g2 : M3 36 14 = kToll t k (M 44) := by rw [j3 36 (by omega)]; exact f2
    have g3 : M3 43 = M 43 := by rw [j3 43 (by omega)]; exact m43
    unfold f_X4_goOn_b77
    have fin : ∀ z : Int32, z = (if k = 0 then kFed t k else 0) → ∃ M1 : Mem, some ((1 : Int32), (mu (mu (mu M3 43 3 ((M3 43 3) + (M3 36 15))) 43 4 (M3 43 4 + z)) 43 5 (((mu M3 43 3 ((M3 43 3) + (M3 36 15))) 43 5) + ((mu M3 43 3 ((M3 43 3) + (M3 36 15))) 36 14)))) = some (zI true, M1) ∧ KC Mc0 M1 ∧ (true = false → M1 43 = M 43 ∧ M1 44 = M 44) ∧
      (True → M1 43 3 = M 43 3 + kFed t k ∧ M1 43 4 = M 43 4 + (if k = 0 then kFed t k else 0) ∧ M1 43 5 = M 43 5 + kToll t k (M 44) ∧ M1 43 6 = M 43 6 ∧ ∀ j, j < 12 → M1 44 j = kUse t k (M 44) j) := by
      intro z hz
      refine ⟨_, rfl, fun q hq => ?_, (fun h => by cases h), fun _ => ⟨?_, ?_, ?_, ?_, fun j hj => ?_⟩⟩
      · rw [mun (by omega), mun (by omega), mun (by omega), j3 q (by omega)]; exact kc2 q hq
      · rw [mu_o (by omega), mu_o (by omega), mu_at, g3, g1]
      · rw [mu_o (by omega), mu_at, g3, hz]
      · rw [mu_at, mu_o (by omega), mun (by omega), g3, g2]
      · rw [mu_o (by omega), mu_o (by omega), mu_o (by omega), g3]
      · rw [mun (by omega), mun (by omega), mun (by omega)]; exact j2 j hj
    by_cases k0 : k = 0
    · subst k0
      rw [if_pos (show nI 0 = 0 from rfl), g1]
      have := fin (kFed t 0) (by rw [if_pos rfl])
      rw [g1] at this
      exact this
    · rw [if_neg (nI_ne0 (by omega) (by omega))]
      exact fin 0 (by rw [if_neg k0])
