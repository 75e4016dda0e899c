/-! WHAT THE MENUS THAT STAND ARE LIKE -/
theorem B99.add {x y : Int32} {a b : Nat} (h : B99 x a) (k : B99 y b) : B99 (x + y) (a + b) := by
  obtain ⟨i, hi, rfl⟩ := h
  obtain ⟨j, hj, rfl⟩ := k
  exact ⟨i + j, by omega, nI_add i j⟩
theorem B99.mono {x : Int32} {a b : Nat} (h : B99 x a) (hab : a ≤ b) : B99 x b := by
  obtain ⟨i, hi, rfl⟩ := h
  exact ⟨i, by omega, rfl⟩
theorem B99_bd (x : Int32) : B99 (bd x) 99 := by obtain ⟨n, hn, e⟩ := bd_of x; exact ⟨n, hn, e⟩
theorem B99_half (x : Int32) : B99 (bd x / 2) 49 := by
  obtain ⟨n, hn, e⟩ := bd_of x
  rw [e, half_bd hn]
  exact ⟨n / 2, by omega, rfl⟩
theorem fedK_B {kind : Int32} {k : Nat} {hour num x : Int32} (hn : B99 num 9) : B99 (fedK kind (bd x) k hour num) 99 := by
  unfold fedK
  split
  · exact B99_bd _
  · split
    · exact (B99_half x).mono (by omega)
    · split
      · split
        · exact hn.mono (by omega)
        · exact B99_bd _
      · split
        · split
          · exact (B99.add (B99_half x) ⟨10, Nat.le_refl 10, rfl⟩).mono (by omega)
          · exact (B99_half x).mono (by omega)
        · split
          · exact B99_bd _
          · exact B99_bd _
theorem tollK_B {kind p much num x : Int32} : B99 (tollK kind (bd x) p much num) 99 := by
  unfold tollK
  split
  · exact ⟨0, by omega, rfl⟩
  · split
    · exact B99_bd _
    · split
      · exact ⟨1, by omega, rfl⟩
      · split
        · split
          · exact ⟨0, by omega, rfl⟩
          · exact B99_bd _
        · split
          · exact ⟨9, by omega, rfl⟩
          · exact B99_bd _
theorem tollN_B (t : Tk) (k : Nat) (st : Nat → Int32) : ∀ p, B99 (tollN t k st p) (99 * p) := by
  intro p
  induction p with
  | zero => exact ⟨0, Nat.le_refl 0, rfl⟩
  | succ p ih =>
    unfold tollN
    split
    · exact ih.mono (by omega)
    · exact (ih.add tollK_B).mono (by omega)
theorem kToll_B (t : Tk) (k : Nat) (st : Nat → Int32) : B99 (kToll t k st) 594 := tollN_B t k st 6
theorem kFed_B {t : Tk} (h : B99 (tN t) 9) (k : Nat) : B99 (kFed t k) 99 := fedK_B h
/-- a menu that stands, dish by dish -/
def Pth (T : Nat → Tk) : Nat → Nat → (Nat → Int32) → Nat → Nat → Int32 → Int32 → Int32 → Int32 → Lf → Prop
  | 0, _, _, x, n, f, f0, t, s, l => l = (x, n, f, f0, t, s)
  | m + 1, d, st, x, n, f, f0, t, s, l => Pth T m (d + 1) st (x * 10) n f f0 t s l ∨ ∃ k, k < 2 ∧ kCk (T d) k st = true ∧ Pth T m (d + 1) (kUse (T d) k st) (x * 10 + k + 1) (n + 1) (f + kFed (T d) k) (if k = 0 then f0 + kFed (T d) k else f0) (t + kToll (T d) k st) (if k = 0 then s + 1 else s - 1) l
theorem mem_pth (T : Nat → Tk) (bar : Nat) : ∀ m d (st : Nat → Int32) x n (f f0 t s : Int32) (l : Lf), l ∈ lvs T bar m d st x n f f0 t s → Pth T m d st x n f f0 t s l := by
  intro m
  induction m with
  | zero => intro d st x n f f0 t s l h; exact List.mem_singleton.mp h
  | succ m ih =>
    intro d st x n f f0 t s l h
    unfold lvs at h
    have kk : ∀ k, k < 2 → l ∈ lvk (lvs T bar m) (T d) d st x n f f0 t s k → Pth T (m + 1) d st x n f f0 t s l := by
      intro k hk hm
      unfold lvk at hm
      by_cases hc : kCk (T d) k st = true
      · rw [if_pos hc] at hm
        exact Or.inr ⟨k, hk, hc, ih _ _ _ _ _ _ _ _ _ hm⟩
      · rw [if_neg hc] at hm
        exact absurd hm List.not_mem_nil
    rcases List.mem_append.mp h with h | h
    · exact Or.inl (ih _ _ _ _ _ _ _ _ _ h)
    · by_cases db : d = bar
      · rw [if_pos db] at h
        exact absurd h List.not_mem_nil
      · rw [if_neg db] at h
        rcases List.mem_append.mp h with h | h
        · exact kk 0 (by omega) h
        · exact kk 1 (by omega) h
theorem lvs_head (T : Nat → Tk) (bar : Nat) : ∀ m d (st : Nat → Int32) x n (f f0 t s : Int32), ∃ L, lvs T bar m d st x n f f0 t s = (x * 10 ^ m, n, f, f0, t, s) :: L := by
  intro m
  induction m with
  | zero => intro d st x n f f0 t s; exact ⟨[], by rw [lvs, Nat.pow_zero, Nat.mul_one]⟩
  | succ m ih =>
    intro d st x n f f0 t s
    obtain ⟨L, h⟩ := ih (d + 1) st (x * 10) n f f0 t s
    rw [lvs, h, Nat.mul_assoc, ← Nat.pow_succ']
    exact ⟨_, rfl⟩
/-- how many of the lowest m digits are not none -/
def nz : Nat → Nat → Nat
  | 0, _ => 0
  | m + 1, x => nz m x + if Dg x m = 0 then 0 else 1
theorem Dg_div (x m : Nat) : Dg x (m + 1) = Dg (x / 10) m := by
  unfold Dg
  rw [Nat.pow_succ', Nat.div_div_eq_div_mul]
theorem nz_low : ∀ m x, nz (m + 1) x = (if x % 10 = 0 then 0 else 1) + nz m (x / 10) := by
  intro m
  induction m with
  | zero => intro x; unfold nz nz Dg; simp
  | succ m ih =>
    intro x
    rw [nz, ih x, Dg_div, show nz (m + 1) (x / 10) = nz m (x / 10) + (if Dg (x / 10) m = 0 then 0 else 1) from rfl]
    omega
theorem nz_0 : ∀ m, nz m 0 = 0 := by
  intro m
  induction m with
  | zero => rfl
  | succ m ih => unfold nz; rw [ih]; unfold Dg; simp
theorem pth_dig (T : Nat → Tk) : ∀ m d (st : Nat → Int32) x n (f f0 t s : Int32) (l : Lf), Pth T m d st x n f f0 t s l → l.1 / 10 ^ m = x ∧ l.2.1 = n + nz m l.1 := by
  intro m
  induction m with
  | zero => intro d st x n f f0 t s l h; rw [show l = _ from h]; exact ⟨Nat.div_one x, rfl⟩
  | succ m ih =>
    intro d st x n f f0 t s l h
    rw [Nat.pow_succ, ← Nat.div_div_eq_div_mul]
    unfold nz
    rcases h with h | ⟨k, hk, hc, h⟩
    · obtain ⟨a, b⟩ := ih _ _ _ _ _ _ _ _ _ h
      unfold Dg
      rw [a, Nat.mul_mod_left, if_pos rfl]
      exact ⟨by omega, by omega⟩
    · obtain ⟨a, b⟩ := ih _ _ _ _ _ _ _ _ _ h
      unfold Dg
      rw [a, if_neg (by omega)]
      exact ⟨by omega, by omega⟩
theorem pth_B {many : Nat} {T : Nat → Tk} (hN : ∀ d, d < many → B99 (tN (T d)) 9) : ∀ m d (st : Nat → Int32) x n (f f0 t s : Int32) (l : Lf), d + m = many → Pth T m d st x n f f0 t s l → B99 f (99 * n) → B99 f0 (99 * n) → B99 t (594 * n) → B99 l.2.2.1 (99 * l.2.1) ∧ B99 l.2.2.2.1 (99 * l.2.1) ∧ B99 l.2.2.2.2.1 (594 * l.2.1) ∧ l.2.1 ≤ n + m := by
  intro m
  induction m with
  | zero => intro d st x n f f0 t s l _ h h1 h2 h3; rw [show l = _ from h]; exact ⟨h1, h2, h3, Nat.le_refl _⟩
  | succ m ih =>
    intro d st x n f f0 t s l hd h h1 h2 h3
    rcases h with h | ⟨k, hk, hc, h⟩
    · obtain ⟨a, b, c, e⟩ := ih _ _ _ _ _ _ _ _ _ (by omega) h h1 h2 h3
      exact ⟨a, b, c, by omega⟩
    · have hf := kFed_B (hN d (by omega)) k
      obtain ⟨a, b, c, e⟩ := ih _ _ _ _ _ _ _ _ _ (by omega) h ((h1.add hf).mono (by omega)) (by
        split
        · exact (h2.add hf).mono (by omega)
        · exact h2.mono (by omega)) ((h3.add (kToll_B (T d) k st)).mono (by omega))
      exact ⟨a, b, c, by omega⟩
theorem pth_side {T : Nat → Tk} {M : Mem} {many : Nat} (hm1 : M 1 6 = nI many) (hm6 : many ≤ 6) : ∀ m d fuel (st : Nat → Int32) x n (f f0 t s : Int32) (l : Lf), d + m = many → m < fuel → l.1 ≤ 999999 → Pth T m d st x n f f0 t s l → f_X8_sideOf_l4 fuel (nI l.1) s (nI d) M = some (l.2.2.2.2.2, M) := by
  intro m
  induction m with
  | zero =>
    intro d fuel st x n f f0 t s l hd hf hl h
    obtain ⟨g, rfl⟩ : ∃ g, fuel = g + 1 := ⟨fuel - 1, by omega⟩
    rw [f_X8_sideOf_l4, hm1, if_pos (nI_le (by omega) (by omega)), show l = _ from h]
  | succ m ih =>
    intro d fuel st x n f f0 t s l hd hf hl h
    obtain ⟨g, rfl⟩ : ∃ g, fuel = g + 1 := ⟨fuel - 1, by omega⟩
    rw [f_X8_sideOf_l4, hm1, if_neg (nI_ge (by omega) (by omega)), kitC hm1 hm6 hl (by omega), Option.bind_some, show many - 1 - d = m by omega]
    dsimp only
    unfold f_X8_sideOf_b43 f_X8_sideOf_b45
    rw [nIp]
    rcases h with h | ⟨k, hk, hc, h⟩
    · obtain ⟨a, b⟩ := pth_dig T _ _ _ _ _ _ _ _ _ _ h
      unfold Dg
      rw [a, Nat.mul_mod_left, if_pos (show nI 0 - 1 = -1 by decide)]
      exact ih (d + 1) g _ _ _ _ _ _ _ l (by omega) (by omega) hl h
    · obtain ⟨a, b⟩ := pth_dig T _ _ _ _ _ _ _ _ _ _ h
      unfold Dg
      rw [a, show (x * 10 + k + 1) % 10 = k + 1 by omega, nIm (by omega), Nat.add_sub_cancel, if_neg (nI_n1 (by omega))]
      have := ih (d + 1) g _ _ _ _ _ _ _ l (by omega) (by omega) hl h
      by_cases k0 : k = 0
      · subst k0
        rw [if_pos rfl] at this
        rw [if_pos (show nI 0 = 0 from rfl)]
        exact this
      · rw [if_neg k0] at this
        rw [if_neg (nI_ne0 (by omega) (by omega)), show s + (-1) = s - 1 by rw [Int32.sub_eq_add_neg]]
        exact this
theorem pth_play {T : Nat → Tk} {Mc0 : Mem} {many : Nat} (hm1 : Mc0 1 6 = nI many) (hm6 : many ≤ 6) (hT : ∀ d, d < many → ∀ Mc2 : Mem, KC Mc0 Mc2 → ∃ M1 : Mem, f_X0_takeUp (nI d) Mc2 = some M1 ∧ Took M1 (T d) ∧ Sm Mc2 M1) :
    ∀ m d fuel (M : Mem) (st : Nat → Int32) x n (f f0 t s : Int32) (l : Lf), d + m = many → m < fuel → l.1 ≤ 999999 → Pth T m d st x n f f0 t s l → KC Mc0 M → M 43 3 = f → M 43 4 = f0 → M 43 6 = -1 → (∀ j, j < 12 → M 44 j = st j) →
    ∃ M1 : Mem, f_X4_play_l6 fuel (nI l.1) (nI d) M = some M1 ∧ KC Mc0 M1 ∧ M1 43 3 = l.2.2.1 ∧ M1 43 4 = l.2.2.2.1 := by
  intro m
  induction m with
  | zero =>
    intro d fuel M st x n f f0 t s l hd hf hl h kc e3 e4 e6 hs
    obtain ⟨g, rfl⟩ : ∃ g, fuel = g + 1 := ⟨fuel - 1, by omega⟩
    rw [f_X4_play_l6, kc 1 (by omega), hm1, if_pos (nI_le (by omega) (by omega)), show l = _ from h]
    exact ⟨M, rfl, kc, e3, e4⟩
  | succ m ih =>
    intro d fuel M st x n f f0 t s l hd hf hl h kc e3 e4 e6 hs
    obtain ⟨g, rfl⟩ : ∃ g, fuel = g + 1 := ⟨fuel - 1, by omega⟩
    have mM : M 1 6 = nI many := by rw [kc 1 (by omega)]; exact hm1
    rw [f_X4_play_l6, mM, if_neg (nI_ge (by omega) (by omega)), if_pos e6, kitC mM hm6 hl (by omega), Option.bind_some, show many - 1 - d = m by omega]
    dsimp only
    unfold f_X4_play_b54
    rw [nIp]
    rcases h with h | ⟨k, hk, hc, h⟩
    · obtain ⟨a, b⟩ := pth_dig T _ _ _ _ _ _ _ _ _ _ h
      unfold Dg
      rw [a, Nat.mul_mod_left, if_pos (show nI 0 - 1 = -1 by decide)]
      exact ih (d + 1) g M _ _ _ _ _ _ _ l (by omega) (by omega) hl h kc e3 e4 e6 hs
    · obtain ⟨a, b⟩ := pth_dig T _ _ _ _ _ _ _ _ _ _ h
      unfold Dg
      rw [a, show (x * 10 + k + 1) % 10 = k + 1 by omega, nIm (by omega), Nat.add_sub_cancel, if_neg (nI_n1 (by omega))]
      obtain ⟨M1, a1, a2, a3, a4⟩ := goOnC hk (hT d (by omega)) kc
      have hcM : kCk (T d) k (M 44) = true := by rw [kCk_cg hk hs]; exact hc
      obtain ⟨c1, c2, c3, c4, c5⟩ := a4 hcM
      rw [a1, Option.bind_some, hcM]
      dsimp only
      rw [if_neg (show ¬ zI true = 0 by decide)]
      refine ih (d + 1) g M1 _ _ _ _ _ _ _ l (by omega) (by omega) hl h a2 (by rw [c1, e3]) ?_ (by rw [c4, e6]) (fun j hj => by rw [c5 j hj]; exact kUse_cg hk hs j hj)
      rw [c2, e4]
      by_cases k0 : k = 0
      · rw [if_pos k0, if_pos k0]
      · rw [if_neg k0, if_neg k0]; exact Int32.add_zero f0
theorem dishesM {M : Mem} : ∀ m x a fuel, x < 10 ^ m → m ≤ 9 → m < fuel → f_X9_dishesOf_l4 fuel (nI a) (nI x) M = some (nI (a + nz m x), M) := by
  intro m
  induction m with
  | zero =>
    intro x a fuel hx hm hf
    obtain ⟨g, rfl⟩ : ∃ g, fuel = g + 1 := ⟨fuel - 1, by omega⟩
    have : x = 0 := by omega
    subst this
    rw [f_X9_dishesOf_l4, if_pos (by decide)]
    rfl
  | succ m ih =>
    intro x a fuel hx hm hf
    obtain ⟨g, rfl⟩ : ∃ g, fuel = g + 1 := ⟨fuel - 1, by omega⟩
    have hp : 10 ^ (m + 1) ≤ 10 ^ 9 := Nat.pow_le_pow_right (by omega) hm
    by_cases x0 : x = 0
    · subst x0
      rw [f_X9_dishesOf_l4, if_pos (by decide), nz_0]
      rfl
    · rw [f_X9_dishesOf_l4, if_neg (show ¬ nI x ≤ 0 from nI_nle (by omega) (by omega)), show (10 : Int32) = nI 10 from rfl, jrem_nI (by omega) (by omega) (by omega)]
      unfold f_X9_dishesOf_b21
      rw [show (10 : Int32) = nI 10 from rfl, pk_div (by omega) (by omega) (by omega), nIp, nz_low]
      have hx2 : x / 10 < 10 ^ m := by rw [Nat.pow_succ] at hx; omega
      by_cases c : x % 10 = 0
      · rw [if_pos (show nI (x % 10) = 0 by rw [c]; rfl), if_pos c, show nI a + 0 = nI a from nI_add a 0, ih (x / 10) a g hx2 (by omega) (by omega), Nat.zero_add]
      · rw [if_neg (nI_ne0 (by omega) (by omega)), if_neg c, ih (x / 10) (a + 1) g hx2 (by omega) (by omega), Nat.add_assoc]
/-! WEIGHING, both -/
theorem fold_rel {α : Type} (g : α → Lf → α) (pr : Lf → α) (b : Nat) (P : Lf → Prop) (h1 : ∀ l, P l → l.1 < 2 ^ 31) (hg : ∀ l l2, P l → P l2 → g (pr l) l2 = if vv b l2 ≤ vv b l then pr l else pr l2) :
    ∀ (L : List Lf), (∀ l, l ∈ L → P l) → ∀ l, P l → ∃ l2, P l2 ∧ (l2 = l ∨ l2 ∈ L) ∧ L.foldl g (pr l) = pr l2 ∧ L.foldl (mstep b) (mlay b l) = mlay b l2 := by
  intro L
  induction L with
  | nil => intro _ l hl; exact ⟨l, hl, Or.inl rfl, rfl, rfl⟩
  | cons a L ih =>
    intro hP l hl
    have ha := hP a List.mem_cons_self
    have hs : mstep b (mlay b l) a = if vv b a ≤ vv b l then mlay b l else mlay b a := by
      unfold mstep
      rw [if_neg (show ¬ (mlay b l).1 = -1 from nI_n1 (h1 l hl))]
      rfl
    rw [List.foldl_cons, List.foldl_cons, hg l a hl ha, hs]
    by_cases c : vv b a ≤ vv b l
    · rw [if_pos c, if_pos c]
      obtain ⟨l2, p1, p2, p3, p4⟩ := ih (fun x hx => hP x (List.mem_cons_of_mem _ hx)) l hl
      exact ⟨l2, p1, p2.imp id (List.mem_cons_of_mem _), p3, p4⟩
    · rw [if_neg c, if_neg c]
      obtain ⟨l2, p1, p2, p3, p4⟩ := ih (fun x hx => hP x (List.mem_cons_of_mem _ hx)) a ha
      refine ⟨l2, p1, Or.inr ?_, p3, p4⟩
      rcases p2 with rfl | p2
      · exact List.mem_cons_self
      · exact List.mem_cons_of_mem _ p2
def GoodL (l : Lf) : Prop := l.1 ≤ 999999 ∧ l.2.1 ≤ 6 ∧ B99 l.2.2.1 (99 * l.2.1) ∧ B99 l.2.2.2.1 (99 * l.2.1) ∧ B99 l.2.2.2.2.1 (594 * l.2.1)
theorem fold_any {α : Type} (g : α → Lf → α) (pr : Lf → α) (b : Nat) (hg : ∀ l l2, GoodL l → GoodL l2 → g (pr l) l2 = if vv b l2 ≤ vv b l then pr l else pr l2) (h0 : g (pr (0, 0, 0, 0, 0, 0)) (0, 0, 0, 0, 0, 0) = pr (0, 0, 0, 0, 0, 0)) {L : List Lf} (hL : ∀ l, l ∈ L → GoodL l) (hh : ∃ L2, L = (0, 0, 0, 0, 0, 0) :: L2) {c : Mst} (hc : c.1 = -1) :
    ∃ l, l ∈ L ∧ L.foldl g (pr (0, 0, 0, 0, 0, 0)) = pr l ∧ L.foldl (mstep b) c = mlay b l := by
  obtain ⟨L2, rfl⟩ := hh
  obtain ⟨l2, p1, p2, p3, p4⟩ := fold_rel g pr b GoodL (fun l h => by have := h.1; omega) hg L2 (fun l h => hL l (List.mem_cons_of_mem _ h)) (0, 0, 0, 0, 0, 0) (hL _ List.mem_cons_self)
  refine ⟨l2, ?_, ?_, ?_⟩
  · rcases p2 with rfl | p2
    · exact List.mem_cons_self
    · exact List.mem_cons_of_mem _ p2
  · rw [List.foldl_cons, h0]; exact p3
  · rw [List.foldl_cons]
    unfold mstep
    rw [if_pos hc]
    exact p4
def prA (l : Lf) : Int32 × Int32 := (nI l.1, l.2.2.1 - l.2.2.2.2.1)
def prB (l : Lf) : Int32 × Int32 := (nI l.1, l.2.2.1)
def prC (l : Lf) : Int32 × Int32 × Int32 := (nI l.1, l.2.2.2.2.1, nI l.2.1)
theorem foldA {L : List Lf} (hL : ∀ l, l ∈ L → GoodL l) (hh : ∃ L2, L = (0, 0, 0, 0, 0, 0) :: L2) {c : Mst} (hc : c.1 = -1) : ∃ l, l ∈ L ∧ L.foldl cA (0, 0) = prA l ∧ L.foldl (mstep 0) c = mlay 0 l :=
  fold_any cA prA 0 (fun l l2 _ _ => rfl) rfl hL hh hc
theorem foldB {L : List Lf} (hL : ∀ l, l ∈ L → GoodL l) (hh : ∃ L2, L = (0, 0, 0, 0, 0, 0) :: L2) {c : Mst} (hc : c.1 = -1) : ∃ l, l ∈ L ∧ L.foldl cB (0, 0) = prB l ∧ L.foldl (mstep 1) c = mlay 1 l :=
  fold_any cB prB 1 (fun l l2 _ _ => rfl) rfl hL hh hc
theorem foldC {L : List Lf} (hL : ∀ l, l ∈ L → GoodL l) (hh : ∃ L2, L = (0, 0, 0, 0, 0, 0) :: L2) {c : Mst} (hc : c.1 = -1) : ∃ l, l ∈ L ∧ L.foldl cC (0, 0, 0) = prC l ∧ L.foldl (mstep 2) c = mlay 2 l := by
  refine fold_any cC prC 2 (fun l l2 h h2 => ?_) rfl hL hh hc
  obtain ⟨_, n1, _, _, i, hi, ei⟩ := h
  obtain ⟨_, n2, _, _, j, hj, ej⟩ := h2
  unfold cC prC vv wv
  dsimp only
  rw [if_neg (show ¬ (2 : Nat) = 1 by omega), if_neg (show ¬ (2 : Nat) = 1 by omega), if_pos rfl, if_pos rfl, ei, ej]
  have q1 : (nI l.2.1 < nI l2.2.1) = (l.2.1 < l2.2.1) := nIlt (by omega) (by omega)
  have q2 : (nI l2.2.1 = nI l.2.1) = (l2.2.1 = l.2.1) := nIeq (by omega) (by omega)
  have q3 : (nI i ≤ nI j) = (i ≤ j) := nIle (by omega) (by omega)
  have q4 : (nI (10000 * l2.2.1) - nI j ≤ nI (10000 * l.2.1) - nI i) = ((10000 * l2.2.1 : Nat) - (j : Int) ≤ (10000 * l.2.1 : Nat) - (i : Int)) := by
    rw [i_le, pk_sub_toInt (by omega) (by omega), pk_sub_toInt (by omega) (by omega)]
  by_cases c1 : l.2.1 < l2.2.1
  · rw [if_pos (by rw [q1]; exact c1), if_neg (by rw [q4]; omega)]
  · rw [if_neg (by rw [q1]; exact c1)]
    by_cases c2 : l2.2.1 = l.2.1
    · rw [if_pos (by rw [q2]; exact c2)]
      by_cases c3 : i ≤ j
      · rw [if_pos (by rw [q3]; exact c3), if_pos (by rw [q4]; omega)]
      · rw [if_neg (by rw [q3]; exact c3), if_neg (by rw [q4]; omega)]
    · rw [if_neg (by rw [q2]; exact c2), if_pos (by rw [q4]; omega)]
theorem lvs_good {many bar : Nat} {T : Nat → Tk} (hm6 : many ≤ 6) (hN : ∀ d, d < many → B99 (tN (T d)) 9) (st : Nat → Int32) : (∀ l, l ∈ lvs T bar many 0 st 0 0 0 0 0 0 → GoodL l ∧ Pth T many 0 st 0 0 0 0 0 0 l ∧ l.1 < 10 ^ many ∧ l.2.1 = nz many l.1) ∧ ∃ L2, lvs T bar many 0 st 0 0 0 0 0 0 = (0, 0, 0, 0, 0, 0) :: L2 := by
  refine ⟨fun l hl => ?_, ?_⟩
  · have hp := mem_pth T bar _ _ _ _ _ _ _ _ _ _ hl
    obtain ⟨a, b⟩ := pth_dig T _ _ _ _ _ _ _ _ _ _ hp
    have z : ∀ n, B99 (0 : Int32) n := fun n => ⟨0, Nat.zero_le n, rfl⟩
    obtain ⟨c1, c2, c3, c4⟩ := pth_B hN _ _ _ _ _ _ _ _ _ _ (by omega) hp (z _) (z _) (z _)
    have h6 : 10 ^ many ≤ 10 ^ 6 := Nat.pow_le_pow_right (by omega) hm6
    have hx : l.1 < 10 ^ many := by
      rcases Nat.div_eq_zero_iff.mp a with y | y
      · exact absurd y (Nat.ne_of_gt (Nat.pow_pos (by omega)))
      · exact y
    exact ⟨⟨by omega, by omega, c1, c2, c3⟩, hp, hx, by omega⟩
  · obtain ⟨L, h⟩ := lvs_head T bar many 0 st 0 0 0 0 0 0
    rw [Nat.zero_mul] at h
    exact ⟨L, h⟩
