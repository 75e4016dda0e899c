/-! READING SIDE BY SIDE: one operator on, and the rows of operators -/
theorem evR_add (cs e : Nat → Int32) : ∀ a b i t, evR cs e (a + b) i t = evR cs e b (i + a) (evR cs e a i t) := by
  intro a
  induction a with
  | zero => intro b i t; rw [Nat.zero_add]; rfl
  | succ a ih =>
    intro b i t
    rw [show a + 1 + b = (a + b) + 1 by omega]
    show evR cs e (a + b) (i + 1) (evS (cs i) e t) = _
    rw [ih, show i + 1 + a = i + (a + 1) by omega]
    rfl
theorem evR_cg {cs cs2 e : Nat → Int32} : ∀ n i t, (∀ j, i ≤ j → j < i + n → cs j = cs2 j) → evR cs e n i t = evR cs2 e n i t := by
  intro n
  induction n with
  | zero => intro i t h; rfl
  | succ n ih =>
    intro i t h
    show evR cs e n (i + 1) (evS (cs i) e t) = evR cs2 e n (i + 1) (evS (cs2 i) e t)
    rw [h i (by omega) (by omega)]
    exact ih _ _ (fun j h1 h2 => h j (by omega) (by omega))
theorem Lx.cg {n : Nat} {B : Nat → Nat} {Mc Mm Mc1 Mm1 : Mem} {p w : Nat} (h : Lx n B Mc Mm p w) (h1 : ∀ j, 2 ≤ j → j ≤ 5 → Mc1 34 j = Mc 34 j) (h2 : ∀ j, 21 ≤ j → j ≤ 24 → Mm1 100 j = Mm 100 j) : Lx n B Mc1 Mm1 p w := by
  unfold Lx at h ⊢
  rw [h1 2 (by omega) (by omega), h1 3 (by omega) (by omega), h1 4 (by omega) (by omega), h1 5 (by omega) (by omega), h2 21 (by omega) (by omega), h2 22 (by omega) (by omega), h2 23 (by omega) (by omega), h2 24 (by omega) (by omega)]
  exact h
theorem obsV {n : Nat} {B : Nat → Nat} {Mc Mm : Mem} {p w c : Nat} (h : Lx n B Mc Mm p w) (hc : c < 256) (h3 : Mc 34 3 = nI c) : Mm 100 24 = nI c := by
  obtain ⟨hp, h4, h23, h1 | h1 | h1 | h1 | h1⟩ := h
  · obtain ⟨a1, a2, a3, a4⟩ := h1
    rw [h3, show (256 : Int32) = nI 256 from rfl, nIeq (by omega) (by omega)] at a3; omega
  · obtain ⟨e, a1, a2, a3, a4, a5, a6, a7, a8⟩ := h1
    exact absurd (a7.symm.trans h3) (tkW_sg (by rw [a6]; exact fw_le B p e) hc)
  · obtain ⟨e, v, a1, a2, a3, a4, a5, a6, a7, a8⟩ := h1
    rw [h3, show (258 : Int32) = nI 258 from rfl, nIeq (by omega) (by omega)] at a7; omega
  · obtain ⟨a1, a2, a3, a4, a5, a6, a7, a8⟩ := h1
    rw [a8, ← a7]; exact h3
  · obtain ⟨a1, a2, a3, a4⟩ := h1
    rw [h3, show (257 : Int32) = nI 257 from rfl, nIeq (by omega) (by omega)] at a3; omega
theorem advLive {n f0 t d : Nat} {B : Nat → Nat} {Mc Mm : Mem} {p w s : Nat} (ht : isTx t) (hn : n ≤ 160) (hB : ∀ j, j < n → B j < 256) (h : Live n B f0 t d Mc Mm p w s) (h6 : Mc 34 3 ≠ 256) (h7 : Mc 34 3 ≠ 257) :
    ∃ (Mc1 Mm1 : Mem) (p1 w1 : Nat), f_X5_advance Mc = some Mc1 ∧ f_X9_next Mm = some Mm1 ∧ FrC t Mc Mc1 ∧ FrM Mm Mm1 ∧ Live n B f0 t d Mc1 Mm1 p1 w1 s ∧ p < p1 ∧ Mc1 (t + 1) = Mc (t + 1) := by
  obtain ⟨hL, hC, hM, a6, a26, a25, hs, hsp⟩ := h
  have key : ∃ i, p < i ∧ i ≤ n ∧ Mc 34 2 = nI i ∧ Mm 100 21 = nI i := by
    obtain ⟨hp, h4, h23, h1 | h1 | h1 | h1 | h1⟩ := hL
    · exact absurd h1.2.2.1 h6
    · obtain ⟨e, a1, a2, a3, a4, a5⟩ := h1
      exact ⟨e, a1, a2, a3, a4⟩
    · obtain ⟨e, v, a1, a2, a3, a4, a5, a6⟩ := h1
      exact ⟨e, a1, a2, a4, a5⟩
    · obtain ⟨a1, a2, a3, a4, a5, a6⟩ := h1
      exact ⟨p + 1, by omega, by omega, a4, a5⟩
    · exact absurd h1.2.2.1 h7
  obtain ⟨i, i1, i2, i3, i4⟩ := key
  obtain ⟨Mc1, Mm1, p1, w1, b1, b2, b3, b4, b5, b6, b7, b8⟩ := advBoth hn hB hC hM i3 i4 i2
  obtain ⟨r, hr, rfl⟩ := ht
  refine ⟨Mc1, Mm1, p1, w1, b1, b2, ⟨fun q x y z => b5 q x, fun j x => b6 j (by omega) (by omega) (by omega) (by omega), fun j x => by rw [b5 _ (by omega)]⟩, ⟨b7, fun j x => b8 j (by omega) (by omega) (by omega) (by omega)⟩, ⟨b3, ⟨?_, ?_⟩, ⟨?_, ?_, hM.2.2.1, ?_⟩, ?_, ?_, ?_, ?_, by omega⟩, by omega, b5 _ (by omega)⟩
  · rw [b6 1 (by omega) (by omega) (by omega) (by omega)]; exact hC.1
  · intro j hj; rw [b5 35 (by omega)]; exact hC.2 j hj
  · rw [b8 19 (by omega) (by omega) (by omega) (by omega)]; exact hM.1
  · rw [b8 20 (by omega) (by omega) (by omega) (by omega)]; exact hM.2.1
  · intro j hj; rw [b7 101 (by omega)]; exact hM.2.2.2 j hj
  · rw [b6 6 (by omega) (by omega) (by omega) (by omega)]; exact a6
  · rw [b8 26 (by omega) (by omega) (by omega) (by omega)]; exact a26
  · rw [b8 25 (by omega) (by omega) (by omega) (by omega)]; exact a25
  · rw [b5 _ (by omega)]; exact hs
theorem appLive {n f0 t d : Nat} {B : Nat → Nat} {Mc Mm : Mem} {p w s : Nat} (ht : isTx t) (hn : n ≤ 160) (h : Live n B f0 t d Mc Mm p w s) (hs1 : s + 1 ≤ p) (c : Int32) :
    ∃ Mc1 : Mem, f_X7_append t c Mc = some Mc1 ∧ FrC t Mc Mc1 ∧ Live n B f0 t d Mc1 Mm p w (s + 1) ∧ Mc1 (t + 1) s = c ∧ ∀ j, j ≠ s → Mc1 (t + 1) j = Mc (t + 1) j := by
  obtain ⟨hL, hC, hM, a6, a26, a25, hs, hsp⟩ := h
  have hp := hL.1
  refine ⟨_, app_eq ht hs (by omega) c, app_fr ht Mc c _, ?_, ?_, ?_⟩
  · obtain ⟨r, hr, rfl⟩ := ht
    have o : ∀ j, mu (mu Mc (16 + 3 * r + 1) s c) (16 + 3 * r) 2 (nI (s + 1)) 34 j = Mc 34 j := fun j => by rw [mun (by omega), mun (by omega)]
    refine ⟨hL.cg (fun j _ _ => o j) (fun _ _ _ => rfl), ⟨(o 1).trans hC.1, fun j hj => ?_⟩, hM, (o 6).trans a6, a26, a25, mu_at, by omega⟩
    rw [mun (by omega), mun (by omega)]; exact hC.2 j hj
  · rw [mun (by omega), mu_at]
  · intro j hj
    rw [mun (by omega), mu_o hj]
def Go (n : Nat) (B : Nat → Nat) (f0 t d : Nat) (Mc Mm : Mem) (p s : Nat) (Mc1 Mm1 : Mem) (v : Int32) : Prop :=
  ∃ p1 w1 s1, Live n B f0 t d Mc1 Mm1 p1 w1 s1 ∧ p < p1 ∧ s ≤ s1 ∧ s1 + p ≤ s + p1 ∧ (∀ j, j < s → Mc1 (t + 1) j = Mc (t + 1) j) ∧ ∀ st, evR (Mc1 (t + 1)) (env Mm) (s1 - s) s st = v :: st
def PS (n : Nat) (B : Nat → Nat) (f0 t : Nat) (fc : Nat → Int32 → Mem → Option Mem) (gm : Mem → Option (Int32 × Mem)) (d : Nat) : Prop :=
  ∀ Mc Mm : Mem, (∀ p w s, Live n B f0 t d Mc Mm p w s → ∃ (Mc1 Mm1 : Mem) (v : Int32), fc t (nI d) Mc = some Mc1 ∧ gm Mm = some (v, Mm1) ∧ FrC t Mc Mc1 ∧ FrM Mm Mm1 ∧ (Go n B f0 t d Mc Mm p s Mc1 Mm1 v ∨ ∃ f, Dead t f Mc1 Mm1)) ∧
    (∀ f, Dead t f Mc Mm → ∃ (Mc1 Mm1 : Mem) (v : Int32), fc t (nI d) Mc = some Mc1 ∧ gm Mm = some (v, Mm1) ∧ FrC t Mc Mc1 ∧ FrM Mm Mm1 ∧ Dead t f Mc1 Mm1)
/-- what stands after an operator, and the operator's code -/
theorem opStep {n f0 t d : Nat} {B : Nat → Nat} {Mc Mm : Mem} {p w s : Nat} {rc : Nat → Int32 → Mem → Option Mem} {rm : Mem → Option (Int32 × Mem)} (ht : isTx t) (hn : n ≤ 160) (hB : ∀ j, j < n → B j < 256) (hP : PS n B f0 t rc rm d) (h : Live n B f0 t d Mc Mm p w s) (h6 : Mc 34 3 ≠ 256) (h7 : Mc 34 3 ≠ 257) (c : Int32) :
    ∃ (A Am C Mc1 Mm1 : Mem) (v : Int32), f_X5_advance Mc = some A ∧ f_X9_next Mm = some Am ∧ rc t (nI d) A = some C ∧ rm Am = some (v, Mm1) ∧ f_X7_append t c C = some Mc1 ∧ FrC t Mc Mc1 ∧ FrM Mm Mm1 ∧
      ((∃ p1 w1 s1, Live n B f0 t d Mc1 Mm1 p1 w1 (s1 + 1) ∧ p < p1 ∧ s ≤ s1 ∧ s1 + 1 + p ≤ s + p1 ∧ (∀ j, j < s → Mc1 (t + 1) j = Mc (t + 1) j) ∧ ∀ st, evR (Mc1 (t + 1)) (env Mm) (s1 + 1 - s) s st = evS c (env Mm) (v :: st)) ∨ ∃ f, Dead t f Mc1 Mm1) := by
  obtain ⟨A, Am, p1, w1, e1, e2, e3, e4, e5, e6, e7⟩ := advLive ht hn hB h h6 h7
  obtain ⟨C, Mm1, v, g1, g2, g3, g4, g5⟩ := (hP A Am).1 _ _ _ e5
  rcases g5 with g5 | ⟨f, g5⟩
  · obtain ⟨p2, w2, s2, k1, k2, k3, k4, k5, k6⟩ := g5
    have hsp := h.2.2.2.2.2.2.2
    obtain ⟨Mc1, l1, l2, l3, l4, l5⟩ := appLive ht hn k1 (by omega) c
    refine ⟨A, Am, C, Mc1, Mm1, v, e1, e2, g1, g2, l1, e3.tr (g3.tr l2), e4.tr g4, Or.inl ⟨p2, w2, s2, l3, by omega, by omega, by omega, fun j hj => ?_, fun st => ?_⟩⟩
    · rw [l5 j (by omega), k5 j hj, e7]
    · rw [show s2 + 1 - s = (s2 - s) + 1 by omega, evR_add, show s + (s2 - s) = s2 by omega]
      rw [evR_cg (cs2 := C (t + 1)) (s2 - s) s st (fun j h1 h2 => l5 j (by omega))]
      have := k6 st
      rw [e4.en] at this
      rw [this]
      show evS (Mc1 (t + 1) s2) (env Mm) (v :: st) = _
      rw [l4]
  · obtain ⟨Mc1, l1, l2, l3⟩ := app_dead ht g5 c
    exact ⟨A, Am, C, Mc1, Mm1, v, e1, e2, g1, g2, l1, e3.tr (g3.tr l2), e4.tr g4, Or.inr ⟨f, l3⟩⟩
/-- a row of operators -/
theorem loopPS {n f0 t d : Nat} {B : Nat → Nat} {rc : Nat → Int32 → Mem → Option Mem} {rm : Mem → Option (Int32 × Mem)} (ht : isTx t) (hn : n ≤ 160) (hB : ∀ j, j < n → B j < 256) (hP : PS n B f0 t rc rm d)
    (L : Nat → Nat → Int32 → Int32 → Mem → Option Mem) (Lm : Nat → Int32 → Mem → Option (Int32 × Mem)) (tk : Int32 → Option Int32)
    (hL : ∀ f v2 v3 M, L (f + 1) t v2 v3 M = if 160 ≤ v3 then some M else match tk (M 34 3) with | none => some M | some c => (f_X5_advance M).bind fun o5 => (rc t v2 o5).bind fun o7 => (f_X7_append t c o7).bind fun o9 => L f t v2 (v3 + 1) o9)
    (hMn : ∀ f v Mc Mm p w s, Live n B f0 t d Mc Mm p w s → tk (Mc 34 3) = none → Lm (f + 1) v Mm = some (v, Mm))
    (hMy : ∀ f v Mc Mm p w s c, Live n B f0 t d Mc Mm p w s → tk (Mc 34 3) = some c → Lm (f + 1) v Mm = (f_X9_next Mm).bind fun o6 => (rm o6).bind fun o8 => Lm f (jn c v o8.1) o8.2)
    (hMd : ∀ f v (Mm : Mem), Mm 100 26 = 1 → Lm (f + 1) v Mm = some (v, Mm))
    (hk6 : tk 256 = none) (hk7 : tk 257 = none) (hc : ∀ x c, tk x = some c → ∀ e b a st, evS c e (b :: a :: st) = jn c a b :: st) :
    ∀ m fuel v3 (Mc Mm : Mem) p w s v, Live n B f0 t d Mc Mm p w s → n - p = m → m < fuel → v3 ≤ p →
      ∃ (Mc1 Mm1 : Mem) (v1 : Int32), L fuel t (nI d) (nI v3) Mc = some Mc1 ∧ Lm fuel v Mm = some (v1, Mm1) ∧ FrC t Mc Mc1 ∧ FrM Mm Mm1 ∧
        ((∃ p1 w1 s1, Live n B f0 t d Mc1 Mm1 p1 w1 s1 ∧ p ≤ p1 ∧ s ≤ s1 ∧ s1 + p ≤ s + p1 ∧ (∀ j, j < s → Mc1 (t + 1) j = Mc (t + 1) j) ∧ ∀ st, evR (Mc1 (t + 1)) (env Mm) (s1 - s) s (v :: st) = v1 :: st) ∨ ∃ f, Dead t f Mc1 Mm1) := by
  intro m
  induction m using Nat.strongRecOn with
  | ind m ih =>
    intro fuel v3 Mc Mm p w s v h hm hf h3
    obtain ⟨f, rfl⟩ : ∃ f, fuel = f + 1 := ⟨fuel - 1, by omega⟩
    have hpn := h.1.1
    rw [hL]
    cases htk : tk (Mc 34 3) with
    | none =>
      refine ⟨Mc, Mm, v, by simp, hMn f v Mc Mm p w s h htk, FrC.refl t Mc, FrM.refl Mm, Or.inl ⟨p, w, s, h, Nat.le_refl _, Nat.le_refl _, Nat.le_refl _, fun _ _ => rfl, fun st => ?_⟩⟩
      rw [Nat.sub_self]
      rfl
    | some c =>
      have h6 : Mc 34 3 ≠ 256 := fun e => by rw [e, hk6] at htk; cases htk
      have h7 : Mc 34 3 ≠ 257 := fun e => by rw [e, hk7] at htk; cases htk
      obtain ⟨A, Am, C, Mc1, Mm1, v1, e1, e2, e3, e4, e5, e6, e7, e8⟩ := opStep ht hn hB hP h h6 h7 c
      have hpl : p < n := by
        obtain ⟨A2, Am2, p2, w2, x1, x2, x3, x4, x5, x6, x7⟩ := advLive ht hn hB h h6 h7
        have := x5.1.1
        omega
      rw [if_neg (by rw [show (160 : Int32) = nI 160 from rfl, nIle (by omega) (by omega)]; omega), e1]
      simp only [Option.bind_some]
      rw [e3]
      simp only [Option.bind_some]
      rw [e5]
      simp only [Option.bind_some]
      rw [hMy f v Mc Mm p w s c h htk, e2]
      simp only [Option.bind_some]
      rw [e4]
      simp only [Option.bind_some]
      rw [nIp]
      rcases e8 with ⟨p1, w1, s1, k1, k2, k3, k4, k5, k6⟩ | ⟨f1, k1⟩
      · obtain ⟨Mc2, Mm2, v2, j1, j2, j3, j4, j5⟩ := ih (n - p1) (by omega) f (v3 + 1) Mc1 Mm1 p1 w1 (s1 + 1) (jn c v v1) k1 rfl (by omega) (by omega)
        refine ⟨Mc2, Mm2, v2, j1, j2, e6.tr j3, e7.tr j4, ?_⟩
        rcases j5 with ⟨p2, w2, s2, i1, i2, i3, i4, i5, i6⟩ | j5
        · refine Or.inl ⟨p2, w2, s2, i1, by omega, by omega, by omega, fun j hj => (i5 j (by omega)).trans (k5 j hj), fun st => ?_⟩
          rw [show s2 - s = (s1 + 1 - s) + (s2 - (s1 + 1)) by omega, evR_add, show s + (s1 + 1 - s) = s1 + 1 by omega]
          rw [evR_cg (cs2 := Mc1 (t + 1)) (s1 + 1 - s) s (v :: st) (fun j h1 h2 => i5 j (by omega)), k6, hc _ c htk]
          have := i6 st
          rw [e7.en] at this
          exact this
        · exact Or.inr j5
      · obtain ⟨f2, rfl⟩ : ∃ f2, f = f2 + 1 := ⟨f - 1, by omega⟩
        have z3 := k1.1
        have z26 := k1.2.2.1
        refine ⟨Mc1, Mm1, jn c v v1, ?_, hMd f2 _ Mm1 z26, e6, e7, Or.inr ⟨f1, k1⟩⟩
        rw [hL, z3, hk7]
        simp
/-- the first, and then a row of operators -/
theorem rowPS {n f0 t d : Nat} {B : Nat → Nat} {rc : Nat → Int32 → Mem → Option Mem} {rm : Mem → Option (Int32 × Mem)} (ht : isTx t) (hn : n ≤ 160) (hB : ∀ j, j < n → B j < 256) (hP : PS n B f0 t rc rm d)
    (L : Nat → Nat → Int32 → Int32 → Mem → Option Mem) (Lm : Nat → Int32 → Mem → Option (Int32 × Mem)) (tk : Int32 → Option Int32)
    (hL : ∀ f v2 v3 M, L (f + 1) t v2 v3 M = if 160 ≤ v3 then some M else match tk (M 34 3) with | none => some M | some c => (f_X5_advance M).bind fun o5 => (rc t v2 o5).bind fun o7 => (f_X7_append t c o7).bind fun o9 => L f t v2 (v3 + 1) o9)
    (hMn : ∀ f v Mc Mm p w s, Live n B f0 t d Mc Mm p w s → tk (Mc 34 3) = none → Lm (f + 1) v Mm = some (v, Mm))
    (hMy : ∀ f v Mc Mm p w s c, Live n B f0 t d Mc Mm p w s → tk (Mc 34 3) = some c → Lm (f + 1) v Mm = (f_X9_next Mm).bind fun o6 => (rm o6).bind fun o8 => Lm f (jn c v o8.1) o8.2)
    (hMd : ∀ f v (Mm : Mem), Mm 100 26 = 1 → Lm (f + 1) v Mm = some (v, Mm))
    (hk6 : tk 256 = none) (hk7 : tk 257 = none) (hc : ∀ x c, tk x = some c → ∀ e b a st, evS c e (b :: a :: st) = jn c a b :: st) :
    PS n B f0 t (fun q v M => (rc q v M).bind fun o1 => L FU q v 0 o1) (fun M => (rm M).bind fun o1 => Lm FU o1.1 o1.2) d := by
  have dead : ∀ f (Mc Mm : Mem) v, Dead t f Mc Mm → L FU t (nI d) 0 Mc = some Mc ∧ Lm FU v Mm = some (v, Mm) := by
    intro f Mc Mm v k1
    obtain ⟨f2, hf2⟩ : ∃ f2, FU = f2 + 1 := ⟨FU - 1, by have := FU_ge; omega⟩
    rw [hf2]
    refine ⟨?_, hMd f2 _ Mm k1.2.2.1⟩
    rw [hL, k1.1, hk7]
    simp
  intro Mc Mm
  constructor
  · intro p w s h
    obtain ⟨A, Am, v, e1, e2, e3, e4, e5⟩ := (hP Mc Mm).1 p w s h
    simp only [e1, e2, Option.bind_some]
    rcases e5 with ⟨p1, w1, s1, k1, k2, k3, k4, k5, k6⟩ | ⟨f, k1⟩
    · have hpn := k1.1.1
      obtain ⟨Mc2, Mm2, v2, j1, j2, j3, j4, j5⟩ := loopPS ht hn hB hP L Lm tk hL hMn hMy hMd hk6 hk7 hc (n - p1) FU 0 A Am p1 w1 s1 v k1 rfl (by have := FU_ge; omega) (by omega)
      refine ⟨Mc2, Mm2, v2, j1, j2, e3.tr j3, e4.tr j4, ?_⟩
      rcases j5 with ⟨p2, w2, s2, i1, i2, i3, i4, i5, i6⟩ | j5
      · refine Or.inl ⟨p2, w2, s2, i1, by omega, by omega, by omega, fun j hj => (i5 j (by omega)).trans (k5 j hj), fun st => ?_⟩
        rw [show s2 - s = (s1 - s) + (s2 - s1) by omega, evR_add, show s + (s1 - s) = s1 by omega]
        rw [evR_cg (cs2 := A (t + 1)) (s1 - s) s st (fun j h1 h2 => i5 j (by omega)), k6]
        have := i6 st
        rw [e4.en] at this
        exact this
      · exact Or.inr j5
    · obtain ⟨x1, x2⟩ := dead f A Am v k1
      exact ⟨A, Am, v, x1, x2, e3, e4, Or.inr ⟨f, k1⟩⟩
  · intro f h
    obtain ⟨A, Am, v, e1, e2, e3, e4, e5⟩ := (hP Mc Mm).2 f h
    obtain ⟨x1, x2⟩ := dead f A Am v e5
    simp only [e1, e2, Option.bind_some]
    exact ⟨A, Am, v, x1, x2, e3, e4, e5⟩
