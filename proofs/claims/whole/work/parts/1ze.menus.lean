/-! ALL MENUS THAT STAND: the reference's walk -/
def wv (b n : Nat) (f t : Int32) : Int32 := if b = 2 then nI (10000 * n) - t else f - t
def vv (b : Nat) (l : Lf) : Int32 := if b = 1 then l.2.2.1 else wv b l.2.1 l.2.2.1 l.2.2.2.2.1
abbrev Mst : Type := Int32 × Int32 × Int32 × Int32 × Int32
def mlay (b : Nat) (l : Lf) : Mst := (nI l.1, vv b l, l.2.2.1, l.2.2.2.1, l.2.2.2.2.2)
def mstep (b : Nat) (c : Mst) (l : Lf) : Mst := if c.1 = -1 then mlay b l else if vv b l ≤ c.2.1 then c else mlay b l
def mst (M : Mem) : Mst := (M 100 32, M 100 33, M 100 34, M 100 35, M 100 36)
def KM6 (Mm N : Mem) : Prop := (∀ q, q ≠ 100 → q ≠ 104 → q ≠ 110 → N q = Mm q) ∧ ∀ j, (j < 13 ∨ 37 < j) → N 100 j = Mm 100 j
theorem KM6.sm {Mm N N1 : Mem} (h : KM6 Mm N) (k : SmM N N1) : KM6 Mm N1 := ⟨fun q a b c => (k.1 q a).trans (h.1 q a b c), fun j a => (k.2 j (by omega)).trans (h.2 j a)⟩
theorem KM6.on {Mm N N1 : Mem} (h : KM6 Mm N) {p : Nat} (hp : p = 104 ∨ p = 110) (k : ∀ q, q ≠ p → N1 q = N q) : KM6 Mm N1 := ⟨fun q a b c => (k q (by omega)).trans (h.1 q a b c), fun j a => by rw [k 100 (by omega)]; exact h.2 j a⟩
def MG (Mm0 N N1 : Mem) (d b : Nat) (L : List Lf) : Prop := KM6 Mm0 N1 ∧ N1 100 37 = N 100 37 ∧ (∀ j, j < 12 → N1 104 j = N 104 j) ∧ (∀ i, i < 12 * d → N1 110 i = N 110 i) ∧ mst N1 = L.foldl (mstep b) (mst N)
theorem MG.tr {Mm0 N N1 N2 : Mem} {d b : Nat} {L L2 : List Lf} (h : MG Mm0 N N1 d b L) (h2 : MG Mm0 N1 N2 d b L2) : MG Mm0 N N2 d b (L ++ L2) := by
  obtain ⟨a1, a2, a3, a4, a5⟩ := h
  obtain ⟨b1, b2, b3, b4, b5⟩ := h2
  exact ⟨b1, b2.trans a2, fun j hj => (b3 j hj).trans (a3 j hj), fun i hi => (b4 i hi).trans (a4 i hi), by rw [b5, a5, List.foldl_append]⟩
theorem mst_sm {N N1 : Mem} (h : ∀ j, 32 ≤ j → j ≤ 36 → N1 100 j = N 100 j) : mst N1 = mst N := by
  unfold mst
  rw [h 32 (by omega) (by omega), h 33 (by omega) (by omega), h 34 (by omega) (by omega), h 35 (by omega) (by omega), h 36 (by omega) (by omega)]
section
variable (rc : Int32 → Int32 → Int32 → Int32 → Int32 → Int32 → Int32 → Mem → Option Mem)
theorem asideM_l (k : Int32 → Int32 → Int32 → Int32 → Int32 → Int32 → Int32 → Int32 → Int32 → Int32 → Mem → Option Mem) {d : Nat} (hd : d < 6) (v1 v3 v4 v5 v6 v7 v8 v9 v10 : Int32) : ∀ m i fuel (N : Mem), i + m = 12 → m < fuel →
    ∃ N1 : Mem, f_X9_menus_l137 rc k fuel v1 (nI d) v3 v4 v5 v6 v7 v8 v9 v10 (nI i) N = k v1 (nI d) v3 v4 v5 v6 v7 v8 v9 v10 N1 ∧ (∀ q, q ≠ 110 → N1 q = N q) ∧ (∀ j, i ≤ j → j < 12 → N1 110 (12 * d + j) = N 104 j) ∧ (∀ j, j < 12 * d + i → N1 110 j = N 110 j) := by
  intro m
  induction m with
  | zero =>
    intro i fuel N hi hf
    obtain ⟨g, rfl⟩ : ∃ g, fuel = g + 1 := ⟨fuel - 1, by omega⟩
    refine ⟨N, ?_, fun _ _ => rfl, fun j h1 h2 => by omega, fun _ _ => rfl⟩
    rw [f_X9_menus_l137, if_pos (show (12 : Int32) ≤ nI i from nI_le (a := 12) (by omega) (by omega))]
  | succ m ih =>
    intro i fuel N hi hf
    obtain ⟨g, rfl⟩ : ∃ g, fuel = g + 1 := ⟨fuel - 1, by omega⟩
    rw [f_X9_menus_l137, if_neg (show ¬ (12 : Int32) ≤ nI i from nI_ge (b := 12) (by omega) (by omega)), show (12 : Int32) = nI 12 from rfl, pk_mul, nI_add, inb_nI (show i < 12 by omega) (by omega), inb_nI (show 12 * d + i < 72 by omega) (by omega), nI_clamp (show i < 2 ^ 31 by omega), nI_clamp (show 12 * d + i < 2 ^ 31 by omega), nIp]
    repeat rw [ck_true]
    obtain ⟨N1, a1, a2, a3, a4⟩ := ih (i + 1) g (mu N 110 (12 * d + i) (N 104 i)) (by omega) (by omega)
    rw [a1]
    refine ⟨N1, rfl, fun q hq => (a2 q hq).trans (mun hq), fun j h1 h2 => ?_, fun j hj => ?_⟩
    · by_cases e : j = i
      · rw [e, a4 _ (by omega), mu_at]
      · rw [a3 j (by omega) h2, mun (by omega)]
    · rw [a4 j (by omega), mu_o (by omega)]
theorem backM_l (k : Int32 → Int32 → Int32 → Int32 → Int32 → Int32 → Int32 → Int32 → Mem → Option Mem) {d : Nat} (hd : d < 6) (v1 v3 v4 v5 v6 v7 v8 : Int32) : ∀ m i fuel (N : Mem), i + m = 12 → m < fuel →
    ∃ N1 : Mem, f_X9_menus_l257 rc k fuel v1 (nI d) v3 v4 v5 v6 v7 v8 (nI i) N = k v1 (nI d) v3 v4 v5 v6 v7 v8 N1 ∧ (∀ q, q ≠ 104 → N1 q = N q) ∧ (∀ j, i ≤ j → j < 12 → N1 104 j = N 110 (12 * d + j)) ∧ (∀ j, j < i → N1 104 j = N 104 j) := by
  intro m
  induction m with
  | zero =>
    intro i fuel N hi hf
    obtain ⟨g, rfl⟩ : ∃ g, fuel = g + 1 := ⟨fuel - 1, by omega⟩
    refine ⟨N, ?_, fun _ _ => rfl, fun j h1 h2 => by omega, fun _ _ => rfl⟩
    rw [f_X9_menus_l257, if_pos (show (12 : Int32) ≤ nI i from nI_le (a := 12) (by omega) (by omega))]
  | succ m ih =>
    intro i fuel N hi hf
    obtain ⟨g, rfl⟩ : ∃ g, fuel = g + 1 := ⟨fuel - 1, by omega⟩
    rw [f_X9_menus_l257, if_neg (show ¬ (12 : Int32) ≤ nI i from nI_ge (b := 12) (by omega) (by omega)), show (12 : Int32) = nI 12 from rfl, pk_mul, nI_add, inb_nI (show i < 12 by omega) (by omega), inb_nI (show 12 * d + i < 72 by omega) (by omega), nI_clamp (show i < 2 ^ 31 by omega), nI_clamp (show 12 * d + i < 2 ^ 31 by omega), nIp]
    repeat rw [ck_true]
    obtain ⟨N1, a1, a2, a3, a4⟩ := ih (i + 1) g (mu N 104 i (N 110 (12 * d + i))) (by omega) (by omega)
    rw [a1]
    refine ⟨N1, rfl, fun q hq => (a2 q hq).trans (mun hq), fun j h1 h2 => ?_, fun j hj => ?_⟩
    · by_cases e : j = i
      · rw [e, a4 _ (by omega), mu_at]
      · rw [a3 j (by omega) h2, mun (by omega)]
    · rw [a4 j (by omega), mu_o (by omega)]
theorem layM_eq {b : Nat} (N : Mem) (x n : Nat) (f f0 t s v : Int32) (hv : v = vv b (x, n, f, f0, t, s)) : ∃ N1 : Mem, f_X9_menus_b20 rc (nI x) f f0 s v N = some N1 ∧ (∀ q, q ≠ 100 → N1 q = N q) ∧ (∀ j, (j < 32 ∨ 36 < j) → N1 100 j = N 100 j) ∧ mst N1 = mstep b (mst N) (x, n, f, f0, t, s) := by
  subst hv
  unfold f_X9_menus_b20 f_X9_menus_b39
  have st : ∀ v : Int32, (∀ q, q ≠ 100 → mu (mu (mu (mu (mu N 100 32 (nI x)) 100 33 v) 100 34 f) 100 35 f0) 100 36 s q = N q) ∧ (∀ j, (j < 32 ∨ 36 < j) → mu (mu (mu (mu (mu N 100 32 (nI x)) 100 33 v) 100 34 f) 100 35 f0) 100 36 s 100 j = N 100 j) ∧ mst (mu (mu (mu (mu (mu N 100 32 (nI x)) 100 33 v) 100 34 f) 100 35 f0) 100 36 s) = (nI x, v, f, f0, s) := fun v =>
    ⟨fun q h => by rw [mun h, mun h, mun h, mun h, mun h], fun j h => by rw [mu_o (by omega), mu_o (by omega), mu_o (by omega), mu_o (by omega), mu_o (by omega)], by
      unfold mst
      rw [mu_at, mu_o (show 35 ≠ 36 by omega), mu_at, mu_o (show 34 ≠ 36 by omega), mu_o (show 34 ≠ 35 by omega), mu_at, mu_o (show 33 ≠ 36 by omega), mu_o (show 33 ≠ 35 by omega), mu_o (show 33 ≠ 34 by omega), mu_at, mu_o (show 32 ≠ 36 by omega), mu_o (show 32 ≠ 35 by omega), mu_o (show 32 ≠ 34 by omega), mu_o (show 32 ≠ 33 by omega), mu_at]⟩
  obtain ⟨s1, s2, s3⟩ := st (vv b (x, n, f, f0, t, s))
  unfold mstep
  by_cases c : N 100 32 = -1
  · refine ⟨_, by rw [if_pos c], s1, s2, ?_⟩
    rw [s3, if_pos (show (mst N).1 = -1 from c)]
    rfl
  · rw [if_neg c, if_neg (show ¬ (mst N).1 = -1 from c)]
    by_cases c2 : vv b (x, n, f, f0, t, s) ≤ N 100 33
    · refine ⟨N, by rw [if_pos c2], fun _ _ => rfl, fun _ _ => rfl, ?_⟩
      rw [if_pos (show vv b (x, n, f, f0, t, s) ≤ (mst N).2.1 from c2)]
    · refine ⟨_, by rw [if_neg c2], s1, s2, ?_⟩
      rw [s3, if_neg (show ¬ vv b (x, n, f, f0, t, s) ≤ (mst N).2.1 from c2)]
      rfl
end
theorem wv_2 (n : Nat) (f f' t u : Int32) : wv 2 n f t + 10000 - u = wv 2 (n + 1) f' (t + u) := by
  unfold wv
  rw [if_pos rfl, if_pos rfl, show 10000 * (n + 1) = 10000 * n + 10000 by omega, ← nI_add, show nI 10000 = (10000 : Int32) from rfl]
  generalize nI (10000 * n) = a
  rw [Int32.sub_eq_add_neg, Int32.sub_eq_add_neg, Int32.sub_eq_add_neg, Int32.neg_add, Int32.sub_eq_add_neg]
  ac_rfl
theorem wv_o {b : Nat} (hb : b ≠ 2) (n n' : Nat) (f g t u : Int32) : wv b n f t + g - u = wv b n' (f + g) (t + u) := by
  unfold wv
  rw [if_neg hb, if_neg hb, Int32.sub_eq_add_neg, Int32.sub_eq_add_neg, Int32.sub_eq_add_neg, Int32.neg_add, Int32.sub_eq_add_neg]
  ac_rfl
theorem goM {Mm0 : Mem} {many bar b : Nat} {T : Nat → Tk} (hb2 : b ≤ 2) (hm1 : Mm0 100 12 = nI many) (hm6 : many ≤ 6) (hT : ∀ d, d < many → ∀ N : Mem, KM6 Mm0 N → TkM N d (T d)) :
    ∀ m d fuel (N : Mem) (st : Nat → Int32) x n (f f0 t s : Int32), d + m = many → m < fuel → KM6 Mm0 N → (∀ e, e < 6 → (nI e = N 100 37 ↔ e = bar)) → (∀ j, j < 12 → N 104 j = st j) →
    ∃ N1 : Mem, f_X9_menus fuel (nI b) (nI d) (nI x) (wv b n f t) f f0 s N = some N1 ∧ MG Mm0 N N1 d b (lvs T bar m d st x n f f0 t s) := by
  intro m
  induction m with
  | zero =>
    intro d fuel N st x n f f0 t s hd hf kc hb hs
    obtain ⟨g, rfl⟩ : ∃ g, fuel = g + 1 := ⟨fuel - 1, by omega⟩
    show ∃ N1 : Mem, f_X9_menus_b (f_X9_menus g) (nI b) (nI d) (nI x) (wv b n f t) f f0 s N = some N1 ∧ _
    unfold f_X9_menus_b
    rw [kc.2 12 (by omega), hm1, if_pos (show nI d = nI many by rw [show d = many by omega])]
    have fin : ∀ v : Int32, v = vv b (x, n, f, f0, t, s) → ∃ N1 : Mem, f_X9_menus_b20 (f_X9_menus g) (nI x) f f0 s v N = some N1 ∧ MG Mm0 N N1 d b (lvs T bar 0 d st x n f f0 t s) := by
      intro v hv
      obtain ⟨N1, a1, a2, a3, a4⟩ := layM_eq (f_X9_menus g) N x n f f0 t s v hv
      exact ⟨N1, a1, ⟨fun q h1 h2 h3 => (a2 q h1).trans (kc.1 q h1 h2 h3), fun j hj => (a3 j (by omega)).trans (kc.2 j hj)⟩, a3 37 (by omega), fun j _ => by rw [a2 104 (by omega)], fun i _ => by rw [a2 110 (by omega)], a4⟩
    by_cases b1 : b = 1
    · rw [if_pos (show nI b = 1 by rw [b1]; rfl)]
      exact fin f (by unfold vv; rw [if_pos b1])
    · rw [if_neg (show ¬ nI b = 1 by rw [show (1 : Int32) = nI 1 from rfl, nIeq (by omega) (by omega)]; exact b1)]
      exact fin _ (by unfold vv; rw [if_neg b1])
  | succ m ih =>
    intro d fuel N st x n f f0 t s hd hf kc hb hs
    obtain ⟨g, rfl⟩ : ∃ g, fuel = g + 1 := ⟨fuel - 1, by omega⟩
    have hd6 : d < 6 := by omega
    show ∃ N1 : Mem, f_X9_menus_b (f_X9_menus g) (nI b) (nI d) (nI x) (wv b n f t) f f0 s N = some N1 ∧ _
    unfold f_X9_menus_b
    rw [kc.2 12 (by omega), hm1, if_neg (show ¬ nI d = nI many by rw [nIeq (by omega) (by omega)]; omega), nIp, show (10 : Int32) = nI 10 from rfl, pk_mul, Nat.mul_comm 10 x]
    obtain ⟨o2, c1, c2⟩ := ih (d + 1) g N st (x * 10) n f f0 t s (by omega) (by omega) kc hb hs
    rw [c1, Option.bind_some]
    have cg1 : MG Mm0 N o2 d b (lvs T bar m (d + 1) st (x * 10) n f f0 t s) := ⟨c2.1, c2.2.1, c2.2.2.1, fun i hi => c2.2.2.2.1 i (by omega), c2.2.2.2.2⟩
    have o3 : o2 100 37 = N 100 37 := cg1.2.1
    have r8 : ∀ j, j < 12 → o2 104 j = st j := fun j hj => (cg1.2.2.1 j hj).trans (hs j hj)
    obtain ⟨h, hh⟩ : ∃ h, FU = h + 1 + 1 + 1 := ⟨FU - 3, by have := FU_ge; omega⟩
    by_cases db : d = bar
    · rw [hh, f_X9_menus_l92, if_neg (show ¬ (2 : Int32) ≤ 0 by decide), if_pos (by rw [o3]; exact (hb d hd6).mpr db)]
      refine ⟨o2, rfl, ?_⟩
      unfold lvs
      rw [if_pos db, List.append_nil]
      exact cg1
    · have one : ∀ k, k < 2 → ∀ (g2 : Nat) (P : Mem), KM6 Mm0 P → P 100 37 = N 100 37 → (∀ j, j < 12 → P 104 j = st j) → ∃ N1 : Mem, f_X9_menus_l92 (f_X9_menus g) (g2 + 1) (nI b) (nI d) (nI x) (wv b n f t) f f0 s (nI k) P = f_X9_menus_l92 (f_X9_menus g) g2 (nI b) (nI d) (nI x) (wv b n f t) f f0 s (nI (k + 1)) N1 ∧ MG Mm0 P N1 d b (lvk (lvs T bar m) (T d) d st x n f f0 t s k) := by
        intro k hk g2 P kp p3 ps
        rw [f_X9_menus_l92, if_neg (show ¬ (2 : Int32) ≤ nI k from nI_ge (b := 2) hk (by omega)), if_neg (show ¬ nI d = P 100 37 by rw [p3]; exact fun h => db ((hb d hd6).mp h))]
        have tP := hT d (by omega) P kp
        obtain ⟨N1, y1, y2⟩ := isCookedM_eq hd6 hk tP
        rw [y1, Option.bind_some, kCk_cg hk ps]
        dsimp only
        unfold lvk
        cases hc : kCk (T d) k st with
        | false =>
          rw [if_pos (show zI false = 0 from rfl), if_neg (by decide)]
          unfold f_X9_menus_b289
          rw [nIp]
          exact ⟨N1, rfl, kp.sm y2, y2.2 37 (by omega), fun j _ => by rw [y2.1 104 (by omega)], fun i _ => by rw [y2.1 110 (by omega)], mst_sm (fun j _ _ => y2.2 j (by omega))⟩
        | true =>
          rw [if_neg (show ¬ zI true = 0 by decide), if_pos rfl]
          have t1 := tP.sm y2
          obtain ⟨N2, u1, u2⟩ := feedsOf_eq hd6 hk t1
          have t2 := t1.sm u2
          obtain ⟨N3, e1, e2⟩ := tollOf_eq hd6 hk t2
          have n2 : N2 104 = P 104 := by rw [u2.1 104 (by omega), y2.1 104 (by omega)]
          rw [u1, Option.bind_some]
          dsimp only
          rw [e1, Option.bind_some]
          dsimp only
          rw [n2, kToll_cg hk ps]
          obtain ⟨N4, l1, l2, l3, l4⟩ := asideM_l (f_X9_menus g) (f_X9_menus_b169 (f_X9_menus g) (f_X9_menus_l92 (f_X9_menus g) g2)) hd6 (nI b) (nI x) (wv b n f t) f f0 s (nI k) (kFed (T d) k) (kToll (T d) k st) 12 0 FU N3 (by omega) (by have := FU_ge; omega)
          rw [show (0 : Int32) = nI 0 from rfl, l1]
          have k3 : KM6 Mm0 N3 := ((kp.sm y2).sm u2).sm e2
          have k4 : KM6 Mm0 N4 := k3.on (Or.inr rfl) l2
          have n4 : N4 104 = P 104 := by rw [l2 104 (by omega), e2.1 104 (by omega), n2]
          obtain ⟨N5, v1, v2, v3⟩ := uses_eq hd6 hk (hT d (by omega) N4 k4)
          have k5 : KM6 Mm0 N5 := k4.on (Or.inl rfl) v3
          have n100 : ∀ j, 27 < j → N5 100 j = P 100 j := fun j hj => by rw [v3 100 (by omega), l2 100 (by omega), e2.2 j (by omega), u2.2 j (by omega), y2.2 j (by omega)]
          unfold f_X9_menus_b169
          rw [v1, Option.bind_some, nIp]
          have hdig : nI 10 * nI x + nI k + 1 = nI (x * 10 + k + 1) := by rw [pk_mul, nI_add, nIp, Nat.mul_comm]
          rw [show (10 : Int32) = nI 10 from rfl, hdig]
          have hw : (if nI b = 2 then f_X9_menus_b215 (f_X9_menus g) (f_X9_menus_l92 (f_X9_menus g) g2) (nI b) (nI d) (nI x) (wv b n f t) f f0 s (nI k) (kFed (T d) k) (nI b) (nI (d + 1)) (nI (x * 10 + k + 1)) ((wv b n f t + 10000) - kToll (T d) k st) N5 else f_X9_menus_b215 (f_X9_menus g) (f_X9_menus_l92 (f_X9_menus g) g2) (nI b) (nI d) (nI x) (wv b n f t) f f0 s (nI k) (kFed (T d) k) (nI b) (nI (d + 1)) (nI (x * 10 + k + 1)) ((wv b n f t + kFed (T d) k) - kToll (T d) k st) N5) = f_X9_menus_b215 (f_X9_menus g) (f_X9_menus_l92 (f_X9_menus g) g2) (nI b) (nI d) (nI x) (wv b n f t) f f0 s (nI k) (kFed (T d) k) (nI b) (nI (d + 1)) (nI (x * 10 + k + 1)) (wv b (n + 1) (f + kFed (T d) k) (t + kToll (T d) k st)) N5 := by
            by_cases b2 : b = 2
            · rw [if_pos (show nI b = 2 by rw [b2]; rfl), b2, wv_2 n f (f + kFed (T d) k)]
            · rw [if_neg (show ¬ nI b = 2 by rw [show (2 : Int32) = nI 2 from rfl, nIeq (by omega) (by omega)]; exact b2), wv_o b2 n (n + 1)]
          rw [hw]
          have h3 : f_X9_menus_b215 (f_X9_menus g) (f_X9_menus_l92 (f_X9_menus g) g2) (nI b) (nI d) (nI x) (wv b n f t) f f0 s (nI k) (kFed (T d) k) (nI b) (nI (d + 1)) (nI (x * 10 + k + 1)) (wv b (n + 1) (f + kFed (T d) k) (t + kToll (T d) k st)) N5 = f_X9_menus_b251 (f_X9_menus g) (f_X9_menus_l92 (f_X9_menus g) g2) (nI b) (nI d) (nI x) (wv b n f t) f f0 s (nI k) (nI b) (nI (d + 1)) (nI (x * 10 + k + 1)) (wv b (n + 1) (f + kFed (T d) k) (t + kToll (T d) k st)) (f + kFed (T d) k) (if k = 0 then f0 + kFed (T d) k else f0) (if k = 0 then s + 1 else s - 1) N5 := by
            unfold f_X9_menus_b215 f_X9_menus_b235
            by_cases k0 : k = 0
            · subst k0; rfl
            · rw [if_neg (nI_ne0 (by omega) (by omega)), if_neg (nI_ne0 (by omega) (by omega)), if_neg k0, if_neg k0]
          rw [h3]
          unfold f_X9_menus_b251
          obtain ⟨N6, w1, w2⟩ := ih (d + 1) g N5 (kUse (T d) k st) (x * 10 + k + 1) (n + 1) (f + kFed (T d) k) (if k = 0 then f0 + kFed (T d) k else f0) (t + kToll (T d) k st) (if k = 0 then s + 1 else s - 1) (by omega) (by omega) k5 (fun e he => by rw [n100 37 (by omega), p3]; exact hb e he) (fun j hj => by rw [v2 j hj, n4]; exact kUse_cg hk ps j hj)
          rw [w1, Option.bind_some]
          obtain ⟨N7, z1, z2, z3, z4⟩ := backM_l (f_X9_menus g) (f_X9_menus_b289 (f_X9_menus g) (f_X9_menus_l92 (f_X9_menus g) g2)) hd6 (nI b) (nI x) (wv b n f t) f f0 s (nI k) 12 0 FU N6 (by omega) (by have := FU_ge; omega)
          rw [show (0 : Int32) = nI 0 from rfl, z1]
          unfold f_X9_menus_b289
          rw [nIp]
          refine ⟨N7, rfl, w2.1.on (Or.inl rfl) z2, ?_, fun j hj => ?_, fun i hi => ?_, ?_⟩
          · rw [z2 100 (by omega), w2.2.1, n100 37 (by omega)]
          · rw [z3 j (by omega) hj, w2.2.2.2.1 _ (by omega), v3 110 (by omega), l3 j (by omega) hj, e2.1 104 (by omega), n2]
          · rw [z2 110 (by omega), w2.2.2.2.1 i (by omega), v3 110 (by omega), l4 i (by omega), e2.1 110 (by omega), u2.1 110 (by omega), y2.1 110 (by omega)]
          · rw [mst_sm (N := N6) (fun j _ _ => by rw [z2 100 (by omega)]), w2.2.2.2.2, mst_sm (N := P) (fun j h1 _ => n100 j (by omega))]
      obtain ⟨P1, p1, p2⟩ := one 0 (by omega) (h + 1 + 1) o2 cg1.1 o3 r8
      obtain ⟨P2, s1, s2⟩ := one 1 (by omega) (h + 1) P1 p2.1 (p2.2.1.trans o3) (fun j hj => (p2.2.2.1 j hj).trans (r8 j hj))
      rw [hh, show (0 : Int32) = nI 0 from rfl, p1, s1, f_X9_menus_l92, if_pos (show (2 : Int32) ≤ nI (1 + 1) by decide)]
      refine ⟨P2, rfl, ?_⟩
      unfold lvs
      rw [if_neg db]
      exact cg1.tr (p2.tr s2)
