/-! WHAT BOTH HOLD ALIKE -/
def B99 (x : Int32) (n : Nat) : Prop := ∃ k, k ≤ n ∧ x = nI k
def Hs (S P K N D C S2 P2 K2 R2 : Nat → Int32) (many : Nat) : Prop :=
  (∀ j, j < 12 → S2 j = S j ∧ B99 (S j) 99) ∧ (∀ j, j < 2 → P2 j = P j ∧ B99 (P j) 99) ∧ ∀ d, d < many → (K2 d = K d ∧ B99 (K d) 5) ∧ (R2 (3 * d) = N d ∧ B99 (N d) 9) ∧ (R2 (3 * d + 1) = D d ∧ B99 (D d) 999999) ∧ (R2 (3 * d + 2) = C d ∧ B99 (C d) 999)
def HsN (m h r m2 h2 r2 : Int32) (many txt : Nat) : Prop :=
  m = nI many ∧ m2 = nI many ∧ many ≤ 6 ∧ (h2 = h ∧ B99 h 999) ∧ (r2 = r ∧ ∃ x, x < txt ∧ r = nI x)
def HouseI (Mc Mm : Mem) (many txt : Nat) : Prop := Hs (Mc 2) (Mc 3) (Mc 4) (Mc 5) (Mc 6) (Mc 7) (Mm 104) (Mm 105) (Mm 106) (Mm 107) many ∧ HsN (Mc 1 6) (Mc 1 7) (Mc 1 8) (Mm 100 12) (Mm 100 7) (Mm 100 4) many txt
def KeptI (Mc Mm : Mem) (many txt : Nat) : Prop := Hs (Mc 9) (Mc 10) (Mc 11) (Mc 12) (Mc 13) (Mc 14) (Mm 111) (Mm 112) (Mm 106) (Mm 113) many ∧ HsN (Mc 8 6) (Mc 8 7) (Mc 8 8) (Mm 100 42) (Mm 100 43) (Mm 100 44) many txt
def ImageI (Mc Mm : Mem) (many txt : Nat) : Prop := (Mc 0 2 = 0 ∧ Mm 100 42 = -1) ∨ (Mc 0 2 = 1 ∧ ∃ k, k ≤ many ∧ KeptI Mc Mm k txt)
def TextI (Mc Mm : Mem) (txt : Nat) : Prop := txt ≤ 6 ∧ Mc 0 4 = nI txt ∧ Mm 100 3 = nI txt ∧ ∀ r, r < txt → WfT (Mc (16 + 3 * r + 2)) ∧ TxM Mm r (evC Mc r)
def TapeI (Mc Mm : Mem) : Prop := ∃ n B, n ≤ 160 ∧ (∀ j, j < n → B j < 256) ∧ BC Mc n B ∧ Mm 100 6 = nI n ∧ ∀ j, j < n → Mm 103 j = nI (B j)
def ShI (Mc Mm : Mem) (s : Nat) : Prop := (Mc (55 + 2 * s) 0 = -1 ∧ Mm 114 s = 0) ∨ ∃ so z, so < 3 ∧ z ≤ 40 ∧ Mc (55 + 2 * s) 0 = nI so ∧ Mm 115 s = nI so ∧ Mc (55 + 2 * s) 1 = nI z ∧ Mm 116 s = nI z ∧ Mm 114 s = 1 ∧ ∀ i, i < z → Mc (56 + 2 * s) i = Mm 117 (40 * s + i)
def Inv (Mc Mm : Mem) : Prop := ∃ many txt, HouseI Mc Mm many txt ∧ ImageI Mc Mm many txt ∧ TextI Mc Mm txt ∧ TapeI Mc Mm ∧ ∀ s, s < 4 → ShI Mc Mm s
/-- the class has changed nothing but its working places -/
def KC (M M1 : Mem) : Prop := ∀ q, (q < 36 ∨ 53 < q) → M1 q = M q
/-- the reference has changed nothing but its working places -/
def KM (M M1 : Mem) : Prop := (∀ q, q ≠ 100 → q ≠ 104 → q ≠ 108 → q ≠ 109 → q ≠ 110 → M1 q = M q) ∧ (∀ j, j < 12 → M1 104 j = M 104 j) ∧ ∀ j, (j < 13 ∨ 37 < j) → M1 100 j = M 100 j
theorem KC.refl (M : Mem) : KC M M := fun _ _ => rfl
theorem KM.refl (M : Mem) : KM M M := ⟨fun _ _ _ _ _ _ => rfl, fun _ _ => rfl, fun _ _ => rfl⟩
theorem KC.tr {a b c : Mem} (h : KC a b) (k : KC b c) : KC a c := fun q x => (k q x).trans (h q x)
theorem KM.tr {a b c : Mem} (h : KM a b) (k : KM b c) : KM a c := ⟨fun q x y z u v => (k.1 q x y z u v).trans (h.1 q x y z u v), fun j x => (k.2.1 j x).trans (h.2.1 j x), fun j x => (k.2.2 j x).trans (h.2.2 j x)⟩
theorem Sm.kc {a b : Mem} (h : Sm a b) : KC a b := fun q x => h q (by omega)
theorem SmM.km {a b : Mem} (h : SmM a b) : KM a b := ⟨fun q x _ _ _ _ => h.1 q x, fun j _ => by rw [h.1 104 (by omega)], fun j x => h.2 j (by omega)⟩
theorem Hs.cg {S P K N D C S2 P2 K2 R2 S2' : Nat → Int32} {many : Nat} (h : Hs S P K N D C S2 P2 K2 R2 many) (h1 : ∀ j, j < 12 → S2' j = S2 j) : Hs S P K N D C S2' P2 K2 R2 many :=
  ⟨fun j hj => ⟨(h1 j hj).trans (h.1 j hj).1, (h.1 j hj).2⟩, h.2⟩
theorem TextI.cg {Mc Mm Mc1 Mm1 : Mem} {txt : Nat} (h : TextI Mc Mm txt) (h1 : ∀ q, q ≤ 33 → q = 0 ∨ 16 ≤ q → Mc1 q = Mc q) (h2 : Mm1 101 = Mm 101) (h3 : Mm1 102 = Mm 102) (h4 : Mm1 100 3 = Mm 100 3) : TextI Mc1 Mm1 txt := by
  obtain ⟨a, b, c, d⟩ := h
  refine ⟨a, by rw [h1 0 (by omega) (by omega)]; exact b, h4.trans c, fun r hr => ?_⟩
  obtain ⟨e, f⟩ := d r hr
  refine ⟨by rw [h1 _ (by omega) (by omega)]; exact e, ?_⟩
  have : evC Mc1 r = evC Mc r := by unfold evC; rw [h1 (16 + 3 * r + 1) (by omega) (by omega), h1 (16 + 3 * r + 2) (by omega) (by omega)]
  rw [this]
  exact f.keep (fun j _ => by rw [h2]) (by rw [h3])
theorem Inv.sc {Mc Mm Mc1 Mm1 : Mem} (h : Inv Mc Mm) (kc : KC Mc Mc1) (km : KM Mm Mm1) : Inv Mc1 Mm1 := by
  obtain ⟨many, txt, a, b, c, d, e⟩ := h
  refine ⟨many, txt, ?_, ?_, ?_, ?_, ?_⟩
  · unfold HouseI
    rw [kc 1 (by omega), kc 2 (by omega), kc 3 (by omega), kc 4 (by omega), kc 5 (by omega), kc 6 (by omega), kc 7 (by omega), km.1 105 (by omega) (by omega) (by omega) (by omega) (by omega), km.1 106 (by omega) (by omega) (by omega) (by omega) (by omega), km.1 107 (by omega) (by omega) (by omega) (by omega) (by omega), km.2.2 12 (by omega), km.2.2 7 (by omega), km.2.2 4 (by omega)]
    exact ⟨a.1.cg km.2.1, a.2⟩
  · unfold ImageI KeptI
    rw [kc 0 (by omega), kc 8 (by omega), kc 9 (by omega), kc 10 (by omega), kc 11 (by omega), kc 12 (by omega), kc 13 (by omega), kc 14 (by omega), km.1 111 (by omega) (by omega) (by omega) (by omega) (by omega), km.1 112 (by omega) (by omega) (by omega) (by omega) (by omega), km.1 106 (by omega) (by omega) (by omega) (by omega) (by omega), km.1 113 (by omega) (by omega) (by omega) (by omega) (by omega), km.2.2 42 (by omega), km.2.2 43 (by omega), km.2.2 44 (by omega)]
    exact b
  · exact c.cg (fun q h1 _ => kc q (by omega)) (km.1 101 (by omega) (by omega) (by omega) (by omega) (by omega)) (km.1 102 (by omega) (by omega) (by omega) (by omega) (by omega)) (km.2.2 3 (by omega))
  · obtain ⟨n, B, d1, d2, d3, d4, d5⟩ := d
    refine ⟨n, B, d1, d2, ⟨?_, fun j hj => ?_⟩, ?_, fun j hj => ?_⟩
    · rw [kc 34 (by omega)]; exact d3.1
    · rw [kc 35 (by omega)]; exact d3.2 j hj
    · rw [km.2.2 6 (by omega)]; exact d4
    · rw [km.1 103 (by omega) (by omega) (by omega) (by omega) (by omega)]; exact d5 j hj
  · intro s hs
    have := e s hs
    unfold ShI at this ⊢
    rw [kc _ (by omega), kc _ (by omega), km.1 114 (by omega) (by omega) (by omega) (by omega) (by omega), km.1 115 (by omega) (by omega) (by omega) (by omega) (by omega), km.1 116 (by omega) (by omega) (by omega) (by omega) (by omega), km.1 117 (by omega) (by omega) (by omega) (by omega) (by omega)]
    exact this
/-! RANGES -/
def inR (v : Int32) (n : Nat) : Bool := decide (0 ≤ v.toInt ∧ v.toInt < n)
theorem inR_nI {d n : Nat} (h : d < n) (hn : n < 2 ^ 31) : inR (nI d) n = true := by
  unfold inR
  rw [i_nI (by omega)]
  exact decide_eq_true ⟨by omega, by omega⟩
theorem inR_of {v : Int32} {n : Nat} (h : inR v n = true) (hn : n < 2 ^ 31) : ∃ d, d < n ∧ v = nI d := by
  unfold inR at h
  have h := of_decide_eq_true h
  refine ⟨v.toInt.toNat, by omega, ?_⟩
  rw [i_eq, i_nI (by omega)]
  omega
theorem inC {v b : Int32} {n : Nat} (hb : b = nI n) (hn : n < 2 ^ 31) {α : Type} (x y : α) : (if v < 0 then x else (if b ≤ v then x else y)) = if inR v n = true then y else x := by
  subst hb
  unfold inR
  simp only [decide_eq_true_eq, i_lt, i_le, i_nI hn, show (0 : Int32).toInt = 0 from rfl]
  by_cases c : v.toInt < 0
  · rw [if_pos c, if_neg (by omega)]
  · rw [if_neg c]
    by_cases c2 : (n : Int) ≤ v.toInt
    · rw [if_pos c2, if_neg (by omega)]
    · rw [if_neg c2, if_pos (by omega)]
theorem inM {v b : Int32} {n : Nat} (hb : b.toInt = (n : Int) - 1) (M : Mem) : f_X9_in v.toInt64 0 b.toInt64 M = some (zI (inR v n), M) := by
  rw [show (0 : Int64) = (0 : Int32).toInt64 from rfl, in_eq]
  congr 2
  unfold inR
  simp only [i_lt, show (0 : Int32).toInt = 0 from rfl, hb]
  by_cases c : v.toInt < 0
  · rw [decide_eq_true c, decide_eq_false (show ¬ (0 ≤ v.toInt ∧ v.toInt < n) by omega)]; rfl
  · rw [decide_eq_false c]
    by_cases c2 : (n : Int) - 1 < v.toInt
    · rw [decide_eq_true c2, decide_eq_false (show ¬ (0 ≤ v.toInt ∧ v.toInt < n) by omega)]; rfl
    · rw [decide_eq_false c2, decide_eq_true (show (0 ≤ v.toInt ∧ v.toInt < n) by omega)]; rfl
theorem nI_prI {n : Nat} (hn : n ≤ 1000000) : (nI n - 1).toInt = (n : Int) - 1 := by
  cases n with
  | zero => decide
  | succ m => rw [nIm (by omega), i_nI (by omega)]; omega
theorem hasD {Mc : Mem} {many : Nat} (h : Mc 1 6 = nI many) (hm : many ≤ 6) (v : Int32) : f_X1_hasDish v Mc = some (zI (inR v many), Mc) := by
  unfold f_X1_hasDish
  rw [inC h (by omega)]
  cases inR v many <;> rfl
theorem isD {Mm : Mem} {many : Nat} (h : Mm 100 12 = nI many) (hm : many ≤ 6) (v : Int32) : f_X9_isDish v Mm = some (zI (inR v many), Mm) := by
  unfold f_X9_isDish
  rw [inM (n := many) (by rw [h]; exact nI_prI (by omega))]
  simp only [Option.bind_some, zI_zb, ck_true]
theorem hasK (v : Int32) (M : Mem) : f_X8_isKitchen v M = some (zI (inR v 2), M) := by
  unfold f_X8_isKitchen
  rw [inC (b := 2) (n := 2) rfl (by omega)]
  cases inR v 2 <;> rfl
theorem isK (v : Int32) (M : Mem) : f_X9_isKitchen v M = some (zI (inR v 2), M) := by
  unfold f_X9_isKitchen
  rw [show (1 : Int64) = (1 : Int32).toInt64 from rfl, inM (n := 2) (by decide)]
  simp only [Option.bind_some, zI_zb, ck_true]
theorem hasS (v : Int32) (M : Mem) : f_X8_isSheet v M = some (zI (inR v 4), M) := by
  unfold f_X8_isSheet
  rw [inC (b := 4) (n := 4) rfl (by omega)]
  cases inR v 4 <;> rfl
theorem isS (v : Int32) (M : Mem) : f_X9_isSheet v M = some (zI (inR v 4), M) := by
  unfold f_X9_isSheet
  rw [show (3 : Int64) = (3 : Int32).toInt64 from rfl, inM (n := 4) (by decide)]
  simp only [Option.bind_some, zI_zb, ck_true]
