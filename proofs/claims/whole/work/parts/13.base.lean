/-! PURE MATH: small rows -/
theorem ck_true {α : Type} {x : Option α} : ck true x = x := rfl
theorem mus {M : Mem} {p k : Nat} {v : Int32} : mu M p k v p = upd (M p) k v := if_pos rfl
theorem mun {M : Mem} {p q k : Nat} {v : Int32} (h : q ≠ p) : mu M p k v q = M q := if_neg h
theorem ups {f : Nat → Int32} {k : Nat} {v : Int32} : upd f k v k = v := if_pos rfl
theorem upn {f : Nat → Int32} {k j : Nat} {v : Int32} (h : j ≠ k) : upd f k v j = f j := if_neg h
theorem inb_nI {i n : Nat} (h : i < n) (hn : n < 2 ^ 31) : inb (nI i) n = true := by
  unfold inb
  rw [nI_clamp (by omega), decide_eq_true (nI_pos (by omega)), decide_eq_true h]
  rfl
theorem inb_of {i : Int32} {n : Nat} (h : inb i n = true) (hn : n < 2 ^ 31) : ∃ j : Nat, j < n ∧ i = nI j := by
  unfold inb at h
  have h2 := Bool.and_eq_true_iff.mp h
  have h3 := of_decide_eq_true h2.1
  have h4 := of_decide_eq_true h2.2
  obtain ⟨j, hj, rfl⟩ := nI_of h3
  rw [nI_clamp hj] at h4
  exact ⟨j, h4, rfl⟩
theorem lit_nI (n : Nat) : (OfNat.ofNat n : Int32) = nI n := rfl
theorem nI0 : (0 : Int32) = nI 0 := rfl
theorem nI1 : (1 : Int32) = nI 1 := rfl
theorem nIp (n : Nat) : nI n + 1 = nI (n + 1) := nI_1 n
theorem nIm {n : Nat} (h : 1 ≤ n) : nI n - 1 = nI (n - 1) := by
  have := pk_sub (a := n) (b := 1) h
  exact this
theorem nIm1 {n : Nat} (h : 1 ≤ n) : nI n + (-1) = nI (n - 1) := by
  obtain ⟨m, rfl⟩ : ∃ m, n = m + 1 := ⟨n - 1, by omega⟩
  exact pk_m1 m
theorem nIle {a b : Nat} (ha : a < 2 ^ 31) (hb : b < 2 ^ 31) : (nI a ≤ nI b) = (a ≤ b) := propext (nI_leI ha hb)
theorem nIlt {a b : Nat} (ha : a < 2 ^ 31) (hb : b < 2 ^ 31) : (nI a < nI b) = (a < b) := propext (nI_ltI ha hb)
theorem nIeq {a b : Nat} (ha : a < 2 ^ 31) (hb : b < 2 ^ 31) : (nI a = nI b) = (a = b) := propext (nI_eq ha hb)
/-! WHAT A TEXT'S CODES COME TO -/
def jn (c a b : Int32) : Int32 := if c = (-13) then a - b else if c = (-12) then a + b else if c = (-11) then (if a = b then 1 else 0) else if c = (-10) then (if b ≤ a then 0 else 1) else if c = (-9) then a * b else if c = (-8) then (if a = 0 then 0 else if b = 0 then 0 else 1) else if c = (-7) then (if a = 0 then (if b = 0 then 0 else 1) else 1) else a * b
theorem joined_eq (c a b : Int32) (M : Mem) : f_X7_joined c a b M = some (jn c a b, M) := by
  unfold f_X7_joined jn
  repeat (first | rfl | split)
/-- one code, over the numbers laid by (the last one first) -/
def evS (c : Int32) (env : Nat → Int32) (t : List Int32) : List Int32 :=
  if c < (-6) then
    if c = (-9) then (match t with | a :: t1 => (if a = 0 then 1 else 0) :: t1 | [] => [])
    else if c = (-15) then (match t with | a :: t1 => (-a) :: t1 | [] => [])
    else (match t with | b :: a :: t1 => jn c a b :: t1 | t0 => t0)
  else if c < 0 then env ((-1) - c).toNatClampNeg :: t
  else c :: t
def evR (cs : Nat → Int32) (env : Nat → Int32) : Nat → Nat → List Int32 → List Int32
  | 0, _, t => t
  | n + 1, i, t => evR cs env n (i + 1) (evS (cs i) env t)
theorem evS_len (c : Int32) (env : Nat → Int32) (t : List Int32) : (evS c env t).length ≤ t.length + 1 := by
  unfold evS
  split
  · split
    · split <;> simp
    · split
      · split <;> simp
      · split <;> simp <;> omega
  · split <;> simp
/-- the numbers that lie by in a row, the first at place 0 -/
def StkIs (f : Nat → Int32) (t : List Int32) : Prop := ∀ i, i < t.length → f i = t.reverse.getD i 0
theorem StkIs.nil (f : Nat → Int32) : StkIs f [] := fun i h => absurd h (Nat.not_lt_zero i)
theorem StkIs.push {f : Nat → Int32} {t : List Int32} {v : Int32} (h : StkIs f t) : StkIs (upd f t.length v) (v :: t) := by
  intro i hi
  simp only [List.length_cons] at hi
  rw [List.reverse_cons]
  by_cases e : i = t.length
  · subst e
    rw [ups]
    simp [List.getD_eq_getElem?_getD]
  · rw [upn e, h i (by omega)]
    simp only [List.getD_eq_getElem?_getD]
    rw [List.getElem?_append_left (by simp; omega)]
theorem StkIs.top {f : Nat → Int32} {t : List Int32} {a : Int32} (h : StkIs f (a :: t)) : f t.length = a := by
  have := h t.length (by simp)
  rw [this, List.reverse_cons]
  simp [List.getD_eq_getElem?_getD]
theorem StkIs.pop {f : Nat → Int32} {t : List Int32} {a : Int32} (h : StkIs f (a :: t)) : StkIs f t := by
  intro i hi
  have := h i (by simp; omega)
  rw [this, List.reverse_cons]
  simp only [List.getD_eq_getElem?_getD]
  rw [List.getElem?_append_left (by simp; omega)]
