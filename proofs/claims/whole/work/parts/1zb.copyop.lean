/-! COPY, both -/
theorem cpos_lt {bk : Bool} {n t : Nat} (h : t < n) : cpos bk n t < n := by unfold cpos; split <;> omega
theorem cpos_on {bk : Bool} {n u : Nat} (h : u < n) : ∃ t, t < n ∧ cpos bk n t = u := by
  cases bk with
  | false => exact ⟨u, h, rfl⟩
  | true => exact ⟨n - 1 - u, by omega, by unfold cpos; rw [if_pos rfl]; omega⟩
theorem copyFin {many txt s1 s3 a b n z1 z3 so : Nat} {bk : Bool} {Mc Mm N : Mem} (hN : InvN many txt Mc Mm) (h1 : s1 < 4) (h3 : s3 < 4) (hz1 : z1 ≤ 40) (hz3 : z3 ≤ 40) (ha : a + n ≤ z1) (hb : b + n ≤ z3) (hso : so < 3)
    (t3 : Mc (55 + 2 * s3) 0 = nI so) (t4 : Mm 115 s3 = nI so) (t5 : Mc (55 + 2 * s3) 1 = nI z3) (t6 : Mm 116 s3 = nI z3) (t7 : Mm 114 s3 = 1) (t8 : ∀ i, i < z3 → Mc (56 + 2 * s3) i = Mm 117 (40 * s3 + i)) (u8 : ∀ i, i < z1 → Mc (56 + 2 * s1) i = Mm 117 (40 * s1 + i))
    (e2 : ∀ q, q ≠ 117 → N q = Mm q) (e3 : ∀ u, u < n → N 117 (40 * s3 + b + cpos bk n u) = Mm 117 (40 * s1 + a + cpos bk n u)) (e4 : ∀ p, (∀ u, u < n → p ≠ 40 * s3 + b + cpos bk n u) → N 117 p = Mm 117 p) :
    InvN many txt (mcp Mc (55 + 2 * s1 + 1) a (55 + 2 * s3 + 1) b n) N := by
  refine hN.sheet (fun q hq => mcp_o (by omega)) (fun q hq => e2 q (by omega)) (fun s hs => ?_)
  by_cases es : s = s3
  · subst es
    refine Or.inr ⟨so, z3, hso, hz3, ?_, ?_, ?_, ?_, ?_, fun i hi => ?_⟩
    · rw [mcp_o (by omega)]; exact t3
    · rw [e2 115 (by omega)]; exact t4
    · rw [mcp_o (by omega)]; exact t5
    · rw [e2 116 (by omega)]; exact t6
    · rw [e2 114 (by omega)]; exact t7
    · rw [show 56 + 2 * s = 55 + 2 * s + 1 by omega]
      unfold mcp va_cpy
      rw [if_pos rfl]
      by_cases c : b ≤ i ∧ i < b + n
      · rw [if_pos c]
        obtain ⟨t, ht, et⟩ := cpos_on (bk := bk) (n := n) (u := i - b) (by omega)
        have := e3 t ht
        rw [et, show 40 * s + b + (i - b) = 40 * s + i by omega] at this
        rw [this, show 55 + 2 * s1 + 1 = 56 + 2 * s1 by omega, u8 _ (by omega), Nat.add_assoc]
      · rw [if_neg c, e4 _ (fun u hu => by have := cpos_lt (bk := bk) hu; omega), show 55 + 2 * s + 1 = 56 + 2 * s by omega]
        exact t8 i hi
  · have := hN.2.2.2.2 s hs
    unfold ShI at this ⊢
    rw [mcp_o (show 55 + 2 * s ≠ 55 + 2 * s3 + 1 by omega), mcp_o (show 56 + 2 * s ≠ 55 + 2 * s3 + 1 by omega), e2 114 (by omega), e2 115 (by omega), e2 116 (by omega)]
    rcases this with t | ⟨so2, z2, x1, x2, x3, x4, x5, x6, x7, x8⟩
    · exact Or.inl t
    · exact Or.inr ⟨so2, z2, x1, x2, x3, x4, x5, x6, x7, fun i hi => by rw [e4 _ (fun u hu => by have := cpos_lt (bk := bk) hu; omega)]; exact x8 i hi⟩
