/-! COPY -/
def cpos (bk : Bool) (n t : Nat) : Nat := if bk = true then n - 1 - t else t
theorem copyM_l {s1 s3 a b n : Nat} {bk : Bool} (h1 : s1 < 4) (h3 : s3 < 4) (ha : a + n ≤ 40) (hb : b + n ≤ 40) (M0 : Mem) (hc : ∀ u t, u < t → t < n → 40 * s1 + a + cpos bk n t ≠ 40 * s3 + b + cpos bk n u) : ∀ m t fuel (M : Mem), t + m = n → m < fuel → (∀ q, q ≠ 117 → M q = M0 q) → (∀ u, u < t → M 117 (40 * s3 + b + cpos bk n u) = M0 117 (40 * s1 + a + cpos bk n u)) → (∀ p, (∀ u, u < t → p ≠ 40 * s3 + b + cpos bk n u) → M 117 p = M0 117 p) →
    ∃ M1 : Mem, f_X9_copy_l121 fuel (nI s1) (nI a) (nI s3) (nI b) (nI n) (zI bk) (nI t) M = some (nI n, M1) ∧ (∀ q, q ≠ 117 → M1 q = M0 q) ∧ (∀ u, u < n → M1 117 (40 * s3 + b + cpos bk n u) = M0 117 (40 * s1 + a + cpos bk n u)) ∧ (∀ p, (∀ u, u < n → p ≠ 40 * s3 + b + cpos bk n u) → M1 117 p = M0 117 p) := by
  intro m
  induction m with
  | zero =>
    intro t fuel M hi hf i1 i2 i3
    obtain ⟨f, rfl⟩ : ∃ f, fuel = f + 1 := ⟨fuel - 1, by omega⟩
    have : t = n := by omega
    subst this
    rw [f_X9_copy_l121, if_pos (nI_le (Nat.le_refl _) (by omega))]
    exact ⟨M, rfl, i1, i2, i3⟩
  | succ m ih =>
    intro t fuel M hi hf i1 i2 i3
    obtain ⟨f, rfl⟩ : ∃ f, fuel = f + 1 := ⟨fuel - 1, by omega⟩
    have hp : cpos bk n t < n := by unfold cpos; split <;> omega
    have st : f_X9_copy_b145 (f_X9_copy_l121 f) (nI s1) (nI a) (nI s3) (nI b) (nI n) (zI bk) (nI t) (nI (cpos bk n t)) M = f_X9_copy_l121 f (nI s1) (nI a) (nI s3) (nI b) (nI n) (zI bk) (nI (t + 1)) (mu M 117 (40 * s3 + b + cpos bk n t) (M 117 (40 * s1 + a + cpos bk n t))) := by
      unfold f_X9_copy_b145
      rw [show (40 : Int32) = nI 40 from rfl, pk_mul, pk_mul, nI_add, nI_add, nI_add, nI_add, inb_nI (show 40 * s1 + a + cpos bk n t < 160 by omega) (by omega), inb_nI (show 40 * s3 + b + cpos bk n t < 160 by omega) (by omega), nI_clamp (show 40 * s1 + a + cpos bk n t < 2 ^ 31 by omega), nI_clamp (show 40 * s3 + b + cpos bk n t < 2 ^ 31 by omega), nIp]
      rfl
    have go : f_X9_copy_l121 (f + 1) (nI s1) (nI a) (nI s3) (nI b) (nI n) (zI bk) (nI t) M = f_X9_copy_b145 (f_X9_copy_l121 f) (nI s1) (nI a) (nI s3) (nI b) (nI n) (zI bk) (nI t) (nI (cpos bk n t)) M := by
      rw [f_X9_copy_l121, if_neg (nI_ge (by omega) (by omega))]
      cases bk with
      | false => rw [if_pos (show zI false = 0 from rfl)]; rfl
      | true =>
        rw [if_neg (show ¬ zI true = 0 by decide), nIm (by omega), pk_sub (by omega)]; rfl
    rw [go, st]
    have rd : M 117 (40 * s1 + a + cpos bk n t) = M0 117 (40 * s1 + a + cpos bk n t) := i3 _ (fun u hu => hc u t hu (by omega))
    have inj : ∀ u, u < t → cpos bk n u ≠ cpos bk n t := fun u hu => by unfold cpos; split <;> omega
    refine ih (t + 1) f _ (by omega) (by omega) (fun q hq => (mun hq).trans (i1 q hq)) (fun u hu => ?_) (fun p hp2 => ?_)
    · by_cases e : u = t
      · rw [e, mu_at, rd]
      · rw [mu_o (by have := inj u (by omega); omega)]; exact i2 u (by omega)
    · rw [mu_o (hp2 t (by omega))]
      exact i3 p (fun u hu => hp2 u (by omega))
