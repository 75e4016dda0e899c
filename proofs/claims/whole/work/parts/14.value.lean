/-! a TEXT's codes worked off on the stack -/
def isTx (q : Nat) : Prop := ∃ t, t < 6 ∧ q = 16 + 3 * t
theorem tx_kd {q : Nat} (h : isTx q) : kd q = 6 ∧ kd (q + 1) = 30 ∧ kd (q + 2) = 30 ∧ ln (q + 1) = 160 ∧ ln (q + 2) = 3 ∧ 16 ≤ q ∧ q < 34 := by
  obtain ⟨t, ht, rfl⟩ := h
  have hd : ∀ t, t < 6 → kd (16 + 3 * t) = 6 ∧ kd (16 + 3 * t + 1) = 30 ∧ kd (16 + 3 * t + 2) = 30 ∧ ln (16 + 3 * t + 1) = 160 ∧ ln (16 + 3 * t + 2) = 3 := by decide +kernel
  obtain ⟨a, b, c, d, e⟩ := hd t ht
  exact ⟨a, b, c, d, e, by omega, by omega⟩
theorem negix {c : Int32} (h1 : ¬ c < (-6)) (h2 : c < 0) : ∃ j : Nat, j < 6 ∧ (-1) - c = nI j := by
  have a1 := Int32.not_lt.mp h1
  have a2 : (-6 : Int32).toInt ≤ c.toInt := Int32.le_iff_toInt_le.mp a1
  have a3 : c.toInt < (0 : Int32).toInt := Int32.lt_iff_toInt_lt.mp h2
  have e6 : (-6 : Int32).toInt = -6 := by decide
  have e0 : (0 : Int32).toInt = 0 := by decide
  rw [e6] at a2
  rw [e0] at a3
  have cs : c = -6 ∨ c = -5 ∨ c = -4 ∨ c = -3 ∨ c = -2 ∨ c = -1 := by
    have k : c.toInt = -6 ∨ c.toInt = -5 ∨ c.toInt = -4 ∨ c.toInt = -3 ∨ c.toInt = -2 ∨ c.toInt = -1 := by omega
    rcases k with k | k | k | k | k | k
    · exact Or.inl (Int32.toInt_inj.mp (k.trans (by decide)))
    · exact Or.inr (Or.inl (Int32.toInt_inj.mp (k.trans (by decide))))
    · exact Or.inr (Or.inr (Or.inl (Int32.toInt_inj.mp (k.trans (by decide)))))
    · exact Or.inr (Or.inr (Or.inr (Or.inl (Int32.toInt_inj.mp (k.trans (by decide))))))
    · exact Or.inr (Or.inr (Or.inr (Or.inr (Or.inl (Int32.toInt_inj.mp (k.trans (by decide)))))))
    · exact Or.inr (Or.inr (Or.inr (Or.inr (Or.inr (Int32.toInt_inj.mp (k.trans (by decide)))))))
  rcases cs with rfl | rfl | rfl | rfl | rfl | rfl
  · exact ⟨5, by omega, by decide⟩
  · exact ⟨4, by omega, by decide⟩
  · exact ⟨3, by omega, by decide⟩
  · exact ⟨2, by omega, by decide⟩
  · exact ⟨1, by omega, by decide⟩
  · exact ⟨0, by omega, by decide⟩
theorem value_l (k : Int32 → Mem → Option (Int32 × Mem)) {q sec e : Nat} (hq : isTx q) (hs : sec < 3) (he : e ≤ 160) :
    ∀ (n i fuel : Nat) (t : List Int32) (M : Mem), i + n = e → t.length + n ≤ 160 → n < fuel → M (q + 2) sec = nI e → StkIs (M 40) t →
    ∃ M1 : Mem, f_X7_value_l21 k fuel q (nI sec) (nI t.length) (nI i) M = k (nI (evR (M (q + 1)) (M 39) n i t).length) M1 ∧ StkIs (M1 40) (evR (M (q + 1)) (M 39) n i t) ∧ ∀ p, p ≠ 40 → M1 p = M p := by
  obtain ⟨k1, k2, k3, l1, l2, q1, q2⟩ := tx_kd hq
  have e1 : (kd q == 6) = true := by rw [k1]; rfl
  have e2 : (kd (q + 2) == 30) = true := by rw [k3]; rfl
  have e3 : (kd (q + 1) == 30) = true := by rw [k2]; rfl
  have e4 : inb (nI sec) (ln (q + 2)) = true := by rw [l2]; exact inb_nI hs (by omega)
  have n40a : q + 1 ≠ 40 := by omega
  have n40b : q + 2 ≠ 40 := by omega
  intro n
  induction n with
  | zero =>
    intro i fuel t M hi ht hf hE hS
    obtain ⟨f, rfl⟩ : ∃ f, fuel = f + 1 := ⟨fuel - 1, by omega⟩
    refine ⟨M, ?_, hS, fun _ _ => rfl⟩
    rw [f_X7_value_l21, e1, e2, e4]
    simp only [ck_true]
    rw [nI_clamp (by omega), hE, if_pos (nI_le (by omega) (by omega))]
    rfl
  | succ n ih =>
    intro i fuel t M hi ht hf hE hS
    obtain ⟨f, rfl⟩ : ∃ f, fuel = f + 1 := ⟨fuel - 1, by omega⟩
    have e5 : inb (nI i) (ln (q + 1)) = true := by rw [l1]; exact inb_nI (by omega) (by omega)
    have hlt : ¬ nI e ≤ nI i := by rw [nIle (by omega) (by omega)]; omega
    have tl : t.length < 160 := by omega
    -- going on with another stack
    have go : ∀ (t1 : List Int32) (M2 : Mem), t1.length ≤ t.length + 1 → StkIs (M2 40) t1 → (∀ p, p ≠ 40 → M2 p = M p) → evS (M (q + 1) i) (M 39) t = t1 →
        ∃ M1 : Mem, f_X7_value_l21 k f q (nI sec) (nI t1.length) (nI i + 1) M2 = k (nI (evR (M (q + 1)) (M 39) (n + 1) i t).length) M1 ∧ StkIs (M1 40) (evR (M (q + 1)) (M 39) (n + 1) i t) ∧ ∀ p, p ≠ 40 → M1 p = M p := by
      intro t1 M2 h1 h2 h3 h4
      obtain ⟨M1, g1, g2, g3⟩ := ih (i + 1) f t1 M2 (by omega) (by omega) (by omega) (by rw [h3 _ n40b]; exact hE) h2
      rw [h3 _ n40a, h3 39 (by omega)] at g1 g2
      refine ⟨M1, ?_, ?_, fun p hp => (g3 p hp).trans (h3 p hp)⟩
      · rw [nIp, g1]
        show _ = k (nI (evR (M (q + 1)) (M 39) n (i + 1) (evS (M (q + 1) i) (M 39) t)).length) M1
        rw [h4]
      · show StkIs (M1 40) (evR (M (q + 1)) (M 39) n (i + 1) (evS (M (q + 1) i) (M 39) t))
        rw [h4]
        exact g2
    rw [f_X7_value_l21, e1, e2, e4]
    simp only [ck_true]
    rw [nI_clamp (show sec < 2 ^ 31 by omega), hE, if_neg hlt, e3, e5]
    simp only [ck_true]
    rw [nI_clamp (show i < 2 ^ 31 by omega)]
    generalize hc : M (q + 1) i = c at go ⊢
    have tail : ∀ (p : Nat), p ≠ 40 → ∀ (j : Nat) (v : Int32), mu M 40 j v p = M p := fun p hp j v => mun hp
    by_cases c6 : c < (-6)
    · rw [if_pos c6]
      have un : ∀ (hcc : c = (-9) ∨ c = (-15)), ∃ M1 : Mem, f_X7_value_b95 (f_X7_value_l21 k f) k q (nI sec) (nI t.length) (nI i) c M = k (nI (evR (M (q + 1)) (M 39) (n + 1) i t).length) M1 ∧ StkIs (M1 40) (evR (M (q + 1)) (M 39) (n + 1) i t) ∧ ∀ p, p ≠ 40 → M1 p = M p := by
        intro hcc
        unfold f_X7_value_b95
        cases t with
        | nil =>
          rw [if_pos (by decide)]
          unfold f_X7_value_b171
          refine go [] M (by simp) hS (fun _ _ => rfl) ?_
          unfold evS
          rcases hcc with rfl | rfl <;> rfl
        | cons a t1 =>
          simp only [List.length_cons] at tl ht go ⊢
          rw [if_neg (by rw [show (1 : Int32) = nI 1 from rfl, nIlt (by omega) (by omega)]; omega)]
          rw [nIm (by omega), Nat.add_sub_cancel]
          have e6 : inb (nI t1.length) 160 = true := inb_nI (by omega) (by omega)
          rw [e6]
          simp only [ck_true]
          rw [nI_clamp (by omega), hS.top]
          unfold f_X7_value_b137
          rw [e6]
          simp only [ck_true]
          unfold f_X7_value_b171
          rw [nI_clamp (by omega)]
          rcases hcc with rfl | rfl
          · rw [if_neg (by decide)]
            by_cases ha : a = 0
            · rw [if_pos ha]
              refine go (1 :: t1) (mu M 40 t1.length 1) (by simp) (by rw [mus]; exact hS.pop.push) (fun p hp => mun hp) ?_
              unfold evS
              rw [if_pos (by decide), if_pos rfl]
              simp [ha]
            · rw [if_neg ha]
              refine go (0 :: t1) (mu M 40 t1.length 0) (by simp) (by rw [mus]; exact hS.pop.push) (fun p hp => mun hp) ?_
              unfold evS
              rw [if_pos (by decide), if_pos rfl]
              simp [ha]
          · rw [if_pos rfl]
            refine go ((-a) :: t1) (mu M 40 t1.length (-a)) (by simp) (by rw [mus]; exact hS.pop.push) (fun p hp => mun hp) ?_
            unfold evS
            rw [if_pos (by decide), if_neg (by decide), if_pos rfl]
      by_cases c9 : c = (-9)
      · rw [if_pos c9]
        exact un (Or.inl c9)
      · rw [if_neg c9]
        by_cases c15 : c = (-15)
        · rw [if_pos c15]
          exact un (Or.inr c15)
        · rw [if_neg c15]
          have evj : ∀ (b a : Int32) (t1 : List Int32), evS c (M 39) (b :: a :: t1) = jn c a b :: t1 := by
            intro b a t1
            unfold evS
            rw [if_pos c6, if_neg c9, if_neg c15]
          match t, hS, tl, ht, go with
          | [], hS, tl, ht, go =>
            rw [if_pos (by decide)]
            unfold f_X7_value_b171
            refine go [] M (by simp) hS (fun _ _ => rfl) ?_
            unfold evS
            rw [if_pos c6, if_neg c9, if_neg c15]
          | [a], hS, tl, ht, go =>
            rw [if_pos (show nI [a].length < 2 by show nI 1 < 2; decide)]
            unfold f_X7_value_b171
            refine go [a] M (by simp) hS (fun _ _ => rfl) ?_
            unfold evS
            rw [if_pos c6, if_neg c9, if_neg c15]
          | b :: a :: t1, hS, tl, ht, go =>
            simp only [List.length_cons] at tl ht go ⊢
            rw [if_neg (by rw [show (2 : Int32) = nI 2 from rfl, nIlt (by omega) (by omega)]; omega)]
            rw [nIm1 (by omega), Nat.add_sub_cancel, nIm (by omega), Nat.add_sub_cancel]
            rw [inb_nI (show t1.length < 160 by omega) (by omega), inb_nI (show t1.length + 1 < 160 by omega) (by omega)]
            simp only [ck_true]
            rw [nI_clamp (by omega), nI_clamp (by omega), joined_eq]
            simp only [Option.bind_some]
            unfold f_X7_value_b171
            have hb : M 40 (t1.length + 1) = b := by have := hS.top; simpa using this
            have ha : M 40 t1.length = a := hS.pop.top
            rw [hb, ha]
            exact go (jn c a b :: t1) (mu M 40 t1.length (jn c a b)) (by simp) (by rw [mus]; exact hS.pop.pop.push) (fun p hp => mun hp) (evj b a t1)
    · rw [if_neg c6]
      rw [if_neg (by rw [show (160 : Int32) = nI 160 from rfl, nIle (by omega) (by omega)]; omega)]
      have pu : ∀ v : Int32, evS c (M 39) t = v :: t → ∃ M1 : Mem, f_X7_value_b74 (f_X7_value_l21 k f) k q (nI sec) (nI t.length) (nI i) (nI t.length) v M = k (nI (evR (M (q + 1)) (M 39) (n + 1) i t).length) M1 ∧ StkIs (M1 40) (evR (M (q + 1)) (M 39) (n + 1) i t) ∧ ∀ p, p ≠ 40 → M1 p = M p := by
        intro v hv
        unfold f_X7_value_b74
        rw [inb_nI (show t.length < 160 by omega) (by omega)]
        simp only [ck_true]
        unfold f_X7_value_b171
        rw [nIp, nI_clamp (by omega)]
        exact go (v :: t) (mu M 40 t.length v) (by simp) (by rw [mus]; exact hS.push) (fun p hp => mun hp) hv
      by_cases c0 : c < 0
      · rw [if_pos c0]
        obtain ⟨j, hj, ej⟩ := negix c6 c0
        rw [ej, inb_nI hj (by omega)]
        simp only [ck_true]
        refine pu _ ?_
        unfold evS
        rw [if_neg c6, if_pos c0, ej]
      · rw [if_neg c0]
        refine pu _ ?_
        unfold evS
        rw [if_neg c6, if_neg c0]
/-- where section sec begins -/
def secB (ends : Nat → Int32) (sec : Nat) : Nat := if sec = 0 then 0 else (ends (sec - 1)).toNatClampNeg
def secE (ends : Nat → Int32) (sec : Nat) : Nat := (ends sec).toNatClampNeg
/-- what a section of a text tells -/
def evT (cs ends env : Nat → Int32) (sec : Nat) : Int32 := (evR cs env (secE ends sec - secB ends sec) (secB ends sec) []).headD 0
/-- the ends of the sections stand in order -/
def WfT (ends : Nat → Int32) : Prop := ∀ sec, sec < 3 → secB ends sec ≤ secE ends sec ∧ secE ends sec ≤ 160 ∧ ends sec = nI (secE ends sec)
theorem value_eq {q sec : Nat} (hq : isTx q) (hs : sec < 3) (M : Mem) (hw : WfT (M (q + 2))) :
    ∃ M1 : Mem, f_X7_value q (nI sec) M = some (evT (M (q + 1)) (M (q + 2)) (M 39) sec, M1) ∧ ∀ p, p ≠ 40 → M1 p = M p := by
  obtain ⟨h1, h2, h3⟩ := hw sec hs
  have hb : f_X7_value q (nI sec) M = f_X7_value_b19 q (nI sec) 0 (nI (secB (M (q + 2)) sec)) M := by
    obtain ⟨k1, k2, k3, l1, l2, q1, q2⟩ := tx_kd hq
    unfold f_X7_value
    by_cases s0 : sec = 0
    · subst s0
      rw [if_pos (id rfl : nI 0 = 0)]
      rfl
    · rw [if_neg (by rw [show (0 : Int32) = nI 0 from rfl, nIeq (by omega) (by omega)]; exact s0)]
      rw [show (kd q == 6) = true by rw [k1]; rfl, show (kd (q + 2) == 30) = true by rw [k3]; rfl, nIm (by omega), l2, inb_nI (show sec - 1 < 3 by omega) (by omega)]
      simp only [ck_true]
      rw [nI_clamp (by omega)]
      have := (hw (sec - 1) (by omega)).2.2
      rw [this]
      unfold secB
      rw [if_neg s0, this]
      rw [nI_clamp (by have := (hw (sec - 1) (by omega)).2.1; omega)]
  rw [hb]
  unfold f_X7_value_b19
  obtain ⟨M1, g1, g2, g3⟩ := value_l f_X7_value_b177 hq hs h2 (secE (M (q + 2)) sec - secB (M (q + 2)) sec) (secB (M (q + 2)) sec) FU [] M (by omega) (by simp; omega) (by unfold FU; omega) h3 (StkIs.nil _)
  refine ⟨M1, ?_, g3⟩
  have e0 : (0 : Int32) = nI ([] : List Int32).length := rfl
  rw [e0, g1]
  unfold evT f_X7_value_b177
  generalize hR : evR (M (q + 1)) (M 39) (secE (M (q + 2)) sec - secB (M (q + 2)) sec) (secB (M (q + 2)) sec) [] = r at g2
  cases r with
  | nil => rfl
  | cons a t =>
    have hl : (a :: t).length ≤ 160 := by
      have bound : ∀ (n i : Nat) (t : List Int32), (evR (M (q + 1)) (M 39) n i t).length ≤ t.length + n := by
        intro n
        induction n with
        | zero => intro i t; exact Nat.le_refl _
        | succ n ih =>
          intro i t
          have a1 := ih (i + 1) (evS (M (q + 1) i) (M 39) t)
          have a2 := evS_len (M (q + 1) i) (M 39) t
          show (evR (M (q + 1)) (M 39) n (i + 1) (evS (M (q + 1) i) (M 39) t)).length ≤ _
          omega
      have := bound (secE (M (q + 2)) sec - secB (M (q + 2)) sec) (secB (M (q + 2)) sec) []
      rw [hR] at this
      simp at this
      simp
      omega
    simp only [List.length_cons] at hl ⊢
    rw [if_neg (nI_nle (by omega) (by omega))]
    rw [nIm (by omega), Nat.add_sub_cancel, inb_nI (show t.length < 160 by omega) (by omega)]
    simp only [ck_true]
    rw [nI_clamp (by omega), g2.top]
    rfl
