/-! COPY, the call -/
theorem subZ {z n : Nat} (hz : z ≤ 40) (hn : n < 2 ^ 31) : (nI z - nI n).toInt = (z : Int) - n := by
  rw [Int32.toInt_sub, i_nI (by omega), i_nI hn, Int.bmod_eq_of_le (by omega) (by omega)]
theorem copy_op {Mc Mm : Mem} (h : Inv Mc Mm) (v1 v2 v3 v4 v5 : Int32) : OpI (f_X8_copy v1 v2 v3 v4 v5) (f_X9_copy v1 v2 v3 v4 v5) Mc Mm := by
  obtain ⟨many, txt, hN⟩ := id h
  have hN : InvN many txt Mc Mm := hN
  unfold OpI f_X8_copy f_X9_copy
  rw [hasS, isS, Option.bind_some, Option.bind_some]
  dsimp only
  cases g1 : inR v1 4 with
  | false => rw [if_pos (show zI false = 0 from rfl), if_pos (show zI false = 0 from rfl)]; exact ⟨_, _, _, rfl, rfl, h⟩
  | true =>
    rw [if_neg (show ¬ zI true = 0 by decide), if_neg (show ¬ zI true = 0 by decide), hasS, isS, Option.bind_some, Option.bind_some]
    dsimp only
    cases g2 : inR v3 4 with
    | false => rw [if_pos (show zI false = 0 from rfl), if_pos (show zI false = 0 from rfl)]; exact ⟨_, _, _, rfl, rfl, h⟩
    | true =>
      rw [if_neg (show ¬ zI true = 0 by decide), if_neg (show ¬ zI true = 0 by decide)]
      obtain ⟨s1, h1, rfl⟩ := inR_of g1 (by omega)
      obtain ⟨s3, h3, rfl⟩ := inR_of g2 (by omega)
      obtain ⟨k1, k2, k3⟩ := sh_kd s1 h1
      obtain ⟨l1, l2, l3⟩ := sh_kd s3 h3
      rw [inb_nI h1 (by omega), inb_nI h3 (by omega), nI_clamp (show s1 < 2 ^ 31 by omega), nI_clamp (show s3 < 2 ^ 31 by omega), k1, l1, k2, l2, k3, l3, show ((5 : Nat) == 5) = true from rfl, show ((10 : Nat) == 10) = true from rfl]
      repeat rw [ck_true]
      rcases hN.2.2.2.2 s1 h1 with ⟨t1, t2⟩ | ⟨so1, z1, p1, p2, p3, p4, p5, p6, p7, p8⟩
      · rw [(miss_eq h1).1 t1, if_pos t2, Option.bind_some, ck_true, if_neg (show ¬ (1 : Int32) = 0 by decide)]
        exact ⟨_, _, _, rfl, rfl, h⟩
      have n1 : ¬ Mm 114 s1 = 0 := by rw [p7]; decide
      rw [(miss_eq h1).2 (by rw [p3]; exact nI_n1 (by omega)), if_neg n1, Option.bind_some]
      dsimp only
      rw [ck_true, if_pos rfl]
      rcases hN.2.2.2.2 s3 h3 with ⟨t1, t2⟩ | ⟨so3, z3, q1, q2, q3, q4, q5, q6, q7, q8⟩
      · rw [(miss_eq h3).1 t1, if_pos t2, Option.bind_some]
        repeat rw [ck_true]
        rw [if_neg (show ¬ (1 : Int32) = 0 by decide)]
        exact ⟨_, _, _, rfl, rfl, h⟩
      have n3 : ¬ Mm 114 s3 = 0 := by rw [q7]; decide
      rw [(miss_eq h3).2 (by rw [q3]; exact nI_n1 (by omega)), if_neg n3, Option.bind_some]
      dsimp only
      repeat rw [ck_true]
      rw [if_pos rfl]
      by_cases cs : so1 = so3
      · subst cs
        rw [if_pos (show Mc (55 + 2 * s1) 0 = Mc (55 + 2 * s3) 0 by rw [p3, q3]), if_pos (show Mm 115 s1 = Mm 115 s3 by rw [p4, q4])]
        by_cases c5 : v5 < 0
        · rw [if_pos c5]
          have e : f_X6_hasRun (55 + 2 * s1) v2 v5 Mc = some (0, Mc) := by
            unfold f_X6_hasRun
            rw [if_pos c5]
            split <;> rfl
          rw [e, Option.bind_some]
          dsimp only
          rw [if_pos rfl]
          exact ⟨_, _, _, rfl, rfl, h⟩
        rw [if_neg c5]
        obtain ⟨n, hn, rfl⟩ := nI_of c5
        rw [hasRun_eq h1 p2 (by omega) p5, Option.bind_some]
        dsimp only
        have e0 : (0 : Int32).toInt = 0 := rfl
        have sz1 := subZ p2 hn
        have sz3 := subZ q2 hn
        cases r1 : hr v2 n z1 with
        | false =>
          rw [if_pos (show zI false = 0 from rfl)]
          refine ⟨-12, Mc, Mm, rfl, ?_, h⟩
          unfold hr at r1
          have r1 := of_decide_eq_false r1
          by_cases a0 : v2 < 0
          · rw [if_pos a0]
          · rw [if_neg a0]
            by_cases b0 : v4 < 0
            · rw [if_pos b0]
            · rw [if_neg b0, if_pos]
              rw [i_lt, e0] at a0
              rw [p6, i_lt, sz1]
              omega
        | true =>
          rw [if_neg (show ¬ zI true = 0 by decide), hasRun_eq h3 q2 (by omega) q5, Option.bind_some]
          dsimp only
          unfold hr at r1
          have r1 := of_decide_eq_true r1
          have a0 : ¬ v2 < 0 := by rw [i_lt, e0]; omega
          have a1 : ¬ Mm 116 s1 - nI n < v2 := by rw [p6, i_lt, sz1]; omega
          rw [if_neg a0, if_neg a1]
          cases r2 : hr v4 n z3 with
          | false =>
            rw [if_pos (show zI false = 0 from rfl)]
            refine ⟨-12, Mc, Mm, rfl, ?_, h⟩
            unfold hr at r2
            have r2 := of_decide_eq_false r2
            by_cases b0 : v4 < 0
            · rw [if_pos b0]
            · rw [if_neg b0, if_neg]
              rw [i_lt, e0] at b0
              rw [q6, i_le, sz3]
              omega
          | true =>
            rw [if_neg (show ¬ zI true = 0 by decide)]
            unfold hr at r2
            have r2 := of_decide_eq_true r2
            have b0 : ¬ v4 < 0 := by rw [i_lt, e0]; omega
            have b1 : v4 ≤ Mm 116 s3 - nI n := by rw [q6, i_le, sz3]; omega
            rw [if_neg b0, if_pos b1]
            obtain ⟨a, ha, rfl⟩ := nI_of a0
            obtain ⟨b, hb, rfl⟩ := nI_of b0
            rw [i_nI ha] at r1
            rw [i_nI hb] at r2
            have cp : cpk (nI a) 40 (nI b) 40 (nI n) = true := by
              unfold cpk
              rw [nI_clamp ha, nI_clamp hb, nI_clamp hn, decide_eq_true (nI_pos ha), decide_eq_true (nI_pos hb), decide_eq_true (nI_pos hn), decide_eq_true (show a + n ≤ 40 by omega), decide_eq_true (show b + n ≤ 40 by omega)]
              rfl
            rw [cp, nI_clamp ha, nI_clamp hb, nI_clamp hn]
            repeat rw [ck_true]
            have fin : ∀ bk : Bool, (∀ u t, u < t → t < n → 40 * s1 + a + cpos bk n t ≠ 40 * s3 + b + cpos bk n u) → ∃ (r : Int32) (Mc1 Mm1 : Mem), some (nI n, mcp Mc (55 + 2 * s1 + 1) a (55 + 2 * s3 + 1) b n) = some (r, Mc1) ∧ f_X9_copy_l121 FU (nI s1) (nI a) (nI s3) (nI b) (nI n) (zI bk) (nI 0) Mm = some (r, Mm1) ∧ Inv Mc1 Mm1 := by
              intro bk hc
              obtain ⟨N, e1, e2, e3, e4⟩ := copyM_l (bk := bk) h1 h3 (show a + n ≤ 40 by omega) (show b + n ≤ 40 by omega) Mm hc n 0 FU Mm (by omega) (by unfold FU; omega) (fun _ _ => rfl) (fun u hu => by omega) (fun _ _ => rfl)
              exact ⟨nI n, _, N, rfl, e1, (copyFin (bk := bk) hN h1 h3 p2 q2 (by omega) (by omega) q1 q3 q4 q5 q6 q7 q8 p8 e2 e3 e4).i⟩
            unfold f_X9_copy_b115 f_X9_copy_b116
            by_cases es : s1 = s3
            · subst es
              rw [if_pos rfl]
              by_cases ab : b ≤ a
              · rw [if_pos (nI_le ab (by omega))]
                exact fin false (fun u t hu ht => by unfold cpos; rw [if_neg (by decide), if_neg (by decide)]; omega)
              · rw [if_neg (nI_ge (by omega) (by omega))]
                exact fin true (fun u t hu ht => by unfold cpos; rw [if_pos rfl, if_pos rfl]; omega)
            · rw [if_neg (show ¬ nI s1 = nI s3 by rw [nIeq (by omega) (by omega)]; exact es)]
              exact fin false (fun u t hu ht => by unfold cpos; rw [if_neg (by decide), if_neg (by decide)]; omega)
      · have ne : ¬ nI so1 = nI so3 := by rw [nIeq (by omega) (by omega)]; exact cs
        rw [if_neg (show ¬ Mc (55 + 2 * s1) 0 = Mc (55 + 2 * s3) 0 by rw [p3, q3]; exact ne), if_neg (show ¬ Mm 115 s1 = Mm 115 s3 by rw [p4, q4]; exact ne)]
        exact ⟨_, _, _, rfl, rfl, h⟩
