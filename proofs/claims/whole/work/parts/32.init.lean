/-! AT THE BEGINNING -/
def tx40 : List Nat := [102, 101, 101, 100, 115, 32, 109, 117, 99, 104, 32, 42, 32, 50, 32, 59, 32, 116, 111, 108, 108, 115, 32, 109, 117, 99, 104, 32, 59, 32, 115, 105, 103, 110, 115, 32, 49, 32, 59, 32]
/-- the class's, before the first text is fed -/
def MCi : Mem := fun p => if p = 3 then upd (upd (fun _ => 0) 0 10) 1 10 else if p = 10 then upd (upd (fun _ => 0) 0 10) 1 10 else if p = 34 then (fun k => if k = 3 then 256 else if k = 6 then -1 else 0) else if p = 55 then (fun k => if k = 0 then -1 else 0) else if p = 57 then (fun k => if k = 0 then -1 else 0) else if p = 59 then (fun k => if k = 0 then -1 else 0) else if p = 61 then (fun k => if k = 0 then -1 else 0) else if p = 36 then (fun k => if k = 1 then 16 else 0) else if p = 43 then (fun k => if k = 6 then -1 else 0) else if p = 45 then (fun k => if k = 3 then -1 else 0) else if p = 0 then (fun k => if k = 4 then 1 else 0) else fun _ => 0
def MT : Nat → Mem
  | 0 => MCi
  | n + 1 => mu (mu (MT n) 35 n (schar 1012 n)) 34 1 (nI (n + 1))
theorem MT_n : ∀ n, MT n 34 1 = nI n := by
  intro n
  cases n with
  | zero => rfl
  | succ n => exact mu_at
theorem MT_step {n : Nat} (hn : n < 39) : f_X5_append (schar 1012 n) (MT n) = some (1, MT (n + 1)) := by
  unfold f_X5_append
  rw [MT_n, if_pos (show nI n < 160 from nI_lt (b := 160) (by omega) (by omega)), inb_nI (show n < 160 by omega) (by omega), nI_clamp (show n < 2 ^ 31 by omega), ck_true, nIp]
  rfl
def txF (o : Int32 × Mem) : List Int32 := [o.1, o.2 17 0, o.2 17 1, o.2 17 2, o.2 17 3, o.2 17 4, o.2 18 0, o.2 18 1, o.2 18 2, o.2 16 2, o.2 34 1]
def txV : List Int32 := [-1, -2, 2, -14, -2, 1, 3, 4, 5, 5, 0]
theorem rd39_ev : (f_X5_readInto 16 (MT 39)).map txF = some txV := by decide +kernel
def Mc40 : Mem := fun p k => if p = 35 then nI (tx40.getD k 0) else if p = 34 then (if k = 1 then 40 else 0) else 0
theorem rd40_ev : (f_X5_readInto 16 Mc40).map txF = some txV := by decide +kernel
def rdO : Int32 × Mem := (f_X5_readInto 16 (MT 39)).getD (0, MCi)
theorem rdO_eq : f_X5_readInto 16 (MT 39) = some rdO := by
  have h := rd39_ev
  unfold rdO
  cases he : f_X5_readInto 16 (MT 39) with
  | none => rw [he] at h; cases h
  | some o => rfl
theorem rdO_tx : txF rdO = txV := by
  have h := rd39_ev
  rw [rdO_eq] at h
  exact Option.some.inj h
/-- the class's, once it is made -/
def MC0 : Mem := fun p => if 16 ≤ p then (if p < 36 then rdO.2 p else MCi p) else MCi p
def spl (i : Nat) (a b c d e f g h : Int32) (M : Mem) : Mem := mu (mu (mu (mu (mu (mu (mu (mu M 101 i a) 101 (i + 1) b) 101 (i + 2) c) 101 (i + 3) d) 101 (i + 4) e) 101 (i + 5) f) 101 (i + 6) g) 101 (i + 7) h
theorem spell_eq {i : Nat} (h : i + 8 ≤ 960) (v2 v3 v4 v5 v6 v7 v8 v9 : Int32) (M : Mem) : f_X9_spell (nI i) v2 v3 v4 v5 v6 v7 v8 v9 M = some (spl i v2 v3 v4 v5 v6 v7 v8 v9 M) := by
  unfold f_X9_spell spl
  rw [show (2 : Int32) = nI 2 from rfl, show (3 : Int32) = nI 3 from rfl, show (4 : Int32) = nI 4 from rfl, show (5 : Int32) = nI 5 from rfl, show (6 : Int32) = nI 6 from rfl, show (7 : Int32) = nI 7 from rfl, nIp, nI_add, nI_add, nI_add, nI_add, nI_add, nI_add, inb_nI (show i < 960 by omega) (by omega), inb_nI (show i + 1 < 960 by omega) (by omega), inb_nI (show i + 2 < 960 by omega) (by omega), inb_nI (show i + 3 < 960 by omega) (by omega), inb_nI (show i + 4 < 960 by omega) (by omega), inb_nI (show i + 5 < 960 by omega) (by omega), inb_nI (show i + 6 < 960 by omega) (by omega), inb_nI (show i + 7 < 960 by omega) (by omega), nI_clamp (show i < 2 ^ 31 by omega), nI_clamp (show i + 1 < 2 ^ 31 by omega), nI_clamp (show i + 2 < 2 ^ 31 by omega), nI_clamp (show i + 3 < 2 ^ 31 by omega), nI_clamp (show i + 4 < 2 ^ 31 by omega), nI_clamp (show i + 5 < 2 ^ 31 by omega), nI_clamp (show i + 6 < 2 ^ 31 by omega), nI_clamp (show i + 7 < 2 ^ 31 by omega)]
  rfl
def MMi : Mem := fun p => if p = 100 then (fun k => if k = 42 then -1 else 0) else fun _ => 0
def MM1 : Mem := mu (mu MMi 105 0 10) 105 1 10
def MM2 : Mem := spl 32 103 110 115 32 49 32 59 32 (spl 24 117 99 104 32 59 32 115 105 (spl 16 32 116 111 108 108 115 32 109 (spl 8 99 104 32 42 32 50 32 59 (spl 0 102 101 101 100 115 32 109 117 MM1))))
/-- the reference's, once it is made -/
def MM0 : Mem := mu (mu MM2 102 0 40) 100 3 1
theorem MM0_tx : ∀ j, j < 40 → MM0 101 j = nI (tx40.getD j 0) := by decide +kernel
theorem evR_cg2 {c1 c2 env : Nat → Int32} : ∀ n i t, (∀ j, i ≤ j → j < i + n → c1 j = c2 j) → evR c1 env n i t = evR c2 env n i t := by
  intro n
  induction n with
  | zero => intro i t _; rfl
  | succ n ih =>
    intro i t h
    show evR c1 env n (i + 1) (evS (c1 i) env t) = evR c2 env n (i + 1) (evS (c2 i) env t)
    rw [h i (by omega) (by omega)]
    exact ih (i + 1) _ (fun j h1 h2 => h j (by omega) (by omega))
theorem evT_two {o1 o2 : Int32 × Mem} (h1 : txF o1 = txV) (h2 : txF o2 = txV) (env : Nat → Int32) {w : Nat} (hw : w < 3) : evT (o1.2 17) (o1.2 18) env w = evT (o2.2 17) (o2.2 18) env w := by
  have g : ∀ o : Int32 × Mem, txF o = txV → o.2 17 0 = -2 ∧ o.2 17 1 = 2 ∧ o.2 17 2 = -14 ∧ o.2 17 3 = -2 ∧ o.2 17 4 = 1 ∧ o.2 18 0 = 3 ∧ o.2 18 1 = 4 ∧ o.2 18 2 = 5 := by
    intro o h
    unfold txF txV at h
    simp only [List.cons.injEq] at h
    exact ⟨h.2.1, h.2.2.1, h.2.2.2.1, h.2.2.2.2.1, h.2.2.2.2.2.1, h.2.2.2.2.2.2.1, h.2.2.2.2.2.2.2.1, h.2.2.2.2.2.2.2.2.1⟩
  obtain ⟨a0, a1, a2, a3, a4, a5, a6, a7⟩ := g o1 h1
  obtain ⟨b0, b1, b2, b3, b4, b5, b6, b7⟩ := g o2 h2
  have ee : ∀ s, s < 3 → secE (o1.2 18) s = secE (o2.2 18) s ∧ secB (o1.2 18) s = secB (o2.2 18) s ∧ secE (o1.2 18) s ≤ 5 := by
    intro s hs
    have cs : s = 0 ∨ s = 1 ∨ s = 2 := by omega
    rcases cs with rfl | rfl | rfl
    · unfold secE secB
      rw [if_pos rfl, if_pos rfl, a5, b5]
      exact ⟨rfl, rfl, by decide⟩
    · unfold secE secB
      rw [if_neg (by omega), if_neg (by omega), show 1 - 1 = 0 from rfl, a5, b5, a6, b6]
      exact ⟨rfl, rfl, by decide⟩
    · unfold secE secB
      rw [if_neg (by omega), if_neg (by omega), show 2 - 1 = 1 from rfl, a6, b6, a7, b7]
      exact ⟨rfl, rfl, by decide⟩
  obtain ⟨e1, e2, e3⟩ := ee w hw
  unfold evT
  rw [← e1, ← e2]
  congr 1
  refine evR_cg2 _ _ _ (fun j _ h2 => ?_)
  have hj : j < 5 := by omega
  have cs : j = 0 ∨ j = 1 ∨ j = 2 ∨ j = 3 ∨ j = 4 := by omega
  rcases cs with rfl | rfl | rfl | rfl | rfl
  · rw [a0, b0]
  · rw [a1, b1]
  · rw [a2, b2]
  · rw [a3, b3]
  · rw [a4, b4]
theorem MC0_lo {p : Nat} (h : p < 16 ∨ 36 ≤ p) : MC0 p = MCi p := by
  unfold MC0
  by_cases c : 16 ≤ p
  · rw [if_pos c, if_neg (by omega)]
  · rw [if_neg c]
theorem MC0_hi {p : Nat} (h : 16 ≤ p) (h2 : p < 36) : MC0 p = rdO.2 p := by
  unfold MC0
  rw [if_pos h, if_pos h2]
theorem init_tx : TxM MM0 0 (evC MC0 0) := by
  intro M2 m1 m2 w hw
  have h101 : ∀ j, j < 40 → M2 101 (160 * 0 + j) = nI (tx40.getD j 0) := fun j hj => by
    rw [m1 j (by omega), Nat.mul_zero, Nat.zero_add]
    exact MM0_tx j hj
  have h102 : M2 102 0 = nI 40 := by rw [m2]; decide +kernel
  have hB : ∀ j, j < 40 → tx40.getD j 0 < 256 := by decide +kernel
  have hC : BC Mc40 40 (fun j => tx40.getD j 0) := ⟨rfl, fun j _ => rfl⟩
  obtain ⟨x, C, v, Cm, g1, g2, g3, g4, g5, g6⟩ := readSim (t := 16) (r := 0) ⟨0, by omega, rfl⟩ (by omega) hB hC (by omega) h102 h101 hw
  have hev := rd40_ev
  rw [g1] at hev
  have hev : txF (x, C) = txV := Option.some.inj hev
  have hx : x = -1 := (List.cons.inj hev).1
  rcases g6 with ⟨_, _, g8, _⟩ | ⟨f, hf, g7, _⟩
  · have e1 : evT (C 17) (C 18) (env M2) w = evT (rdO.2 17) (rdO.2 18) (env M2) w := evT_two (o1 := (x, C)) hev rdO_tx (env M2) hw
    have e2 : evT (rdO.2 17) (rdO.2 18) (env M2) w = evT (rdO.2 17) (rdO.2 18) (fun i => M2 100 (13 + i)) w := evT_congr (fun i hi => by unfold env; rw [if_pos hi])
    have e3 : evC MC0 0 w (fun i => M2 100 (13 + i)) = evT (rdO.2 17) (rdO.2 18) (fun i => M2 100 (13 + i)) w := by
      unfold evC
      rw [Nat.mul_zero, Nat.add_zero, MC0_hi (show 16 ≤ 16 + 1 by omega) (by omega), MC0_hi (show 16 ≤ 16 + 2 by omega) (by omega)]
    have hval : v = evC MC0 0 w (fun i => M2 100 (13 + i)) := g8.trans (e1.trans (e2.trans e3.symm))
    refine ⟨Cm, ?_, g5.1, fun j hj => g5.2 j (by omega)⟩
    rw [← hval]
    exact g2
  · exfalso
    rw [hx] at g7
    exact nI_pos (n := f) (by omega) (by rw [← g7]; decide)
theorem init_inv : Inv MC0 MM0 := by
  have z : ∀ n, B99 (0 : Int32) n := fun n => ⟨0, Nat.zero_le n, rfl⟩
  have tv := rdO_tx
  unfold txF txV at tv
  simp only [List.cons.injEq] at tv
  obtain ⟨t0, t1, t2, t3, t4, t5, t6, t7, t8, t9, t10, _⟩ := tv
  refine ⟨0, 1, ⟨⟨fun j hj => ?_, fun j hj => ?_, fun d hd => absurd hd (Nat.not_lt_zero d)⟩, ?_⟩, Or.inl ⟨?_, ?_⟩, ⟨by omega, ?_, ?_, fun r hr => ?_⟩, ⟨0, fun _ => 0, by omega, fun j hj => absurd hj (Nat.not_lt_zero j), ⟨?_, fun j hj => absurd hj (Nat.not_lt_zero j)⟩, ?_, fun j hj => absurd hj (Nat.not_lt_zero j)⟩, fun s hs => Or.inl ?_⟩
  · rw [MC0_lo (by omega)]
    exact ⟨rfl, z _⟩
  · rw [MC0_lo (by omega)]
    have cs : j = 0 ∨ j = 1 := by omega
    rcases cs with rfl | rfl
    · exact ⟨by decide +kernel, 10, by omega, by decide +kernel⟩
    · exact ⟨by decide +kernel, 10, by omega, by decide +kernel⟩
  · rw [MC0_lo (by omega)]
    exact ⟨rfl, by decide +kernel, by omega, ⟨by decide +kernel, z _⟩, ⟨by decide +kernel, 0, by omega, rfl⟩⟩
  · rw [MC0_lo (by omega)]; rfl
  · decide +kernel
  · rw [MC0_lo (by omega)]; rfl
  · decide +kernel
  · have : r = 0 := by omega
    subst this
    refine ⟨?_, init_tx⟩
    rw [MC0_hi (by omega) (by omega)]
    intro sec hsec
    have cs : sec = 0 ∨ sec = 1 ∨ sec = 2 := by omega
    rcases cs with rfl | rfl | rfl
    · unfold secB secE
      rw [if_pos rfl, show 16 + 3 * 0 + 2 = 18 from rfl, t6]
      exact ⟨by decide, by decide, by decide⟩
    · unfold secB secE
      rw [if_neg (by omega), show 16 + 3 * 0 + 2 = 18 from rfl, show 1 - 1 = 0 from rfl, t6, t7]
      exact ⟨by decide, by decide, by decide⟩
    · unfold secB secE
      rw [if_neg (by omega), show 16 + 3 * 0 + 2 = 18 from rfl, show 2 - 1 = 1 from rfl, t7, t8]
      exact ⟨by decide, by decide, by decide⟩
  · rw [MC0_hi (by omega) (by omega)]; exact t10
  · decide +kernel
  · have cs : s = 0 ∨ s = 1 ∨ s = 2 ∨ s = 3 := by omega
    rcases cs with rfl | rfl | rfl | rfl
    · exact ⟨by rw [MC0_lo (by omega)]; rfl, by decide +kernel⟩
    · exact ⟨by rw [MC0_lo (by omega)]; rfl, by decide +kernel⟩
    · exact ⟨by rw [MC0_lo (by omega)]; rfl, by decide +kernel⟩
    · exact ⟨by rw [MC0_lo (by omega)]; rfl, by decide +kernel⟩
