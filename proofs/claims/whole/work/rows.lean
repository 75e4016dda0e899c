section

/-! PURE: what the methods compute over a memory (place, index) -/
abbrev Mem : Type := Nat → Nat → Int32
/-- the memory with v at (p, k) -/
def mu (M : Mem) (p k : Nat) (v : Int32) : Mem := fun q => if q = p then upd (M p) k v else M q
/-- n numbers of place a from i on copied to place b from j on -/
def mcp (M : Mem) (a i b j n : Nat) : Mem := fun q => if q = b then va_cpy (M a) (M b) i j n else M q
def ck {α : Type} (b : Bool) (x : Option α) : Option α := if b = true then x else none
def inb (i : Int32) (n : Nat) : Bool := decide (¬ i < 0) && decide (i.toNatClampNeg < n)
def zb (x : Int32) : Bool := x == 0 || x == 1
def cpk (i : Int32) (na : Nat) (j : Int32) (nb : Nat) (n : Int32) : Bool := decide (¬ i < 0) && decide (¬ j < 0) && decide (¬ n < 0) && decide (i.toNatClampNeg + n.toNatClampNeg ≤ na) && decide (j.toNatClampNeg + n.toNatClampNeg ≤ nb)
def jrem (x y : Int32) : Int32 := x - x / y * y
def jlrem (x y : Int64) : Int64 := x - x / y * y
def jshl (x y : Int32) : Int32 := x <<< (y &&& 31)
def jushr (x y : Int32) : Int32 := (x.toUInt32 >>> (y.toUInt32 &&& Int32.toUInt32 31)).toInt32
def jmax (x y : Int32) : Int32 := if x < y then y else x
def jmin (x y : Int32) : Int32 := if y < x then y else x
def FU : Nat := 2000
def DP : Nat := 100
/-- the kind of a place (99: none) -/
def kd (p : Nat) : Nat := if p < 100 then ([7, 1, 10, 10, 10, 10, 10, 10, 1, 10, 10, 10, 10, 10, 10, 12, 6, 30, 30, 6, 30, 30, 6, 30, 30, 6, 30, 30, 6, 30, 30, 6, 30, 30, 4, 30, 0, 10, 10, 10, 10, 10, 11, 3, 10, 2, 14, 10, 10, 10, 10, 10, 10, 10, 13, 5, 10, 5, 10, 5, 10, 5, 10] : List Nat).getD p 99 else ([8, 20, 20, 20, 20, 20, 20, 20, 20, 20, 20, 20, 20, 20, 21, 20, 20, 20] : List Nat).getD (p - 100) 99
/-- how long the row at a place is -/
def ln (p : Nat) : Nat := if p < 100 then ([0, 0, 12, 2, 6, 6, 6, 6, 0, 12, 2, 6, 6, 6, 6, 6, 0, 160, 3, 0, 160, 3, 0, 160, 3, 0, 160, 3, 0, 160, 3, 0, 160, 3, 0, 160, 0, 2, 6, 6, 160, 6, 2, 0, 12, 0, 7, 12, 12, 12, 12, 12, 12, 12, 4, 0, 40, 0, 40, 0, 40, 0, 40] : List Nat).getD p 0 else ([0, 960, 6, 160, 12, 2, 6, 18, 12, 6, 72, 12, 2, 18, 4, 4, 4, 160] : List Nat).getD (p - 100) 0
def strs : List (List Nat) := [[112, 97, 114, 116], [109, 117, 99, 104], [107, 105, 116, 99, 104, 101, 110], [104, 111, 117, 114], [110, 117, 109, 98, 101, 114], [112, 114, 105, 100, 101], [102, 101, 101, 100, 115], [116, 111, 108, 108, 115], [115, 105, 103, 110, 115], [111, 114], [97, 110, 100], [110, 111, 116], [102, 101, 101, 100, 115, 32, 109, 117, 99, 104, 32, 42, 32, 50, 32, 59, 32, 116, 111, 108, 108, 115, 32, 109, 117, 99, 104, 32, 59, 32, 115, 105, 103, 110, 115, 32, 49, 32, 59]]
def isStr (q : Nat) : Bool := decide (1000 ≤ q) && decide (q < 1000 + strs.length)
def slenN (q : Nat) : Nat := (strs.getD (q - 1000) []).length
def slen (q : Nat) : Int32 := Int32.ofNat (slenN q)
def schar (q j : Nat) : Int32 := Int32.ofNat ((strs.getD (q - 1000) []).getD j 0)
/-- the two constant rows: the powers of ten, and the kinds above -/
def stv (q j : Nat) : Int32 := if q = 2000 then ([100000, 10000, 1000, 100, 10, 1] : List Int32).getD j 0 else ([-1, 0, 0, 1, 2, 0] : List Int32).getD j 0
end
section
/-! PURE: the class -/
def f_X8_isPlace (v0 : Int32) (M : Mem) : Option (Int32 × Mem) :=
  (if v0 < 0 then some (0, M) else (if 2 ≤ (v0 / 10) then some (0, M) else (if 6 ≤ (jrem v0 10) then some (0, M) else some (1, M))))

def f_X8_placeOf (v0 : Int32) (M : Mem) : Option (Int32 × Mem) :=
  some ((((v0 / 10) * 6) + (jrem v0 10)), M)

def f_X8_isKitchen (v0 : Int32) (M : Mem) : Option (Int32 × Mem) :=
  (if v0 < 0 then some (0, M) else (if 2 ≤ v0 then some (0, M) else some (1, M)))

def f_X1_storeOf_l4 : Nat → Int32 → Int32 → Int32 → Mem → Option (Int32 × Mem)
  | 0, _, _, _, _ => none
  | n + 1, v1, v2, v3, M => (if 6 ≤ v3 then some (v2, M) else ck (inb ((v1 * 6) + v3) 12) ((f_X1_storeOf_l4 n) v1 (v2 + (M 2 (((v1 * 6) + v3)).toNatClampNeg)) (v3 + 1) M))
def f_X1_storeOf (v1 : Int32) (M : Mem) : Option (Int32 × Mem) :=
  (f_X1_storeOf_l4 FU) v1 0 0 M

def f_X8_toldOfKitchen (v1 : Int32) (v2 : Int32) (M : Mem) : Option (Int32 × Mem) :=
  (if v2 = 2 then ck (inb v1 2) (some ((M 3 (v1).toNatClampNeg), M)) else (f_X1_storeOf v1 M).bind fun o2 => some (o2.1, o2.2))

def f_X1_hasDish (v1 : Int32) (M : Mem) : Option (Int32 × Mem) :=
  (if v1 < 0 then some (0, M) else (if (M 1 6) ≤ v1 then some (0, M) else some (1, M)))

def f_X1_needsOf (v1 : Int32) (v2 : Int32) (M : Mem) : Option (Int32 × Mem) :=
  ck (inb v1 6) (ck (inb v2 6) (ck (!((stv 2000 (v2).toNatClampNeg) == 0)) (some ((jrem ((M 6 (v1).toNatClampNeg) / (stv 2000 (v2).toNatClampNeg)) 10), M))))

def f_X1_needsTogether_l4 : Nat → Int32 → Int32 → Int32 → Mem → Option (Int32 × Mem)
  | 0, _, _, _, _ => none
  | n + 1, v1, v2, v3, M => (if 6 ≤ v3 then some (v2, M) else (f_X1_needsOf v1 v3 M).bind fun o2 => (f_X1_needsTogether_l4 n) v1 (v2 + o2.1) (v3 + 1) o2.2)
def f_X1_needsTogether (v1 : Int32) (M : Mem) : Option (Int32 × Mem) :=
  (f_X1_needsTogether_l4 FU) v1 0 0 M

def f_X8_toldOfDish (v1 : Int32) (v2 : Int32) (M : Mem) : Option (Int32 × Mem) :=
  (if v2 = 3 then ck (inb v1 6) (some ((M 5 (v1).toNatClampNeg), M)) else (if v2 = 4 then ck (inb v1 6) (some ((M 6 (v1).toNatClampNeg), M)) else (if v2 = 5 then ck (inb v1 6) (some ((M 4 (v1).toNatClampNeg), M)) else (if v2 = 6 then ck (inb v1 6) (some ((M 7 (v1).toNatClampNeg), M)) else (if v2 = 7 then (f_X1_needsTogether v1 M).bind fun o10 => some (o10.1, o10.2) else some ((-1000), M))))))

def f_X8_told_b54 (v1 : Int32) (v2 : Int32) (M : Mem) : Option (Int32 × Mem) :=
  (f_X8_isKitchen v1 M).bind fun o16 => (if o16.1 = 0 then some ((-1000), o16.2) else (f_X8_toldOfKitchen v1 v2 o16.2).bind fun o19 => some (o19.1, o19.2))
def f_X8_told (v1 : Int32) (v2 : Int32) (M : Mem) : Option (Int32 × Mem) :=
  (if v2 = 0 then some ((M 1 7), M) else (if v2 = 1 then (f_X8_isPlace v1 M).bind fun o10 => (if o10.1 = 0 then some ((-1000), o10.2) else (f_X8_placeOf v1 o10.2).bind fun o13 => ck (inb o13.1 12) (some ((o13.2 2 (o13.1).toNatClampNeg), o13.2))) else (if v2 = 2 then f_X8_told_b54 v1 v2 M else (if v2 = 8 then f_X8_told_b54 v1 v2 M else (f_X1_hasDish v1 M).bind fun o5 => (if o5.1 = 0 then some ((-1000), o5.2) else (f_X8_toldOfDish v1 v2 o5.2).bind fun o8 => some (o8.1, o8.2))))))

def f_X8_mostOf (v0 : Int32) (M : Mem) : Option (Int32 × Mem) :=
  (if v0 = 0 then some (999, M) else (if v0 = 1 then some (99, M) else (if v0 = 2 then some (99, M) else (if v0 = 3 then some (9, M) else some (999999, M)))))

def f_X8_set (v1 : Int32) (v2 : Int32) (v3 : Int32) (M : Mem) : Option (Int32 × Mem) :=
  (f_X8_told v2 v1 M).bind fun o1 => (if v1 < 0 then some ((-1000), o1.2) else (if 4 < v1 then some ((-1000), o1.2) else (if o1.1 = (-1000) then some ((-1000), o1.2) else (if v3 < 0 then some ((-1000), o1.2) else (f_X8_mostOf v1 o1.2).bind fun o7 => (if v3 ≤ o7.1 then (if v1 = 0 then some (o1.1, (mu o7.2 1 7 v3)) else (if v1 = 1 then (f_X8_placeOf v2 o7.2).bind fun o12 => ck (inb o12.1 12) (some (o1.1, (mu o12.2 2 (o12.1).toNatClampNeg v3))) else (if v1 = 2 then ck (inb v2 2) (some (o1.1, (mu o7.2 3 (v2).toNatClampNeg v3))) else (if v1 = 3 then ck (inb v2 6) (some (o1.1, (mu o7.2 5 (v2).toNatClampNeg v3))) else ck (inb v2 6) (some (o1.1, (mu o7.2 6 (v2).toNatClampNeg v3))))))) else some ((-1000), o7.2))))))

def f_X1_addDish (v1 : Int32) (v2 : Int32) (v3 : Int32) (M : Mem) : Option (Int32 × Mem) :=
  (if (M 1 6) < 6 then ck (inb (M 1 6) 6) (some ((((M 1 6) + 1) - 1), (mu (mu (mu (mu (mu M 4 ((M 1 6)).toNatClampNeg v1) 5 ((M 1 6)).toNatClampNeg v2) 6 ((M 1 6)).toNatClampNeg v3) 7 ((M 1 6)).toNatClampNeg 0) 1 6 ((M 1 6) + 1)))) else some ((-4), M))

def f_X8_dish (v1 : Int32) (v2 : Int32) (v3 : Int32) (M : Mem) : Option (Int32 × Mem) :=
  (if v1 < 0 then some ((-2), M) else (if 6 ≤ v1 then some ((-2), M) else (if v2 < 0 then some ((-2), M) else (if 9 < v2 then some ((-2), M) else (if v3 < 0 then some ((-2), M) else (if v3 ≤ 999999 then (f_X1_addDish v1 v2 v3 M).bind fun o7 => some (o7.1, o7.2) else some ((-2), M)))))))

def f_X0_ruleBy (v1 : Int32) (M : Mem) : Option Mem :=
  (if v1 < 0 then some M else (if 6 ≤ v1 then some M else ck (inb v1 6) (ck (decide ((16 + 3 * (v1).toNatClampNeg) < 63)) (some (mu M 36 1 (Int32.ofNat (16 + 3 * (v1).toNatClampNeg)))))))

def f_X0_takeUp_l30 (k53 : Int32 → Mem → Option Mem) : Nat → Int32 → Int32 → Mem → Option Mem
  | 0, _, _, _ => none
  | n + 1, v2, v3, M => (if 2 ≤ v3 then k53 v2 M else ck (inb v3 2) ((f_X0_takeUp_l30 k53 n) v2 (v3 + 1) (mu M 37 (v3).toNatClampNeg (M 3 (v3).toNatClampNeg))))
def f_X0_takeUp_l55 (k79 : Int32 → Mem → Option Mem) : Nat → Int32 → Int32 → Mem → Option Mem
  | 0, _, _, _ => none
  | n + 1, v2, v3, M => (if 6 ≤ v3 then k79 v2 M else (f_X1_needsOf v2 v3 M).bind fun o5 => ck (inb v3 6) ((f_X0_takeUp_l55 k79 n) v2 (v3 + 1) (mu o5.2 38 (v3).toNatClampNeg o5.1)))
def f_X0_takeUp_b79 (v2 : Int32) (M : Mem) : Option Mem :=
  (f_X1_needsTogether v2 M).bind fun o8 => (f_X0_ruleBy (o8.2 1 8) (mu o8.2 36 7 o8.1)).bind fun o10 => some o10
def f_X0_takeUp_b53 (v2 : Int32) (M : Mem) : Option Mem :=
  (f_X0_takeUp_l55 f_X0_takeUp_b79 FU) v2 0 M
def f_X0_takeUp (v2 : Int32) (M : Mem) : Option Mem :=
  ck (inb v2 6) ((f_X0_takeUp_l30 f_X0_takeUp_b53 FU) v2 0 (mu (mu (mu M 36 2 (M 4 (v2).toNatClampNeg)) 36 3 (M 5 (v2).toNatClampNeg)) 36 4 (M 1 7)))

def f_X0_cross_b104 (r : Nat → Int32 → Int32 → Int32 → Mem → Option Mem) (q2 : Nat) (v3 : Int32) (v4 : Int32) (v5 : Int32) (s1 : Int32) (M : Mem) : Option Mem :=
  ck (zb s1) (r q2 v3 v4 (v5 + 1) (mu M 36 12 s1))
def f_X0_cross_b103 (r : Nat → Int32 → Int32 → Int32 → Mem → Option Mem) (q2 : Nat) (v3 : Int32) (v4 : Int32) (v5 : Int32) (M : Mem) : Option Mem :=
  (f_X0_cross_b104 r) q2 v3 v4 v5 0 M
def f_X0_cross_l26 : Nat → Nat → Int32 → Int32 → Int32 → Mem → Option Mem
  | 0, _, _, _, _, _ => none
  | n + 1, q2, v3, v4, v5, M => (if 6 ≤ v5 then some M else ck (inb v5 6) (ck (kd q2 == 10) (ck (inb (v3 + v5) (ln q2)) ((if (M 36 12) = 0 then (f_X0_cross_b103 (f_X0_cross_l26 n)) q2 v3 v4 v5 (mu (mu M 41 (v5).toNatClampNeg (jmax 0 ((M 38 (v5).toNatClampNeg) - (M q2 ((v3 + v5)).toNatClampNeg)))) 36 13 ((M 36 13) + (jmax 0 ((M 38 (v5).toNatClampNeg) - (M q2 ((v3 + v5)).toNatClampNeg))))) else ck (inb (v4 + v5) (ln q2)) ((if ((mu (mu M 41 (v5).toNatClampNeg (jmax 0 ((M 38 (v5).toNatClampNeg) - (M q2 ((v3 + v5)).toNatClampNeg)))) 36 13 ((M 36 13) + (jmax 0 ((M 38 (v5).toNatClampNeg) - (M q2 ((v3 + v5)).toNatClampNeg))))) q2 ((v4 + v5)).toNatClampNeg) < (jmax 0 ((M 38 (v5).toNatClampNeg) - (M q2 ((v3 + v5)).toNatClampNeg))) then (f_X0_cross_b103 (f_X0_cross_l26 n)) q2 v3 v4 v5 (mu (mu M 41 (v5).toNatClampNeg (jmax 0 ((M 38 (v5).toNatClampNeg) - (M q2 ((v3 + v5)).toNatClampNeg)))) 36 13 ((M 36 13) + (jmax 0 ((M 38 (v5).toNatClampNeg) - (M q2 ((v3 + v5)).toNatClampNeg))))) else (f_X0_cross_b104 (f_X0_cross_l26 n)) q2 v3 v4 v5 1 (mu (mu M 41 (v5).toNatClampNeg (jmax 0 ((M 38 (v5).toNatClampNeg) - (M q2 ((v3 + v5)).toNatClampNeg)))) 36 13 ((M 36 13) + (jmax 0 ((M 38 (v5).toNatClampNeg) - (M q2 ((v3 + v5)).toNatClampNeg))))))))))))
def f_X0_cross (v1 : Int32) (q2 : Nat) (M : Mem) : Option Mem :=
  (f_X0_cross_l26 FU) q2 (v1 * 6) ((1 - v1) * 6) 0 (mu (mu M 36 12 1) 36 13 0)

def f_X7_joined (v0 : Int32) (v1 : Int32) (v2 : Int32) (M : Mem) : Option (Int32 × Mem) :=
  (if v0 = (-13) then some ((v1 - v2), M) else (if v0 = (-12) then some ((v1 + v2), M) else (if v0 = (-11) then (if v1 = v2 then some (1, M) else some (0, M)) else (if v0 = (-10) then (if v2 ≤ v1 then some (0, M) else some (1, M)) else (if v0 = (-9) then some ((v1 * v2), M) else (if v0 = (-8) then (if v1 = 0 then some (0, M) else (if v2 = 0 then some (0, M) else some (1, M))) else (if v0 = (-7) then (if v1 = 0 then (if v2 = 0 then some (0, M) else some (1, M)) else some (1, M)) else some ((v1 * v2), M))))))))

def f_X7_value_b171 (r : Nat → Int32 → Int32 → Int32 → Mem → Option (Int32 × Mem)) (k177 : Int32 → Mem → Option (Int32 × Mem)) (q0 : Nat) (v1 : Int32) (v4 : Int32) (v5 : Int32) (M : Mem) : Option (Int32 × Mem) :=
  r q0 v1 v4 (v5 + 1) M
def f_X7_value_b74 (r : Nat → Int32 → Int32 → Int32 → Mem → Option (Int32 × Mem)) (k177 : Int32 → Mem → Option (Int32 × Mem)) (q0 : Nat) (v1 : Int32) (v4 : Int32) (v5 : Int32) (s1 : Int32) (s2 : Int32) (M : Mem) : Option (Int32 × Mem) :=
  ck (inb s1 160) ((f_X7_value_b171 r k177) q0 v1 (v4 + 1) v5 (mu M 40 (s1).toNatClampNeg s2))
def f_X7_value_b137 (r : Nat → Int32 → Int32 → Int32 → Mem → Option (Int32 × Mem)) (k177 : Int32 → Mem → Option (Int32 × Mem)) (q0 : Nat) (v1 : Int32) (v4 : Int32) (v5 : Int32) (s1 : Int32) (s2 : Int32) (M : Mem) : Option (Int32 × Mem) :=
  ck (inb s1 160) ((f_X7_value_b171 r k177) q0 v1 v4 v5 (mu M 40 (s1).toNatClampNeg s2))
def f_X7_value_b95 (r : Nat → Int32 → Int32 → Int32 → Mem → Option (Int32 × Mem)) (k177 : Int32 → Mem → Option (Int32 × Mem)) (q0 : Nat) (v1 : Int32) (v4 : Int32) (v5 : Int32) (v6 : Int32) (M : Mem) : Option (Int32 × Mem) :=
  (if v4 < 1 then (f_X7_value_b171 r k177) q0 v1 v4 v5 M else ck (inb (v4 - 1) 160) ((if v6 = (-15) then (f_X7_value_b137 r k177) q0 v1 v4 v5 (v4 - 1) (-(M 40 ((v4 - 1)).toNatClampNeg)) M else (if (M 40 ((v4 - 1)).toNatClampNeg) = 0 then (f_X7_value_b137 r k177) q0 v1 v4 v5 (v4 - 1) 1 M else (f_X7_value_b137 r k177) q0 v1 v4 v5 (v4 - 1) 0 M))))
def f_X7_value_l21 (k177 : Int32 → Mem → Option (Int32 × Mem)) : Nat → Nat → Int32 → Int32 → Int32 → Mem → Option (Int32 × Mem)
  | 0, _, _, _, _, _ => none
  | n + 1, q0, v1, v4, v5, M => ck (kd q0 == 6) (ck (kd (q0 + 2) == 30) (ck (inb v1 (ln (q0 + 2))) ((if (M (q0 + 2) (v1).toNatClampNeg) ≤ v5 then k177 v4 M else ck (kd (q0 + 1) == 30) (ck (inb v5 (ln (q0 + 1))) ((if (M (q0 + 1) (v5).toNatClampNeg) < (-6) then (if (M (q0 + 1) (v5).toNatClampNeg) = (-9) then (f_X7_value_b95 (f_X7_value_l21 k177 n) k177) q0 v1 v4 v5 (M (q0 + 1) (v5).toNatClampNeg) M else (if (M (q0 + 1) (v5).toNatClampNeg) = (-15) then (f_X7_value_b95 (f_X7_value_l21 k177 n) k177) q0 v1 v4 v5 (M (q0 + 1) (v5).toNatClampNeg) M else (if v4 < 2 then (f_X7_value_b171 (f_X7_value_l21 k177 n) k177) q0 v1 v4 v5 M else ck (inb ((v4 + (-1)) - 1) 160) (ck (inb (v4 + (-1)) 160) ((f_X7_joined (M (q0 + 1) (v5).toNatClampNeg) (M 40 (((v4 + (-1)) - 1)).toNatClampNeg) (M 40 ((v4 + (-1))).toNatClampNeg) M).bind fun o17 => (f_X7_value_b171 (f_X7_value_l21 k177 n) k177) q0 v1 (v4 + (-1)) v5 (mu o17.2 40 (((v4 + (-1)) - 1)).toNatClampNeg o17.1)))))) else (if 160 ≤ v4 then (f_X7_value_b171 (f_X7_value_l21 k177 n) k177) q0 v1 v4 v5 M else (if (M (q0 + 1) (v5).toNatClampNeg) < 0 then ck (inb ((-1) - (M (q0 + 1) (v5).toNatClampNeg)) 6) ((f_X7_value_b74 (f_X7_value_l21 k177 n) k177) q0 v1 v4 v5 v4 (M 39 (((-1) - (M (q0 + 1) (v5).toNatClampNeg))).toNatClampNeg) M) else (f_X7_value_b74 (f_X7_value_l21 k177 n) k177) q0 v1 v4 v5 v4 (M (q0 + 1) (v5).toNatClampNeg) M)))))))))
def f_X7_value_b177 (v4 : Int32) (M : Mem) : Option (Int32 × Mem) :=
  (if v4 ≤ 0 then some (0, M) else ck (inb (v4 - 1) 160) (some ((M 40 ((v4 - 1)).toNatClampNeg), M)))
def f_X7_value_b19 (q0 : Nat) (v1 : Int32) (v4 : Int32) (s0 : Int32) (M : Mem) : Option (Int32 × Mem) :=
  (f_X7_value_l21 f_X7_value_b177 FU) q0 v1 v4 s0 M
def f_X7_value (q0 : Nat) (v1 : Int32) (M : Mem) : Option (Int32 × Mem) :=
  (if v1 = 0 then f_X7_value_b19 q0 v1 0 0 M else ck (kd q0 == 6) (ck (kd (q0 + 2) == 30) (ck (inb (v1 - 1) (ln (q0 + 2))) (f_X7_value_b19 q0 v1 0 (M (q0 + 2) ((v1 - 1)).toNatClampNeg) M))))

def f_X0_ask (v1 : Int32) (v2 : Int32) (v3 : Int32) (v4 : Int32) (M : Mem) : Option (Int32 × Mem) :=
  ck (inb v4 2) ((f_X7_value ((M 36 1)).toNatClampNeg v1 (mu (mu (mu (mu (mu (mu M 39 0 v2) 39 1 v3) 39 2 v4) 39 3 (M 36 4)) 39 4 (M 36 3)) 39 5 (M 37 (v4).toNatClampNeg))).bind fun o2 => ck (kd ((M 36 1)).toNatClampNeg == 6) (some (o2.1, o2.2)))

def f_X2_bounded (v0 : Int32) (M : Mem) : Option (Int32 × Mem) :=
  some ((jmax 0 (jmin 99 v0)), M)

def f_X2_fed (v0 : Int32) (v1 : Int32) (v2 : Int32) (v3 : Int32) (v4 : Int32) (M : Mem) : Option (Int32 × Mem) :=
  (if v0 = 1 then (f_X2_bounded (v1 * 2) M).bind fun o2 => some (o2.1, o2.2) else (if v0 = 2 then some ((v1 / 2), M) else (if v0 = 3 then (if v2 = 1 then some (v4, M) else (f_X2_bounded (v1 * 2) M).bind fun o7 => some (o7.1, o7.2)) else (if v0 = 4 then (if (jrem v3 4) = 0 then some (((v1 / 2) + 10), M) else some ((v1 / 2), M)) else (if v0 = 5 then (f_X2_bounded (v1 + v4) M).bind fun o12 => some (o12.1, o12.2) else some (v1, M))))))

def f_X2_toll (v0 : Int32) (v1 : Int32) (v2 : Int32) (v3 : Int32) (v4 : Int32) (M : Mem) : Option (Int32 × Mem) :=
  (if v0 = 1 then some (0, M) else (if v0 = 2 then (f_X2_bounded (v1 * v3) M).bind fun o3 => some (o3.1, o3.2) else (if v0 = 3 then some (1, M) else (if v0 = 4 then (if v2 = (jrem v4 6) then some (0, M) else (f_X2_bounded (v1 * v3) M).bind fun o8 => some (o8.1, o8.2)) else (if v0 = 5 then some (9, M) else some (v1, M))))))

def f_X2_signs_b62 (v2 : Int32) (M : Mem) : Option (Int32 × Mem) :=
  (if v2 = 0 then some (0, M) else some (1, M))
def f_X2_signs (v0 : Int32) (v1 : Int32) (v2 : Int32) (v3 : Int32) (M : Mem) : Option (Int32 × Mem) :=
  (if v0 = 1 then some (1, M) else (if v0 = 2 then (if v1 = 0 then some (0, M) else (if v3 = 0 then some (0, M) else some (1, M))) else (if v0 = 3 then some (1, M) else (if v0 = 4 then (if v1 = 0 then f_X2_signs_b62 v2 M else (if v3 = 0 then f_X2_signs_b62 v2 M else some (1, M))) else (if v0 = 5 then (if v1 = 0 then (if v2 = 0 then some (0, M) else some (1, M)) else some (1, M)) else ck (zb v1) (some (v1, M)))))))

def f_X0_judge_b91 (r : Int32 → Int32 → Mem → Option Mem) (k97 : Int32 → Mem → Option Mem) (v1 : Int32) (v2 : Int32) (M : Mem) : Option Mem :=
  r v1 (v2 + 1) M
def f_X0_judge_l41 (k97 : Int32 → Mem → Option Mem) : Nat → Int32 → Int32 → Mem → Option Mem
  | 0, _, _, _ => none
  | n + 1, v1, v2, M => (if 6 ≤ v2 then k97 v1 M else ck (inb v2 6) ((if (M 41 (v2).toNatClampNeg) ≤ 0 then (f_X0_judge_b91 (f_X0_judge_l41 k97 n) k97) v1 v2 M else (f_X0_ask 1 v2 (M 41 (v2).toNatClampNeg) v1 M).bind fun o10 => (f_X2_bounded o10.1 o10.2).bind fun o12 => (f_X2_toll (M 36 2) o12.1 v2 (M 41 (v2).toNatClampNeg) (o12.2 36 3) o12.2).bind fun o14 => (f_X0_judge_b91 (f_X0_judge_l41 k97 n) k97) v1 v2 (mu o14.2 36 14 ((M 36 14) + o14.1)))))
def f_X0_judge_b160 (r : Int32 → Int32 → Mem → Option Mem) (v1 : Int32) (v2 : Int32) (s1 : Int32) (s2 : Int32) (s3 : Int32) (s4 : Int32) (s5 : Int32) (M : Mem) : Option Mem :=
  (f_X2_signs s2 s3 s4 s5 M).bind fun o23 => ck (inb s1 2) (ck (zb o23.1) (r v1 (v2 + 1) (mu o23.2 42 (s1).toNatClampNeg o23.1)))
def f_X0_judge_b142 (r : Int32 → Int32 → Mem → Option Mem) (v1 : Int32) (v2 : Int32) (s1 : Int32) (s2 : Int32) (s3 : Int32) (s4 : Int32) (M : Mem) : Option Mem :=
  ck (inb v2 2) ((if (M 37 (v2).toNatClampNeg) ≤ (M 36 14) then (f_X0_judge_b160 r) v1 v2 s1 s2 s3 s4 0 M else (f_X0_judge_b160 r) v1 v2 s1 s2 s3 s4 1 M))
def f_X0_judge_b132 (r : Int32 → Int32 → Mem → Option Mem) (v1 : Int32) (v2 : Int32) (s1 : Int32) (s2 : Int32) (s3 : Int32) (M : Mem) : Option Mem :=
  (if v2 = v1 then (f_X0_judge_b142 r) v1 v2 s1 s2 s3 1 M else (f_X0_judge_b142 r) v1 v2 s1 s2 s3 0 M)
def f_X0_judge_l99 : Nat → Int32 → Int32 → Mem → Option Mem
  | 0, _, _, _ => none
  | n + 1, v1, v2, M => (if 2 ≤ v2 then some M else (f_X0_ask 2 0 (M 36 14) v2 M).bind fun o17 => (if o17.1 = 0 then (f_X0_judge_b132 (f_X0_judge_l99 n)) v1 v2 v2 (M 36 2) 0 o17.2 else (f_X0_judge_b132 (f_X0_judge_l99 n)) v1 v2 v2 (M 36 2) 1 o17.2))
def f_X0_judge_b97 (v1 : Int32) (M : Mem) : Option Mem :=
  (f_X0_judge_l99 FU) v1 0 M
def f_X0_judge (v1 : Int32) (M : Mem) : Option Mem :=
  (f_X0_ask 0 0 (M 36 7) v1 M).bind fun o1 => (f_X2_bounded o1.1 o1.2).bind fun o3 => (f_X2_fed (M 36 2) o3.1 v1 (o3.2 36 4) (o3.2 36 3) o3.2).bind fun o5 => (f_X0_judge_l41 f_X0_judge_b97 FU) v1 0 (mu (mu o5.2 36 15 o5.1) 36 14 0)

def f_X0_worth (M : Mem) : Option (Int32 × Mem) :=
  some (((M 36 15) - (M 36 14)), M)

def f_X8_asks (v1 : Int32) (v2 : Int32) (v3 : Int32) (M : Mem) : Option (Int32 × Mem) :=
  (f_X1_hasDish v1 M).bind fun o1 => (if o1.1 = 0 then some ((-1000), o1.2) else (f_X8_isKitchen v2 o1.2).bind fun o4 => (if o4.1 = 0 then some ((-1000), o4.2) else (f_X0_takeUp v1 o4.2).bind fun o7 => (f_X0_cross v2 2 o7).bind fun o9 => (f_X0_judge v2 o9).bind fun o11 => (if v3 = 0 then (if (o11 36 12) = 0 then some (0, o11) else some (1, o11)) else (if v3 = 1 then some ((o11 36 13), o11) else (if v3 = 2 then some ((o11 36 14), o11) else (if v3 = 3 then (if (o11 42 0) = 0 then some (0, o11) else some (1, o11)) else (if v3 = 4 then (if (o11 42 1) = 0 then some (0, o11) else some (1, o11)) else (if v3 = 5 then some ((o11 36 15), o11) else (if v3 = 6 then (f_X0_worth o11).bind fun o23 => some (o23.1, o23.2) else some ((-1000), o11))))))))))

def f_X5_append (v1 : Int32) (M : Mem) : Option (Int32 × Mem) :=
  (if (M 34 1) < 160 then ck (inb (M 34 1) 160) (some (1, (mu (mu M 35 ((M 34 1)).toNatClampNeg v1) 34 1 ((M 34 1) + 1)))) else some (0, M))

def f_X8_feed (v1 : Int32) (M : Mem) : Option (Int32 × Mem) :=
  (if v1 < 0 then some ((-2), M) else (if v1 ≤ 255 then (f_X5_append v1 M).bind fun o3 => (if o3.1 = 0 then some ((-4), o3.2) else some ((o3.2 34 1), o3.2)) else some ((-2), M)))

def f_X7_clear (q0 : Nat) (M : Mem) : Option Mem :=
  ck (kd q0 == 6) (some (mu M q0 2 0))

def f_X5_isLetter (v0 : Int32) (M : Mem) : Option (Int32 × Mem) :=
  (if v0 < 97 then some (0, M) else (if 122 < v0 then some (0, M) else some (1, M)))

def f_X5_isWord_l20 : Nat → Nat → Int32 → Mem → Option (Int32 × Mem)
  | 0, _, _, _ => none
  | n + 1, q1, v2, M => ck (isStr q1) ((if (slen q1) ≤ v2 then some (1, M) else ck (inb ((M 34 4) + v2) 160) (ck (inb v2 (slenN q1)) ((if (M 35 (((M 34 4) + v2)).toNatClampNeg) = (schar q1 (v2).toNatClampNeg) then (f_X5_isWord_l20 n) q1 (v2 + 1) M else some (0, M))))))
def f_X5_isWord (q1 : Nat) (M : Mem) : Option (Int32 × Mem) :=
  ck (isStr q1) ((if ((M 34 2) - (M 34 4)) = (slen q1) then (f_X5_isWord_l20 FU) q1 0 M else some (0, M)))

def f_X7_nameCode (v0 : Int32) (M : Mem) : Option (Int32 × Mem) :=
  some (((-1) - v0), M)

def f_X5_advanceWord_l0 (k39 : Mem → Option Mem) : Nat → Mem → Option Mem
  | 0, _ => none
  | n + 1, M => (if (M 34 1) ≤ (M 34 2) then k39 M else ck (inb (M 34 2) 160) ((f_X5_isLetter (M 35 ((M 34 2)).toNatClampNeg) M).bind fun o3 => (if o3.1 = 0 then k39 o3.2 else (f_X5_advanceWord_l0 k39 n) (mu o3.2 34 2 ((o3.2 34 2) + 1)))))
def f_X5_advanceWord_b39 (M : Mem) : Option Mem :=
  (f_X5_isWord 1000 (mu M 34 3 259)).bind fun o6 => (if o6.1 = 0 then (f_X5_isWord 1001 o6.2).bind fun o9 => (if o9.1 = 0 then (f_X5_isWord 1002 o9.2).bind fun o12 => (if o12.1 = 0 then (f_X5_isWord 1003 o12.2).bind fun o15 => (if o15.1 = 0 then (f_X5_isWord 1004 o15.2).bind fun o18 => (if o18.1 = 0 then (f_X5_isWord 1005 o18.2).bind fun o21 => (if o21.1 = 0 then (f_X5_isWord 1006 o21.2).bind fun o24 => (if o24.1 = 0 then (f_X5_isWord 1007 o24.2).bind fun o27 => (if o27.1 = 0 then (f_X5_isWord 1008 o27.2).bind fun o30 => (if o30.1 = 0 then (f_X5_isWord 1009 o30.2).bind fun o33 => (if o33.1 = 0 then (f_X5_isWord 1010 o33.2).bind fun o36 => (if o36.1 = 0 then (f_X5_isWord 1011 o36.2).bind fun o39 => (if o39.1 = 0 then some (mu o39.2 34 3 257) else some (mu o39.2 34 3 265)) else some (mu o36.2 34 3 264)) else some (mu o33.2 34 3 263)) else some (mu o30.2 34 3 262)) else some (mu o27.2 34 3 261)) else some (mu o24.2 34 3 260)) else (f_X7_nameCode 5 o21.2).bind fun o42 => some (mu o42.2 34 5 o42.1)) else (f_X7_nameCode 4 o18.2).bind fun o44 => some (mu o44.2 34 5 o44.1)) else (f_X7_nameCode 3 o15.2).bind fun o46 => some (mu o46.2 34 5 o46.1)) else (f_X7_nameCode 2 o12.2).bind fun o48 => some (mu o48.2 34 5 o48.1)) else (f_X7_nameCode 1 o9.2).bind fun o50 => some (mu o50.2 34 5 o50.1)) else (f_X7_nameCode 0 o6.2).bind fun o52 => some (mu o52.2 34 5 o52.1))
def f_X5_advanceWord (M : Mem) : Option Mem :=
  (f_X5_advanceWord_l0 f_X5_advanceWord_b39 FU) M

def f_X5_isDigit (v0 : Int32) (M : Mem) : Option (Int32 × Mem) :=
  (if v0 < 48 then some (0, M) else (if 57 < v0 then some (0, M) else some (1, M)))

def f_X5_advanceNumber_b68 (r : Mem → Option Mem) (k81 : Mem → Option Mem) (M : Mem) : Option Mem :=
  r (mu M 34 2 ((M 34 2) + 1))
def f_X5_advanceNumber_l5 (k81 : Mem → Option Mem) : Nat → Mem → Option Mem
  | 0, _ => none
  | n + 1, M => (if (M 34 1) ≤ (M 34 2) then k81 M else ck (inb (M 34 2) 160) ((f_X5_isDigit (M 35 ((M 34 2)).toNatClampNeg) M).bind fun o3 => (if o3.1 = 0 then k81 o3.2 else (if 4 ≤ ((o3.2 34 2) - (o3.2 34 4)) then (f_X5_advanceNumber_b68 (f_X5_advanceNumber_l5 k81 n) k81) o3.2 else ck (inb (o3.2 34 2) 160) ((f_X5_advanceNumber_b68 (f_X5_advanceNumber_l5 k81 n) k81) (mu o3.2 34 5 ((((o3.2 34 5) * 10) + (o3.2 35 ((o3.2 34 2)).toNatClampNeg)) - 48)))))))
def f_X5_advanceNumber_b81 (M : Mem) : Option Mem :=
  (if ((M 34 2) - (M 34 4)) ≤ 4 then some (mu M 34 3 258) else some (mu M 34 3 257))
def f_X5_advanceNumber (M : Mem) : Option Mem :=
  (f_X5_advanceNumber_l5 f_X5_advanceNumber_b81 FU) (mu M 34 5 0)

def f_X5_isSign (v0 : Int32) (M : Mem) : Option (Int32 × Mem) :=
  (if v0 = 40 then some (1, M) else (if v0 = 41 then some (1, M) else (if v0 = 59 then some (1, M) else (if v0 = 43 then some (1, M) else (if v0 = 45 then some (1, M) else (if v0 = 42 then some (1, M) else (if v0 = 60 then some (1, M) else (if v0 = 61 then some (1, M) else some (0, M)))))))))

def f_X5_advance_b39 (r : Mem → Option Mem) (k52 : Mem → Option Mem) (M : Mem) : Option Mem :=
  r (mu M 34 2 ((M 34 2) + 1))
def f_X5_advance_l0 (k52 : Mem → Option Mem) : Nat → Mem → Option Mem
  | 0, _ => none
  | n + 1, M => (if (M 34 1) ≤ (M 34 2) then k52 M else ck (inb (M 34 2) 160) ((if (M 35 ((M 34 2)).toNatClampNeg) = 32 then (f_X5_advance_b39 (f_X5_advance_l0 k52 n) k52) M else (if (M 35 ((M 34 2)).toNatClampNeg) = 10 then (f_X5_advance_b39 (f_X5_advance_l0 k52 n) k52) M else k52 M))))
def f_X5_advance_b156 (s1 : Int32) (M : Mem) : Option Mem :=
  some (mu (mu M 34 3 s1) 34 2 ((M 34 2) + 1))
def f_X5_advance_b52 (M : Mem) : Option Mem :=
  (if (M 34 2) < (M 34 1) then ck (inb (M 34 2) 160) ((f_X5_isLetter (M 35 ((M 34 2)).toNatClampNeg) (mu M 34 4 (M 34 2))).bind fun o7 => (if o7.1 = 0 then ck (inb (o7.2 34 2) 160) ((f_X5_isDigit (o7.2 35 ((o7.2 34 2)).toNatClampNeg) o7.2).bind fun o11 => (if o11.1 = 0 then ck (inb (o11.2 34 2) 160) ((f_X5_isSign (o11.2 35 ((o11.2 34 2)).toNatClampNeg) o11.2).bind fun o15 => (if o15.1 = 0 then f_X5_advance_b156 257 o15.2 else ck (inb (o15.2 34 2) 160) (f_X5_advance_b156 (o15.2 35 ((o15.2 34 2)).toNatClampNeg) o15.2))) else (f_X5_advanceNumber o11.2).bind fun o19 => some o19)) else (f_X5_advanceWord o7.2).bind fun o21 => some o21)) else some (mu (mu M 34 4 (M 34 2)) 34 3 256))
def f_X5_advance (M : Mem) : Option Mem :=
  (f_X5_advance_l0 f_X5_advance_b52 FU) M

def f_X5_fail (M : Mem) : Option Mem :=
  (if (M 34 6) = (-1) then some (mu (mu M 34 6 (M 34 4)) 34 3 257) else some (mu M 34 3 257))

def f_X5_expect (v1 : Int32) (M : Mem) : Option Mem :=
  (if (M 34 3) = v1 then (f_X5_advance M).bind fun o4 => some o4 else (f_X5_fail M).bind fun o2 => some o2)

def f_X7_append (q0 : Nat) (v1 : Int32) (M : Mem) : Option Mem :=
  ck (kd q0 == 6) ((if 160 ≤ (M q0 2) then some M else ck (kd (q0 + 1) == 30) (ck (inb (M q0 2) (ln (q0 + 1))) (some (mu (mu M (q0 + 1) ((M q0 2)).toNatClampNeg v1) q0 2 ((M q0 2) + 1))))))

def f_X5_readEither_l8 (rc_X5_readEither : Nat → Int32 → Mem → Option Mem) (rc_X5_readBoth : Nat → Int32 → Mem → Option Mem) (rc_X5_readNot : Nat → Int32 → Mem → Option Mem) (rc_X5_readSum : Nat → Int32 → Mem → Option Mem) (rc_X5_readTerm : Nat → Int32 → Mem → Option Mem) (rc_X5_readOne : Nat → Int32 → Mem → Option Mem) : Nat → Nat → Int32 → Int32 → Mem → Option Mem
  | 0, _, _, _, _ => none
  | n + 1, q1, v2, v3, M => (if 160 ≤ v3 then some M else (if (M 34 3) = 263 then (f_X5_advance M).bind fun o5 => (rc_X5_readBoth q1 v2 o5).bind fun o7 => (f_X7_append q1 (-7) o7).bind fun o9 => ck (kd q1 == 6) ((f_X5_readEither_l8 rc_X5_readEither rc_X5_readBoth rc_X5_readNot rc_X5_readSum rc_X5_readTerm rc_X5_readOne n) q1 v2 (v3 + 1) o9) else some M))
def f_X5_readEither_b (rc_X5_readEither : Nat → Int32 → Mem → Option Mem) (rc_X5_readBoth : Nat → Int32 → Mem → Option Mem) (rc_X5_readNot : Nat → Int32 → Mem → Option Mem) (rc_X5_readSum : Nat → Int32 → Mem → Option Mem) (rc_X5_readTerm : Nat → Int32 → Mem → Option Mem) (rc_X5_readOne : Nat → Int32 → Mem → Option Mem) (q1 : Nat) (v2 : Int32) (M : Mem) : Option Mem :=
  (rc_X5_readBoth q1 v2 M).bind fun o1 => (f_X5_readEither_l8 rc_X5_readEither rc_X5_readBoth rc_X5_readNot rc_X5_readSum rc_X5_readTerm rc_X5_readOne FU) q1 v2 0 o1
def f_X5_readBoth_l8 (rc_X5_readEither : Nat → Int32 → Mem → Option Mem) (rc_X5_readBoth : Nat → Int32 → Mem → Option Mem) (rc_X5_readNot : Nat → Int32 → Mem → Option Mem) (rc_X5_readSum : Nat → Int32 → Mem → Option Mem) (rc_X5_readTerm : Nat → Int32 → Mem → Option Mem) (rc_X5_readOne : Nat → Int32 → Mem → Option Mem) : Nat → Nat → Int32 → Int32 → Mem → Option Mem
  | 0, _, _, _, _ => none
  | n + 1, q1, v2, v3, M => (if 160 ≤ v3 then some M else (if (M 34 3) = 264 then (f_X5_advance M).bind fun o5 => (rc_X5_readNot q1 v2 o5).bind fun o7 => (f_X7_append q1 (-8) o7).bind fun o9 => ck (kd q1 == 6) ((f_X5_readBoth_l8 rc_X5_readEither rc_X5_readBoth rc_X5_readNot rc_X5_readSum rc_X5_readTerm rc_X5_readOne n) q1 v2 (v3 + 1) o9) else some M))
def f_X5_readBoth_b (rc_X5_readEither : Nat → Int32 → Mem → Option Mem) (rc_X5_readBoth : Nat → Int32 → Mem → Option Mem) (rc_X5_readNot : Nat → Int32 → Mem → Option Mem) (rc_X5_readSum : Nat → Int32 → Mem → Option Mem) (rc_X5_readTerm : Nat → Int32 → Mem → Option Mem) (rc_X5_readOne : Nat → Int32 → Mem → Option Mem) (q1 : Nat) (v2 : Int32) (M : Mem) : Option Mem :=
  (rc_X5_readNot q1 v2 M).bind fun o1 => (f_X5_readBoth_l8 rc_X5_readEither rc_X5_readBoth rc_X5_readNot rc_X5_readSum rc_X5_readTerm rc_X5_readOne FU) q1 v2 0 o1
def f_X5_readNot_b79 (rc_X5_readEither : Nat → Int32 → Mem → Option Mem) (rc_X5_readBoth : Nat → Int32 → Mem → Option Mem) (rc_X5_readNot : Nat → Int32 → Mem → Option Mem) (rc_X5_readSum : Nat → Int32 → Mem → Option Mem) (rc_X5_readTerm : Nat → Int32 → Mem → Option Mem) (rc_X5_readOne : Nat → Int32 → Mem → Option Mem) (q1 : Nat) (v2 : Int32) (s0 : Int32) (M : Mem) : Option Mem :=
  (f_X5_advance M).bind fun o17 => (rc_X5_readSum q1 v2 o17).bind fun o19 => (f_X7_append q1 s0 o19).bind fun o21 => ck (kd q1 == 6) (some o21)
def f_X5_readNot_b63 (rc_X5_readEither : Nat → Int32 → Mem → Option Mem) (rc_X5_readBoth : Nat → Int32 → Mem → Option Mem) (rc_X5_readNot : Nat → Int32 → Mem → Option Mem) (rc_X5_readSum : Nat → Int32 → Mem → Option Mem) (rc_X5_readTerm : Nat → Int32 → Mem → Option Mem) (rc_X5_readOne : Nat → Int32 → Mem → Option Mem) (q1 : Nat) (v2 : Int32) (M : Mem) : Option Mem :=
  (if (M 34 3) = 60 then (f_X5_readNot_b79 rc_X5_readEither rc_X5_readBoth rc_X5_readNot rc_X5_readSum rc_X5_readTerm rc_X5_readOne) q1 v2 (-10) M else (f_X5_readNot_b79 rc_X5_readEither rc_X5_readBoth rc_X5_readNot rc_X5_readSum rc_X5_readTerm rc_X5_readOne) q1 v2 (-11) M)
def f_X5_readNot_b (rc_X5_readEither : Nat → Int32 → Mem → Option Mem) (rc_X5_readBoth : Nat → Int32 → Mem → Option Mem) (rc_X5_readNot : Nat → Int32 → Mem → Option Mem) (rc_X5_readSum : Nat → Int32 → Mem → Option Mem) (rc_X5_readTerm : Nat → Int32 → Mem → Option Mem) (rc_X5_readOne : Nat → Int32 → Mem → Option Mem) (q1 : Nat) (v2 : Int32) (M : Mem) : Option Mem :=
  (if (M 34 3) = 265 then (if v2 < 5 then (f_X5_advance M).bind fun o7 => (rc_X5_readNot q1 (v2 + 1) o7).bind fun o9 => (f_X7_append q1 (-9) o9).bind fun o11 => ck (kd q1 == 6) (some o11) else (f_X5_fail M).bind fun o14 => some o14) else (rc_X5_readSum q1 v2 M).bind fun o2 => (if (o2 34 3) = 60 then (f_X5_readNot_b63 rc_X5_readEither rc_X5_readBoth rc_X5_readNot rc_X5_readSum rc_X5_readTerm rc_X5_readOne) q1 v2 o2 else (if (o2 34 3) = 61 then (f_X5_readNot_b63 rc_X5_readEither rc_X5_readBoth rc_X5_readNot rc_X5_readSum rc_X5_readTerm rc_X5_readOne) q1 v2 o2 else some o2)))
def f_X5_readSum_b49 (rc_X5_readEither : Nat → Int32 → Mem → Option Mem) (rc_X5_readBoth : Nat → Int32 → Mem → Option Mem) (rc_X5_readNot : Nat → Int32 → Mem → Option Mem) (rc_X5_readSum : Nat → Int32 → Mem → Option Mem) (rc_X5_readTerm : Nat → Int32 → Mem → Option Mem) (rc_X5_readOne : Nat → Int32 → Mem → Option Mem) (r : Nat → Int32 → Int32 → Mem → Option Mem) (q1 : Nat) (v2 : Int32) (v3 : Int32) (s0 : Int32) (M : Mem) : Option Mem :=
  (f_X5_advance M).bind fun o7 => (rc_X5_readTerm q1 v2 o7).bind fun o9 => (f_X7_append q1 s0 o9).bind fun o11 => ck (kd q1 == 6) (r q1 v2 (v3 + 1) o11)
def f_X5_readSum_b33 (rc_X5_readEither : Nat → Int32 → Mem → Option Mem) (rc_X5_readBoth : Nat → Int32 → Mem → Option Mem) (rc_X5_readNot : Nat → Int32 → Mem → Option Mem) (rc_X5_readSum : Nat → Int32 → Mem → Option Mem) (rc_X5_readTerm : Nat → Int32 → Mem → Option Mem) (rc_X5_readOne : Nat → Int32 → Mem → Option Mem) (r : Nat → Int32 → Int32 → Mem → Option Mem) (q1 : Nat) (v2 : Int32) (v3 : Int32) (M : Mem) : Option Mem :=
  (if (M 34 3) = 43 then (f_X5_readSum_b49 rc_X5_readEither rc_X5_readBoth rc_X5_readNot rc_X5_readSum rc_X5_readTerm rc_X5_readOne r) q1 v2 v3 (-12) M else (f_X5_readSum_b49 rc_X5_readEither rc_X5_readBoth rc_X5_readNot rc_X5_readSum rc_X5_readTerm rc_X5_readOne r) q1 v2 v3 (-13) M)
def f_X5_readSum_l8 (rc_X5_readEither : Nat → Int32 → Mem → Option Mem) (rc_X5_readBoth : Nat → Int32 → Mem → Option Mem) (rc_X5_readNot : Nat → Int32 → Mem → Option Mem) (rc_X5_readSum : Nat → Int32 → Mem → Option Mem) (rc_X5_readTerm : Nat → Int32 → Mem → Option Mem) (rc_X5_readOne : Nat → Int32 → Mem → Option Mem) : Nat → Nat → Int32 → Int32 → Mem → Option Mem
  | 0, _, _, _, _ => none
  | n + 1, q1, v2, v3, M => (if 160 ≤ v3 then some M else (if (M 34 3) = 43 then (f_X5_readSum_b33 rc_X5_readEither rc_X5_readBoth rc_X5_readNot rc_X5_readSum rc_X5_readTerm rc_X5_readOne (f_X5_readSum_l8 rc_X5_readEither rc_X5_readBoth rc_X5_readNot rc_X5_readSum rc_X5_readTerm rc_X5_readOne n)) q1 v2 v3 M else (if (M 34 3) = 45 then (f_X5_readSum_b33 rc_X5_readEither rc_X5_readBoth rc_X5_readNot rc_X5_readSum rc_X5_readTerm rc_X5_readOne (f_X5_readSum_l8 rc_X5_readEither rc_X5_readBoth rc_X5_readNot rc_X5_readSum rc_X5_readTerm rc_X5_readOne n)) q1 v2 v3 M else some M)))
def f_X5_readSum_b (rc_X5_readEither : Nat → Int32 → Mem → Option Mem) (rc_X5_readBoth : Nat → Int32 → Mem → Option Mem) (rc_X5_readNot : Nat → Int32 → Mem → Option Mem) (rc_X5_readSum : Nat → Int32 → Mem → Option Mem) (rc_X5_readTerm : Nat → Int32 → Mem → Option Mem) (rc_X5_readOne : Nat → Int32 → Mem → Option Mem) (q1 : Nat) (v2 : Int32) (M : Mem) : Option Mem :=
  (rc_X5_readTerm q1 v2 M).bind fun o1 => (f_X5_readSum_l8 rc_X5_readEither rc_X5_readBoth rc_X5_readNot rc_X5_readSum rc_X5_readTerm rc_X5_readOne FU) q1 v2 0 o1
def f_X5_readTerm_l8 (rc_X5_readEither : Nat → Int32 → Mem → Option Mem) (rc_X5_readBoth : Nat → Int32 → Mem → Option Mem) (rc_X5_readNot : Nat → Int32 → Mem → Option Mem) (rc_X5_readSum : Nat → Int32 → Mem → Option Mem) (rc_X5_readTerm : Nat → Int32 → Mem → Option Mem) (rc_X5_readOne : Nat → Int32 → Mem → Option Mem) : Nat → Nat → Int32 → Int32 → Mem → Option Mem
  | 0, _, _, _, _ => none
  | n + 1, q1, v2, v3, M => (if 160 ≤ v3 then some M else (if (M 34 3) = 42 then (f_X5_advance M).bind fun o5 => (rc_X5_readOne q1 v2 o5).bind fun o7 => (f_X7_append q1 (-14) o7).bind fun o9 => ck (kd q1 == 6) ((f_X5_readTerm_l8 rc_X5_readEither rc_X5_readBoth rc_X5_readNot rc_X5_readSum rc_X5_readTerm rc_X5_readOne n) q1 v2 (v3 + 1) o9) else some M))
def f_X5_readTerm_b (rc_X5_readEither : Nat → Int32 → Mem → Option Mem) (rc_X5_readBoth : Nat → Int32 → Mem → Option Mem) (rc_X5_readNot : Nat → Int32 → Mem → Option Mem) (rc_X5_readSum : Nat → Int32 → Mem → Option Mem) (rc_X5_readTerm : Nat → Int32 → Mem → Option Mem) (rc_X5_readOne : Nat → Int32 → Mem → Option Mem) (q1 : Nat) (v2 : Int32) (M : Mem) : Option Mem :=
  (rc_X5_readOne q1 v2 M).bind fun o1 => (f_X5_readTerm_l8 rc_X5_readEither rc_X5_readBoth rc_X5_readNot rc_X5_readSum rc_X5_readTerm rc_X5_readOne FU) q1 v2 0 o1
def f_X5_readOne_b20 (rc_X5_readEither : Nat → Int32 → Mem → Option Mem) (rc_X5_readBoth : Nat → Int32 → Mem → Option Mem) (rc_X5_readNot : Nat → Int32 → Mem → Option Mem) (rc_X5_readSum : Nat → Int32 → Mem → Option Mem) (rc_X5_readTerm : Nat → Int32 → Mem → Option Mem) (rc_X5_readOne : Nat → Int32 → Mem → Option Mem) (q1 : Nat) (M : Mem) : Option Mem :=
  (f_X7_append q1 (M 34 5) M).bind fun o5 => ck (kd q1 == 6) ((f_X5_advance o5).bind fun o8 => some o8)
def f_X5_readOne_b66 (rc_X5_readEither : Nat → Int32 → Mem → Option Mem) (rc_X5_readBoth : Nat → Int32 → Mem → Option Mem) (rc_X5_readNot : Nat → Int32 → Mem → Option Mem) (rc_X5_readSum : Nat → Int32 → Mem → Option Mem) (rc_X5_readTerm : Nat → Int32 → Mem → Option Mem) (rc_X5_readOne : Nat → Int32 → Mem → Option Mem) (M : Mem) : Option Mem :=
  (f_X5_fail M).bind fun o13 => some o13
def f_X5_readOne_b85 (rc_X5_readEither : Nat → Int32 → Mem → Option Mem) (rc_X5_readBoth : Nat → Int32 → Mem → Option Mem) (rc_X5_readNot : Nat → Int32 → Mem → Option Mem) (rc_X5_readSum : Nat → Int32 → Mem → Option Mem) (rc_X5_readTerm : Nat → Int32 → Mem → Option Mem) (rc_X5_readOne : Nat → Int32 → Mem → Option Mem) (q1 : Nat) (v2 : Int32) (s0 : Int32) (M : Mem) : Option Mem :=
  (f_X5_advance M).bind fun o15 => (if s0 = 0 then (rc_X5_readEither q1 (v2 + 1) o15).bind fun o18 => (f_X5_expect 41 o18).bind fun o20 => some o20 else (rc_X5_readOne q1 (v2 + 1) o15).bind fun o22 => (f_X7_append q1 (-15) o22).bind fun o24 => ck (kd q1 == 6) (some o24))
def f_X5_readOne_b56 (rc_X5_readEither : Nat → Int32 → Mem → Option Mem) (rc_X5_readBoth : Nat → Int32 → Mem → Option Mem) (rc_X5_readNot : Nat → Int32 → Mem → Option Mem) (rc_X5_readSum : Nat → Int32 → Mem → Option Mem) (rc_X5_readTerm : Nat → Int32 → Mem → Option Mem) (rc_X5_readOne : Nat → Int32 → Mem → Option Mem) (q1 : Nat) (v2 : Int32) (s0 : Int32) (M : Mem) : Option Mem :=
  (if s0 = 0 then (f_X5_readOne_b66 rc_X5_readEither rc_X5_readBoth rc_X5_readNot rc_X5_readSum rc_X5_readTerm rc_X5_readOne) M else (if v2 < 5 then (if (M 34 3) = 45 then (f_X5_readOne_b85 rc_X5_readEither rc_X5_readBoth rc_X5_readNot rc_X5_readSum rc_X5_readTerm rc_X5_readOne) q1 v2 1 M else (f_X5_readOne_b85 rc_X5_readEither rc_X5_readBoth rc_X5_readNot rc_X5_readSum rc_X5_readTerm rc_X5_readOne) q1 v2 0 M) else (f_X5_readOne_b66 rc_X5_readEither rc_X5_readBoth rc_X5_readNot rc_X5_readSum rc_X5_readTerm rc_X5_readOne) M))
def f_X5_readOne_b51 (rc_X5_readEither : Nat → Int32 → Mem → Option Mem) (rc_X5_readBoth : Nat → Int32 → Mem → Option Mem) (rc_X5_readNot : Nat → Int32 → Mem → Option Mem) (rc_X5_readSum : Nat → Int32 → Mem → Option Mem) (rc_X5_readTerm : Nat → Int32 → Mem → Option Mem) (rc_X5_readOne : Nat → Int32 → Mem → Option Mem) (q1 : Nat) (v2 : Int32) (M : Mem) : Option Mem :=
  (f_X5_readOne_b56 rc_X5_readEither rc_X5_readBoth rc_X5_readNot rc_X5_readSum rc_X5_readTerm rc_X5_readOne) q1 v2 1 M
def f_X5_readOne_b (rc_X5_readEither : Nat → Int32 → Mem → Option Mem) (rc_X5_readBoth : Nat → Int32 → Mem → Option Mem) (rc_X5_readNot : Nat → Int32 → Mem → Option Mem) (rc_X5_readSum : Nat → Int32 → Mem → Option Mem) (rc_X5_readTerm : Nat → Int32 → Mem → Option Mem) (rc_X5_readOne : Nat → Int32 → Mem → Option Mem) (q1 : Nat) (v2 : Int32) (M : Mem) : Option Mem :=
  (if (M 34 3) = 258 then (f_X5_readOne_b20 rc_X5_readEither rc_X5_readBoth rc_X5_readNot rc_X5_readSum rc_X5_readTerm rc_X5_readOne) q1 M else (if (M 34 3) = 259 then (f_X5_readOne_b20 rc_X5_readEither rc_X5_readBoth rc_X5_readNot rc_X5_readSum rc_X5_readTerm rc_X5_readOne) q1 M else (if (M 34 3) = 45 then (f_X5_readOne_b51 rc_X5_readEither rc_X5_readBoth rc_X5_readNot rc_X5_readSum rc_X5_readTerm rc_X5_readOne) q1 v2 M else (if (M 34 3) = 40 then (f_X5_readOne_b51 rc_X5_readEither rc_X5_readBoth rc_X5_readNot rc_X5_readSum rc_X5_readTerm rc_X5_readOne) q1 v2 M else (f_X5_readOne_b56 rc_X5_readEither rc_X5_readBoth rc_X5_readNot rc_X5_readSum rc_X5_readTerm rc_X5_readOne) q1 v2 0 M))))
def G_X5_readEither : Nat → (Nat → Int32 → Mem → Option Mem) × (Nat → Int32 → Mem → Option Mem) × (Nat → Int32 → Mem → Option Mem) × (Nat → Int32 → Mem → Option Mem) × (Nat → Int32 → Mem → Option Mem) × (Nat → Int32 → Mem → Option Mem)
  | 0 => (fun _ _ _ => none, fun _ _ _ => none, fun _ _ _ => none, fun _ _ _ => none, fun _ _ _ => none, fun _ _ _ => none)
  | d + 1 => let g := G_X5_readEither d; (f_X5_readEither_b g.1 g.2.1 g.2.2.1 g.2.2.2.1 g.2.2.2.2.1 g.2.2.2.2.2, f_X5_readBoth_b g.1 g.2.1 g.2.2.1 g.2.2.2.1 g.2.2.2.2.1 g.2.2.2.2.2, f_X5_readNot_b g.1 g.2.1 g.2.2.1 g.2.2.2.1 g.2.2.2.2.1 g.2.2.2.2.2, f_X5_readSum_b g.1 g.2.1 g.2.2.1 g.2.2.2.1 g.2.2.2.2.1 g.2.2.2.2.2, f_X5_readTerm_b g.1 g.2.1 g.2.2.1 g.2.2.2.1 g.2.2.2.2.1 g.2.2.2.2.2, f_X5_readOne_b g.1 g.2.1 g.2.2.1 g.2.2.2.1 g.2.2.2.2.1 g.2.2.2.2.2)
def f_X5_readEither (d : Nat) : Nat → Int32 → Mem → Option Mem := (G_X5_readEither d).1
def f_X5_readBoth (d : Nat) : Nat → Int32 → Mem → Option Mem := (G_X5_readEither d).2.1
def f_X5_readNot (d : Nat) : Nat → Int32 → Mem → Option Mem := (G_X5_readEither d).2.2.1
def f_X5_readSum (d : Nat) : Nat → Int32 → Mem → Option Mem := (G_X5_readEither d).2.2.2.1
def f_X5_readTerm (d : Nat) : Nat → Int32 → Mem → Option Mem := (G_X5_readEither d).2.2.2.2.1
def f_X5_readOne (d : Nat) : Nat → Int32 → Mem → Option Mem := (G_X5_readEither d).2.2.2.2.2

def f_X7_endSection (q0 : Nat) (v1 : Int32) (M : Mem) : Option Mem :=
  ck (kd q0 == 6) (ck (kd (q0 + 2) == 30) (ck (inb v1 (ln (q0 + 2))) (some (mu M (q0 + 2) (v1).toNatClampNeg (M q0 2)))))

def f_X5_readInto_l20 (k57 : Mem → Option (Int32 × Mem)) : Nat → Nat → Int32 → Mem → Option (Int32 × Mem)
  | 0, _, _, _ => none
  | n + 1, q1, v2, M => (if 3 ≤ v2 then k57 M else (f_X5_expect (260 + v2) M).bind fun o7 => (f_X5_readEither DP q1 0 o7).bind fun o9 => (f_X5_expect 59 o9).bind fun o11 => (f_X7_endSection q1 v2 o11).bind fun o13 => ck (kd q1 == 6) ((f_X5_readInto_l20 k57 n) q1 (v2 + 1) o13))
def f_X5_readInto_b71 (M : Mem) : Option (Int32 × Mem) :=
  some ((M 34 6), (mu M 34 1 0))
def f_X5_readInto_b57 (M : Mem) : Option (Int32 × Mem) :=
  (if (M 34 3) = 256 then f_X5_readInto_b71 M else (f_X5_fail M).bind fun o17 => f_X5_readInto_b71 o17)
def f_X5_readInto (q1 : Nat) (M : Mem) : Option (Int32 × Mem) :=
  (f_X7_clear q1 M).bind fun o1 => ck (kd q1 == 6) ((f_X5_advance (mu (mu o1 34 2 0) 34 6 (-1))).bind fun o4 => (f_X5_readInto_l20 f_X5_readInto_b57 FU) q1 0 o4)

def f_X8_text (M : Mem) : Option (Int32 × Mem) :=
  (if (M 0 4) < 6 then ck (inb (M 0 4) 6) ((f_X5_readInto (16 + 3 * ((M 0 4)).toNatClampNeg) M).bind fun o3 => (if o3.1 = (-1) then some ((((o3.2 0 4) + 1) - 1), (mu o3.2 0 4 ((o3.2 0 4) + 1))) else some (((-100) - o3.1), o3.2))) else some ((-4), M))

def f_X8_force (v1 : Int32) (M : Mem) : Option (Int32 × Mem) :=
  (if v1 < 0 then some ((-2), M) else (if v1 < (M 0 4) then some ((M 1 8), (mu M 1 8 v1)) else some ((-2), M)))

def f_X0_isCooked (v1 : Int32) (q2 : Nat) (M : Mem) : Option (Int32 × Mem) :=
  (f_X0_cross v1 q2 M).bind fun o1 => (if (o1 36 12) = 0 then some (0, o1) else (f_X0_judge v1 o1).bind fun o4 => (if (o4 42 0) = 0 then some (0, o4) else (if (o4 42 1) = 0 then some (0, o4) else some (1, o4))))

def f_X0_useUp_l16 : Nat → Nat → Int32 → Int32 → Int32 → Mem → Option Mem
  | 0, _, _, _, _, _ => none
  | n + 1, q2, v3, v4, v5, M => (if 6 ≤ v5 then some M else ck (kd q2 == 10) (ck (inb (v3 + v5) (ln q2)) (ck (inb v5 6) (ck (inb (v4 + v5) (ln q2)) ((f_X0_useUp_l16 n) q2 v3 v4 (v5 + 1) (mu (mu M q2 ((v3 + v5)).toNatClampNeg ((M q2 ((v3 + v5)).toNatClampNeg) - ((M 38 (v5).toNatClampNeg) - (M 41 (v5).toNatClampNeg)))) q2 ((v4 + v5)).toNatClampNeg (((mu M q2 ((v3 + v5)).toNatClampNeg ((M q2 ((v3 + v5)).toNatClampNeg) - ((M 38 (v5).toNatClampNeg) - (M 41 (v5).toNatClampNeg)))) q2 ((v4 + v5)).toNatClampNeg) - ((mu M q2 ((v3 + v5)).toNatClampNeg ((M q2 ((v3 + v5)).toNatClampNeg) - ((M 38 (v5).toNatClampNeg) - (M 41 (v5).toNatClampNeg)))) 41 (v5).toNatClampNeg))))))))
def f_X0_useUp (v1 : Int32) (q2 : Nat) (M : Mem) : Option Mem :=
  (f_X0_useUp_l16 FU) q2 (v1 * 6) ((1 - v1) * 6) 0 M

def f_X1_countCooked (v1 : Int32) (M : Mem) : Option Mem :=
  ck (inb v1 6) (some (mu M 7 (v1).toNatClampNeg (jmin 999 ((M 7 (v1).toNatClampNeg) + 1))))

def f_X8_cook (v1 : Int32) (v2 : Int32) (M : Mem) : Option (Int32 × Mem) :=
  (f_X1_hasDish v1 M).bind fun o1 => (if o1.1 = 0 then some ((-1000), o1.2) else (f_X8_isKitchen v2 o1.2).bind fun o4 => (if o4.1 = 0 then some ((-1000), o4.2) else (f_X0_takeUp v1 o4.2).bind fun o7 => (f_X0_isCooked v2 2 o7).bind fun o9 => (if o9.1 = 0 then (if (o9.2 36 12) = 0 then some ((-1001), o9.2) else some ((-1002), o9.2)) else (f_X0_useUp v2 2 o9.2).bind fun o12 => (f_X1_countCooked v1 o12).bind fun o14 => (f_X0_worth o14).bind fun o16 => some (o16.1, o16.2))))

def f_X8_isMenu_b67 (r : Int32 → Int32 → Mem → Option (Int32 × Mem)) (v1 : Int32) (v2 : Int32) (s0 : Int32) (s1 : Int32) (M : Mem) : Option (Int32 × Mem) :=
  (if s0 ≤ s1 then r v1 (v2 + 1) M else some (0, M))
def f_X8_isMenu_b54 (r : Int32 → Int32 → Mem → Option (Int32 × Mem)) (v1 : Int32) (v2 : Int32) (v3 : Int32) (s0 : Int32) (M : Mem) : Option (Int32 × Mem) :=
  (if s0 = 0 then (f_X8_isMenu_b67 r) v1 v2 v3 0 M else (f_X8_isMenu_b67 r) v1 v2 v3 2 M)
def f_X8_isMenu_l14 : Nat → Int32 → Int32 → Mem → Option (Int32 × Mem)
  | 0, _, _, _ => none
  | n + 1, v1, v2, M => (if 6 ≤ v2 then some (1, M) else ck (inb v2 6) (ck (!((stv 2000 (v2).toNatClampNeg) == 0)) ((if v2 < (6 - (M 1 6)) then (f_X8_isMenu_b54 (f_X8_isMenu_l14 n)) v1 v2 (jrem (v1 / (stv 2000 (v2).toNatClampNeg)) 10) 0 M else (f_X8_isMenu_b54 (f_X8_isMenu_l14 n)) v1 v2 (jrem (v1 / (stv 2000 (v2).toNatClampNeg)) 10) 1 M))))
def f_X8_isMenu (v1 : Int32) (M : Mem) : Option (Int32 × Mem) :=
  (if v1 < 0 then some (0, M) else (if v1 ≤ 999999 then (f_X8_isMenu_l14 FU) v1 0 M else some (0, M)))

def f_X4_begin (M : Mem) : Option Mem :=
  some (mu (mu (mu (mu (mcp M 2 0 44 0 12) 43 3 0) 43 4 0) 43 5 0) 43 6 (-1))

def f_X1_kitchenBy (v1 : Int32) (v2 : Int32) (M : Mem) : Option (Int32 × Mem) :=
  ck (inb ((6 - (M 1 6)) + v2) 6) (ck (!((stv 2000 (((6 - (M 1 6)) + v2)).toNatClampNeg) == 0)) (some (((jrem (v1 / (stv 2000 (((6 - (M 1 6)) + v2)).toNatClampNeg)) 10) - 1), M)))

def f_X4_goOn_b77 (s1 : Int32) (s2 : Int32) (M : Mem) : Option (Int32 × Mem) :=
  some (1, (mu (mu M 43 4 (s1 + s2)) 43 5 ((M 43 5) + (M 36 14))))
def f_X4_goOn (v1 : Int32) (v2 : Int32) (M : Mem) : Option (Int32 × Mem) :=
  (f_X0_takeUp v1 M).bind fun o1 => (f_X0_isCooked v2 44 o1).bind fun o3 => (if o3.1 = 0 then some (0, o3.2) else (f_X0_useUp v2 44 o3.2).bind fun o6 => (if v2 = 0 then f_X4_goOn_b77 (o6 43 4) (o6 36 15) (mu o6 43 3 ((o6 43 3) + (o6 36 15))) else f_X4_goOn_b77 (o6 43 4) 0 (mu o6 43 3 ((o6 43 3) + (o6 36 15)))))

def f_X4_play_b54 (r : Int32 → Int32 → Mem → Option Mem) (v1 : Int32) (v2 : Int32) (M : Mem) : Option Mem :=
  r v1 (v2 + 1) M
def f_X4_play_l6 : Nat → Int32 → Int32 → Mem → Option Mem
  | 0, _, _, _ => none
  | n + 1, v1, v2, M => (if (M 1 6) ≤ v2 then some M else (if (M 43 6) = (-1) then (f_X1_kitchenBy v1 v2 M).bind fun o5 => (if o5.1 = (-1) then (f_X4_play_b54 (f_X4_play_l6 n)) v1 v2 o5.2 else (f_X4_goOn v2 o5.1 o5.2).bind fun o8 => (if o8.1 = 0 then (f_X4_play_b54 (f_X4_play_l6 n)) v1 v2 (mu o8.2 43 6 v2) else (f_X4_play_b54 (f_X4_play_l6 n)) v1 v2 o8.2)) else some M))
def f_X4_play (v1 : Int32) (M : Mem) : Option Mem :=
  (f_X4_begin M).bind fun o1 => (f_X4_play_l6 FU) v1 0 o1

def f_X8_menu_b44 (v2 : Int32) (s0 : Int32) (M : Mem) : Option (Int32 × Mem) :=
  (if v2 = 0 then (if s0 = 0 then some (0, M) else some (1, M)) else (if v2 = 1 then (if s0 = 0 then some ((-100000), M) else some (((M 43 3) - (M 43 5)), M)) else (if v2 = 2 then (if s0 = 0 then some ((-100000), M) else some ((M 43 3), M)) else (if v2 = 3 then (if s0 = 0 then some ((-100000), M) else some ((M 43 5), M)) else some ((M 43 6), M)))))
def f_X8_menu (v1 : Int32) (v2 : Int32) (M : Mem) : Option (Int32 × Mem) :=
  (f_X8_isMenu v1 M).bind fun o1 => (if o1.1 = 0 then some ((-2), o1.2) else (if v2 < 0 then some ((-2), o1.2) else (if v2 ≤ 4 then (f_X4_play v1 o1.2).bind fun o6 => (if (o6 43 6) = (-1) then f_X8_menu_b44 v2 1 o6 else f_X8_menu_b44 v2 0 o6) else some ((-2), o1.2))))

def f_X8_serve_b104 (r : Int32 → Int32 → Mem → Option (Int32 × Mem)) (k110 : Mem → Option (Int32 × Mem)) (v1 : Int32) (v2 : Int32) (M : Mem) : Option (Int32 × Mem) :=
  r v1 (v2 + 1) M
def f_X8_serve_l72 (k110 : Mem → Option (Int32 × Mem)) : Nat → Int32 → Int32 → Mem → Option (Int32 × Mem)
  | 0, _, _, _ => none
  | n + 1, v1, v2, M => (if (M 1 6) ≤ v2 then k110 M else (f_X1_kitchenBy v1 v2 M).bind fun o9 => (if o9.1 = (-1) then (f_X8_serve_b104 (f_X8_serve_l72 k110 n) k110) v1 v2 o9.2 else (f_X1_countCooked v2 o9.2).bind fun o12 => (f_X8_serve_b104 (f_X8_serve_l72 k110 n) k110) v1 v2 o12))
def f_X8_serve_b110 (M : Mem) : Option (Int32 × Mem) :=
  some (((M 43 3) - (M 43 5)), (mu M 1 7 ((M 1 7) + 1)))
def f_X8_serve (v1 : Int32) (M : Mem) : Option (Int32 × Mem) :=
  (f_X8_isMenu v1 M).bind fun o1 => (if o1.1 = 0 then some ((-100001), o1.2) else (f_X4_play v1 o1.2).bind fun o4 => (if (o4 43 6) = (-1) then (if (o4 1 7) < 999 then (f_X8_serve_l72 f_X8_serve_b110 FU) v1 0 (mcp o4 44 0 2 0 12) else some ((-100003), o4)) else some ((-100002), o4)))

def f_X3_weigh_b66 (v1 : Int32) (v3 : Int32) (v4 : Int32) (M : Mem) : Option Mem :=
  some (mu (mu (mu M 45 8 v1) 45 9 v3) 45 10 v4)
def f_X3_weigh_b40 (v1 : Int32) (v3 : Int32) (v4 : Int32) (M : Mem) : Option Mem :=
  (if (M 45 10) < v4 then f_X3_weigh_b66 v1 v3 v4 M else (if v4 = (M 45 10) then (if (M 45 9) ≤ v3 then some M else f_X3_weigh_b66 v1 v3 v4 M) else some M))
def f_X3_weigh_b22 (v1 : Int32) (v2 : Int32) (v3 : Int32) (v4 : Int32) (M : Mem) : Option Mem :=
  (if v2 ≤ (M 45 7) then f_X3_weigh_b40 v1 v3 v4 M else f_X3_weigh_b40 v1 v3 v4 (mu (mu M 45 6 v1) 45 7 v2))
def f_X3_weigh (v1 : Int32) (v2 : Int32) (v3 : Int32) (v4 : Int32) (M : Mem) : Option Mem :=
  (if (v2 - v3) ≤ (M 45 5) then f_X3_weigh_b22 v1 v2 v3 v4 M else f_X3_weigh_b22 v1 v2 v3 v4 (mu (mu M 45 4 v1) 45 5 (v2 - v3)))

def f_X3_goThrough_b17 (rc_X3_goThrough : Int32 → Int32 → Int32 → Int32 → Int32 → Mem → Option Mem) (v2 : Int32) (v3 : Int32) (v4 : Int32) (v5 : Int32) (M : Mem) : Option Mem :=
  (f_X3_weigh v2 v3 v4 v5 M).bind fun o11 => some o11
def f_X3_goThrough_b190 (rc_X3_goThrough : Int32 → Int32 → Int32 → Int32 → Int32 → Mem → Option Mem) (r : Int32 → Int32 → Int32 → Int32 → Int32 → Int32 → Mem → Option Mem) (v1 : Int32) (v2 : Int32) (v3 : Int32) (v4 : Int32) (v5 : Int32) (v6 : Int32) (M : Mem) : Option Mem :=
  r v1 v2 v3 v4 v5 (v6 + 1) M
def f_X3_goThrough_l77 (rc_X3_goThrough : Int32 → Int32 → Int32 → Int32 → Int32 → Mem → Option Mem) : Nat → Int32 → Int32 → Int32 → Int32 → Int32 → Int32 → Mem → Option Mem
  | 0, _, _, _, _, _, _, _ => none
  | n + 1, v1, v2, v3, v4, v5, v6, M => (if 2 ≤ v6 then some M else (f_X0_takeUp v1 M).bind fun o14 => ck (inb v1 7) ((f_X0_isCooked v6 (47 + (v1).toNatClampNeg) o14).bind fun o17 => (if o17.1 = 0 then (f_X3_goThrough_b190 rc_X3_goThrough (f_X3_goThrough_l77 rc_X3_goThrough n)) v1 v2 v3 v4 v5 v6 o17.2 else ck (inb (v1 + 1) 7) (ck (kd (47 + (v1).toNatClampNeg) == 10) (ck (kd (47 + ((v1 + 1)).toNatClampNeg) == 10) (ck (cpk 0 (ln (47 + (v1).toNatClampNeg)) 0 (ln (47 + ((v1 + 1)).toNatClampNeg)) 12) ((f_X0_useUp v6 (47 + ((v1 + 1)).toNatClampNeg) (mcp o17.2 (47 + (v1).toNatClampNeg) 0 (47 + ((v1 + 1)).toNatClampNeg) 0 12)).bind fun o24 => (rc_X3_goThrough (v1 + 1) (((v2 * 10) + v6) + 1) (v3 + (o24 36 15)) (v4 + (o24 36 14)) (v5 + 1) o24).bind fun o26 => (f_X3_goThrough_b190 rc_X3_goThrough (f_X3_goThrough_l77 rc_X3_goThrough n)) v1 v2 v3 v4 v5 v6 o26)))))))
def f_X3_goThrough_b (rc_X3_goThrough : Int32 → Int32 → Int32 → Int32 → Int32 → Mem → Option Mem) (v1 : Int32) (v2 : Int32) (v3 : Int32) (v4 : Int32) (v5 : Int32) (M : Mem) : Option Mem :=
  (if (M 1 6) ≤ v1 then (f_X3_goThrough_b17 rc_X3_goThrough) v2 v3 v4 v5 M else (if v1 < 6 then ck (inb v1 7) (ck (inb (v1 + 1) 7) (ck (kd (47 + (v1).toNatClampNeg) == 10) (ck (kd (47 + ((v1 + 1)).toNatClampNeg) == 10) (ck (cpk 0 (ln (47 + (v1).toNatClampNeg)) 0 (ln (47 + ((v1 + 1)).toNatClampNeg)) 12) ((rc_X3_goThrough (v1 + 1) (v2 * 10) v3 v4 v5 (mcp M (47 + (v1).toNatClampNeg) 0 (47 + ((v1 + 1)).toNatClampNeg) 0 12)).bind fun o8 => (if v1 = (o8 45 3) then some o8 else (f_X3_goThrough_l77 rc_X3_goThrough FU) v1 v2 v3 v4 v5 0 o8)))))) else (f_X3_goThrough_b17 rc_X3_goThrough) v2 v3 v4 v5 M))
def f_X3_goThrough : Nat → Int32 → Int32 → Int32 → Int32 → Int32 → Mem → Option Mem
  | 0 => fun _ _ _ _ _ _ => none
  | d + 1 => f_X3_goThrough_b (f_X3_goThrough d)

def f_X3_seek_b53 (v1 : Int32) (M : Mem) : Option Mem :=
  (f_X3_goThrough DP 0 0 0 0 0 (mu (mu (mu (mu (mu (mu (mu (mu M 45 3 v1) 45 4 0) 45 5 0) 45 6 0) 45 7 0) 45 8 0) 45 9 0) 45 10 0)).bind fun o4 => some o4
def f_X3_seek (v1 : Int32) (v2 : Int32) (M : Mem) : Option Mem :=
  (if v2 < 0 then f_X3_seek_b53 v1 (mcp M 2 0 47 0 12) else (if 12 ≤ v2 then f_X3_seek_b53 v1 (mcp M 2 0 47 0 12) else ck (inb v2 12) (f_X3_seek_b53 v1 (mu (mcp M 2 0 47 0 12) 47 (v2).toNatClampNeg (jmin 99 (((mcp M 2 0 47 0 12) 47 (v2).toNatClampNeg) + 1))))))

def f_X8_sideOf_b45 (r : Int32 → Int32 → Int32 → Mem → Option (Int32 × Mem)) (v1 : Int32) (v2 : Int32) (v3 : Int32) (M : Mem) : Option (Int32 × Mem) :=
  r v1 v2 (v3 + 1) M
def f_X8_sideOf_b43 (r : Int32 → Int32 → Int32 → Mem → Option (Int32 × Mem)) (v1 : Int32) (v3 : Int32) (s0 : Int32) (s1 : Int32) (M : Mem) : Option (Int32 × Mem) :=
  (f_X8_sideOf_b45 r) v1 (s0 + s1) v3 M
def f_X8_sideOf_l4 : Nat → Int32 → Int32 → Int32 → Mem → Option (Int32 × Mem)
  | 0, _, _, _, _ => none
  | n + 1, v1, v2, v3, M => (if (M 1 6) ≤ v3 then some (v2, M) else (f_X1_kitchenBy v1 v3 M).bind fun o2 => (if o2.1 = (-1) then (f_X8_sideOf_b45 (f_X8_sideOf_l4 n)) v1 v2 v3 o2.2 else (if o2.1 = 0 then (f_X8_sideOf_b43 (f_X8_sideOf_l4 n)) v1 v3 v2 1 o2.2 else (f_X8_sideOf_b43 (f_X8_sideOf_l4 n)) v1 v3 v2 (-1) o2.2)))
def f_X8_sideOf (v1 : Int32) (M : Mem) : Option (Int32 × Mem) :=
  (f_X8_sideOf_l4 FU) v1 0 0 M

def f_X8_best (v1 : Int32) (M : Mem) : Option (Int32 × Mem) :=
  (if v1 < 0 then some ((-100000), M) else (if v1 ≤ 7 then (f_X3_seek (-1) (-1) M).bind fun o3 => (if v1 = 0 then some ((o3 45 4), o3) else (if v1 = 1 then some ((o3 45 5), o3) else (if v1 = 2 then some ((o3 45 6), o3) else (if v1 = 3 then some ((o3 45 7), o3) else (if v1 = 4 then some ((o3 45 8), o3) else (if v1 = 5 then some ((o3 45 9), o3) else (if v1 = 6 then some ((o3 45 10), o3) else (f_X8_sideOf (o3 45 4) o3).bind fun o12 => some (o12.1, o12.2)))))))) else some ((-100000), M)))

def f_X8_leave_b68 (r : Int32 → Int32 → Int32 → Int32 → Mem → Option (Int32 × Mem)) (k74 : Int32 → Int32 → Int32 → Mem → Option (Int32 × Mem)) (v1 : Int32) (v2 : Int32) (v3 : Int32) (v4 : Int32) (M : Mem) : Option (Int32 × Mem) :=
  r v1 v2 v3 (v4 + 1) M
def f_X8_leave_b57 (r : Int32 → Int32 → Int32 → Int32 → Mem → Option (Int32 × Mem)) (k74 : Int32 → Int32 → Int32 → Mem → Option (Int32 × Mem)) (v1 : Int32) (v4 : Int32) (M : Mem) : Option (Int32 × Mem) :=
  (f_X8_leave_b68 r k74) v1 v4 (M 45 5) v4 M
def f_X8_leave_l19 (k74 : Int32 → Int32 → Int32 → Mem → Option (Int32 × Mem)) : Nat → Int32 → Int32 → Int32 → Int32 → Mem → Option (Int32 × Mem)
  | 0, _, _, _, _, _ => none
  | n + 1, v1, v2, v3, v4, M => (if (M 1 6) ≤ v4 then k74 v1 v2 v3 M else (f_X3_seek v4 (-1) M).bind fun o4 => (if v2 = (-1) then (f_X8_leave_b57 (f_X8_leave_l19 k74 n) k74) v1 v4 o4 else (if (o4 45 5) ≤ v3 then (f_X8_leave_b68 (f_X8_leave_l19 k74 n) k74) v1 v2 v3 v4 o4 else (f_X8_leave_b57 (f_X8_leave_l19 k74 n) k74) v1 v4 o4)))
def f_X8_leave_b74 (v1 : Int32) (v2 : Int32) (v3 : Int32) (M : Mem) : Option (Int32 × Mem) :=
  (if v1 = 0 then some (v2, M) else some (v3, M))
def f_X8_leave (v1 : Int32) (M : Mem) : Option (Int32 × Mem) :=
  (if v1 < 0 then some ((-100000), M) else (if v1 ≤ 1 then (f_X8_leave_l19 f_X8_leave_b74 FU) v1 (-1) 0 0 M else some ((-100000), M)))

def f_X8_buy_b78 (r : Int32 → Int32 → Int32 → Int32 → Int32 → Mem → Option (Int32 × Mem)) (k84 : Int32 → Int32 → Int32 → Mem → Option (Int32 × Mem)) (v1 : Int32) (v2 : Int32) (v3 : Int32) (v4 : Int32) (v5 : Int32) (M : Mem) : Option (Int32 × Mem) :=
  r v1 v2 v3 v4 (v5 + 1) M
def f_X8_buy_b66 (r : Int32 → Int32 → Int32 → Int32 → Int32 → Mem → Option (Int32 × Mem)) (k84 : Int32 → Int32 → Int32 → Mem → Option (Int32 × Mem)) (v1 : Int32) (v2 : Int32) (v5 : Int32) (M : Mem) : Option (Int32 × Mem) :=
  (f_X8_buy_b78 r k84) v1 v2 v5 (M 45 5) v5 M
def f_X8_buy_l27 (k84 : Int32 → Int32 → Int32 → Mem → Option (Int32 × Mem)) : Nat → Int32 → Int32 → Int32 → Int32 → Int32 → Mem → Option (Int32 × Mem)
  | 0, _, _, _, _, _, _ => none
  | n + 1, v1, v2, v3, v4, v5, M => (if 6 ≤ v5 then k84 v2 v3 v4 M else (f_X3_seek (-1) ((v1 * 6) + v5) M).bind fun o7 => (if v3 = (-1) then (f_X8_buy_b66 (f_X8_buy_l27 k84 n) k84) v1 v2 v5 o7 else (if (o7 45 5) ≤ v4 then (f_X8_buy_b78 (f_X8_buy_l27 k84 n) k84) v1 v2 v3 v4 v5 o7 else (f_X8_buy_b66 (f_X8_buy_l27 k84 n) k84) v1 v2 v5 o7)))
def f_X8_buy_b84 (v2 : Int32) (v3 : Int32) (v4 : Int32) (M : Mem) : Option (Int32 × Mem) :=
  (if v2 = 0 then some (v3, M) else some (v4, M))
def f_X8_buy (v1 : Int32) (v2 : Int32) (M : Mem) : Option (Int32 × Mem) :=
  (f_X8_isKitchen v1 M).bind fun o1 => (if o1.1 = 0 then some ((-100000), o1.2) else (if v2 < 0 then some ((-100000), o1.2) else (if v2 ≤ 1 then (f_X8_buy_l27 f_X8_buy_b84 FU) v1 v2 (-1) 0 0 o1.2 else some ((-100000), o1.2))))

def f_X8_lowestTerms_l8 (k39 : Int32 → Int32 → Int32 → Int32 → Mem → Option (Int64 × Mem)) : Nat → Int32 → Int32 → Int32 → Int32 → Int32 → Int32 → Mem → Option (Int64 × Mem)
  | 0, _, _, _, _, _, _, _ => none
  | n + 1, v0, v1, v2, v3, v4, v5, M => (if 64 ≤ v5 then k39 v0 v1 v2 v3 M else (if v4 = 0 then k39 v0 v1 v2 v3 M else ck (!(v4 == 0)) ((f_X8_lowestTerms_l8 k39 n) v0 v1 v2 v4 (jrem v3 v4) (v5 + 1) M)))
def f_X8_lowestTerms_b39 (v0 : Int32) (v1 : Int32) (v2 : Int32) (v3 : Int32) (M : Mem) : Option (Int64 × Mem) :=
  (if v1 = 0 then some ((-4611686018427387904), M) else (if v3 = 0 then some ((-4611686018427387904), M) else (if v2 = 0 then ck (!(v3 == 0)) (some ((((v0 / v3) : Int32).toInt64), M)) else ck (!(v3 == 0)) (some ((((v1 / v3) : Int32).toInt64), M)))))
def f_X8_lowestTerms (v0 : Int32) (v1 : Int32) (v2 : Int32) (M : Mem) : Option (Int64 × Mem) :=
  (f_X8_lowestTerms_l8 f_X8_lowestTerms_b39 FU) v0 v1 v2 v0 v1 0 M

def f_X8_share (v1 : Int32) (M : Mem) : Option (Int64 × Mem) :=
  (if v1 < 0 then some ((-4611686018427387904), M) else (if v1 ≤ 1 then (f_X3_seek (-1) (-1) M).bind fun o3 => (f_X4_play (o3 45 4) o3).bind fun o5 => (f_X8_lowestTerms (o5 43 4) (o5 43 3) v1 o5).bind fun o7 => some (o7.1, o7.2) else some ((-4611686018427387904), M)))

def f_X8_isSheet (v0 : Int32) (M : Mem) : Option (Int32 × Mem) :=
  (if v0 < 0 then some (0, M) else (if 4 ≤ v0 then some (0, M) else some (1, M)))

def f_X6_isMissing (q0 : Nat) (M : Mem) : Option (Int32 × Mem) :=
  ck (kd q0 == 5) ((if (M q0 0) = (-1) then some (1, M) else some (0, M)))

def f_X0_suppose (v1 : Int32) (v2 : Int32) (M : Mem) : Option Mem :=
  (if v1 = 1 then some (mu M 36 2 v2) else (if v1 = 2 then some (mu M 36 3 v2) else (if v1 = 3 then some (mu M 36 4 v2) else (if v1 = 4 then some (mu M 37 0 v2) else (if v1 = 5 then (f_X0_ruleBy v2 M).bind fun o6 => some o6 else some M)))))

def f_X0_firstOtherwise_b24 (r : Nat → Nat → Int32 → Mem → Option (Int32 × Mem)) (q1 : Nat) (q2 : Nat) (v3 : Int32) (s0 : Int32) (M : Mem) : Option (Int32 × Mem) :=
  ck (kd q1 == 5) (ck (kd (q1 + 1) == 10) (ck (inb v3 (ln (q1 + 1))) ((if (M (q1 + 1) (v3).toNatClampNeg) = s0 then r q1 q2 (v3 + 1) M else some (v3, M)))))
def f_X0_firstOtherwise_l2 : Nat → Nat → Nat → Int32 → Mem → Option (Int32 × Mem)
  | 0, _, _, _, _ => none
  | n + 1, q1, q2, v3, M => (if 2 ≤ v3 then some ((-1), M) else (f_X0_isCooked v3 q2 M).bind fun o2 => (if o2.1 = 0 then (f_X0_firstOtherwise_b24 (f_X0_firstOtherwise_l2 n)) q1 q2 v3 (-1) o2.2 else (f_X0_worth o2.2).bind fun o5 => (f_X0_firstOtherwise_b24 (f_X0_firstOtherwise_l2 n)) q1 q2 v3 o5.1 o5.2))
def f_X0_firstOtherwise (q1 : Nat) (q2 : Nat) (M : Mem) : Option (Int32 × Mem) :=
  (f_X0_firstOtherwise_l2 FU) q1 q2 0 M

def f_X8_guess_b99 (r : Int32 → Int32 → Int32 → Nat → Int32 → Int32 → Int32 → Int32 → Int32 → Mem → Option (Int32 × Mem)) (k105 : Int32 → Int32 → Int32 → Int32 → Mem → Option (Int32 × Mem)) (v1 : Int32) (v2 : Int32) (v3 : Int32) (q4 : Nat) (v5 : Int32) (v6 : Int32) (v7 : Int32) (v8 : Int32) (v9 : Int32) (M : Mem) : Option (Int32 × Mem) :=
  r v1 v2 v3 q4 v5 v6 v7 v8 (v9 + 1) M
def f_X8_guess_b97 (r : Int32 → Int32 → Int32 → Nat → Int32 → Int32 → Int32 → Int32 → Int32 → Mem → Option (Int32 × Mem)) (k105 : Int32 → Int32 → Int32 → Int32 → Mem → Option (Int32 × Mem)) (v1 : Int32) (v2 : Int32) (v3 : Int32) (q4 : Nat) (v5 : Int32) (v6 : Int32) (v7 : Int32) (v9 : Int32) (s0 : Int32) (M : Mem) : Option (Int32 × Mem) :=
  (f_X8_guess_b99 r k105) v1 v2 v3 q4 v5 v6 v7 s0 v9 M
def f_X8_guess_b39 (r : Int32 → Int32 → Int32 → Nat → Int32 → Int32 → Int32 → Int32 → Int32 → Mem → Option (Int32 × Mem)) (k105 : Int32 → Int32 → Int32 → Int32 → Mem → Option (Int32 × Mem)) (v1 : Int32) (v2 : Int32) (v3 : Int32) (q4 : Nat) (v5 : Int32) (v6 : Int32) (v7 : Int32) (v8 : Int32) (v9 : Int32) (s2 : Int32) (M : Mem) : Option (Int32 × Mem) :=
  (f_X0_takeUp s2 M).bind fun o3 => (f_X0_suppose v1 v9 o3).bind fun o5 => (f_X0_firstOtherwise q4 2 o5).bind fun o7 => (if o7.1 = (-1) then (if v8 = (-1) then (f_X8_guess_b97 r k105) v1 v2 v3 q4 v5 (v6 ||| (jshl 1 v9)) (v7 + 1) v9 v9 o7.2 else (f_X8_guess_b97 r k105) v1 v2 v3 q4 v5 (v6 ||| (jshl 1 v9)) (v7 + 1) v9 v8 o7.2) else (f_X8_guess_b99 r k105) v1 v2 v3 q4 v5 v6 v7 v8 v9 o7.2)
def f_X8_guess_l12 (k105 : Int32 → Int32 → Int32 → Int32 → Mem → Option (Int32 × Mem)) : Nat → Int32 → Int32 → Int32 → Nat → Int32 → Int32 → Int32 → Int32 → Int32 → Mem → Option (Int32 × Mem)
  | 0, _, _, _, _, _, _, _, _, _, _ => none
  | n + 1, v1, v2, v3, q4, v5, v6, v7, v8, v9, M => (if v2 ≤ v9 then k105 v3 v6 v7 v8 M else (if v1 = 6 then (f_X8_guess_b39 (f_X8_guess_l12 k105 n) k105) v1 v2 v3 q4 v5 v6 v7 v8 v9 v9 M else (f_X8_guess_b39 (f_X8_guess_l12 k105 n) k105) v1 v2 v3 q4 v5 v6 v7 v8 v9 v5 M))
def f_X8_guess_b105 (v3 : Int32) (v6 : Int32) (v7 : Int32) (v8 : Int32) (M : Mem) : Option (Int32 × Mem) :=
  (if v3 = 0 then some (v6, M) else (if v3 = 1 then some (v7, M) else some (v8, M)))
def f_X8_guess (v1 : Int32) (v2 : Int32) (v3 : Int32) (q4 : Nat) (v5 : Int32) (M : Mem) : Option (Int32 × Mem) :=
  (f_X8_guess_l12 f_X8_guess_b105 FU) v1 v2 v3 q4 v5 0 0 (-1) 0 M

def f_X8_tells (v1 : Int32) (v2 : Int32) (v3 : Int32) (M : Mem) : Option (Int32 × Mem) :=
  (f_X8_isSheet v1 M).bind fun o1 => (if o1.1 = 0 then some ((-2), o1.2) else (f_X1_hasDish v2 o1.2).bind fun o4 => (if o4.1 = 0 then some ((-2), o4.2) else (if v3 < 0 then some ((-2), o4.2) else (if v3 ≤ 8 then ck (inb v1 4) ((f_X6_isMissing (55 + 2 * (v1).toNatClampNeg) o4.2).bind fun o10 => ck (kd (55 + 2 * (v1).toNatClampNeg) == 5) ((if o10.1 = 0 then (if (o10.2 (55 + 2 * (v1).toNatClampNeg) 1) = 2 then (if v3 = 1 then (f_X8_guess 1 6 0 (55 + 2 * (v1).toNatClampNeg) v2 o10.2).bind fun o16 => some (o16.1, o16.2) else (if v3 = 2 then (f_X8_guess 2 10 0 (55 + 2 * (v1).toNatClampNeg) v2 o10.2).bind fun o19 => some (o19.1, o19.2) else (if v3 = 3 then (f_X8_guess 3 100 1 (55 + 2 * (v1).toNatClampNeg) v2 o10.2).bind fun o22 => some (o22.1, o22.2) else (if v3 = 4 then (f_X8_guess 3 100 2 (55 + 2 * (v1).toNatClampNeg) v2 o10.2).bind fun o25 => some (o25.1, o25.2) else (if v3 = 5 then (f_X8_guess 4 100 1 (55 + 2 * (v1).toNatClampNeg) v2 o10.2).bind fun o28 => some (o28.1, o28.2) else (if v3 = 6 then (f_X8_guess 4 100 2 (55 + 2 * (v1).toNatClampNeg) v2 o10.2).bind fun o31 => some (o31.1, o31.2) else (if v3 = 7 then (f_X8_guess 5 (o10.2 0 4) 0 (55 + 2 * (v1).toNatClampNeg) v2 o10.2).bind fun o34 => some (o34.1, o34.2) else (if v3 = 8 then (f_X8_guess 6 (o10.2 1 6) 0 (55 + 2 * (v1).toNatClampNeg) v2 o10.2).bind fun o37 => some (o37.1, o37.2) else (f_X0_takeUp v2 o10.2).bind fun o39 => (f_X0_firstOtherwise (55 + 2 * (v1).toNatClampNeg) 2 o39).bind fun o41 => some (o41.1, o41.2))))))))) else some ((-2), o10.2)) else some ((-11), o10.2)))) else some ((-2), o4.2)))))

def f_X6_become_l12 : Nat → Nat → Int32 → Mem → Option Mem
  | 0, _, _, _ => none
  | n + 1, q0, v3, M => (if 40 ≤ v3 then some M else ck (kd q0 == 5) (ck (kd (q0 + 1) == 10) (ck (inb v3 (ln (q0 + 1))) ((f_X6_become_l12 n) q0 (v3 + 1) (mu M (q0 + 1) (v3).toNatClampNeg 0)))))
def f_X6_become (q0 : Nat) (v1 : Int32) (v2 : Int32) (M : Mem) : Option Mem :=
  ck (kd q0 == 5) ((f_X6_become_l12 FU) q0 0 (mu (mu M q0 0 v1) q0 1 v2))

def f_X6_hasItem (q0 : Nat) (v1 : Int32) (M : Mem) : Option (Int32 × Mem) :=
  (if v1 < 0 then some (0, M) else ck (kd q0 == 5) ((if (M q0 1) ≤ v1 then some (0, M) else some (1, M))))

def f_X6_put (q0 : Nat) (v1 : Int32) (v2 : Int32) (M : Mem) : Option Mem :=
  (f_X6_hasItem q0 v1 M).bind fun o1 => ck (kd q0 == 5) ((if o1.1 = 0 then some o1.2 else (if (o1.2 q0 0) = 0 then ck (kd (q0 + 1) == 10) (ck (inb v1 (ln (q0 + 1))) (some (mu o1.2 (q0 + 1) (v1).toNatClampNeg ((v2).toInt8.toInt32)))) else (if (o1.2 q0 0) = 1 then ck (kd (q0 + 1) == 10) (ck (inb v1 (ln (q0 + 1))) (some (mu o1.2 (q0 + 1) (v1).toNatClampNeg ((v2).toInt16.toInt32)))) else ck (kd (q0 + 1) == 10) (ck (inb v1 (ln (q0 + 1))) (some (mu o1.2 (q0 + 1) (v1).toNatClampNeg v2)))))))

def f_X8_film_b110 (r : Nat → Int32 → Int32 → Mem → Option (Int32 × Mem)) (q3 : Nat) (v5 : Int32) (s0 : Int32) (s1 : Int32) (M : Mem) : Option (Int32 × Mem) :=
  r q3 (s0 + s1) (v5 + 1) M
def f_X8_film_b95 (r : Nat → Int32 → Int32 → Mem → Option (Int32 × Mem)) (q3 : Nat) (v4 : Int32) (v5 : Int32) (v6 : Int32) (s0 : Nat) (s1 : Int32) (s2 : Int32) (M : Mem) : Option (Int32 × Mem) :=
  (f_X6_put s0 s1 s2 M).bind fun o19 => ck (kd s0 == 5) ((if v6 = 0 then (f_X8_film_b110 r) q3 v5 v4 0 o19 else (f_X8_film_b110 r) q3 v5 v4 1 o19))
def f_X8_film_l52 : Nat → Nat → Int32 → Int32 → Mem → Option (Int32 × Mem)
  | 0, _, _, _, _ => none
  | n + 1, q3, v4, v5, M => (if 2 ≤ v5 then some (v4, M) else (f_X0_isCooked v5 2 M).bind fun o14 => (if o14.1 = 0 then (f_X8_film_b95 (f_X8_film_l52 n)) q3 v4 v5 o14.1 q3 v5 (-1) o14.2 else (f_X0_worth o14.2).bind fun o17 => (f_X8_film_b95 (f_X8_film_l52 n)) q3 v4 v5 o14.1 q3 v5 o17.1 o17.2))
def f_X8_film (v1 : Int32) (v2 : Int32) (M : Mem) : Option (Int32 × Mem) :=
  (f_X8_isSheet v1 M).bind fun o1 => (if o1.1 = 0 then some ((-2), o1.2) else (f_X1_hasDish v2 o1.2).bind fun o4 => (if o4.1 = 0 then some ((-2), o4.2) else ck (inb v1 4) ((f_X6_become (55 + 2 * (v1).toNatClampNeg) 2 2 o4.2).bind fun o8 => ck (kd (55 + 2 * (v1).toNatClampNeg) == 5) ((f_X0_takeUp v2 o8).bind fun o11 => (f_X8_film_l52 FU) (55 + 2 * (v1).toNatClampNeg) 0 0 o11))))

def f_X4_draw_b51 (r : Int32 → Int32 → Mem → Option (Int32 × Mem)) (k57 : Mem → Option (Int32 × Mem)) (v2 : Int32) (v3 : Int32) (M : Mem) : Option (Int32 × Mem) :=
  r v2 (v3 + 1) M
def f_X4_draw_l8 (k57 : Mem → Option (Int32 × Mem)) : Nat → Int32 → Int32 → Mem → Option (Int32 × Mem)
  | 0, _, _, _ => none
  | n + 1, v2, v3, M => (if (M 1 6) ≤ v3 then k57 M else (if ((jrem (jushr ((v2 * 1103515245) + 12345) 9) 3) - 1) < 0 then (f_X4_draw_b51 (f_X4_draw_l8 k57 n) k57) ((v2 * 1103515245) + 12345) v3 M else (f_X4_goOn v3 ((jrem (jushr ((v2 * 1103515245) + 12345) 9) 3) - 1) M).bind fun o5 => (f_X4_draw_b51 (f_X4_draw_l8 k57 n) k57) ((v2 * 1103515245) + 12345) v3 o5.2))
def f_X4_draw_b57 (M : Mem) : Option (Int32 × Mem) :=
  some (((M 43 3) - (M 43 5)), M)
def f_X4_draw (v1 : Int32) (M : Mem) : Option (Int32 × Mem) :=
  (f_X4_begin M).bind fun o1 => (f_X4_draw_l8 f_X4_draw_b57 FU) v1 0 o1

def f_X8_drawn (v1 : Int32) (M : Mem) : Option (Int32 × Mem) :=
  (f_X4_draw v1 M).bind fun o1 => some (o1.1, o1.2)

def f_X8_chance_b70 (r : Int32 → Int32 → Int32 → Int32 → Int32 → Int32 → Mem → Option (Int64 × Mem)) (k76 : Int32 → Int32 → Int32 → Mem → Option (Int64 × Mem)) (v1 : Int32) (v2 : Int32) (v3 : Int32) (v4 : Int32) (v5 : Int32) (v6 : Int32) (M : Mem) : Option (Int64 × Mem) :=
  r v1 v2 v3 v4 v5 (v6 + 1) M
def f_X8_chance_l46 (k76 : Int32 → Int32 → Int32 → Mem → Option (Int64 × Mem)) : Nat → Int32 → Int32 → Int32 → Int32 → Int32 → Int32 → Mem → Option (Int64 × Mem)
  | 0, _, _, _, _, _, _, _ => none
  | n + 1, v1, v2, v3, v4, v5, v6, M => (if v2 ≤ v6 then k76 v2 v4 v5 M else (f_X4_draw (v1 + v6) M).bind fun o8 => (if o8.1 < v3 then (f_X8_chance_b70 (f_X8_chance_l46 k76 n) k76) v1 v2 v3 v4 v5 v6 o8.2 else (f_X8_chance_b70 (f_X8_chance_l46 k76 n) k76) v1 v2 v3 v4 (v5 + 1) v6 o8.2))
def f_X8_chance_b76 (v2 : Int32) (v4 : Int32) (v5 : Int32) (M : Mem) : Option (Int64 × Mem) :=
  (f_X8_lowestTerms v5 v2 v4 M).bind fun o11 => some (o11.1, o11.2)
def f_X8_chance (v1 : Int32) (v2 : Int32) (v3 : Int32) (v4 : Int32) (M : Mem) : Option (Int64 × Mem) :=
  (if v2 < 1 then some ((-4611686018427387904), M) else (if 20 < v2 then some ((-4611686018427387904), M) else (if v3 < (-9999) then some ((-4611686018427387904), M) else (if 9999 < v3 then some ((-4611686018427387904), M) else (if v4 < 0 then some ((-4611686018427387904), M) else (if v4 ≤ 1 then (f_X8_chance_l46 f_X8_chance_b76 FU) v1 v2 v3 v4 0 0 M else some ((-4611686018427387904), M)))))))

def f_X1_become_1 (M : Mem) : Option Mem :=
  some (mu (mu (mu (mcp (mcp (mcp (mcp (mcp (mcp M 9 0 2 0 12) 10 0 3 0 2) 11 0 4 0 6) 12 0 5 0 6) 13 0 6 0 6) 14 0 7 0 6) 1 6 (M 8 6)) 1 7 (M 8 7)) 1 8 (M 8 8))

def f_X1_become_8 (M : Mem) : Option Mem :=
  some (mu (mu (mu (mcp (mcp (mcp (mcp (mcp (mcp M 2 0 9 0 12) 3 0 10 0 2) 4 0 11 0 6) 5 0 12 0 6) 6 0 13 0 6) 7 0 14 0 6) 8 6 (M 1 6)) 8 7 (M 1 7)) 8 8 (M 1 8))

def f_X8_image (M : Mem) : Option (Int32 × Mem) :=
  (f_X1_become_8 M).bind fun o1 => some ((o1 1 6), (mu o1 0 2 1))

def f_X8_back (M : Mem) : Option (Int32 × Mem) :=
  (if (M 0 2) = 0 then some ((-3), M) else (f_X1_become_1 M).bind fun o2 => some ((o2 1 6), o2))

def f_X8_count (v1 : Int32) (M : Mem) : Option (Int32 × Mem) :=
  (if v1 = 0 then some ((M 1 6), M) else (if v1 = 1 then (f_X1_storeOf 0 M).bind fun o3 => (f_X1_storeOf 1 o3.2).bind fun o5 => some ((o3.1 + o5.1), o5.2) else (if v1 = 2 then some ((M 1 7), M) else (if v1 = 3 then some ((M 0 4), M) else (if v1 = 4 then some ((M 34 1), M) else (if v1 = 5 then some ((M 1 8), M) else some ((-2), M)))))))

def f_X8_sheet (v1 : Int32) (v2 : Int32) (v3 : Int32) (M : Mem) : Option (Int32 × Mem) :=
  (f_X8_isSheet v1 M).bind fun o1 => (if o1.1 = 0 then some ((-2), o1.2) else (if v2 < (-1) then some ((-2), o1.2) else (if v2 ≤ 2 then (if v2 = (-1) then ck (inb v1 4) ((f_X6_become (55 + 2 * (v1).toNatClampNeg) (-1) 0 o1.2).bind fun o14 => ck (kd (55 + 2 * (v1).toNatClampNeg) == 5) (some (1, o14))) else (if v3 ≤ 40 then (if 0 ≤ v3 then ck (inb v1 4) ((f_X6_become (55 + 2 * (v1).toNatClampNeg) v2 v3 o1.2).bind fun o10 => ck (kd (55 + 2 * (v1).toNatClampNeg) == 5) (some (1, o10))) else some ((-14), o1.2)) else some ((-2), o1.2))) else some ((-2), o1.2))))

def f_X8_cell (v1 : Int32) (v2 : Int32) (v3 : Int32) (M : Mem) : Option (Int32 × Mem) :=
  (f_X8_isSheet v1 M).bind fun o1 => (if o1.1 = 0 then some ((-2), o1.2) else ck (inb v1 4) ((f_X6_isMissing (55 + 2 * (v1).toNatClampNeg) o1.2).bind fun o5 => ck (kd (55 + 2 * (v1).toNatClampNeg) == 5) ((if o5.1 = 0 then (f_X6_hasItem (55 + 2 * (v1).toNatClampNeg) v2 o5.2).bind fun o9 => (if o9.1 = 0 then some ((-12), o9.2) else (f_X6_put (55 + 2 * (v1).toNatClampNeg) v2 v3 o9.2).bind fun o12 => some (1, o12)) else some ((-11), o5.2)))))

def f_X6_hasRun (q0 : Nat) (v1 : Int32) (v2 : Int32) (M : Mem) : Option (Int32 × Mem) :=
  (if v1 < 0 then some (0, M) else (if v2 < 0 then some (0, M) else ck (kd q0 == 5) ((if (M q0 1) < v1 then some (0, M) else (if ((M q0 1) - v1) < v2 then some (0, M) else some (1, M))))))

def f_X8_copy (v1 : Int32) (v2 : Int32) (v3 : Int32) (v4 : Int32) (v5 : Int32) (M : Mem) : Option (Int32 × Mem) :=
  (f_X8_isSheet v1 M).bind fun o1 => (if o1.1 = 0 then some ((-2), o1.2) else (f_X8_isSheet v3 o1.2).bind fun o4 => (if o4.1 = 0 then some ((-2), o4.2) else ck (inb v1 4) (ck (inb v3 4) ((f_X6_isMissing (55 + 2 * (v1).toNatClampNeg) o4.2).bind fun o9 => ck (kd (55 + 2 * (v1).toNatClampNeg) == 5) ((if o9.1 = 0 then (f_X6_isMissing (55 + 2 * (v3).toNatClampNeg) o9.2).bind fun o13 => ck (kd (55 + 2 * (v3).toNatClampNeg) == 5) ((if o13.1 = 0 then (if (o13.2 (55 + 2 * (v1).toNatClampNeg) 0) = (o13.2 (55 + 2 * (v3).toNatClampNeg) 0) then (f_X6_hasRun (55 + 2 * (v1).toNatClampNeg) v2 v5 o13.2).bind fun o18 => (if o18.1 = 0 then some ((-12), o18.2) else (f_X6_hasRun (55 + 2 * (v3).toNatClampNeg) v4 v5 o18.2).bind fun o21 => (if o21.1 = 0 then some ((-12), o21.2) else ck (kd ((55 + 2 * (v1).toNatClampNeg) + 1) == 10) (ck (kd ((55 + 2 * (v3).toNatClampNeg) + 1) == 10) (ck (cpk v2 (ln ((55 + 2 * (v1).toNatClampNeg) + 1)) v4 (ln ((55 + 2 * (v3).toNatClampNeg) + 1)) v5) (some (v5, (mcp o21.2 ((55 + 2 * (v1).toNatClampNeg) + 1) (v2).toNatClampNeg ((55 + 2 * (v3).toNatClampNeg) + 1) (v4).toNatClampNeg (v5).toNatClampNeg))))))) else some ((-13), o13.2)) else some ((-11), o13.2))) else some ((-11), o9.2)))))))

def f_X8_dishes_b139 (r : Int32 → Int32 → Nat → Int32 → Int32 → Mem → Option (Int32 × Mem)) (v3 : Int32) (v4 : Int32) (q5 : Nat) (v6 : Int32) (v7 : Int32) (M : Mem) : Option (Int32 × Mem) :=
  r v3 v4 q5 v6 (v7 + 1) M
def f_X8_dishes_l68 : Nat → Int32 → Int32 → Nat → Int32 → Int32 → Mem → Option (Int32 × Mem)
  | 0, _, _, _, _, _, _ => none
  | n + 1, v3, v4, q5, v6, v7, M => (if v4 ≤ v7 then some (v6, M) else (f_X6_hasRun q5 v3 ((3 * v7) + 3) M).bind fun o15 => ck (kd q5 == 5) ((if o15.1 = 0 then some ((-12), o15.2) else ck (kd (q5 + 1) == 10) (ck (inb (v3 + (3 * v7)) (ln (q5 + 1))) (ck (inb ((v3 + (3 * v7)) + 1) (ln (q5 + 1))) (ck (inb ((v3 + (3 * v7)) + 2) (ln (q5 + 1))) ((f_X8_dish (o15.2 (q5 + 1) ((v3 + (3 * v7))).toNatClampNeg) (o15.2 (q5 + 1) (((v3 + (3 * v7)) + 1)).toNatClampNeg) (o15.2 (q5 + 1) (((v3 + (3 * v7)) + 2)).toNatClampNeg) o15.2).bind fun o23 => (if o23.1 < 0 then (f_X8_dishes_b139 (f_X8_dishes_l68 n)) v3 v4 q5 v6 v7 o23.2 else (f_X8_dishes_b139 (f_X8_dishes_l68 n)) v3 v4 q5 (v6 + 1) v7 o23.2))))))))
def f_X8_dishes (v1 : Int32) (v2 : Int32) (v3 : Int32) (v4 : Int32) (M : Mem) : Option (Int32 × Mem) :=
  (f_X8_isSheet v1 M).bind fun o1 => (if o1.1 = 0 then some ((-2), o1.2) else (if v2 < 0 then some ((-2), o1.2) else (if 2 < v2 then some ((-2), o1.2) else (if v4 < 0 then some ((-2), o1.2) else (if v4 ≤ 6 then ck (inb v1 4) ((f_X6_isMissing (55 + 2 * (v1).toNatClampNeg) o1.2).bind fun o9 => ck (kd (55 + 2 * (v1).toNatClampNeg) == 5) ((if o9.1 = 0 then (if (o9.2 (55 + 2 * (v1).toNatClampNeg) 0) = v2 then (f_X8_dishes_l68 FU) v3 v4 (55 + 2 * (v1).toNatClampNeg) 0 0 o9.2 else some ((-13), o9.2)) else some ((-11), o9.2)))) else some ((-2), o1.2))))))

def f_X2_isUnder_l4 : Nat → Int32 → Int32 → Int32 → Mem → Option (Int32 × Mem)
  | 0, _, _, _, _ => none
  | n + 1, v1, v2, v3, M => (if 6 ≤ v3 then some (0, M) else (if v2 < 0 then some (0, M) else (if 6 ≤ v2 then some (0, M) else (if v2 = v1 then some (1, M) else ck (inb v2 6) ((f_X2_isUnder_l4 n) v1 (stv 2001 (v2).toNatClampNeg) (v3 + 1) M)))))
def f_X2_isUnder (v0 : Int32) (v1 : Int32) (M : Mem) : Option (Int32 × Mem) :=
  (f_X2_isUnder_l4 FU) v1 v0 0 M

def f_X8_taken (v1 : Int32) (v2 : Int32) (M : Mem) : Option (Int32 × Mem) :=
  (if v2 < 0 then some ((-2), M) else (if v2 < 6 then (f_X1_hasDish v1 M).bind fun o3 => (if o3.1 = 0 then some ((-11), o3.2) else ck (inb v1 6) ((f_X2_isUnder (o3.2 4 (v1).toNatClampNeg) v2 o3.2).bind fun o7 => (if o7.1 = 0 then some ((-13), o7.2) else some ((o7.2 5 (v1).toNatClampNeg), o7.2)))) else some ((-2), M)))
end
section
/-! PURE: the reference -/
def f_X9_in (w0 : Int64) (w2 : Int64) (w4 : Int64) (M : Mem) : Option (Int32 × Mem) :=
  (if (lg_cmp w0 w2) < 0 then some (0, M) else (if 0 < (lg_cmp w0 w4) then some (0, M) else some (1, M)))

def f_X9_within (v0 : Int32) (v1 : Int32) (v2 : Int32) (M : Mem) : Option (Int32 × Mem) :=
  (if v1 ≤ v0 then (if v0 ≤ v2 then some (v0, M) else some (v2, M)) else some (v1, M))

def f_X9_spell (v1 : Int32) (v2 : Int32) (v3 : Int32) (v4 : Int32) (v5 : Int32) (v6 : Int32) (v7 : Int32) (v8 : Int32) (v9 : Int32) (M : Mem) : Option Mem :=
  ck (inb v1 960) (ck (inb (v1 + 1) 960) (ck (inb (v1 + 2) 960) (ck (inb (v1 + 3) 960) (ck (inb (v1 + 4) 960) (ck (inb (v1 + 5) 960) (ck (inb (v1 + 6) 960) (ck (inb (v1 + 7) 960) (some (mu (mu (mu (mu (mu (mu (mu (mu M 101 (v1).toNatClampNeg v2) 101 ((v1 + 1)).toNatClampNeg v3) 101 ((v1 + 2)).toNatClampNeg v4) 101 ((v1 + 3)).toNatClampNeg v5) 101 ((v1 + 4)).toNatClampNeg v6) 101 ((v1 + 5)).toNatClampNeg v7) 101 ((v1 + 6)).toNatClampNeg v8) 101 ((v1 + 7)).toNatClampNeg v9)))))))))

def f_X9_isDish (v1 : Int32) (M : Mem) : Option (Int32 × Mem) :=
  (f_X9_in ((v1 : Int32).toInt64) 0 ((((M 100 12) - 1) : Int32).toInt64) M).bind fun o1 => ck (zb o1.1) (some (o1.1, o1.2))

def f_X9_isKitchen (v0 : Int32) (M : Mem) : Option (Int32 × Mem) :=
  (f_X9_in ((v0 : Int32).toInt64) 0 1 M).bind fun o1 => ck (zb o1.1) (some (o1.1, o1.2))

def f_X9_isPart (v0 : Int32) (M : Mem) : Option (Int32 × Mem) :=
  (f_X9_in ((v0 : Int32).toInt64) 0 5 M).bind fun o1 => ck (zb o1.1) (some (o1.1, o1.2))

def f_X9_isOf_b50 (v2 : Int32) (M : Mem) : Option (Int32 × Mem) :=
  (f_X9_isKitchen v2 M).bind fun o14 => ck (zb o14.1) (some (o14.1, o14.2))
def f_X9_isOf (v1 : Int32) (v2 : Int32) (M : Mem) : Option (Int32 × Mem) :=
  (if v1 = 0 then some (1, M) else (if v1 = 1 then (f_X9_in ((v2 : Int32).toInt64) 0 15 M).bind fun o8 => (if o8.1 = 0 then some (0, o8.2) else (f_X9_isPart (jrem v2 10) o8.2).bind fun o11 => (if o11.1 = 0 then some (0, o11.2) else some (1, o11.2))) else (if v1 = 2 then f_X9_isOf_b50 v2 M else (if v1 = 8 then f_X9_isOf_b50 v2 M else (f_X9_isDish v2 M).bind fun o5 => ck (zb o5.1) (some (o5.1, o5.2))))))

def f_X9_mostOf (v0 : Int32) (M : Mem) : Option (Int32 × Mem) :=
  (if v0 = 0 then some (999, M) else (if v0 = 3 then some (9, M) else (if v0 = 4 then some (999999, M) else some (99, M))))

def f_X9_needsOf_l14 : Nat → Int32 → Int32 → Int32 → Mem → Option (Int32 × Mem)
  | 0, _, _, _, _ => none
  | n + 1, v2, v3, v4, M => (if v4 ≤ v2 then some ((jrem v3 10), M) else (f_X9_needsOf_l14 n) v2 (v3 / 10) (v4 + (-1)) M)
def f_X9_needsOf (v1 : Int32) (v2 : Int32) (M : Mem) : Option (Int32 × Mem) :=
  ck (inb ((3 * v1) + 1) 18) ((f_X9_needsOf_l14 FU) v2 (M 107 (((3 * v1) + 1)).toNatClampNeg) 5 M)

def f_X9_needsAll_l4 : Nat → Int32 → Int32 → Int32 → Mem → Option (Int32 × Mem)
  | 0, _, _, _, _ => none
  | n + 1, v1, v2, v3, M => (if 6 ≤ v3 then some (v2, M) else (f_X9_needsOf v1 v3 M).bind fun o2 => (f_X9_needsAll_l4 n) v1 (v2 + o2.1) (v3 + 1) o2.2)
def f_X9_needsAll (v1 : Int32) (M : Mem) : Option (Int32 × Mem) :=
  (f_X9_needsAll_l4 FU) v1 0 0 M

def f_X9_storeOf_l4 : Nat → Int32 → Int32 → Int32 → Mem → Option (Int32 × Mem)
  | 0, _, _, _, _ => none
  | n + 1, v1, v2, v3, M => (if 6 ≤ v3 then some (v2, M) else ck (inb ((6 * v1) + v3) 12) ((f_X9_storeOf_l4 n) v1 (v2 + (M 104 (((6 * v1) + v3)).toNatClampNeg)) (v3 + 1) M))
def f_X9_storeOf (v1 : Int32) (M : Mem) : Option (Int32 × Mem) :=
  (f_X9_storeOf_l4 FU) v1 0 0 M

def f_X9_told (v1 : Int32) (v2 : Int32) (M : Mem) : Option (Int32 × Mem) :=
  (f_X9_in ((v2 : Int32).toInt64) 0 8 M).bind fun o1 => (if o1.1 = 0 then some ((-1000), o1.2) else (f_X9_isOf v2 v1 o1.2).bind fun o4 => (if o4.1 = 0 then some ((-1000), o4.2) else (if 3 ≤ v2 then (if 6 ≤ v2 then (if v2 = 6 then ck (inb ((3 * v1) + 2) 18) (some ((o4.2 107 (((3 * v1) + 2)).toNatClampNeg), o4.2)) else (if v2 = 7 then (f_X9_needsAll v1 o4.2).bind fun o13 => some (o13.1, o13.2) else (f_X9_storeOf v1 o4.2).bind fun o11 => some (o11.1, o11.2))) else (if 5 ≤ v2 then ck (inb v1 6) (some ((o4.2 106 (v1).toNatClampNeg), o4.2)) else ck (inb (((3 * v1) + v2) - 3) 18) (some ((o4.2 107 ((((3 * v1) + v2) - 3)).toNatClampNeg), o4.2)))) else (if v2 = 0 then some ((o4.2 100 7), o4.2) else (if v2 = 1 then ck (inb ((6 * (v1 / 10)) + (jrem v1 10)) 12) (some ((o4.2 104 (((6 * (v1 / 10)) + (jrem v1 10))).toNatClampNeg), o4.2)) else ck (inb v1 2) (some ((o4.2 105 (v1).toNatClampNeg), o4.2)))))))

def f_X9_lays (v1 : Int32) (v2 : Int32) (v3 : Int32) (M : Mem) : Option Mem :=
  (if v1 = 0 then some (mu M 100 7 v3) else (if v1 = 1 then ck (inb ((6 * (v2 / 10)) + (jrem v2 10)) 12) (some (mu M 104 (((6 * (v2 / 10)) + (jrem v2 10))).toNatClampNeg v3)) else (if v1 = 2 then ck (inb v2 2) (some (mu M 105 (v2).toNatClampNeg v3)) else (if 5 ≤ v1 then (if v1 = 5 then ck (inb v2 6) (some (mu M 106 (v2).toNatClampNeg v3)) else some (mu M 100 4 v3)) else ck (inb (((3 * v2) + v1) - 3) 18) (some (mu M 107 ((((3 * v2) + v1) - 3)).toNatClampNeg v3))))))

def f_X9_set (v1 : Int32) (v2 : Int32) (v3 : Int32) (M : Mem) : Option (Int32 × Mem) :=
  (f_X9_in ((v1 : Int32).toInt64) 0 4 M).bind fun o1 => (if o1.1 = 0 then some ((-1000), o1.2) else (f_X9_isOf v1 v2 o1.2).bind fun o4 => (if o4.1 = 0 then some ((-1000), o4.2) else (f_X9_mostOf v1 o4.2).bind fun o7 => (f_X9_in ((v3 : Int32).toInt64) 0 ((o7.1 : Int32).toInt64) o7.2).bind fun o9 => (if o9.1 = 0 then some ((-1000), o9.2) else (f_X9_told v2 v1 o9.2).bind fun o12 => (f_X9_lays v1 v2 v3 o12.2).bind fun o14 => some (o12.1, o14))))

def f_X9_dish (v1 : Int32) (v2 : Int32) (v3 : Int32) (M : Mem) : Option (Int32 × Mem) :=
  (f_X9_in ((v1 : Int32).toInt64) 0 5 M).bind fun o1 => (if o1.1 = 0 then some ((-2), o1.2) else (f_X9_in ((v2 : Int32).toInt64) 0 9 o1.2).bind fun o4 => (if o4.1 = 0 then some ((-2), o4.2) else (f_X9_in ((v3 : Int32).toInt64) 0 999999 o4.2).bind fun o7 => (if o7.1 = 0 then some ((-2), o7.2) else (if (o7.2 100 12) = 6 then some ((-4), o7.2) else ck (inb (o7.2 100 12) 6) (ck (inb (3 * (o7.2 100 12)) 18) (ck (inb ((3 * (o7.2 100 12)) + 1) 18) (ck (inb ((3 * (o7.2 100 12)) + 2) 18) (some ((((o7.2 100 12) + 1) - 1), (mu (mu (mu (mu (mu o7.2 106 ((o7.2 100 12)).toNatClampNeg v1) 107 ((3 * (o7.2 100 12))).toNatClampNeg v2) 107 (((3 * (o7.2 100 12)) + 1)).toNatClampNeg v3) 107 (((3 * (o7.2 100 12)) + 2)).toNatClampNeg 0) 100 12 ((o7.2 100 12) + 1)))))))))))

def f_X9_feed (v1 : Int32) (M : Mem) : Option (Int32 × Mem) :=
  (f_X9_in ((v1 : Int32).toInt64) 0 255 M).bind fun o1 => (if o1.1 = 0 then some ((-2), o1.2) else (if (o1.2 100 6) = 160 then some ((-4), o1.2) else ck (inb (o1.2 100 6) 160) (some (((o1.2 100 6) + 1), (mu (mu o1.2 103 ((o1.2 100 6)).toNatClampNeg v1) 100 6 ((o1.2 100 6) + 1))))))

def f_X9_byteAt (v1 : Int32) (M : Mem) : Option (Int32 × Mem) :=
  (if (M 100 20) ≤ v1 then some ((-1), M) else ck (inb ((M 100 19) + v1) 960) (some ((M 101 (((M 100 19) + v1)).toNatClampNeg), M)))

def f_X9_next_b26 (r : Mem → Option Mem) (k39 : Mem → Option Mem) (M : Mem) : Option Mem :=
  r (mu M 100 21 ((M 100 21) + 1))
def f_X9_next_l0 (k39 : Mem → Option Mem) : Nat → Mem → Option Mem
  | 0, _ => none
  | n + 1, M => (f_X9_byteAt (M 100 21) M).bind fun o1 => (if o1.1 = 32 then (f_X9_next_b26 (f_X9_next_l0 k39 n) k39) o1.2 else (f_X9_byteAt (o1.2 100 21) o1.2).bind fun o4 => (if o4.1 = 10 then (f_X9_next_b26 (f_X9_next_l0 k39 n) k39) o4.2 else k39 o4.2))
def f_X9_next_l100 : Nat → Mem → Option Mem
  | 0, _ => none
  | n + 1, M => (f_X9_byteAt (M 100 21) M).bind fun o25 => (f_X9_in ((o25.1 : Int32).toInt64) 97 122 o25.2).bind fun o27 => (if o27.1 = 0 then some o27.2 else (f_X9_next_l100 n) (mu o27.2 100 21 ((o27.2 100 21) + 1)))
def f_X9_next_b216 (r : Int32 → Mem → Option Mem) (k235 : Int32 → Mem → Option Mem) (v2 : Int32) (s1 : Int64) (M : Mem) : Option Mem :=
  ck (((s1).toInt32).toInt64 == s1) (r (v2 + 1) (mu (mu M 100 24 (s1).toInt32) 100 21 ((M 100 21) + 1)))
def f_X9_next_l160 (k235 : Int32 → Mem → Option Mem) : Nat → Int32 → Mem → Option Mem
  | 0, _, _ => none
  | n + 1, v2, M => (f_X9_byteAt (M 100 21) M).bind fun o30 => (f_X9_in ((o30.1 : Int32).toInt64) 48 57 o30.2).bind fun o32 => (if o32.1 = 0 then k235 v2 o32.2 else (if 4 ≤ v2 then (f_X9_next_b216 (f_X9_next_l160 k235 n) k235) v2 ((o32.2 100 24)).toInt64 o32.2 else (f_X9_byteAt (o32.2 100 21) o32.2).bind fun o36 => (f_X9_next_b216 (f_X9_next_l160 k235 n) k235) v2 (((10 * ((o32.2 100 24)).toInt64) + ((o36.1 : Int32).toInt64)) - 48) o36.2))
def f_X9_next_b235 (v2 : Int32) (M : Mem) : Option Mem :=
  (if v2 ≤ 4 then some (mu M 100 22 2) else some (mu M 100 22 4))
def f_X9_next_b300 (v1 : Int32) (M : Mem) : Option Mem :=
  ck (((((v1 : Int32).toInt64)).toInt32).toInt64 == ((v1 : Int32).toInt64)) (some (mu (mu (mu M 100 22 3) 100 24 (((v1 : Int32).toInt64)).toInt32) 100 21 ((M 100 21) + 1)))
def f_X9_next_b39 (M : Mem) : Option Mem :=
  (f_X9_byteAt (M 100 21) (mu M 100 23 (M 100 21))).bind fun o7 => (if 0 ≤ o7.1 then (f_X9_in ((o7.1 : Int32).toInt64) 97 122 (mu o7.2 100 22 4)).bind fun o10 => (if o10.1 = 0 then (f_X9_in ((o7.1 : Int32).toInt64) 48 57 o10.2).bind fun o13 => (if o13.1 = 0 then (if o7.1 = 40 then f_X9_next_b300 o7.1 o13.2 else (if o7.1 = 41 then f_X9_next_b300 o7.1 o13.2 else (if o7.1 = 59 then f_X9_next_b300 o7.1 o13.2 else (if o7.1 = 43 then f_X9_next_b300 o7.1 o13.2 else (if o7.1 = 45 then f_X9_next_b300 o7.1 o13.2 else (if o7.1 = 42 then f_X9_next_b300 o7.1 o13.2 else (if o7.1 = 60 then f_X9_next_b300 o7.1 o13.2 else (if o7.1 = 61 then f_X9_next_b300 o7.1 o13.2 else some o13.2)))))))) else ck (((0).toInt32).toInt64 == 0) ((f_X9_next_l160 f_X9_next_b235 FU) 0 (mu (mu o13.2 100 22 2) 100 24 (0).toInt32))) else (f_X9_next_l100 FU) (mu o10.2 100 22 1)) else some (mu (mu (mu o7.2 100 22 4) 100 22 0) 100 23 (o7.2 100 20)))
def f_X9_next (M : Mem) : Option Mem :=
  (f_X9_next_l0 f_X9_next_b39 FU) M

def f_X9_fail (M : Mem) : Option Mem :=
  (if (M 100 26) = 0 then some (mu (mu M 100 26 1) 100 27 (M 100 23)) else some M)

def f_X9_isLetter (v1 : Int32) (v2 : Int32) (M : Mem) : Option (Int32 × Mem) :=
  (if (M 100 21) ≤ ((M 100 23) + v1) then (if v2 = 0 then some (1, M) else some (0, M)) else (f_X9_byteAt ((M 100 23) + v1) M).bind fun o3 => (if o3.1 = v2 then some (1, o3.2) else some (0, o3.2)))

def f_X9_isWord (v1 : Int32) (v2 : Int32) (v3 : Int32) (v4 : Int32) (v5 : Int32) (v6 : Int32) (v7 : Int32) (v8 : Int32) (M : Mem) : Option (Int32 × Mem) :=
  (if (M 100 26) = 0 then (if (M 100 22) = 1 then (if ((M 100 23) + 8) < (M 100 21) then some (0, M) else (f_X9_isLetter 0 v1 M).bind fun o4 => (if o4.1 = 0 then some (0, o4.2) else (f_X9_isLetter 1 v2 o4.2).bind fun o7 => (if o7.1 = 0 then some (0, o7.2) else (f_X9_isLetter 2 v3 o7.2).bind fun o10 => (if o10.1 = 0 then some (0, o10.2) else (f_X9_isLetter 3 v4 o10.2).bind fun o13 => (if o13.1 = 0 then some (0, o13.2) else (f_X9_isLetter 4 v5 o13.2).bind fun o16 => (if o16.1 = 0 then some (0, o16.2) else (f_X9_isLetter 5 v6 o16.2).bind fun o19 => (if o19.1 = 0 then some (0, o19.2) else (f_X9_isLetter 6 v7 o19.2).bind fun o22 => (if o22.1 = 0 then some (0, o22.2) else (f_X9_isLetter 7 v8 o22.2).bind fun o25 => (if o25.1 = 0 then some (0, o25.2) else some (1, o25.2)))))))))) else some (0, M)) else some (0, M))

def f_X9_isSign (v1 : Int32) (M : Mem) : Option (Int32 × Mem) :=
  (if (M 100 26) = 0 then (if (M 100 22) = 3 then (if (lg_cmp ((M 100 24)).toInt64 ((v1 : Int32).toInt64)) = 0 then some (1, M) else some (0, M)) else some (0, M)) else some (0, M))

def f_X9_opens (M : Mem) : Option (Int32 × Mem) :=
  (if (M 100 25) = 5 then (f_X9_fail M).bind fun o4 => some (0, o4) else (f_X9_next (mu M 100 25 ((M 100 25) + 1))).bind fun o2 => some (1, o2))

def f_X9_name (M : Mem) : Option (Int32 × Mem) :=
  (f_X9_isWord 112 97 114 116 0 0 0 0 M).bind fun o1 => (if o1.1 = 0 then (f_X9_isWord 109 117 99 104 0 0 0 0 o1.2).bind fun o4 => (if o4.1 = 0 then (f_X9_isWord 107 105 116 99 104 101 110 0 o4.2).bind fun o7 => (if o7.1 = 0 then (f_X9_isWord 104 111 117 114 0 0 0 0 o7.2).bind fun o10 => (if o10.1 = 0 then (f_X9_isWord 110 117 109 98 101 114 0 0 o10.2).bind fun o13 => (if o13.1 = 0 then (f_X9_isWord 112 114 105 100 101 0 0 0 o13.2).bind fun o16 => (if o16.1 = 0 then (f_X9_fail o16.2).bind fun o19 => some (0, o19) else some ((o16.2 100 18), o16.2)) else some ((o13.2 100 17), o13.2)) else some ((o10.2 100 16), o10.2)) else some ((o7.2 100 15), o7.2)) else some ((o4.2 100 14), o4.2)) else some ((o1.2 100 13), o1.2))

def f_X9_either_b44 (rc_X9_either : Mem → Option (Int32 × Mem)) (rc_X9_both : Mem → Option (Int32 × Mem)) (rc_X9_not : Mem → Option (Int32 × Mem)) (rc_X9_added : Mem → Option (Int32 × Mem)) (rc_X9_term : Mem → Option (Int32 × Mem)) (rc_X9_atom : Mem → Option (Int32 × Mem)) (r : Int32 → Mem → Option (Int32 × Mem)) (s0 : Int32) (M : Mem) : Option (Int32 × Mem) :=
  r s0 M
def f_X9_either_b39 (rc_X9_either : Mem → Option (Int32 × Mem)) (rc_X9_both : Mem → Option (Int32 × Mem)) (rc_X9_not : Mem → Option (Int32 × Mem)) (rc_X9_added : Mem → Option (Int32 × Mem)) (rc_X9_term : Mem → Option (Int32 × Mem)) (rc_X9_atom : Mem → Option (Int32 × Mem)) (r : Int32 → Mem → Option (Int32 × Mem)) (M : Mem) : Option (Int32 × Mem) :=
  (f_X9_either_b44 rc_X9_either rc_X9_both rc_X9_not rc_X9_added rc_X9_term rc_X9_atom r) 1 M
def f_X9_either_l5 (rc_X9_either : Mem → Option (Int32 × Mem)) (rc_X9_both : Mem → Option (Int32 × Mem)) (rc_X9_not : Mem → Option (Int32 × Mem)) (rc_X9_added : Mem → Option (Int32 × Mem)) (rc_X9_term : Mem → Option (Int32 × Mem)) (rc_X9_atom : Mem → Option (Int32 × Mem)) : Nat → Int32 → Mem → Option (Int32 × Mem)
  | 0, _, _ => none
  | n + 1, v1, M => (f_X9_isWord 111 114 0 0 0 0 0 0 M).bind fun o3 => (if o3.1 = 0 then some (v1, o3.2) else (f_X9_next o3.2).bind fun o6 => (rc_X9_both o6).bind fun o8 => (if v1 = 0 then (if o8.1 = 0 then (f_X9_either_b44 rc_X9_either rc_X9_both rc_X9_not rc_X9_added rc_X9_term rc_X9_atom (f_X9_either_l5 rc_X9_either rc_X9_both rc_X9_not rc_X9_added rc_X9_term rc_X9_atom n)) 0 o8.2 else (f_X9_either_b39 rc_X9_either rc_X9_both rc_X9_not rc_X9_added rc_X9_term rc_X9_atom (f_X9_either_l5 rc_X9_either rc_X9_both rc_X9_not rc_X9_added rc_X9_term rc_X9_atom n)) o8.2) else (f_X9_either_b39 rc_X9_either rc_X9_both rc_X9_not rc_X9_added rc_X9_term rc_X9_atom (f_X9_either_l5 rc_X9_either rc_X9_both rc_X9_not rc_X9_added rc_X9_term rc_X9_atom n)) o8.2))
def f_X9_either_b (rc_X9_either : Mem → Option (Int32 × Mem)) (rc_X9_both : Mem → Option (Int32 × Mem)) (rc_X9_not : Mem → Option (Int32 × Mem)) (rc_X9_added : Mem → Option (Int32 × Mem)) (rc_X9_term : Mem → Option (Int32 × Mem)) (rc_X9_atom : Mem → Option (Int32 × Mem)) (M : Mem) : Option (Int32 × Mem) :=
  (rc_X9_both M).bind fun o1 => (f_X9_either_l5 rc_X9_either rc_X9_both rc_X9_not rc_X9_added rc_X9_term rc_X9_atom FU) o1.1 o1.2
def f_X9_both_b45 (rc_X9_either : Mem → Option (Int32 × Mem)) (rc_X9_both : Mem → Option (Int32 × Mem)) (rc_X9_not : Mem → Option (Int32 × Mem)) (rc_X9_added : Mem → Option (Int32 × Mem)) (rc_X9_term : Mem → Option (Int32 × Mem)) (rc_X9_atom : Mem → Option (Int32 × Mem)) (r : Int32 → Mem → Option (Int32 × Mem)) (s0 : Int32) (M : Mem) : Option (Int32 × Mem) :=
  r s0 M
def f_X9_both_b44 (rc_X9_either : Mem → Option (Int32 × Mem)) (rc_X9_both : Mem → Option (Int32 × Mem)) (rc_X9_not : Mem → Option (Int32 × Mem)) (rc_X9_added : Mem → Option (Int32 × Mem)) (rc_X9_term : Mem → Option (Int32 × Mem)) (rc_X9_atom : Mem → Option (Int32 × Mem)) (r : Int32 → Mem → Option (Int32 × Mem)) (M : Mem) : Option (Int32 × Mem) :=
  (f_X9_both_b45 rc_X9_either rc_X9_both rc_X9_not rc_X9_added rc_X9_term rc_X9_atom r) 0 M
def f_X9_both_l5 (rc_X9_either : Mem → Option (Int32 × Mem)) (rc_X9_both : Mem → Option (Int32 × Mem)) (rc_X9_not : Mem → Option (Int32 × Mem)) (rc_X9_added : Mem → Option (Int32 × Mem)) (rc_X9_term : Mem → Option (Int32 × Mem)) (rc_X9_atom : Mem → Option (Int32 × Mem)) : Nat → Int32 → Mem → Option (Int32 × Mem)
  | 0, _, _ => none
  | n + 1, v1, M => (f_X9_isWord 97 110 100 0 0 0 0 0 M).bind fun o3 => (if o3.1 = 0 then some (v1, o3.2) else (f_X9_next o3.2).bind fun o6 => (rc_X9_not o6).bind fun o8 => (if v1 = 0 then (f_X9_both_b44 rc_X9_either rc_X9_both rc_X9_not rc_X9_added rc_X9_term rc_X9_atom (f_X9_both_l5 rc_X9_either rc_X9_both rc_X9_not rc_X9_added rc_X9_term rc_X9_atom n)) o8.2 else (if o8.1 = 0 then (f_X9_both_b44 rc_X9_either rc_X9_both rc_X9_not rc_X9_added rc_X9_term rc_X9_atom (f_X9_both_l5 rc_X9_either rc_X9_both rc_X9_not rc_X9_added rc_X9_term rc_X9_atom n)) o8.2 else (f_X9_both_b45 rc_X9_either rc_X9_both rc_X9_not rc_X9_added rc_X9_term rc_X9_atom (f_X9_both_l5 rc_X9_either rc_X9_both rc_X9_not rc_X9_added rc_X9_term rc_X9_atom n)) 1 o8.2)))
def f_X9_both_b (rc_X9_either : Mem → Option (Int32 × Mem)) (rc_X9_both : Mem → Option (Int32 × Mem)) (rc_X9_not : Mem → Option (Int32 × Mem)) (rc_X9_added : Mem → Option (Int32 × Mem)) (rc_X9_term : Mem → Option (Int32 × Mem)) (rc_X9_atom : Mem → Option (Int32 × Mem)) (M : Mem) : Option (Int32 × Mem) :=
  (rc_X9_not M).bind fun o1 => (f_X9_both_l5 rc_X9_either rc_X9_both rc_X9_not rc_X9_added rc_X9_term rc_X9_atom FU) o1.1 o1.2
def f_X9_not_b93 (rc_X9_either : Mem → Option (Int32 × Mem)) (rc_X9_both : Mem → Option (Int32 × Mem)) (rc_X9_not : Mem → Option (Int32 × Mem)) (rc_X9_added : Mem → Option (Int32 × Mem)) (rc_X9_term : Mem → Option (Int32 × Mem)) (rc_X9_atom : Mem → Option (Int32 × Mem)) (v1 : Int32) (s0 : Int32) (M : Mem) : Option (Int32 × Mem) :=
  (f_X9_next M).bind fun o19 => (rc_X9_added o19).bind fun o21 => (if s0 = 0 then (if v1 = o21.1 then some (1, o21.2) else some (0, o21.2)) else (if o21.1 ≤ v1 then some (0, o21.2) else some (1, o21.2)))
def f_X9_not_b77 (rc_X9_either : Mem → Option (Int32 × Mem)) (rc_X9_both : Mem → Option (Int32 × Mem)) (rc_X9_not : Mem → Option (Int32 × Mem)) (rc_X9_added : Mem → Option (Int32 × Mem)) (rc_X9_term : Mem → Option (Int32 × Mem)) (rc_X9_atom : Mem → Option (Int32 × Mem)) (v1 : Int32) (M : Mem) : Option (Int32 × Mem) :=
  (if (lg_cmp ((M 100 24)).toInt64 60) = 0 then (f_X9_not_b93 rc_X9_either rc_X9_both rc_X9_not rc_X9_added rc_X9_term rc_X9_atom) v1 1 M else (f_X9_not_b93 rc_X9_either rc_X9_both rc_X9_not rc_X9_added rc_X9_term rc_X9_atom) v1 0 M)
def f_X9_not_b (rc_X9_either : Mem → Option (Int32 × Mem)) (rc_X9_both : Mem → Option (Int32 × Mem)) (rc_X9_not : Mem → Option (Int32 × Mem)) (rc_X9_added : Mem → Option (Int32 × Mem)) (rc_X9_term : Mem → Option (Int32 × Mem)) (rc_X9_atom : Mem → Option (Int32 × Mem)) (M : Mem) : Option (Int32 × Mem) :=
  (f_X9_isWord 110 111 116 0 0 0 0 0 M).bind fun o1 => (if o1.1 = 0 then (rc_X9_added o1.2).bind fun o4 => (f_X9_isSign 60 o4.2).bind fun o6 => (if o6.1 = 0 then (f_X9_isSign 61 o6.2).bind fun o9 => (if o9.1 = 0 then some (o4.1, o9.2) else (f_X9_not_b77 rc_X9_either rc_X9_both rc_X9_not rc_X9_added rc_X9_term rc_X9_atom) o4.1 o9.2) else (f_X9_not_b77 rc_X9_either rc_X9_both rc_X9_not rc_X9_added rc_X9_term rc_X9_atom) o4.1 o6.2) else (f_X9_opens o1.2).bind fun o12 => (if o12.1 = 0 then some (0, o12.2) else (rc_X9_not o12.2).bind fun o15 => (if o15.1 = 0 then some (1, (mu o15.2 100 25 ((o15.2 100 25) - 1))) else some (0, (mu o15.2 100 25 ((o15.2 100 25) - 1))))))
def f_X9_added_b62 (rc_X9_either : Mem → Option (Int32 × Mem)) (rc_X9_both : Mem → Option (Int32 × Mem)) (rc_X9_not : Mem → Option (Int32 × Mem)) (rc_X9_added : Mem → Option (Int32 × Mem)) (rc_X9_term : Mem → Option (Int32 × Mem)) (rc_X9_atom : Mem → Option (Int32 × Mem)) (r : Int32 → Mem → Option (Int32 × Mem)) (s0 : Int32) (M : Mem) : Option (Int32 × Mem) :=
  r s0 M
def f_X9_added_b39 (rc_X9_either : Mem → Option (Int32 × Mem)) (rc_X9_both : Mem → Option (Int32 × Mem)) (rc_X9_not : Mem → Option (Int32 × Mem)) (rc_X9_added : Mem → Option (Int32 × Mem)) (rc_X9_term : Mem → Option (Int32 × Mem)) (rc_X9_atom : Mem → Option (Int32 × Mem)) (r : Int32 → Mem → Option (Int32 × Mem)) (v1 : Int32) (s0 : Int32) (M : Mem) : Option (Int32 × Mem) :=
  (f_X9_next M).bind fun o10 => (rc_X9_term o10).bind fun o12 => (if s0 = 0 then (f_X9_added_b62 rc_X9_either rc_X9_both rc_X9_not rc_X9_added rc_X9_term rc_X9_atom r) (v1 - o12.1) o12.2 else (f_X9_added_b62 rc_X9_either rc_X9_both rc_X9_not rc_X9_added rc_X9_term rc_X9_atom r) (v1 + o12.1) o12.2)
def f_X9_added_b23 (rc_X9_either : Mem → Option (Int32 × Mem)) (rc_X9_both : Mem → Option (Int32 × Mem)) (rc_X9_not : Mem → Option (Int32 × Mem)) (rc_X9_added : Mem → Option (Int32 × Mem)) (rc_X9_term : Mem → Option (Int32 × Mem)) (rc_X9_atom : Mem → Option (Int32 × Mem)) (r : Int32 → Mem → Option (Int32 × Mem)) (v1 : Int32) (M : Mem) : Option (Int32 × Mem) :=
  (if (lg_cmp ((M 100 24)).toInt64 43) = 0 then (f_X9_added_b39 rc_X9_either rc_X9_both rc_X9_not rc_X9_added rc_X9_term rc_X9_atom r) v1 1 M else (f_X9_added_b39 rc_X9_either rc_X9_both rc_X9_not rc_X9_added rc_X9_term rc_X9_atom r) v1 0 M)
def f_X9_added_l5 (rc_X9_either : Mem → Option (Int32 × Mem)) (rc_X9_both : Mem → Option (Int32 × Mem)) (rc_X9_not : Mem → Option (Int32 × Mem)) (rc_X9_added : Mem → Option (Int32 × Mem)) (rc_X9_term : Mem → Option (Int32 × Mem)) (rc_X9_atom : Mem → Option (Int32 × Mem)) : Nat → Int32 → Mem → Option (Int32 × Mem)
  | 0, _, _ => none
  | n + 1, v1, M => (f_X9_isSign 43 M).bind fun o3 => (if o3.1 = 0 then (f_X9_isSign 45 o3.2).bind fun o6 => (if o6.1 = 0 then some (v1, o6.2) else (f_X9_added_b23 rc_X9_either rc_X9_both rc_X9_not rc_X9_added rc_X9_term rc_X9_atom (f_X9_added_l5 rc_X9_either rc_X9_both rc_X9_not rc_X9_added rc_X9_term rc_X9_atom n)) v1 o6.2) else (f_X9_added_b23 rc_X9_either rc_X9_both rc_X9_not rc_X9_added rc_X9_term rc_X9_atom (f_X9_added_l5 rc_X9_either rc_X9_both rc_X9_not rc_X9_added rc_X9_term rc_X9_atom n)) v1 o3.2)
def f_X9_added_b (rc_X9_either : Mem → Option (Int32 × Mem)) (rc_X9_both : Mem → Option (Int32 × Mem)) (rc_X9_not : Mem → Option (Int32 × Mem)) (rc_X9_added : Mem → Option (Int32 × Mem)) (rc_X9_term : Mem → Option (Int32 × Mem)) (rc_X9_atom : Mem → Option (Int32 × Mem)) (M : Mem) : Option (Int32 × Mem) :=
  (rc_X9_term M).bind fun o1 => (f_X9_added_l5 rc_X9_either rc_X9_both rc_X9_not rc_X9_added rc_X9_term rc_X9_atom FU) o1.1 o1.2
def f_X9_term_l5 (rc_X9_either : Mem → Option (Int32 × Mem)) (rc_X9_both : Mem → Option (Int32 × Mem)) (rc_X9_not : Mem → Option (Int32 × Mem)) (rc_X9_added : Mem → Option (Int32 × Mem)) (rc_X9_term : Mem → Option (Int32 × Mem)) (rc_X9_atom : Mem → Option (Int32 × Mem)) : Nat → Int32 → Mem → Option (Int32 × Mem)
  | 0, _, _ => none
  | n + 1, v1, M => (f_X9_isSign 42 M).bind fun o3 => (if o3.1 = 0 then some (v1, o3.2) else (f_X9_next o3.2).bind fun o6 => (rc_X9_atom o6).bind fun o8 => (f_X9_term_l5 rc_X9_either rc_X9_both rc_X9_not rc_X9_added rc_X9_term rc_X9_atom n) (v1 * o8.1) o8.2)
def f_X9_term_b (rc_X9_either : Mem → Option (Int32 × Mem)) (rc_X9_both : Mem → Option (Int32 × Mem)) (rc_X9_not : Mem → Option (Int32 × Mem)) (rc_X9_added : Mem → Option (Int32 × Mem)) (rc_X9_term : Mem → Option (Int32 × Mem)) (rc_X9_atom : Mem → Option (Int32 × Mem)) (M : Mem) : Option (Int32 × Mem) :=
  (rc_X9_atom M).bind fun o1 => (f_X9_term_l5 rc_X9_either rc_X9_both rc_X9_not rc_X9_added rc_X9_term rc_X9_atom FU) o1.1 o1.2
def f_X9_atom_b71 (rc_X9_either : Mem → Option (Int32 × Mem)) (rc_X9_both : Mem → Option (Int32 × Mem)) (rc_X9_not : Mem → Option (Int32 × Mem)) (rc_X9_added : Mem → Option (Int32 × Mem)) (rc_X9_term : Mem → Option (Int32 × Mem)) (rc_X9_atom : Mem → Option (Int32 × Mem)) (v1 : Int32) (M : Mem) : Option (Int32 × Mem) :=
  (if (M 100 26) = 0 then (f_X9_next (mu M 100 25 ((M 100 25) - 1))).bind fun o27 => some (v1, o27) else some (v1, (mu M 100 25 ((M 100 25) - 1))))
def f_X9_atom_b157 (rc_X9_either : Mem → Option (Int32 × Mem)) (rc_X9_both : Mem → Option (Int32 × Mem)) (rc_X9_not : Mem → Option (Int32 × Mem)) (rc_X9_added : Mem → Option (Int32 × Mem)) (rc_X9_term : Mem → Option (Int32 × Mem)) (rc_X9_atom : Mem → Option (Int32 × Mem)) (v1 : Int32) (M : Mem) : Option (Int32 × Mem) :=
  (f_X9_fail M).bind fun o36 => some (v1, o36)
def f_X9_atom_b123 (rc_X9_either : Mem → Option (Int32 × Mem)) (rc_X9_both : Mem → Option (Int32 × Mem)) (rc_X9_not : Mem → Option (Int32 × Mem)) (rc_X9_added : Mem → Option (Int32 × Mem)) (rc_X9_term : Mem → Option (Int32 × Mem)) (rc_X9_atom : Mem → Option (Int32 × Mem)) (v1 : Int32) (M : Mem) : Option (Int32 × Mem) :=
  (if (M 100 26) = 0 then (if (M 100 22) = 1 then (f_X9_name M).bind fun o31 => (if (o31.2 100 26) = 0 then (f_X9_next o31.2).bind fun o34 => some (o31.1, o34) else some (o31.1, o31.2)) else (f_X9_atom_b157 rc_X9_either rc_X9_both rc_X9_not rc_X9_added rc_X9_term rc_X9_atom) v1 M) else (f_X9_atom_b157 rc_X9_either rc_X9_both rc_X9_not rc_X9_added rc_X9_term rc_X9_atom) v1 M)
def f_X9_atom_b (rc_X9_either : Mem → Option (Int32 × Mem)) (rc_X9_both : Mem → Option (Int32 × Mem)) (rc_X9_not : Mem → Option (Int32 × Mem)) (rc_X9_added : Mem → Option (Int32 × Mem)) (rc_X9_term : Mem → Option (Int32 × Mem)) (rc_X9_atom : Mem → Option (Int32 × Mem)) (M : Mem) : Option (Int32 × Mem) :=
  (f_X9_isSign 45 M).bind fun o1 => (if o1.1 = 0 then (f_X9_isSign 40 o1.2).bind fun o4 => (if o4.1 = 0 then (if (o4.2 100 26) = 0 then (if (o4.2 100 22) = 2 then (f_X9_next o4.2).bind fun o9 => some (((((o4.2 100 24)).toInt64 : Int64).toInt32), o9) else (f_X9_atom_b123 rc_X9_either rc_X9_both rc_X9_not rc_X9_added rc_X9_term rc_X9_atom) 0 o4.2) else (f_X9_atom_b123 rc_X9_either rc_X9_both rc_X9_not rc_X9_added rc_X9_term rc_X9_atom) 0 o4.2) else (f_X9_opens o4.2).bind fun o11 => (if o11.1 = 0 then some (0, o11.2) else (rc_X9_either o11.2).bind fun o14 => (f_X9_isSign 41 o14.2).bind fun o16 => (if o16.1 = 0 then (f_X9_fail o16.2).bind fun o19 => (f_X9_atom_b71 rc_X9_either rc_X9_both rc_X9_not rc_X9_added rc_X9_term rc_X9_atom) o14.1 o19 else (f_X9_atom_b71 rc_X9_either rc_X9_both rc_X9_not rc_X9_added rc_X9_term rc_X9_atom) o14.1 o16.2))) else (f_X9_opens o1.2).bind fun o21 => (if o21.1 = 0 then some (0, o21.2) else (rc_X9_atom o21.2).bind fun o24 => some ((-o24.1), (mu o24.2 100 25 ((o24.2 100 25) - 1)))))
def G_X9_either : Nat → (Mem → Option (Int32 × Mem)) × (Mem → Option (Int32 × Mem)) × (Mem → Option (Int32 × Mem)) × (Mem → Option (Int32 × Mem)) × (Mem → Option (Int32 × Mem)) × (Mem → Option (Int32 × Mem))
  | 0 => (fun _ => none, fun _ => none, fun _ => none, fun _ => none, fun _ => none, fun _ => none)
  | d + 1 => let g := G_X9_either d; (f_X9_either_b g.1 g.2.1 g.2.2.1 g.2.2.2.1 g.2.2.2.2.1 g.2.2.2.2.2, f_X9_both_b g.1 g.2.1 g.2.2.1 g.2.2.2.1 g.2.2.2.2.1 g.2.2.2.2.2, f_X9_not_b g.1 g.2.1 g.2.2.1 g.2.2.2.1 g.2.2.2.2.1 g.2.2.2.2.2, f_X9_added_b g.1 g.2.1 g.2.2.1 g.2.2.2.1 g.2.2.2.2.1 g.2.2.2.2.2, f_X9_term_b g.1 g.2.1 g.2.2.1 g.2.2.2.1 g.2.2.2.2.1 g.2.2.2.2.2, f_X9_atom_b g.1 g.2.1 g.2.2.1 g.2.2.2.1 g.2.2.2.2.1 g.2.2.2.2.2)
def f_X9_either (d : Nat) : Mem → Option (Int32 × Mem) := (G_X9_either d).1
def f_X9_both (d : Nat) : Mem → Option (Int32 × Mem) := (G_X9_either d).2.1
def f_X9_not (d : Nat) : Mem → Option (Int32 × Mem) := (G_X9_either d).2.2.1
def f_X9_added (d : Nat) : Mem → Option (Int32 × Mem) := (G_X9_either d).2.2.2.1
def f_X9_term (d : Nat) : Mem → Option (Int32 × Mem) := (G_X9_either d).2.2.2.2.1
def f_X9_atom (d : Nat) : Mem → Option (Int32 × Mem) := (G_X9_either d).2.2.2.2.2

def f_X9_part_b48 (v2 : Int32) (M : Mem) : Option (Int32 × Mem) :=
  (if (M 100 26) = 0 then (f_X9_next M).bind fun o16 => some (v2, o16) else some (v2, M))
def f_X9_part_b34 (s0 : Int32) (M : Mem) : Option (Int32 × Mem) :=
  (f_X9_isSign 59 M).bind fun o10 => (if o10.1 = 0 then (f_X9_fail o10.2).bind fun o13 => f_X9_part_b48 s0 o13 else f_X9_part_b48 s0 o10.2)
def f_X9_part_b19 (M : Mem) : Option (Int32 × Mem) :=
  (if (M 100 26) = 0 then (f_X9_either DP M).bind fun o8 => f_X9_part_b34 o8.1 o8.2 else f_X9_part_b34 0 M)
def f_X9_part_b8 (M : Mem) : Option (Int32 × Mem) :=
  (if (M 100 26) = 0 then (f_X9_next M).bind fun o5 => f_X9_part_b19 o5 else f_X9_part_b19 M)
def f_X9_part (v1 : Int32) (M : Mem) : Option (Int32 × Mem) :=
  (if v1 = 0 then (f_X9_fail M).bind fun o2 => f_X9_part_b8 o2 else f_X9_part_b8 M)

def f_X9_read_b146 (v2 : Int32) (v3 : Int32) (v4 : Int32) (v5 : Int32) (M : Mem) : Option (Int32 × Mem) :=
  (if v2 = 0 then some (v3, M) else (if v2 = 1 then some (v4, M) else some (v5, M)))
def f_X9_read_b126 (v2 : Int32) (v3 : Int32) (v4 : Int32) (s0 : Int32) (M : Mem) : Option (Int32 × Mem) :=
  (if (M 100 26) = 0 then (if (M 100 22) = 0 then f_X9_read_b146 v2 v3 v4 s0 M else (f_X9_fail M).bind fun o20 => f_X9_read_b146 v2 v3 v4 s0 o20) else f_X9_read_b146 v2 v3 v4 s0 M)
def f_X9_read_b92 (v2 : Int32) (v3 : Int32) (s0 : Int32) (M : Mem) : Option (Int32 × Mem) :=
  (if (M 100 26) = 0 then (f_X9_isWord 115 105 103 110 115 0 0 0 M).bind fun o14 => (f_X9_part o14.1 o14.2).bind fun o16 => f_X9_read_b126 v2 v3 s0 o16.1 o16.2 else f_X9_read_b126 v2 v3 s0 0 M)
def f_X9_read (v1 : Int32) (v2 : Int32) (M : Mem) : Option (Int32 × Mem) :=
  ck (inb v1 6) ((f_X9_next (mu (mu (mu (mu (mu M 100 19 (160 * v1)) 100 20 (M 102 (v1).toNatClampNeg)) 100 21 0) 100 25 0) 100 26 0)).bind fun o2 => (f_X9_isWord 102 101 101 100 115 0 0 0 o2).bind fun o4 => (f_X9_part o4.1 o4.2).bind fun o6 => (if (o6.2 100 26) = 0 then (f_X9_isWord 116 111 108 108 115 0 0 0 o6.2).bind fun o9 => (f_X9_part o9.1 o9.2).bind fun o11 => f_X9_read_b92 v2 o6.1 o11.1 o11.2 else f_X9_read_b92 v2 o6.1 0 o6.2))

def f_X9_text_l14 (k49 : Mem → Option (Int32 × Mem)) : Nat → Int32 → Mem → Option (Int32 × Mem)
  | 0, _, _ => none
  | n + 1, v1, M => (if (M 100 6) ≤ v1 then k49 M else ck (inb v1 160) (ck (inb ((160 * (M 100 3)) + v1) 960) ((f_X9_text_l14 k49 n) (v1 + 1) (mu M 101 (((160 * (M 100 3)) + v1)).toNatClampNeg (M 103 (v1).toNatClampNeg)))))
def f_X9_text_b49 (M : Mem) : Option (Int32 × Mem) :=
  ck (inb (M 100 3) 6) ((f_X9_read (M 100 3) 0 (mu (mu M 102 ((M 100 3)).toNatClampNeg (M 100 6)) 100 6 0)).bind fun o6 => (if (o6.2 100 26) = 0 then some ((((o6.2 100 3) + 1) - 1), (mu o6.2 100 3 ((o6.2 100 3) + 1))) else some (((-100) - (o6.2 100 27)), o6.2)))
def f_X9_text (M : Mem) : Option (Int32 × Mem) :=
  (if (M 100 3) = 6 then some ((-4), M) else (f_X9_text_l14 f_X9_text_b49 FU) 0 M)

def f_X9_force (v1 : Int32) (M : Mem) : Option (Int32 × Mem) :=
  (f_X9_in ((v1 : Int32).toInt64) 0 ((((M 100 3) - 1) : Int32).toInt64) M).bind fun o1 => (if o1.1 = 0 then some ((-2), o1.2) else some ((o1.2 100 4), (mu o1.2 100 4 v1)))

def f_X9_says (v1 : Int32) (v2 : Int32) (v3 : Int32) (v4 : Int32) (v5 : Int32) (M : Mem) : Option (Int32 × Mem) :=
  ck (inb (3 * v2) 18) (ck (inb v3 2) ((f_X9_read (M 100 4) v1 (mu (mu (mu (mu (mu (mu M 100 13 v4) 100 14 v5) 100 15 v3) 100 16 (M 100 7)) 100 17 (M 107 ((3 * v2)).toNatClampNeg)) 100 18 (M 105 (v3).toNatClampNeg))).bind fun o3 => (if v1 = 2 then some (o3.1, o3.2) else (f_X9_within o3.1 0 99 o3.2).bind fun o6 => some (o6.1, o6.2))))

def f_X9_feedsOf_b117 (s0 : Int32) (M : Mem) : Option (Int32 × Mem) :=
  (f_X9_within s0 0 99 M).bind fun o15 => some (o15.1, o15.2)
def f_X9_feedsOf_b55 (v5 : Int32) (M : Mem) : Option (Int32 × Mem) :=
  f_X9_feedsOf_b117 (2 * v5) M
def f_X9_feedsOf_b98 (s0 : Int32) (s1 : Int32) (M : Mem) : Option (Int32 × Mem) :=
  f_X9_feedsOf_b117 (s0 + s1) M
def f_X9_feedsOf_b30 (v1 : Int32) (v2 : Int32) (v3 : Int32) (v4 : Int32) (M : Mem) : Option (Int32 × Mem) :=
  (f_X9_needsAll v1 M).bind fun o5 => (f_X9_says 0 v1 v2 0 o5.1 o5.2).bind fun o7 => (if v3 = 1 then f_X9_feedsOf_b55 o7.1 o7.2 else (if v3 = 3 then f_X9_feedsOf_b55 o7.1 o7.2 else (if v3 = 2 then f_X9_feedsOf_b117 (o7.1 / 2) o7.2 else (if v3 = 4 then (if (jrem (o7.2 100 7) 4) = 0 then f_X9_feedsOf_b98 (o7.1 / 2) 10 o7.2 else f_X9_feedsOf_b98 (o7.1 / 2) 0 o7.2) else (if v3 = 5 then f_X9_feedsOf_b117 (o7.1 + v4) o7.2 else f_X9_feedsOf_b117 o7.1 o7.2)))))
def f_X9_feedsOf (v1 : Int32) (v2 : Int32) (M : Mem) : Option (Int32 × Mem) :=
  ck (inb v1 6) (ck (inb (3 * v1) 18) ((if (M 106 (v1).toNatClampNeg) = 3 then (if v2 = 1 then some ((M 107 ((3 * v1)).toNatClampNeg), M) else f_X9_feedsOf_b30 v1 v2 (M 106 (v1).toNatClampNeg) (M 107 ((3 * v1)).toNatClampNeg) M) else f_X9_feedsOf_b30 v1 v2 (M 106 (v1).toNatClampNeg) (M 107 ((3 * v1)).toNatClampNeg) M)))

def f_X9_crossOf (v1 : Int32) (v2 : Int32) (v3 : Int32) (M : Mem) : Option (Int32 × Mem) :=
  (f_X9_needsOf v1 v3 M).bind fun o1 => ck (inb ((6 * v2) + v3) 12) ((if 0 ≤ (o1.1 - (o1.2 104 (((6 * v2) + v3)).toNatClampNeg)) then some ((o1.1 - (o1.2 104 (((6 * v2) + v3)).toNatClampNeg)), o1.2) else some (0, o1.2)))

def f_X9_tollPart_b26 (v5 : Int32) (M : Mem) : Option (Int32 × Mem) :=
  (if v5 = 1 then some (0, M) else (if v5 = 3 then some (1, M) else some (9, M)))
def f_X9_tollPart_b99 (s0 : Int32) (M : Mem) : Option (Int32 × Mem) :=
  (f_X9_within s0 0 99 M).bind fun o13 => some (o13.1, o13.2)
def f_X9_tollPart_b72 (v1 : Int32) (v2 : Int32) (v3 : Int32) (v4 : Int32) (v5 : Int32) (M : Mem) : Option (Int32 × Mem) :=
  (f_X9_says 1 v1 v2 v3 v4 M).bind fun o10 => (if v5 = 0 then f_X9_tollPart_b99 o10.1 o10.2 else f_X9_tollPart_b99 (v4 * o10.1) o10.2)
def f_X9_tollPart (v1 : Int32) (v2 : Int32) (v3 : Int32) (v4 : Int32) (M : Mem) : Option (Int32 × Mem) :=
  ck (inb v1 6) ((if (M 106 (v1).toNatClampNeg) = 1 then f_X9_tollPart_b26 (M 106 (v1).toNatClampNeg) M else (if (M 106 (v1).toNatClampNeg) = 3 then f_X9_tollPart_b26 (M 106 (v1).toNatClampNeg) M else (if (M 106 (v1).toNatClampNeg) = 5 then f_X9_tollPart_b26 (M 106 (v1).toNatClampNeg) M else (if (M 106 (v1).toNatClampNeg) = 4 then ck (inb (3 * v1) 18) ((if v3 = (jrem (M 107 ((3 * v1)).toNatClampNeg) 6) then some (0, M) else f_X9_tollPart_b72 v1 v2 v3 v4 (M 106 (v1).toNatClampNeg) M)) else f_X9_tollPart_b72 v1 v2 v3 v4 (M 106 (v1).toNatClampNeg) M)))))

def f_X9_tollOf_b42 (r : Int32 → Int32 → Int32 → Int32 → Mem → Option (Int32 × Mem)) (v1 : Int32) (v2 : Int32) (v4 : Int32) (s0 : Int32) (s1 : Int32) (M : Mem) : Option (Int32 × Mem) :=
  r v1 v2 (s0 + s1) (v4 + 1) M
def f_X9_tollOf_l5 : Nat → Int32 → Int32 → Int32 → Int32 → Mem → Option (Int32 × Mem)
  | 0, _, _, _, _, _ => none
  | n + 1, v1, v2, v3, v4, M => (if 6 ≤ v4 then some (v3, M) else (f_X9_crossOf v1 v2 v4 M).bind fun o2 => (if o2.1 ≤ 0 then (f_X9_tollOf_b42 (f_X9_tollOf_l5 n)) v1 v2 v4 v3 0 o2.2 else (f_X9_tollPart v1 v2 v4 o2.1 o2.2).bind fun o5 => (f_X9_tollOf_b42 (f_X9_tollOf_l5 n)) v1 v2 v4 v3 o5.1 o5.2))
def f_X9_tollOf (v1 : Int32) (v2 : Int32) (M : Mem) : Option (Int32 × Mem) :=
  (f_X9_tollOf_l5 FU) v1 v2 0 0 M

def f_X9_signsAt_b67 (v3 : Int32) (v4 : Int32) (v6 : Int32) (M : Mem) : Option (Int32 × Mem) :=
  (if v6 = 0 then some (0, M) else ck (inb v3 2) ((if (M 105 (v3).toNatClampNeg) ≤ v4 then some (0, M) else some (1, M))))
def f_X9_signsAt_b53 (v2 : Int32) (v3 : Int32) (v4 : Int32) (v5 : Int32) (s0 : Int32) (M : Mem) : Option (Int32 × Mem) :=
  (if v5 = 2 then f_X9_signsAt_b67 v3 v4 s0 M else (if v5 = 4 then f_X9_signsAt_b67 v3 v4 s0 M else (if v5 = 5 then (if s0 = 0 then (if v2 = v3 then some (1, M) else some (0, M)) else some (1, M)) else ck (zb s0) (some (s0, M)))))
def f_X9_signsAt_b35 (v1 : Int32) (v2 : Int32) (v3 : Int32) (v4 : Int32) (v5 : Int32) (M : Mem) : Option (Int32 × Mem) :=
  (f_X9_says 2 v1 v3 0 v4 M).bind fun o6 => (if o6.1 = 0 then f_X9_signsAt_b53 v2 v3 v4 v5 0 o6.2 else f_X9_signsAt_b53 v2 v3 v4 v5 1 o6.2)
def f_X9_signsAt (v1 : Int32) (v2 : Int32) (v3 : Int32) (v4 : Int32) (M : Mem) : Option (Int32 × Mem) :=
  ck (inb v1 6) ((if (M 106 (v1).toNatClampNeg) = 1 then some (1, M) else (if (M 106 (v1).toNatClampNeg) = 3 then some (1, M) else (if (M 106 (v1).toNatClampNeg) = 4 then (if v2 = v3 then some (1, M) else f_X9_signsAt_b35 v1 v2 v3 v4 (M 106 (v1).toNatClampNeg) M) else f_X9_signsAt_b35 v1 v2 v3 v4 (M 106 (v1).toNatClampNeg) M))))

def f_X9_canBe_l2 : Nat → Int32 → Int32 → Int32 → Mem → Option (Int32 × Mem)
  | 0, _, _, _, _ => none
  | n + 1, v1, v2, v3, M => (if 6 ≤ v3 then some (1, M) else (f_X9_crossOf v1 v2 v3 M).bind fun o2 => ck (inb ((6 * (1 - v2)) + v3) 12) ((if o2.1 ≤ (o2.2 104 (((6 * (1 - v2)) + v3)).toNatClampNeg) then (f_X9_canBe_l2 n) v1 v2 (v3 + 1) o2.2 else some (0, o2.2))))
def f_X9_canBe (v1 : Int32) (v2 : Int32) (M : Mem) : Option (Int32 × Mem) :=
  (f_X9_canBe_l2 FU) v1 v2 0 M

def f_X9_isRatified (v1 : Int32) (v2 : Int32) (M : Mem) : Option (Int32 × Mem) :=
  (f_X9_tollOf v1 v2 M).bind fun o1 => (f_X9_signsAt v1 v2 0 o1.1 o1.2).bind fun o3 => (if o3.1 = 0 then some (0, o3.2) else (f_X9_signsAt v1 v2 1 o1.1 o3.2).bind fun o6 => (if o6.1 = 0 then some (0, o6.2) else some (1, o6.2)))

def f_X9_crossAll_l5 : Nat → Int32 → Int32 → Int32 → Int32 → Mem → Option (Int32 × Mem)
  | 0, _, _, _, _, _ => none
  | n + 1, v1, v2, v3, v4, M => (if 6 ≤ v4 then some (v3, M) else (f_X9_crossOf v1 v2 v4 M).bind fun o2 => (f_X9_crossAll_l5 n) v1 v2 (v3 + o2.1) (v4 + 1) o2.2)
def f_X9_crossAll (v1 : Int32) (v2 : Int32) (M : Mem) : Option (Int32 × Mem) :=
  (f_X9_crossAll_l5 FU) v1 v2 0 0 M

def f_X9_asks (v1 : Int32) (v2 : Int32) (v3 : Int32) (M : Mem) : Option (Int32 × Mem) :=
  (f_X9_isDish v1 M).bind fun o1 => (if o1.1 = 0 then some ((-1000), o1.2) else (f_X9_isKitchen v2 o1.2).bind fun o4 => (if o4.1 = 0 then some ((-1000), o4.2) else (f_X9_in ((v3 : Int32).toInt64) 0 6 o4.2).bind fun o7 => (if o7.1 = 0 then some ((-1000), o7.2) else (f_X9_tollOf v1 v2 o7.2).bind fun o10 => (if 3 ≤ v3 then (if 5 ≤ v3 then (if v3 = 5 then (f_X9_feedsOf v1 v2 o10.2).bind fun o17 => some (o17.1, o17.2) else (f_X9_feedsOf v1 v2 o10.2).bind fun o15 => some ((o15.1 - o10.1), o15.2)) else (f_X9_signsAt v1 v2 (v3 - 3) o10.1 o10.2).bind fun o19 => (if o19.1 = 0 then some (0, o19.2) else some (1, o19.2))) else (if v3 = 0 then (f_X9_canBe v1 v2 o10.2).bind fun o26 => (if o26.1 = 0 then some (0, o26.2) else some (1, o26.2)) else (if v3 = 1 then (f_X9_crossAll v1 v2 o10.2).bind fun o24 => some (o24.1, o24.2) else some (o10.1, o10.2)))))))

def f_X9_isCooked (v1 : Int32) (v2 : Int32) (M : Mem) : Option (Int32 × Mem) :=
  (f_X9_canBe v1 v2 M).bind fun o1 => (if o1.1 = 0 then some (0, o1.2) else (f_X9_isRatified v1 v2 o1.2).bind fun o4 => (if o4.1 = 0 then some (0, o4.2) else some (1, o4.2)))

def f_X9_uses_l2 : Nat → Int32 → Int32 → Int32 → Mem → Option Mem
  | 0, _, _, _, _ => none
  | n + 1, v1, v2, v3, M => (if 6 ≤ v3 then some M else (f_X9_crossOf v1 v2 v3 M).bind fun o2 => ck (inb ((6 * v2) + v3) 12) ((f_X9_needsOf v1 v3 o2.2).bind fun o5 => ck (inb ((6 * (1 - v2)) + v3) 12) ((f_X9_uses_l2 n) v1 v2 (v3 + 1) (mu (mu o5.2 104 (((6 * v2) + v3)).toNatClampNeg ((o2.2 104 (((6 * v2) + v3)).toNatClampNeg) - (o5.1 - o2.1))) 104 (((6 * (1 - v2)) + v3)).toNatClampNeg (((mu o5.2 104 (((6 * v2) + v3)).toNatClampNeg ((o2.2 104 (((6 * v2) + v3)).toNatClampNeg) - (o5.1 - o2.1))) 104 (((6 * (1 - v2)) + v3)).toNatClampNeg) - o2.1)))))
def f_X9_uses (v1 : Int32) (v2 : Int32) (M : Mem) : Option Mem :=
  (f_X9_uses_l2 FU) v1 v2 0 M

def f_X9_counts (v1 : Int32) (M : Mem) : Option Mem :=
  ck (inb ((3 * v1) + 2) 18) ((f_X9_within ((M 107 (((3 * v1) + 2)).toNatClampNeg) + 1) 0 999 M).bind fun o2 => some (mu o2.2 107 (((3 * v1) + 2)).toNatClampNeg o2.1))

def f_X9_cook (v1 : Int32) (v2 : Int32) (M : Mem) : Option (Int32 × Mem) :=
  (f_X9_isDish v1 M).bind fun o1 => (if o1.1 = 0 then some ((-1000), o1.2) else (f_X9_isKitchen v2 o1.2).bind fun o4 => (if o4.1 = 0 then some ((-1000), o4.2) else (f_X9_canBe v1 v2 o4.2).bind fun o7 => (if o7.1 = 0 then some ((-1001), o7.2) else (f_X9_isRatified v1 v2 o7.2).bind fun o10 => (if o10.1 = 0 then some ((-1002), o10.2) else (f_X9_feedsOf v1 v2 o10.2).bind fun o13 => (f_X9_tollOf v1 v2 o13.2).bind fun o15 => (f_X9_uses v1 v2 o15.2).bind fun o17 => (f_X9_counts v1 o17).bind fun o19 => some ((o13.1 - o15.1), o19)))))

def f_X9_laysAside_l2 : Nat → Int32 → Mem → Option Mem
  | 0, _, _ => none
  | n + 1, v1, M => (if 12 ≤ v1 then some M else ck (inb v1 12) ((f_X9_laysAside_l2 n) (v1 + 1) (mu M 108 (v1).toNatClampNeg (M 104 (v1).toNatClampNeg))))
def f_X9_laysAside (M : Mem) : Option Mem :=
  (f_X9_laysAside_l2 FU) 0 M

def f_X9_laysBack_l2 : Nat → Int32 → Mem → Option Mem
  | 0, _, _ => none
  | n + 1, v1, M => (if 12 ≤ v1 then some M else ck (inb v1 12) ((f_X9_laysBack_l2 n) (v1 + 1) (mu M 104 (v1).toNatClampNeg (M 108 (v1).toNatClampNeg))))
def f_X9_laysBack (M : Mem) : Option Mem :=
  (f_X9_laysBack_l2 FU) 0 M

def f_X9_isMenu_l9 (k50 : Int32 → Mem → Option (Int32 × Mem)) : Nat → Int32 → Int32 → Int32 → Mem → Option (Int32 × Mem)
  | 0, _, _, _, _ => none
  | n + 1, v1, v2, v3, M => (if v3 < 0 then k50 v2 M else ck (inb v3 6) ((if v1 < 0 then some (0, (mu M 109 (v3).toNatClampNeg (jrem v2 10))) else (if (jrem v2 10) ≤ 2 then (f_X9_isMenu_l9 k50 n) v1 (v2 / 10) (v3 + (-1)) (mu M 109 (v3).toNatClampNeg (jrem v2 10)) else some (0, (mu M 109 (v3).toNatClampNeg (jrem v2 10)))))))
def f_X9_isMenu_b50 (v2 : Int32) (M : Mem) : Option (Int32 × Mem) :=
  (if v2 = 0 then some (1, M) else some (0, M))
def f_X9_isMenu (v1 : Int32) (M : Mem) : Option (Int32 × Mem) :=
  (f_X9_isMenu_l9 f_X9_isMenu_b50 FU) v1 v1 ((M 100 12) - 1) M

def f_X9_cooksAll_b80 (r : Int32 → Mem → Option (Int32 × Mem)) (v1 : Int32) (M : Mem) : Option (Int32 × Mem) :=
  r (v1 + 1) M
def f_X9_cooksAll_l12 : Nat → Int32 → Mem → Option (Int32 × Mem)
  | 0, _, _ => none
  | n + 1, v1, M => (if (M 100 12) ≤ v1 then some ((-1), M) else ck (inb v1 6) ((if ((M 109 (v1).toNatClampNeg) - 1) < 0 then (f_X9_cooksAll_b80 (f_X9_cooksAll_l12 n)) v1 M else (f_X9_isCooked v1 ((M 109 (v1).toNatClampNeg) - 1) M).bind fun o4 => (if o4.1 = 0 then some (v1, o4.2) else (f_X9_feedsOf v1 ((M 109 (v1).toNatClampNeg) - 1) o4.2).bind fun o7 => (f_X9_tollOf v1 ((M 109 (v1).toNatClampNeg) - 1) (mu o7.2 100 30 ((o4.2 100 30) + o7.1))).bind fun o9 => (f_X9_uses v1 ((M 109 (v1).toNatClampNeg) - 1) (mu o9.2 100 31 ((o7.2 100 31) + o9.1))).bind fun o11 => (f_X9_cooksAll_b80 (f_X9_cooksAll_l12 n)) v1 o11))))
def f_X9_cooksAll (M : Mem) : Option (Int32 × Mem) :=
  (f_X9_cooksAll_l12 FU) 0 (mu (mu M 100 30 0) 100 31 0)

def f_X9_menu_b45 (v2 : Int32) (v3 : Int32) (M : Mem) : Option (Int32 × Mem) :=
  (if v2 = 4 then some (v3, M) else (if v3 = (-1) then some (1, M) else some (0, M)))
def f_X9_menu (v1 : Int32) (v2 : Int32) (M : Mem) : Option (Int32 × Mem) :=
  (f_X9_isMenu v1 M).bind fun o1 => (if o1.1 = 0 then some ((-2), o1.2) else (f_X9_in ((v2 : Int32).toInt64) 0 4 o1.2).bind fun o4 => (if o4.1 = 0 then some ((-2), o4.2) else (f_X9_laysAside o4.2).bind fun o7 => (f_X9_cooksAll o7).bind fun o9 => (f_X9_laysBack o9.2).bind fun o11 => (if v2 = 0 then f_X9_menu_b45 v2 o9.1 o11 else (if v2 = 4 then f_X9_menu_b45 v2 o9.1 o11 else (if o9.1 = (-1) then (if v2 = 1 then some (((o11 100 30) - (o11 100 31)), o11) else (if v2 = 2 then some ((o11 100 30), o11) else some ((o11 100 31), o11))) else some ((-100000), o11))))))

def f_X9_serve_b36 (v2 : Int32) (M : Mem) : Option (Int32 × Mem) :=
  (f_X9_laysBack M).bind fun o10 => (if v2 = (-1) then some ((-100003), o10) else some ((-100002), o10))
def f_X9_serve_b79 (r : Int32 → Mem → Option (Int32 × Mem)) (k85 : Mem → Option (Int32 × Mem)) (v3 : Int32) (M : Mem) : Option (Int32 × Mem) :=
  r (v3 + 1) M
def f_X9_serve_l57 (k85 : Mem → Option (Int32 × Mem)) : Nat → Int32 → Mem → Option (Int32 × Mem)
  | 0, _, _ => none
  | n + 1, v3, M => (if (M 100 12) ≤ v3 then k85 M else ck (inb v3 6) ((if (M 109 (v3).toNatClampNeg) ≤ 0 then (f_X9_serve_b79 (f_X9_serve_l57 k85 n) k85) v3 M else (f_X9_counts v3 M).bind fun o16 => (f_X9_serve_b79 (f_X9_serve_l57 k85 n) k85) v3 o16)))
def f_X9_serve_b85 (M : Mem) : Option (Int32 × Mem) :=
  some (((M 100 30) - (M 100 31)), (mu M 100 7 ((M 100 7) + 1)))
def f_X9_serve (v1 : Int32) (M : Mem) : Option (Int32 × Mem) :=
  (f_X9_isMenu v1 M).bind fun o1 => (if o1.1 = 0 then some ((-100001), o1.2) else (f_X9_laysAside o1.2).bind fun o4 => (f_X9_cooksAll o4).bind fun o6 => (if o6.1 = (-1) then (if (o6.2 100 7) = 999 then f_X9_serve_b36 o6.1 o6.2 else (f_X9_serve_l57 f_X9_serve_b85 FU) 0 o6.2) else f_X9_serve_b36 o6.1 o6.2))

def f_X9_menus_b39 (rc_X9_menus : Int32 → Int32 → Int32 → Int32 → Int32 → Int32 → Int32 → Mem → Option Mem) (v3 : Int32) (v5 : Int32) (v6 : Int32) (v7 : Int32) (v8 : Int32) (M : Mem) : Option Mem :=
  some (mu (mu (mu (mu (mu M 100 32 v3) 100 33 v8) 100 34 v5) 100 35 v6) 100 36 v7)
def f_X9_menus_b20 (rc_X9_menus : Int32 → Int32 → Int32 → Int32 → Int32 → Int32 → Int32 → Mem → Option Mem) (v3 : Int32) (v5 : Int32) (v6 : Int32) (v7 : Int32) (s0 : Int32) (M : Mem) : Option Mem :=
  (if (M 100 32) = (-1) then (f_X9_menus_b39 rc_X9_menus) v3 v5 v6 v7 s0 M else (if s0 ≤ (M 100 33) then some M else (f_X9_menus_b39 rc_X9_menus) v3 v5 v6 v7 s0 M))
def f_X9_menus_l137 (rc_X9_menus : Int32 → Int32 → Int32 → Int32 → Int32 → Int32 → Int32 → Mem → Option Mem) (k169 : Int32 → Int32 → Int32 → Int32 → Int32 → Int32 → Int32 → Int32 → Int32 → Int32 → Mem → Option Mem) : Nat → Int32 → Int32 → Int32 → Int32 → Int32 → Int32 → Int32 → Int32 → Int32 → Int32 → Int32 → Mem → Option Mem
  | 0, _, _, _, _, _, _, _, _, _, _, _, _ => none
  | n + 1, v1, v2, v3, v4, v5, v6, v7, v8, v9, v10, v11, M => (if 12 ≤ v11 then k169 v1 v2 v3 v4 v5 v6 v7 v8 v9 v10 M else ck (inb v11 12) (ck (inb ((12 * v2) + v11) 72) ((f_X9_menus_l137 rc_X9_menus k169 n) v1 v2 v3 v4 v5 v6 v7 v8 v9 v10 (v11 + 1) (mu M 110 (((12 * v2) + v11)).toNatClampNeg (M 104 (v11).toNatClampNeg)))))
def f_X9_menus_l257 (rc_X9_menus : Int32 → Int32 → Int32 → Int32 → Int32 → Int32 → Int32 → Mem → Option Mem) (k289 : Int32 → Int32 → Int32 → Int32 → Int32 → Int32 → Int32 → Int32 → Mem → Option Mem) : Nat → Int32 → Int32 → Int32 → Int32 → Int32 → Int32 → Int32 → Int32 → Int32 → Mem → Option Mem
  | 0, _, _, _, _, _, _, _, _, _, _ => none
  | n + 1, v1, v2, v3, v4, v5, v6, v7, v8, v11, M => (if 12 ≤ v11 then k289 v1 v2 v3 v4 v5 v6 v7 v8 M else ck (inb ((12 * v2) + v11) 72) (ck (inb v11 12) ((f_X9_menus_l257 rc_X9_menus k289 n) v1 v2 v3 v4 v5 v6 v7 v8 (v11 + 1) (mu M 104 (v11).toNatClampNeg (M 110 (((12 * v2) + v11)).toNatClampNeg)))))
def f_X9_menus_b289 (rc_X9_menus : Int32 → Int32 → Int32 → Int32 → Int32 → Int32 → Int32 → Mem → Option Mem) (r : Int32 → Int32 → Int32 → Int32 → Int32 → Int32 → Int32 → Int32 → Mem → Option Mem) (v1 : Int32) (v2 : Int32) (v3 : Int32) (v4 : Int32) (v5 : Int32) (v6 : Int32) (v7 : Int32) (v8 : Int32) (M : Mem) : Option Mem :=
  r v1 v2 v3 v4 v5 v6 v7 (v8 + 1) M
def f_X9_menus_b251 (rc_X9_menus : Int32 → Int32 → Int32 → Int32 → Int32 → Int32 → Int32 → Mem → Option Mem) (r : Int32 → Int32 → Int32 → Int32 → Int32 → Int32 → Int32 → Int32 → Mem → Option Mem) (v1 : Int32) (v2 : Int32) (v3 : Int32) (v4 : Int32) (v5 : Int32) (v6 : Int32) (v7 : Int32) (v8 : Int32) (s1 : Int32) (s2 : Int32) (s3 : Int32) (s4 : Int32) (s5 : Int32) (s6 : Int32) (s7 : Int32) (M : Mem) : Option Mem :=
  (rc_X9_menus s1 s2 s3 s4 s5 s6 s7 M).bind fun o24 => (f_X9_menus_l257 rc_X9_menus (f_X9_menus_b289 rc_X9_menus r) FU) v1 v2 v3 v4 v5 v6 v7 v8 0 o24
def f_X9_menus_b235 (rc_X9_menus : Int32 → Int32 → Int32 → Int32 → Int32 → Int32 → Int32 → Mem → Option Mem) (r : Int32 → Int32 → Int32 → Int32 → Int32 → Int32 → Int32 → Int32 → Mem → Option Mem) (v1 : Int32) (v2 : Int32) (v3 : Int32) (v4 : Int32) (v5 : Int32) (v6 : Int32) (v7 : Int32) (v8 : Int32) (s1 : Int32) (s2 : Int32) (s3 : Int32) (s4 : Int32) (s5 : Int32) (s6 : Int32) (M : Mem) : Option Mem :=
  (if v8 = 0 then (f_X9_menus_b251 rc_X9_menus r) v1 v2 v3 v4 v5 v6 v7 v8 s1 s2 s3 s4 s5 s6 (v7 + 1) M else (f_X9_menus_b251 rc_X9_menus r) v1 v2 v3 v4 v5 v6 v7 v8 s1 s2 s3 s4 s5 s6 (v7 - 1) M)
def f_X9_menus_b215 (rc_X9_menus : Int32 → Int32 → Int32 → Int32 → Int32 → Int32 → Int32 → Mem → Option Mem) (r : Int32 → Int32 → Int32 → Int32 → Int32 → Int32 → Int32 → Int32 → Mem → Option Mem) (v1 : Int32) (v2 : Int32) (v3 : Int32) (v4 : Int32) (v5 : Int32) (v6 : Int32) (v7 : Int32) (v8 : Int32) (v9 : Int32) (s1 : Int32) (s2 : Int32) (s3 : Int32) (s4 : Int32) (M : Mem) : Option Mem :=
  (if v8 = 0 then (f_X9_menus_b235 rc_X9_menus r) v1 v2 v3 v4 v5 v6 v7 v8 s1 s2 s3 s4 (v5 + v9) (v6 + v9) M else (f_X9_menus_b235 rc_X9_menus r) v1 v2 v3 v4 v5 v6 v7 v8 s1 s2 s3 s4 (v5 + v9) v6 M)
def f_X9_menus_b169 (rc_X9_menus : Int32 → Int32 → Int32 → Int32 → Int32 → Int32 → Int32 → Mem → Option Mem) (r : Int32 → Int32 → Int32 → Int32 → Int32 → Int32 → Int32 → Int32 → Mem → Option Mem) (v1 : Int32) (v2 : Int32) (v3 : Int32) (v4 : Int32) (v5 : Int32) (v6 : Int32) (v7 : Int32) (v8 : Int32) (v9 : Int32) (v10 : Int32) (M : Mem) : Option Mem :=
  (f_X9_uses v2 v8 M).bind fun o19 => (if v1 = 2 then (f_X9_menus_b215 rc_X9_menus r) v1 v2 v3 v4 v5 v6 v7 v8 v9 v1 (v2 + 1) (((10 * v3) + v8) + 1) ((v4 + 10000) - v10) o19 else (f_X9_menus_b215 rc_X9_menus r) v1 v2 v3 v4 v5 v6 v7 v8 v9 v1 (v2 + 1) (((10 * v3) + v8) + 1) ((v4 + v9) - v10) o19)
def f_X9_menus_l92 (rc_X9_menus : Int32 → Int32 → Int32 → Int32 → Int32 → Int32 → Int32 → Mem → Option Mem) : Nat → Int32 → Int32 → Int32 → Int32 → Int32 → Int32 → Int32 → Int32 → Mem → Option Mem
  | 0, _, _, _, _, _, _, _, _, _ => none
  | n + 1, v1, v2, v3, v4, v5, v6, v7, v8, M => (if 2 ≤ v8 then some M else (if v2 = (M 100 37) then some M else (f_X9_isCooked v2 v8 M).bind fun o9 => (if o9.1 = 0 then (f_X9_menus_b289 rc_X9_menus (f_X9_menus_l92 rc_X9_menus n)) v1 v2 v3 v4 v5 v6 v7 v8 o9.2 else (f_X9_feedsOf v2 v8 o9.2).bind fun o12 => (f_X9_tollOf v2 v8 o12.2).bind fun o14 => (f_X9_menus_l137 rc_X9_menus (f_X9_menus_b169 rc_X9_menus (f_X9_menus_l92 rc_X9_menus n)) FU) v1 v2 v3 v4 v5 v6 v7 v8 o12.1 o14.1 0 o14.2)))
def f_X9_menus_b (rc_X9_menus : Int32 → Int32 → Int32 → Int32 → Int32 → Int32 → Int32 → Mem → Option Mem) (v1 : Int32) (v2 : Int32) (v3 : Int32) (v4 : Int32) (v5 : Int32) (v6 : Int32) (v7 : Int32) (M : Mem) : Option Mem :=
  (if v2 = (M 100 12) then (if v1 = 1 then (f_X9_menus_b20 rc_X9_menus) v3 v5 v6 v7 v5 M else (f_X9_menus_b20 rc_X9_menus) v3 v5 v6 v7 v4 M) else (rc_X9_menus v1 (v2 + 1) (10 * v3) v4 v5 v6 v7 M).bind fun o2 => (f_X9_menus_l92 rc_X9_menus FU) v1 v2 v3 v4 v5 v6 v7 0 o2)
def f_X9_menus : Nat → Int32 → Int32 → Int32 → Int32 → Int32 → Int32 → Int32 → Mem → Option Mem
  | 0 => fun _ _ _ _ _ _ _ _ => none
  | d + 1 => f_X9_menus_b (f_X9_menus d)

def f_X9_bestOf (v1 : Int32) (v2 : Int32) (M : Mem) : Option Mem :=
  (f_X9_menus DP v1 0 0 0 0 0 0 (mu (mu M 100 32 (-1)) 100 37 v2)).bind fun o1 => some o1

def f_X9_dishesOf_b21 (r : Int32 → Int32 → Mem → Option (Int32 × Mem)) (v2 : Int32) (s0 : Int32) (s1 : Int32) (M : Mem) : Option (Int32 × Mem) :=
  r (s0 + s1) (v2 / 10) M
def f_X9_dishesOf_l4 : Nat → Int32 → Int32 → Mem → Option (Int32 × Mem)
  | 0, _, _, _ => none
  | n + 1, v1, v2, M => (if v2 ≤ 0 then some (v1, M) else (if (jrem v2 10) = 0 then (f_X9_dishesOf_b21 (f_X9_dishesOf_l4 n)) v2 v1 0 M else (f_X9_dishesOf_b21 (f_X9_dishesOf_l4 n)) v2 v1 1 M))
def f_X9_dishesOf (v0 : Int32) (M : Mem) : Option (Int32 × Mem) :=
  (f_X9_dishesOf_l4 FU) 0 v0 M

def f_X9_best_b42 (v1 : Int32) (s1 : Int32) (M : Mem) : Option (Int32 × Mem) :=
  (f_X9_bestOf s1 (-1) M).bind fun o7 => (if 4 ≤ v1 then (f_X9_dishesOf (o7 100 32) o7).bind fun o10 => (if v1 = 4 then some ((o10.2 100 32), o10.2) else (if v1 = 5 then some (((10000 * o10.1) - (o10.2 100 33)), o10.2) else (if v1 = 6 then some (o10.1, o10.2) else some ((o10.2 100 36), o10.2)))) else (if (jrem v1 2) = 0 then some ((o7 100 32), o7) else some ((o7 100 33), o7)))
def f_X9_best_b28 (v1 : Int32) (M : Mem) : Option (Int32 × Mem) :=
  f_X9_best_b42 v1 0 M
def f_X9_best (v1 : Int32) (M : Mem) : Option (Int32 × Mem) :=
  (f_X9_in ((v1 : Int32).toInt64) 0 7 M).bind fun o1 => (if o1.1 = 0 then some ((-100000), o1.2) else (if v1 < 2 then f_X9_best_b28 v1 o1.2 else (if v1 = 7 then f_X9_best_b28 v1 o1.2 else (if 4 ≤ v1 then f_X9_best_b42 v1 2 o1.2 else f_X9_best_b42 v1 1 o1.2))))

def f_X9_leave_b58 (r : Int32 → Int32 → Int32 → Int32 → Mem → Option (Int32 × Mem)) (k64 : Int32 → Int32 → Int32 → Mem → Option (Int32 × Mem)) (v1 : Int32) (v2 : Int32) (v3 : Int32) (v4 : Int32) (M : Mem) : Option (Int32 × Mem) :=
  r v1 v2 v3 (v4 + 1) M
def f_X9_leave_b50 (r : Int32 → Int32 → Int32 → Int32 → Mem → Option (Int32 × Mem)) (k64 : Int32 → Int32 → Int32 → Mem → Option (Int32 × Mem)) (v1 : Int32) (v4 : Int32) (M : Mem) : Option (Int32 × Mem) :=
  (f_X9_leave_b58 r k64) v1 v4 (M 100 33) v4 M
def f_X9_leave_l21 (k64 : Int32 → Int32 → Int32 → Mem → Option (Int32 × Mem)) : Nat → Int32 → Int32 → Int32 → Int32 → Mem → Option (Int32 × Mem)
  | 0, _, _, _, _, _ => none
  | n + 1, v1, v2, v3, v4, M => (if (M 100 12) ≤ v4 then k64 v1 v2 v3 M else (f_X9_bestOf 0 v4 M).bind fun o5 => (if v2 = (-1) then (f_X9_leave_b50 (f_X9_leave_l21 k64 n) k64) v1 v4 o5 else (if (o5 100 33) ≤ v3 then (f_X9_leave_b58 (f_X9_leave_l21 k64 n) k64) v1 v2 v3 v4 o5 else (f_X9_leave_b50 (f_X9_leave_l21 k64 n) k64) v1 v4 o5)))
def f_X9_leave_b64 (v1 : Int32) (v2 : Int32) (v3 : Int32) (M : Mem) : Option (Int32 × Mem) :=
  (if v1 = 0 then some (v2, M) else some (v3, M))
def f_X9_leave (v1 : Int32) (M : Mem) : Option (Int32 × Mem) :=
  (f_X9_in ((v1 : Int32).toInt64) 0 1 M).bind fun o1 => (if o1.1 = 0 then some ((-100000), o1.2) else (f_X9_leave_l21 f_X9_leave_b64 FU) v1 (-1) 0 0 o1.2)

def f_X9_buy_b115 (r : Int32 → Int32 → Int32 → Int32 → Int32 → Mem → Option (Int32 × Mem)) (k121 : Int32 → Int32 → Int32 → Mem → Option (Int32 × Mem)) (v1 : Int32) (v2 : Int32) (v3 : Int32) (v4 : Int32) (v5 : Int32) (M : Mem) : Option (Int32 × Mem) :=
  r v1 v2 v3 v4 (v5 + 1) M
def f_X9_buy_b106 (r : Int32 → Int32 → Int32 → Int32 → Int32 → Mem → Option (Int32 × Mem)) (k121 : Int32 → Int32 → Int32 → Mem → Option (Int32 × Mem)) (v1 : Int32) (v2 : Int32) (v5 : Int32) (M : Mem) : Option (Int32 × Mem) :=
  (f_X9_buy_b115 r k121) v1 v2 v5 (M 100 33) v5 M
def f_X9_buy_l29 (k121 : Int32 → Int32 → Int32 → Mem → Option (Int32 × Mem)) : Nat → Int32 → Int32 → Int32 → Int32 → Int32 → Mem → Option (Int32 × Mem)
  | 0, _, _, _, _, _, _ => none
  | n + 1, v1, v2, v3, v4, v5, M => (if 6 ≤ v5 then k121 v2 v3 v4 M else ck (inb ((6 * v1) + v5) 12) ((f_X9_within ((M 104 (((6 * v1) + v5)).toNatClampNeg) + 1) 0 99 M).bind fun o9 => (f_X9_bestOf 0 (-1) (mu o9.2 104 (((6 * v1) + v5)).toNatClampNeg o9.1)).bind fun o11 => (if v3 = (-1) then (f_X9_buy_b106 (f_X9_buy_l29 k121 n) k121) v1 v2 v5 (mu o11 104 (((6 * v1) + v5)).toNatClampNeg (M 104 (((6 * v1) + v5)).toNatClampNeg)) else (if (o11 100 33) ≤ v4 then (f_X9_buy_b115 (f_X9_buy_l29 k121 n) k121) v1 v2 v3 v4 v5 (mu o11 104 (((6 * v1) + v5)).toNatClampNeg (M 104 (((6 * v1) + v5)).toNatClampNeg)) else (f_X9_buy_b106 (f_X9_buy_l29 k121 n) k121) v1 v2 v5 (mu o11 104 (((6 * v1) + v5)).toNatClampNeg (M 104 (((6 * v1) + v5)).toNatClampNeg))))))
def f_X9_buy_b121 (v2 : Int32) (v3 : Int32) (v4 : Int32) (M : Mem) : Option (Int32 × Mem) :=
  (if v2 = 0 then some (v3, M) else some (v4, M))
def f_X9_buy (v1 : Int32) (v2 : Int32) (M : Mem) : Option (Int32 × Mem) :=
  (f_X9_isKitchen v1 M).bind fun o1 => (if o1.1 = 0 then some ((-100000), o1.2) else (f_X9_in ((v2 : Int32).toInt64) 0 1 o1.2).bind fun o4 => (if o4.1 = 0 then some ((-100000), o4.2) else (f_X9_buy_l29 f_X9_buy_b121 FU) v1 v2 (-1) 0 0 o4.2))

def f_X9_lowest_l6 (k31 : Int64 → Int64 → Int32 → Int64 → Mem → Option (Int64 × Mem)) : Nat → Int64 → Int64 → Int32 → Int64 → Int64 → Mem → Option (Int64 × Mem)
  | 0, _, _, _, _, _, _ => none
  | n + 1, w0, w2, v4, w5, w7, M => (if (lg_cmp w7 0) = 0 then k31 w0 w2 v4 w5 M else ck (!(w7 == 0)) ((f_X9_lowest_l6 k31 n) w0 w2 v4 w7 (jlrem w5 w7) M))
def f_X9_lowest_b31 (w0 : Int64) (w2 : Int64) (v4 : Int32) (w5 : Int64) (M : Mem) : Option (Int64 × Mem) :=
  (if v4 = 0 then ck (!(w5 == 0)) (some ((w0 / w5), M)) else ck (!(w5 == 0)) (some ((w2 / w5), M)))
def f_X9_lowest (w0 : Int64) (w2 : Int64) (v4 : Int32) (M : Mem) : Option (Int64 × Mem) :=
  (f_X9_lowest_l6 f_X9_lowest_b31 FU) w0 w2 v4 w0 w2 M

def f_X9_share (v1 : Int32) (M : Mem) : Option (Int64 × Mem) :=
  (f_X9_in ((v1 : Int32).toInt64) 0 1 M).bind fun o1 => (if o1.1 = 0 then some ((-4611686018427387904), o1.2) else (f_X9_bestOf 0 (-1) o1.2).bind fun o4 => (if (o4 100 34) = 0 then some ((-4611686018427387904), o4) else (f_X9_lowest (((o4 100 35) : Int32).toInt64) (((o4 100 34) : Int32).toInt64) v1 o4).bind fun o7 => some (o7.1, o7.2)))

def f_X9_worthIn (v1 : Int32) (v2 : Int32) (M : Mem) : Option (Int32 × Mem) :=
  (f_X9_isCooked v1 v2 M).bind fun o1 => (if o1.1 = 0 then some ((-1), o1.2) else (f_X9_feedsOf v1 v2 o1.2).bind fun o4 => (f_X9_tollOf v1 v2 o4.2).bind fun o6 => some ((o4.1 - o6.1), o6.2))

def f_X9_firstOther_l2 : Nat → Int32 → Int32 → Int32 → Mem → Option (Int32 × Mem)
  | 0, _, _, _, _ => none
  | n + 1, v1, v2, v3, M => (if 2 ≤ v3 then some ((-1), M) else (f_X9_worthIn v2 v3 M).bind fun o2 => ck (inb ((40 * v1) + v3) 160) ((if o2.1 = (o2.2 117 (((40 * v1) + v3)).toNatClampNeg) then (f_X9_firstOther_l2 n) v1 v2 (v3 + 1) o2.2 else some (v3, o2.2))))
def f_X9_firstOther (v1 : Int32) (v2 : Int32) (M : Mem) : Option (Int32 × Mem) :=
  (f_X9_firstOther_l2 FU) v1 v2 0 M

def f_X9_likeSet_b28 (r : Int32 → Int32 → Int32 → Mem → Option (Int32 × Mem)) (v1 : Int32) (v3 : Int32) (s0 : Int32) (s1 : Int32) (M : Mem) : Option (Int32 × Mem) :=
  r v1 (s0 ||| (jshl s1 v3)) (v3 + 1) M
def f_X9_likeSet_l4 : Nat → Int32 → Int32 → Int32 → Mem → Option (Int32 × Mem)
  | 0, _, _, _, _ => none
  | n + 1, v1, v2, v3, M => (if (M 100 12) ≤ v3 then some (v2, M) else (f_X9_firstOther v1 v3 M).bind fun o2 => (if o2.1 = (-1) then (f_X9_likeSet_b28 (f_X9_likeSet_l4 n)) v1 v3 v2 1 o2.2 else (f_X9_likeSet_b28 (f_X9_likeSet_l4 n)) v1 v3 v2 0 o2.2))
def f_X9_likeSet (v1 : Int32) (M : Mem) : Option (Int32 × Mem) :=
  (f_X9_likeSet_l4 FU) v1 0 0 M

def f_X9_isSheet (v0 : Int32) (M : Mem) : Option (Int32 × Mem) :=
  (f_X9_in ((v0 : Int32).toInt64) 0 3 M).bind fun o1 => ck (zb o1.1) (some (o1.1, o1.2))

def f_X9_tells_b65 (v1 : Int32) (v2 : Int32) (v3 : Int32) (M : Mem) : Option (Int32 × Mem) :=
  (if v3 = 0 then (f_X9_firstOther v1 v2 M).bind fun o22 => some (o22.1, o22.2) else (f_X9_likeSet v1 M).bind fun o20 => some (o20.1, o20.2))
def f_X9_tells_b268 (r : Int32 → Int32 → Int32 → Int32 → Int32 → Int32 → Int32 → Int32 → Int32 → Int32 → Mem → Option (Int32 × Mem)) (k274 : Int32 → Int32 → Int32 → Int32 → Int32 → Int32 → Int32 → Mem → Option (Int32 × Mem)) (v1 : Int32) (v2 : Int32) (v3 : Int32) (v4 : Int32) (v5 : Int32) (v6 : Int32) (v8 : Int32) (v9 : Int32) (v10 : Int32) (v11 : Int32) (M : Mem) : Option (Int32 × Mem) :=
  r v1 v2 v3 v4 v5 v6 v8 v9 v10 (v11 + (-1)) M
def f_X9_tells_b258 (r : Int32 → Int32 → Int32 → Int32 → Int32 → Int32 → Int32 → Int32 → Int32 → Int32 → Mem → Option (Int32 × Mem)) (k274 : Int32 → Int32 → Int32 → Int32 → Int32 → Int32 → Int32 → Mem → Option (Int32 × Mem)) (v1 : Int32) (v2 : Int32) (v3 : Int32) (v4 : Int32) (v5 : Int32) (v6 : Int32) (v9 : Int32) (v11 : Int32) (s0 : Int32) (s1 : Int32) (M : Mem) : Option (Int32 × Mem) :=
  (f_X9_tells_b268 r k274) v1 v2 v3 v4 v5 v6 (s0 ||| s1) (v9 + 1) v11 v11 M
def f_X9_tells_l216 (k274 : Int32 → Int32 → Int32 → Int32 → Int32 → Int32 → Int32 → Mem → Option (Int32 × Mem)) : Nat → Int32 → Int32 → Int32 → Int32 → Int32 → Int32 → Int32 → Int32 → Int32 → Int32 → Mem → Option (Int32 × Mem)
  | 0, _, _, _, _, _, _, _, _, _, _, _ => none
  | n + 1, v1, v2, v3, v4, v5, v6, v8, v9, v10, v11, M => (if v11 < 0 then k274 v3 v4 v5 v6 v8 v9 v10 M else (f_X9_lays v4 v5 v11 M).bind fun o32 => (f_X9_firstOther v1 v2 o32).bind fun o34 => (if o34.1 = (-1) then (if 10 ≤ v11 then (f_X9_tells_b258 (f_X9_tells_l216 k274 n) k274) v1 v2 v3 v4 v5 v6 v9 v11 v8 0 o34.2 else (f_X9_tells_b258 (f_X9_tells_l216 k274 n) k274) v1 v2 v3 v4 v5 v6 v9 v11 v8 (jshl 1 v11) o34.2) else (f_X9_tells_b268 (f_X9_tells_l216 k274 n) k274) v1 v2 v3 v4 v5 v6 v8 v9 v10 v11 o34.2))
def f_X9_tells_b274 (v3 : Int32) (v4 : Int32) (v5 : Int32) (v6 : Int32) (v8 : Int32) (v9 : Int32) (v10 : Int32) (M : Mem) : Option (Int32 × Mem) :=
  (f_X9_lays v4 v5 v6 M).bind fun o38 => (if v3 = 3 then some (v9, o38) else (if v3 = 5 then some (v9, o38) else (if v3 = 4 then some (v10, o38) else (if v3 = 6 then some (v10, o38) else some (v8, o38)))))
def f_X9_tells_b201 (v1 : Int32) (v2 : Int32) (v3 : Int32) (v4 : Int32) (v5 : Int32) (v6 : Int32) (s0 : Int32) (M : Mem) : Option (Int32 × Mem) :=
  (f_X9_tells_l216 f_X9_tells_b274 FU) v1 v2 v3 v4 v5 v6 0 0 (-1) s0 M
def f_X9_tells_b160 (v1 : Int32) (v2 : Int32) (v3 : Int32) (v4 : Int32) (v5 : Int32) (s0 : Int32) (M : Mem) : Option (Int32 × Mem) :=
  (if v4 = 6 then f_X9_tells_b201 v1 v2 v3 v4 v5 s0 ((M 100 3) - 1) M else (if v4 = 5 then f_X9_tells_b201 v1 v2 v3 v4 v5 s0 5 M else (if v4 = 3 then f_X9_tells_b201 v1 v2 v3 v4 v5 s0 9 M else f_X9_tells_b201 v1 v2 v3 v4 v5 s0 99 M)))
def f_X9_tells_b136 (v1 : Int32) (v2 : Int32) (v3 : Int32) (v4 : Int32) (s0 : Int32) (M : Mem) : Option (Int32 × Mem) :=
  (if v4 = 6 then f_X9_tells_b160 v1 v2 v3 v4 s0 (M 100 4) M else (f_X9_told s0 v4 M).bind fun o26 => f_X9_tells_b160 v1 v2 v3 v4 s0 o26.1 o26.2)
def f_X9_tells_b123 (v1 : Int32) (v2 : Int32) (v3 : Int32) (s0 : Int32) (M : Mem) : Option (Int32 × Mem) :=
  (if s0 = 2 then f_X9_tells_b136 v1 v2 v3 s0 0 M else f_X9_tells_b136 v1 v2 v3 s0 v2 M)
def f_X9_tells (v1 : Int32) (v2 : Int32) (v3 : Int32) (M : Mem) : Option (Int32 × Mem) :=
  (f_X9_isSheet v1 M).bind fun o1 => (if o1.1 = 0 then some ((-2), o1.2) else (f_X9_isDish v2 o1.2).bind fun o4 => (if o4.1 = 0 then some ((-2), o4.2) else (f_X9_in ((v3 : Int32).toInt64) 0 8 o4.2).bind fun o7 => (if o7.1 = 0 then some ((-2), o7.2) else ck (inb v1 4) ((if (o7.2 114 (v1).toNatClampNeg) = 0 then some ((-11), o7.2) else (if (o7.2 116 (v1).toNatClampNeg) = 2 then (if v3 = 0 then f_X9_tells_b65 v1 v2 v3 o7.2 else (if v3 = 8 then f_X9_tells_b65 v1 v2 v3 o7.2 else (if v3 = 1 then f_X9_tells_b123 v1 v2 v3 5 o7.2 else (if v3 = 2 then f_X9_tells_b123 v1 v2 v3 3 o7.2 else (if 5 ≤ v3 then (if 7 ≤ v3 then f_X9_tells_b123 v1 v2 v3 6 o7.2 else f_X9_tells_b123 v1 v2 v3 2 o7.2) else f_X9_tells_b123 v1 v2 v3 0 o7.2))))) else some ((-2), o7.2)))))))

def f_X9_sheet_l77 : Nat → Int32 → Int32 → Int32 → Int32 → Mem → Option (Int32 × Mem)
  | 0, _, _, _, _, _ => none
  | n + 1, v1, v2, v3, v4, M => (if v3 ≤ v4 then some (1, M) else (if v2 < 0 then some (1, M) else ck (inb ((40 * v1) + v4) 160) ((f_X9_sheet_l77 n) v1 v2 v3 (v4 + 1) (mu M 117 (((40 * v1) + v4)).toNatClampNeg 0))))
def f_X9_sheet_b59 (v1 : Int32) (v2 : Int32) (v3 : Int32) (s1 : Int32) (s2 : Int32) (M : Mem) : Option (Int32 × Mem) :=
  ck (inb s1 4) (ck (zb s2) (ck (inb v1 4) ((f_X9_sheet_l77 FU) v1 v2 v3 0 (mu (mu (mu M 114 (s1).toNatClampNeg s2) 115 (v1).toNatClampNeg v2) 116 (v1).toNatClampNeg v3))))
def f_X9_sheet_b45 (v1 : Int32) (v2 : Int32) (v3 : Int32) (M : Mem) : Option (Int32 × Mem) :=
  (if v2 < 0 then f_X9_sheet_b59 v1 v2 v3 v1 0 M else f_X9_sheet_b59 v1 v2 v3 v1 1 M)
def f_X9_sheet_b34 (v1 : Int32) (v2 : Int32) (v3 : Int32) (M : Mem) : Option (Int32 × Mem) :=
  (if v2 < 0 then f_X9_sheet_b45 v1 v2 v3 M else (if 0 ≤ v3 then f_X9_sheet_b45 v1 v2 v3 M else some ((-14), M)))
def f_X9_sheet (v1 : Int32) (v2 : Int32) (v3 : Int32) (M : Mem) : Option (Int32 × Mem) :=
  (f_X9_isSheet v1 M).bind fun o1 => (if o1.1 = 0 then some ((-2), o1.2) else (f_X9_in ((v2 : Int32).toInt64) (-1) 2 o1.2).bind fun o4 => (if o4.1 = 0 then some ((-2), o4.2) else (if v2 < 0 then f_X9_sheet_b34 v1 v2 v3 o4.2 else (if v3 ≤ 40 then f_X9_sheet_b34 v1 v2 v3 o4.2 else some ((-2), o4.2)))))

def f_X9_film_b72 (r : Int32 → Int32 → Int32 → Int32 → Mem → Option (Int32 × Mem)) (v1 : Int32) (v2 : Int32) (v4 : Int32) (s0 : Int32) (s1 : Int32) (M : Mem) : Option (Int32 × Mem) :=
  r v1 v2 (s0 + s1) (v4 + 1) M
def f_X9_film_l31 : Nat → Int32 → Int32 → Int32 → Int32 → Mem → Option (Int32 × Mem)
  | 0, _, _, _, _, _ => none
  | n + 1, v1, v2, v3, v4, M => (if 2 ≤ v4 then some (v3, M) else (f_X9_worthIn v2 v4 M).bind fun o10 => ck (inb ((40 * v1) + v4) 160) ((f_X9_isCooked v2 v4 (mu o10.2 117 (((40 * v1) + v4)).toNatClampNeg o10.1)).bind fun o13 => (if o13.1 = 0 then (f_X9_film_b72 (f_X9_film_l31 n)) v1 v2 v4 v3 0 o13.2 else (f_X9_film_b72 (f_X9_film_l31 n)) v1 v2 v4 v3 1 o13.2)))
def f_X9_film (v1 : Int32) (v2 : Int32) (M : Mem) : Option (Int32 × Mem) :=
  (f_X9_isSheet v1 M).bind fun o1 => (if o1.1 = 0 then some ((-2), o1.2) else (f_X9_isDish v2 o1.2).bind fun o4 => (if o4.1 = 0 then some ((-2), o4.2) else (f_X9_sheet v1 2 2 o4.2).bind fun o7 => (f_X9_film_l31 FU) v1 v2 0 0 o7.2))

def f_X9_worthDrawn_b84 (r : Int32 → Int32 → Int32 → Mem → Option (Int32 × Mem)) (k90 : Int32 → Mem → Option (Int32 × Mem)) (v2 : Int32) (v3 : Int32) (v4 : Int32) (M : Mem) : Option (Int32 × Mem) :=
  r v2 v3 (v4 + 1) M
def f_X9_worthDrawn_l11 (k90 : Int32 → Mem → Option (Int32 × Mem)) : Nat → Int32 → Int32 → Int32 → Mem → Option (Int32 × Mem)
  | 0, _, _, _, _ => none
  | n + 1, v2, v3, v4, M => (if (M 100 12) ≤ v4 then k90 v3 M else (if ((jrem (jushr ((v2 * 1103515245) + 12345) 9) 3) - 1) < 0 then (f_X9_worthDrawn_b84 (f_X9_worthDrawn_l11 k90 n) k90) ((v2 * 1103515245) + 12345) v3 v4 M else (f_X9_isCooked v4 ((jrem (jushr ((v2 * 1103515245) + 12345) 9) 3) - 1) M).bind fun o5 => (if o5.1 = 0 then (f_X9_worthDrawn_b84 (f_X9_worthDrawn_l11 k90 n) k90) ((v2 * 1103515245) + 12345) v3 v4 o5.2 else (f_X9_feedsOf v4 ((jrem (jushr ((v2 * 1103515245) + 12345) 9) 3) - 1) o5.2).bind fun o8 => (f_X9_tollOf v4 ((jrem (jushr ((v2 * 1103515245) + 12345) 9) 3) - 1) o8.2).bind fun o10 => (f_X9_uses v4 ((jrem (jushr ((v2 * 1103515245) + 12345) 9) 3) - 1) o10.2).bind fun o12 => (f_X9_worthDrawn_b84 (f_X9_worthDrawn_l11 k90 n) k90) ((v2 * 1103515245) + 12345) (v3 + (o8.1 - o10.1)) v4 o12)))
def f_X9_worthDrawn_b90 (v3 : Int32) (M : Mem) : Option (Int32 × Mem) :=
  (f_X9_laysBack M).bind fun o14 => some (v3, o14)
def f_X9_worthDrawn (v1 : Int32) (M : Mem) : Option (Int32 × Mem) :=
  (f_X9_laysAside M).bind fun o1 => (f_X9_worthDrawn_l11 f_X9_worthDrawn_b90 FU) v1 0 0 o1

def f_X9_drawn (v1 : Int32) (M : Mem) : Option (Int32 × Mem) :=
  (f_X9_worthDrawn v1 M).bind fun o1 => some (o1.1, o1.2)

def f_X9_chance_b72 (r : Int32 → Int32 → Int32 → Int32 → Int64 → Int32 → Mem → Option (Int64 × Mem)) (k81 : Int32 → Int32 → Int64 → Mem → Option (Int64 × Mem)) (v1 : Int32) (v2 : Int32) (v3 : Int32) (v4 : Int32) (v7 : Int32) (s0 : Int64) (s1 : Int64) (M : Mem) : Option (Int64 × Mem) :=
  r v1 v2 v3 v4 (s0 + s1) (v7 + 1) M
def f_X9_chance_l47 (k81 : Int32 → Int32 → Int64 → Mem → Option (Int64 × Mem)) : Nat → Int32 → Int32 → Int32 → Int32 → Int64 → Int32 → Mem → Option (Int64 × Mem)
  | 0, _, _, _, _, _, _, _ => none
  | n + 1, v1, v2, v3, v4, w5, v7, M => (if v2 ≤ v7 then k81 v2 v4 w5 M else (f_X9_worthDrawn (v1 + v7) M).bind fun o11 => (if o11.1 < v3 then (f_X9_chance_b72 (f_X9_chance_l47 k81 n) k81) v1 v2 v3 v4 v7 w5 0 o11.2 else (f_X9_chance_b72 (f_X9_chance_l47 k81 n) k81) v1 v2 v3 v4 v7 w5 1 o11.2))
def f_X9_chance_b81 (v2 : Int32) (v4 : Int32) (w5 : Int64) (M : Mem) : Option (Int64 × Mem) :=
  (f_X9_lowest w5 ((v2 : Int32).toInt64) v4 M).bind fun o14 => some (o14.1, o14.2)
def f_X9_chance (v1 : Int32) (v2 : Int32) (v3 : Int32) (v4 : Int32) (M : Mem) : Option (Int64 × Mem) :=
  (f_X9_in ((v2 : Int32).toInt64) 1 20 M).bind fun o1 => (if o1.1 = 0 then some ((-4611686018427387904), o1.2) else (f_X9_in ((v3 : Int32).toInt64) (-9999) 9999 o1.2).bind fun o4 => (if o4.1 = 0 then some ((-4611686018427387904), o4.2) else (f_X9_in ((v4 : Int32).toInt64) 0 1 o4.2).bind fun o7 => (if o7.1 = 0 then some ((-4611686018427387904), o7.2) else (f_X9_chance_l47 f_X9_chance_b81 FU) v1 v2 v3 v4 0 0 o7.2)))

def f_X9_image_l2 (k26 : Mem → Option (Int32 × Mem)) : Nat → Int32 → Mem → Option (Int32 × Mem)
  | 0, _, _ => none
  | n + 1, v1, M => (if 12 ≤ v1 then k26 M else ck (inb v1 12) ((f_X9_image_l2 k26 n) (v1 + 1) (mu M 111 (v1).toNatClampNeg (M 104 (v1).toNatClampNeg))))
def f_X9_image_l28 (k52 : Mem → Option (Int32 × Mem)) : Nat → Int32 → Mem → Option (Int32 × Mem)
  | 0, _, _ => none
  | n + 1, v1, M => (if 18 ≤ v1 then k52 M else ck (inb v1 18) ((f_X9_image_l28 k52 n) (v1 + 1) (mu M 113 (v1).toNatClampNeg (M 107 (v1).toNatClampNeg))))
def f_X9_image_b52 (M : Mem) : Option (Int32 × Mem) :=
  some ((M 100 12), (mu (mu (mu (mu (mu M 112 0 (M 105 0)) 112 1 (M 105 1)) 100 42 (M 100 12)) 100 43 (M 100 7)) 100 44 (M 100 4)))
def f_X9_image_b26 (M : Mem) : Option (Int32 × Mem) :=
  (f_X9_image_l28 f_X9_image_b52 FU) 0 M
def f_X9_image (M : Mem) : Option (Int32 × Mem) :=
  (f_X9_image_l2 f_X9_image_b26 FU) 0 M

def f_X9_back_l13 (k37 : Mem → Option (Int32 × Mem)) : Nat → Int32 → Mem → Option (Int32 × Mem)
  | 0, _, _ => none
  | n + 1, v1, M => (if 12 ≤ v1 then k37 M else ck (inb v1 12) ((f_X9_back_l13 k37 n) (v1 + 1) (mu M 104 (v1).toNatClampNeg (M 111 (v1).toNatClampNeg))))
def f_X9_back_l39 (k63 : Mem → Option (Int32 × Mem)) : Nat → Int32 → Mem → Option (Int32 × Mem)
  | 0, _, _ => none
  | n + 1, v1, M => (if 18 ≤ v1 then k63 M else ck (inb v1 18) ((f_X9_back_l39 k63 n) (v1 + 1) (mu M 107 (v1).toNatClampNeg (M 113 (v1).toNatClampNeg))))
def f_X9_back_b63 (M : Mem) : Option (Int32 × Mem) :=
  some ((M 100 42), (mu (mu (mu (mu (mu M 105 0 (M 112 0)) 105 1 (M 112 1)) 100 12 (M 100 42)) 100 7 (M 100 43)) 100 4 (M 100 44)))
def f_X9_back_b37 (M : Mem) : Option (Int32 × Mem) :=
  (f_X9_back_l39 f_X9_back_b63 FU) 0 M
def f_X9_back (M : Mem) : Option (Int32 × Mem) :=
  (if (M 100 42) = (-1) then some ((-3), M) else (f_X9_back_l13 f_X9_back_b37 FU) 0 M)

def f_X9_count (v1 : Int32) (M : Mem) : Option (Int32 × Mem) :=
  (f_X9_in ((v1 : Int32).toInt64) 0 5 M).bind fun o1 => (if o1.1 = 0 then some ((-2), o1.2) else (if v1 = 0 then some ((o1.2 100 12), o1.2) else (if v1 = 1 then (f_X9_storeOf 0 o1.2).bind fun o9 => (f_X9_storeOf 1 o9.2).bind fun o11 => some ((o9.1 + o11.1), o11.2) else (if v1 = 2 then some ((o1.2 100 7), o1.2) else (if v1 = 3 then some ((o1.2 100 3), o1.2) else (if v1 = 4 then some ((o1.2 100 6), o1.2) else some ((o1.2 100 4), o1.2)))))))

def f_X9_cell (v1 : Int32) (v2 : Int32) (v3 : Int32) (M : Mem) : Option (Int32 × Mem) :=
  (f_X9_isSheet v1 M).bind fun o1 => (if o1.1 = 0 then some ((-2), o1.2) else ck (inb v1 4) ((if (o1.2 114 (v1).toNatClampNeg) = 0 then some ((-11), o1.2) else (f_X9_in ((v2 : Int32).toInt64) 0 ((((o1.2 116 (v1).toNatClampNeg) - 1) : Int32).toInt64) o1.2).bind fun o6 => (if o6.1 = 0 then some ((-12), o6.2) else (if (o6.2 115 (v1).toNatClampNeg) = 0 then ck (inb ((40 * v1) + v2) 160) (some (1, (mu o6.2 117 (((40 * v1) + v2)).toNatClampNeg ((v3).toInt8.toInt32)))) else (if (o6.2 115 (v1).toNatClampNeg) = 1 then ck (inb ((40 * v1) + v2) 160) (some (1, (mu o6.2 117 (((40 * v1) + v2)).toNatClampNeg ((v3).toInt16.toInt32)))) else ck (inb ((40 * v1) + v2) 160) (some (1, (mu o6.2 117 (((40 * v1) + v2)).toNatClampNeg v3)))))))))

def f_X9_copy_b145 (r : Int32 → Int32 → Int32 → Int32 → Int32 → Int32 → Int32 → Mem → Option (Int32 × Mem)) (v1 : Int32) (v2 : Int32) (v3 : Int32) (v4 : Int32) (v5 : Int32) (v6 : Int32) (v7 : Int32) (s0 : Int32) (M : Mem) : Option (Int32 × Mem) :=
  ck (inb (((40 * v1) + v2) + s0) 160) (ck (inb (((40 * v3) + v4) + s0) 160) (r v1 v2 v3 v4 v5 v6 (v7 + 1) (mu M 117 ((((40 * v3) + v4) + s0)).toNatClampNeg (M 117 ((((40 * v1) + v2) + s0)).toNatClampNeg))))
def f_X9_copy_l121 : Nat → Int32 → Int32 → Int32 → Int32 → Int32 → Int32 → Int32 → Mem → Option (Int32 × Mem)
  | 0, _, _, _, _, _, _, _, _ => none
  | n + 1, v1, v2, v3, v4, v5, v6, v7, M => (if v5 ≤ v7 then some (v5, M) else (if v6 = 0 then (f_X9_copy_b145 (f_X9_copy_l121 n)) v1 v2 v3 v4 v5 v6 v7 v7 M else (f_X9_copy_b145 (f_X9_copy_l121 n)) v1 v2 v3 v4 v5 v6 v7 ((v5 - 1) - v7) M))
def f_X9_copy_b116 (v1 : Int32) (v2 : Int32) (v3 : Int32) (v4 : Int32) (v5 : Int32) (s0 : Int32) (M : Mem) : Option (Int32 × Mem) :=
  (f_X9_copy_l121 FU) v1 v2 v3 v4 v5 s0 0 M
def f_X9_copy_b115 (v1 : Int32) (v2 : Int32) (v3 : Int32) (v4 : Int32) (v5 : Int32) (M : Mem) : Option (Int32 × Mem) :=
  f_X9_copy_b116 v1 v2 v3 v4 v5 0 M
def f_X9_copy (v1 : Int32) (v2 : Int32) (v3 : Int32) (v4 : Int32) (v5 : Int32) (M : Mem) : Option (Int32 × Mem) :=
  (f_X9_isSheet v1 M).bind fun o1 => (if o1.1 = 0 then some ((-2), o1.2) else (f_X9_isSheet v3 o1.2).bind fun o4 => (if o4.1 = 0 then some ((-2), o4.2) else ck (inb v1 4) ((if (o4.2 114 (v1).toNatClampNeg) = 0 then some ((-11), o4.2) else ck (inb v3 4) ((if (o4.2 114 (v3).toNatClampNeg) = 0 then some ((-11), o4.2) else (if (o4.2 115 (v1).toNatClampNeg) = (o4.2 115 (v3).toNatClampNeg) then (if v5 < 0 then some ((-12), o4.2) else (if v2 < 0 then some ((-12), o4.2) else (if v4 < 0 then some ((-12), o4.2) else (if ((o4.2 116 (v1).toNatClampNeg) - v5) < v2 then some ((-12), o4.2) else (if v4 ≤ ((o4.2 116 (v3).toNatClampNeg) - v5) then (if v1 = v3 then (if v4 ≤ v2 then f_X9_copy_b115 v1 v2 v3 v4 v5 o4.2 else f_X9_copy_b116 v1 v2 v3 v4 v5 1 o4.2) else f_X9_copy_b115 v1 v2 v3 v4 v5 o4.2) else some ((-12), o4.2)))))) else some ((-13), o4.2))))))))

def f_X9_dishes_b158 (r : Int32 → Int32 → Int32 → Int32 → Int32 → Mem → Option (Int32 × Mem)) (v1 : Int32) (v3 : Int32) (v4 : Int32) (v6 : Int32) (s0 : Int32) (s1 : Int32) (M : Mem) : Option (Int32 × Mem) :=
  r v1 v3 v4 (s0 + s1) (v6 + 1) M
def f_X9_dishes_l75 : Nat → Int32 → Int32 → Int32 → Int32 → Int32 → Mem → Option (Int32 × Mem)
  | 0, _, _, _, _, _, _ => none
  | n + 1, v1, v3, v4, v5, v6, M => (if v4 ≤ v6 then some (v5, M) else (if v3 < 0 then some ((-12), M) else ck (inb v1 4) ((if v3 ≤ (((M 116 (v1).toNatClampNeg) - (3 * v6)) - 3) then ck (inb (((40 * v1) + v3) + (3 * v6)) 160) (ck (inb ((((40 * v1) + v3) + (3 * v6)) + 1) 160) (ck (inb ((((40 * v1) + v3) + (3 * v6)) + 2) 160) ((f_X9_dish (M 117 ((((40 * v1) + v3) + (3 * v6))).toNatClampNeg) (M 117 (((((40 * v1) + v3) + (3 * v6)) + 1)).toNatClampNeg) (M 117 (((((40 * v1) + v3) + (3 * v6)) + 2)).toNatClampNeg) M).bind fun o22 => (if o22.1 < 0 then (f_X9_dishes_b158 (f_X9_dishes_l75 n)) v1 v3 v4 v6 v5 0 o22.2 else (f_X9_dishes_b158 (f_X9_dishes_l75 n)) v1 v3 v4 v6 v5 1 o22.2)))) else some ((-12), M)))))
def f_X9_dishes_b57 (v1 : Int32) (v3 : Int32) (v4 : Int32) (M : Mem) : Option (Int32 × Mem) :=
  ck (inb v1 4) ((if (M 114 (v1).toNatClampNeg) = 0 then some ((-11), M) else (f_X9_dishes_l75 FU) v1 v3 v4 0 0 M))
def f_X9_dishes (v1 : Int32) (v2 : Int32) (v3 : Int32) (v4 : Int32) (M : Mem) : Option (Int32 × Mem) :=
  (f_X9_isSheet v1 M).bind fun o1 => (if o1.1 = 0 then some ((-2), o1.2) else (f_X9_in ((v2 : Int32).toInt64) 0 2 o1.2).bind fun o4 => (if o4.1 = 0 then some ((-2), o4.2) else (f_X9_in ((v4 : Int32).toInt64) 0 6 o4.2).bind fun o7 => (if o7.1 = 0 then some ((-2), o7.2) else ck (inb v1 4) ((if (o7.2 114 (v1).toNatClampNeg) = 0 then f_X9_dishes_b57 v1 v3 v4 o7.2 else (if (o7.2 115 (v1).toNatClampNeg) = v2 then f_X9_dishes_b57 v1 v3 v4 o7.2 else some ((-13), o7.2)))))))

def f_X9_over (v0 : Int32) (M : Mem) : Option (Int32 × Mem) :=
  (if v0 = 0 then some ((-1), M) else (if v0 = 3 then some (1, M) else (if v0 = 4 then some (2, M) else some (0, M))))

def f_X9_taken_l33 (k51 : Int32 → Int32 → Int32 → Mem → Option (Int32 × Mem)) : Nat → Int32 → Int32 → Int32 → Mem → Option (Int32 × Mem)
  | 0, _, _, _, _ => none
  | n + 1, v1, v2, v3, M => (if v3 = (-1) then k51 v1 v2 v3 M else (if v3 = v2 then k51 v1 v2 v3 M else (f_X9_over v3 M).bind fun o10 => (f_X9_taken_l33 k51 n) v1 v2 o10.1 o10.2))
def f_X9_taken_b51 (v1 : Int32) (v2 : Int32) (v3 : Int32) (M : Mem) : Option (Int32 × Mem) :=
  (if v3 = v2 then ck (inb (3 * v1) 18) (some ((M 107 ((3 * v1)).toNatClampNeg), M)) else some ((-13), M))
def f_X9_taken (v1 : Int32) (v2 : Int32) (M : Mem) : Option (Int32 × Mem) :=
  (f_X9_in ((v2 : Int32).toInt64) 0 5 M).bind fun o1 => (if o1.1 = 0 then some ((-2), o1.2) else (f_X9_isDish v1 o1.2).bind fun o4 => (if o4.1 = 0 then some ((-11), o4.2) else ck (inb v1 6) ((f_X9_taken_l33 f_X9_taken_b51 FU) v1 v2 (o4.2 106 (v1).toNatClampNeg) o4.2)))
end
section
/-! PURE MATH: small rows -/
theorem ck_true {α : Type} {x : Option α} : ck true x = x := rfl
theorem mus {M : Mem} {p k : Nat} {v : Int32} : mu M p k v p = upd (M p) k v := if_pos rfl
theorem mun {M : Mem} {p q k : Nat} {v : Int32} (h : q ≠ p) : mu M p k v q = M q := if_neg h
theorem ups {f : Nat → Int32} {k : Nat} {v : Int32} : upd f k v k = v := if_pos rfl
theorem upn {f : Nat → Int32} {k j : Nat} {v : Int32} (h : j ≠ k) : upd f k v j = f j := if_neg h
theorem inb_nI {i n : Nat} (h : i < n) (hn : n < 2 ^ 31) : inb (nI i) n = true := by
  unfold inb
  rw [nI_clamp (by omega), decide_eq_true (nI_pos (by omega)), decide_eq_true h]
  rfl
theorem inb_of {i : Int32} {n : Nat} (h : inb i n = true) (hn : n < 2 ^ 31) : ∃ j : Nat, j < n ∧ i = nI j := by
  unfold inb at h
  have h2 := Bool.and_eq_true_iff.mp h
  have h3 := of_decide_eq_true h2.1
  have h4 := of_decide_eq_true h2.2
  obtain ⟨j, hj, rfl⟩ := nI_of h3
  rw [nI_clamp hj] at h4
  exact ⟨j, h4, rfl⟩
theorem lit_nI (n : Nat) : (OfNat.ofNat n : Int32) = nI n := rfl
theorem nI0 : (0 : Int32) = nI 0 := rfl
theorem nI1 : (1 : Int32) = nI 1 := rfl
theorem nIp (n : Nat) : nI n + 1 = nI (n + 1) := nI_1 n
theorem nIm {n : Nat} (h : 1 ≤ n) : nI n - 1 = nI (n - 1) := by
  have := pk_sub (a := n) (b := 1) h
  exact this
theorem nIm1 {n : Nat} (h : 1 ≤ n) : nI n + (-1) = nI (n - 1) := by
  obtain ⟨m, rfl⟩ : ∃ m, n = m + 1 := ⟨n - 1, by omega⟩
  exact pk_m1 m
theorem nIle {a b : Nat} (ha : a < 2 ^ 31) (hb : b < 2 ^ 31) : (nI a ≤ nI b) = (a ≤ b) := propext (nI_leI ha hb)
theorem nIlt {a b : Nat} (ha : a < 2 ^ 31) (hb : b < 2 ^ 31) : (nI a < nI b) = (a < b) := propext (nI_ltI ha hb)
theorem nIeq {a b : Nat} (ha : a < 2 ^ 31) (hb : b < 2 ^ 31) : (nI a = nI b) = (a = b) := propext (nI_eq ha hb)
/-! WHAT A TEXT'S CODES COME TO -/
def jn (c a b : Int32) : Int32 := if c = (-13) then a - b else if c = (-12) then a + b else if c = (-11) then (if a = b then 1 else 0) else if c = (-10) then (if b ≤ a then 0 else 1) else if c = (-9) then a * b else if c = (-8) then (if a = 0 then 0 else if b = 0 then 0 else 1) else if c = (-7) then (if a = 0 then (if b = 0 then 0 else 1) else 1) else a * b
theorem joined_eq (c a b : Int32) (M : Mem) : f_X7_joined c a b M = some (jn c a b, M) := by
  unfold f_X7_joined jn
  repeat (first | rfl | split)
/-- one code, over the numbers laid by (the last one first) -/
def evS (c : Int32) (env : Nat → Int32) (t : List Int32) : List Int32 :=
  if c < (-6) then
    if c = (-9) then (match t with | a :: t1 => (if a = 0 then 1 else 0) :: t1 | [] => [])
    else if c = (-15) then (match t with | a :: t1 => (-a) :: t1 | [] => [])
    else (match t with | b :: a :: t1 => jn c a b :: t1 | t0 => t0)
  else if c < 0 then env ((-1) - c).toNatClampNeg :: t
  else c :: t
def evR (cs : Nat → Int32) (env : Nat → Int32) : Nat → Nat → List Int32 → List Int32
  | 0, _, t => t
  | n + 1, i, t => evR cs env n (i + 1) (evS (cs i) env t)
theorem evS_len (c : Int32) (env : Nat → Int32) (t : List Int32) : (evS c env t).length ≤ t.length + 1 := by
  unfold evS
  split
  · split
    · split <;> simp
    · split
      · split <;> simp
      · split <;> simp <;> omega
  · split <;> simp
/-- the numbers that lie by in a row, the first at place 0 -/
def StkIs (f : Nat → Int32) (t : List Int32) : Prop := ∀ i, i < t.length → f i = t.reverse.getD i 0
theorem StkIs.nil (f : Nat → Int32) : StkIs f [] := fun i h => absurd h (Nat.not_lt_zero i)
theorem StkIs.push {f : Nat → Int32} {t : List Int32} {v : Int32} (h : StkIs f t) : StkIs (upd f t.length v) (v :: t) := by
  intro i hi
  simp only [List.length_cons] at hi
  rw [List.reverse_cons]
  by_cases e : i = t.length
  · subst e
    rw [ups]
    simp [List.getD_eq_getElem?_getD]
  · rw [upn e, h i (by omega)]
    simp only [List.getD_eq_getElem?_getD]
    rw [List.getElem?_append_left (by simp; omega)]
theorem StkIs.top {f : Nat → Int32} {t : List Int32} {a : Int32} (h : StkIs f (a :: t)) : f t.length = a := by
  have := h t.length (by simp)
  rw [this, List.reverse_cons]
  simp [List.getD_eq_getElem?_getD]
theorem StkIs.pop {f : Nat → Int32} {t : List Int32} {a : Int32} (h : StkIs f (a :: t)) : StkIs f t := by
  intro i hi
  have := h i (by simp; omega)
  rw [this, List.reverse_cons]
  simp only [List.getD_eq_getElem?_getD]
  rw [List.getElem?_append_left (by simp; omega)]
end
section
/-! a TEXT's codes worked off on the stack -/
def isTx (q : Nat) : Prop := ∃ t, t < 6 ∧ q = 16 + 3 * t
theorem tx_kd {q : Nat} (h : isTx q) : kd q = 6 ∧ kd (q + 1) = 30 ∧ kd (q + 2) = 30 ∧ ln (q + 1) = 160 ∧ ln (q + 2) = 3 ∧ 16 ≤ q ∧ q < 34 := by
  obtain ⟨t, ht, rfl⟩ := h
  have hd : ∀ t, t < 6 → kd (16 + 3 * t) = 6 ∧ kd (16 + 3 * t + 1) = 30 ∧ kd (16 + 3 * t + 2) = 30 ∧ ln (16 + 3 * t + 1) = 160 ∧ ln (16 + 3 * t + 2) = 3 := by decide +kernel
  obtain ⟨a, b, c, d, e⟩ := hd t ht
  exact ⟨a, b, c, d, e, by omega, by omega⟩
theorem negix {c : Int32} (h1 : ¬ c < (-6)) (h2 : c < 0) : ∃ j : Nat, j < 6 ∧ (-1) - c = nI j := by
  have a1 := Int32.not_lt.mp h1
  have a2 : (-6 : Int32).toInt ≤ c.toInt := Int32.le_iff_toInt_le.mp a1
  have a3 : c.toInt < (0 : Int32).toInt := Int32.lt_iff_toInt_lt.mp h2
  have e6 : (-6 : Int32).toInt = -6 := by decide
  have e0 : (0 : Int32).toInt = 0 := by decide
  rw [e6] at a2
  rw [e0] at a3
  have cs : c = -6 ∨ c = -5 ∨ c = -4 ∨ c = -3 ∨ c = -2 ∨ c = -1 := by
    have k : c.toInt = -6 ∨ c.toInt = -5 ∨ c.toInt = -4 ∨ c.toInt = -3 ∨ c.toInt = -2 ∨ c.toInt = -1 := by omega
    rcases k with k | k | k | k | k | k
    · exact Or.inl (Int32.toInt_inj.mp (k.trans (by decide)))
    · exact Or.inr (Or.inl (Int32.toInt_inj.mp (k.trans (by decide))))
    · exact Or.inr (Or.inr (Or.inl (Int32.toInt_inj.mp (k.trans (by decide)))))
    · exact Or.inr (Or.inr (Or.inr (Or.inl (Int32.toInt_inj.mp (k.trans (by decide))))))
    · exact Or.inr (Or.inr (Or.inr (Or.inr (Or.inl (Int32.toInt_inj.mp (k.trans (by decide)))))))
    · exact Or.inr (Or.inr (Or.inr (Or.inr (Or.inr (Int32.toInt_inj.mp (k.trans (by decide)))))))
  rcases cs with rfl | rfl | rfl | rfl | rfl | rfl
  · exact ⟨5, by omega, by decide⟩
  · exact ⟨4, by omega, by decide⟩
  · exact ⟨3, by omega, by decide⟩
  · exact ⟨2, by omega, by decide⟩
  · exact ⟨1, by omega, by decide⟩
  · exact ⟨0, by omega, by decide⟩
theorem value_l (k : Int32 → Mem → Option (Int32 × Mem)) {q sec e : Nat} (hq : isTx q) (hs : sec < 3) (he : e ≤ 160) :
    ∀ (n i fuel : Nat) (t : List Int32) (M : Mem), i + n = e → t.length + n ≤ 160 → n < fuel → M (q + 2) sec = nI e → StkIs (M 40) t →
    ∃ M1 : Mem, f_X7_value_l21 k fuel q (nI sec) (nI t.length) (nI i) M = k (nI (evR (M (q + 1)) (M 39) n i t).length) M1 ∧ StkIs (M1 40) (evR (M (q + 1)) (M 39) n i t) ∧ ∀ p, p ≠ 40 → M1 p = M p := by
  obtain ⟨k1, k2, k3, l1, l2, q1, q2⟩ := tx_kd hq
  have e1 : (kd q == 6) = true := by rw [k1]; rfl
  have e2 : (kd (q + 2) == 30) = true := by rw [k3]; rfl
  have e3 : (kd (q + 1) == 30) = true := by rw [k2]; rfl
  have e4 : inb (nI sec) (ln (q + 2)) = true := by rw [l2]; exact inb_nI hs (by omega)
  have n40a : q + 1 ≠ 40 := by omega
  have n40b : q + 2 ≠ 40 := by omega
  intro n
  induction n with
  | zero =>
    intro i fuel t M hi ht hf hE hS
    obtain ⟨f, rfl⟩ : ∃ f, fuel = f + 1 := ⟨fuel - 1, by omega⟩
    refine ⟨M, ?_, hS, fun _ _ => rfl⟩
    rw [f_X7_value_l21, e1, e2, e4]
    simp only [ck_true]
    rw [nI_clamp (by omega), hE, if_pos (nI_le (by omega) (by omega))]
    rfl
  | succ n ih =>
    intro i fuel t M hi ht hf hE hS
    obtain ⟨f, rfl⟩ : ∃ f, fuel = f + 1 := ⟨fuel - 1, by omega⟩
    have e5 : inb (nI i) (ln (q + 1)) = true := by rw [l1]; exact inb_nI (by omega) (by omega)
    have hlt : ¬ nI e ≤ nI i := by rw [nIle (by omega) (by omega)]; omega
    have tl : t.length < 160 := by omega
    -- going on with another stack
    have go : ∀ (t1 : List Int32) (M2 : Mem), t1.length ≤ t.length + 1 → StkIs (M2 40) t1 → (∀ p, p ≠ 40 → M2 p = M p) → evS (M (q + 1) i) (M 39) t = t1 →
        ∃ M1 : Mem, f_X7_value_l21 k f q (nI sec) (nI t1.length) (nI i + 1) M2 = k (nI (evR (M (q + 1)) (M 39) (n + 1) i t).length) M1 ∧ StkIs (M1 40) (evR (M (q + 1)) (M 39) (n + 1) i t) ∧ ∀ p, p ≠ 40 → M1 p = M p := by
      intro t1 M2 h1 h2 h3 h4
      obtain ⟨M1, g1, g2, g3⟩ := ih (i + 1) f t1 M2 (by omega) (by omega) (by omega) (by rw [h3 _ n40b]; exact hE) h2
      rw [h3 _ n40a, h3 39 (by omega)] at g1 g2
      refine ⟨M1, ?_, ?_, fun p hp => (g3 p hp).trans (h3 p hp)⟩
      · rw [nIp, g1]
        show _ = k (nI (evR (M (q + 1)) (M 39) n (i + 1) (evS (M (q + 1) i) (M 39) t)).length) M1
        rw [h4]
      · show StkIs (M1 40) (evR (M (q + 1)) (M 39) n (i + 1) (evS (M (q + 1) i) (M 39) t))
        rw [h4]
        exact g2
    rw [f_X7_value_l21, e1, e2, e4]
    simp only [ck_true]
    rw [nI_clamp (show sec < 2 ^ 31 by omega), hE, if_neg hlt, e3, e5]
    simp only [ck_true]
    rw [nI_clamp (show i < 2 ^ 31 by omega)]
    generalize hc : M (q + 1) i = c at go ⊢
    have tail : ∀ (p : Nat), p ≠ 40 → ∀ (j : Nat) (v : Int32), mu M 40 j v p = M p := fun p hp j v => mun hp
    by_cases c6 : c < (-6)
    · rw [if_pos c6]
      have un : ∀ (hcc : c = (-9) ∨ c = (-15)), ∃ M1 : Mem, f_X7_value_b95 (f_X7_value_l21 k f) k q (nI sec) (nI t.length) (nI i) c M = k (nI (evR (M (q + 1)) (M 39) (n + 1) i t).length) M1 ∧ StkIs (M1 40) (evR (M (q + 1)) (M 39) (n + 1) i t) ∧ ∀ p, p ≠ 40 → M1 p = M p := by
        intro hcc
        unfold f_X7_value_b95
        cases t with
        | nil =>
          rw [if_pos (by decide)]
          unfold f_X7_value_b171
          refine go [] M (by simp) hS (fun _ _ => rfl) ?_
          unfold evS
          rcases hcc with rfl | rfl <;> rfl
        | cons a t1 =>
          simp only [List.length_cons] at tl ht go ⊢
          rw [if_neg (by rw [show (1 : Int32) = nI 1 from rfl, nIlt (by omega) (by omega)]; omega)]
          rw [nIm (by omega), Nat.add_sub_cancel]
          have e6 : inb (nI t1.length) 160 = true := inb_nI (by omega) (by omega)
          rw [e6]
          simp only [ck_true]
          rw [nI_clamp (by omega), hS.top]
          unfold f_X7_value_b137
          rw [e6]
          simp only [ck_true]
          unfold f_X7_value_b171
          rw [nI_clamp (by omega)]
          rcases hcc with rfl | rfl
          · rw [if_neg (by decide)]
            by_cases ha : a = 0
            · rw [if_pos ha]
              refine go (1 :: t1) (mu M 40 t1.length 1) (by simp) (by rw [mus]; exact hS.pop.push) (fun p hp => mun hp) ?_
              unfold evS
              rw [if_pos (by decide), if_pos rfl]
              simp [ha]
            · rw [if_neg ha]
              refine go (0 :: t1) (mu M 40 t1.length 0) (by simp) (by rw [mus]; exact hS.pop.push) (fun p hp => mun hp) ?_
              unfold evS
              rw [if_pos (by decide), if_pos rfl]
              simp [ha]
          · rw [if_pos rfl]
            refine go ((-a) :: t1) (mu M 40 t1.length (-a)) (by simp) (by rw [mus]; exact hS.pop.push) (fun p hp => mun hp) ?_
            unfold evS
            rw [if_pos (by decide), if_neg (by decide), if_pos rfl]
      by_cases c9 : c = (-9)
      · rw [if_pos c9]
        exact un (Or.inl c9)
      · rw [if_neg c9]
        by_cases c15 : c = (-15)
        · rw [if_pos c15]
          exact un (Or.inr c15)
        · rw [if_neg c15]
          have evj : ∀ (b a : Int32) (t1 : List Int32), evS c (M 39) (b :: a :: t1) = jn c a b :: t1 := by
            intro b a t1
            unfold evS
            rw [if_pos c6, if_neg c9, if_neg c15]
          match t, hS, tl, ht, go with
          | [], hS, tl, ht, go =>
            rw [if_pos (by decide)]
            unfold f_X7_value_b171
            refine go [] M (by simp) hS (fun _ _ => rfl) ?_
            unfold evS
            rw [if_pos c6, if_neg c9, if_neg c15]
          | [a], hS, tl, ht, go =>
            rw [if_pos (show nI [a].length < 2 by show nI 1 < 2; decide)]
            unfold f_X7_value_b171
            refine go [a] M (by simp) hS (fun _ _ => rfl) ?_
            unfold evS
            rw [if_pos c6, if_neg c9, if_neg c15]
          | b :: a :: t1, hS, tl, ht, go =>
            simp only [List.length_cons] at tl ht go ⊢
            rw [if_neg (by rw [show (2 : Int32) = nI 2 from rfl, nIlt (by omega) (by omega)]; omega)]
            rw [nIm1 (by omega), Nat.add_sub_cancel, nIm (by omega), Nat.add_sub_cancel]
            rw [inb_nI (show t1.length < 160 by omega) (by omega), inb_nI (show t1.length + 1 < 160 by omega) (by omega)]
            simp only [ck_true]
            rw [nI_clamp (by omega), nI_clamp (by omega), joined_eq]
            simp only [Option.bind_some]
            unfold f_X7_value_b171
            have hb : M 40 (t1.length + 1) = b := by have := hS.top; simpa using this
            have ha : M 40 t1.length = a := hS.pop.top
            rw [hb, ha]
            exact go (jn c a b :: t1) (mu M 40 t1.length (jn c a b)) (by simp) (by rw [mus]; exact hS.pop.pop.push) (fun p hp => mun hp) (evj b a t1)
    · rw [if_neg c6]
      rw [if_neg (by rw [show (160 : Int32) = nI 160 from rfl, nIle (by omega) (by omega)]; omega)]
      have pu : ∀ v : Int32, evS c (M 39) t = v :: t → ∃ M1 : Mem, f_X7_value_b74 (f_X7_value_l21 k f) k q (nI sec) (nI t.length) (nI i) (nI t.length) v M = k (nI (evR (M (q + 1)) (M 39) (n + 1) i t).length) M1 ∧ StkIs (M1 40) (evR (M (q + 1)) (M 39) (n + 1) i t) ∧ ∀ p, p ≠ 40 → M1 p = M p := by
        intro v hv
        unfold f_X7_value_b74
        rw [inb_nI (show t.length < 160 by omega) (by omega)]
        simp only [ck_true]
        unfold f_X7_value_b171
        rw [nIp, nI_clamp (by omega)]
        exact go (v :: t) (mu M 40 t.length v) (by simp) (by rw [mus]; exact hS.push) (fun p hp => mun hp) hv
      by_cases c0 : c < 0
      · rw [if_pos c0]
        obtain ⟨j, hj, ej⟩ := negix c6 c0
        rw [ej, inb_nI hj (by omega)]
        simp only [ck_true]
        refine pu _ ?_
        unfold evS
        rw [if_neg c6, if_pos c0, ej]
      · rw [if_neg c0]
        refine pu _ ?_
        unfold evS
        rw [if_neg c6, if_neg c0]
/-- where section sec begins -/
def secB (ends : Nat → Int32) (sec : Nat) : Nat := if sec = 0 then 0 else (ends (sec - 1)).toNatClampNeg
def secE (ends : Nat → Int32) (sec : Nat) : Nat := (ends sec).toNatClampNeg
/-- what a section of a text tells -/
def evT (cs ends env : Nat → Int32) (sec : Nat) : Int32 := (evR cs env (secE ends sec - secB ends sec) (secB ends sec) []).headD 0
/-- the ends of the sections stand in order -/
def WfT (ends : Nat → Int32) : Prop := ∀ sec, sec < 3 → secB ends sec ≤ secE ends sec ∧ secE ends sec ≤ 160 ∧ ends sec = nI (secE ends sec)
theorem value_eq {q sec : Nat} (hq : isTx q) (hs : sec < 3) (M : Mem) (hw : WfT (M (q + 2))) :
    ∃ M1 : Mem, f_X7_value q (nI sec) M = some (evT (M (q + 1)) (M (q + 2)) (M 39) sec, M1) ∧ ∀ p, p ≠ 40 → M1 p = M p := by
  obtain ⟨h1, h2, h3⟩ := hw sec hs
  have hb : f_X7_value q (nI sec) M = f_X7_value_b19 q (nI sec) 0 (nI (secB (M (q + 2)) sec)) M := by
    obtain ⟨k1, k2, k3, l1, l2, q1, q2⟩ := tx_kd hq
    unfold f_X7_value
    by_cases s0 : sec = 0
    · subst s0
      rw [if_pos (id rfl : nI 0 = 0)]
      rfl
    · rw [if_neg (by rw [show (0 : Int32) = nI 0 from rfl, nIeq (by omega) (by omega)]; exact s0)]
      rw [show (kd q == 6) = true by rw [k1]; rfl, show (kd (q + 2) == 30) = true by rw [k3]; rfl, nIm (by omega), l2, inb_nI (show sec - 1 < 3 by omega) (by omega)]
      simp only [ck_true]
      rw [nI_clamp (by omega)]
      have := (hw (sec - 1) (by omega)).2.2
      rw [this]
      unfold secB
      rw [if_neg s0, this]
      rw [nI_clamp (by have := (hw (sec - 1) (by omega)).2.1; omega)]
  rw [hb]
  unfold f_X7_value_b19
  obtain ⟨M1, g1, g2, g3⟩ := value_l f_X7_value_b177 hq hs h2 (secE (M (q + 2)) sec - secB (M (q + 2)) sec) (secB (M (q + 2)) sec) FU [] M (by omega) (by simp; omega) (by unfold FU; omega) h3 (StkIs.nil _)
  refine ⟨M1, ?_, g3⟩
  have e0 : (0 : Int32) = nI ([] : List Int32).length := rfl
  rw [e0, g1]
  unfold evT f_X7_value_b177
  generalize hR : evR (M (q + 1)) (M 39) (secE (M (q + 2)) sec - secB (M (q + 2)) sec) (secB (M (q + 2)) sec) [] = r at g2
  cases r with
  | nil => rfl
  | cons a t =>
    have hl : (a :: t).length ≤ 160 := by
      have bound : ∀ (n i : Nat) (t : List Int32), (evR (M (q + 1)) (M 39) n i t).length ≤ t.length + n := by
        intro n
        induction n with
        | zero => intro i t; exact Nat.le_refl _
        | succ n ih =>
          intro i t
          have a1 := ih (i + 1) (evS (M (q + 1) i) (M 39) t)
          have a2 := evS_len (M (q + 1) i) (M 39) t
          show (evR (M (q + 1)) (M 39) n (i + 1) (evS (M (q + 1) i) (M 39) t)).length ≤ _
          omega
      have := bound (secE (M (q + 2)) sec - secB (M (q + 2)) sec) (secB (M (q + 2)) sec) []
      rw [hR] at this
      simp at this
      simp
      omega
    simp only [List.length_cons] at hl ⊢
    rw [if_neg (nI_nle (by omega) (by omega))]
    rw [nIm (by omega), Nat.add_sub_cancel, inb_nI (show t.length < 160 by omega) (by omega)]
    simp only [ck_true]
    rw [nI_clamp (by omega), g2.top]
    rfl
end
section
/-! THE KERNEL: what a DISH that was taken up comes to, in plain numbers -/
/-- kind, number, hour, prides, needs, needs together, what the rule tells (section, names) -/
abbrev Tk : Type := Int32 × Int32 × Int32 × (Nat → Int32) × (Nat → Int32) × Int32 × (Nat → (Nat → Int32) → Int32)
def tK (t : Tk) : Int32 := t.1
def tN (t : Tk) : Int32 := t.2.1
def tH (t : Tk) : Int32 := t.2.2.1
def tP (t : Tk) : Nat → Int32 := t.2.2.2.1
def tD (t : Tk) : Nat → Int32 := t.2.2.2.2.1
def tT (t : Tk) : Int32 := t.2.2.2.2.2.1
def tE (t : Tk) : Nat → (Nat → Int32) → Int32 := t.2.2.2.2.2.2
def bd (x : Int32) : Int32 := jmax 0 (jmin 99 x)
def envS (t : Tk) (part much : Int32) (k : Nat) : Nat → Int32 := fun i => if i = 0 then part else if i = 1 then much else if i = 2 then nI k else if i = 3 then tH t else if i = 4 then tN t else tP t k
def kAsk (t : Tk) (s : Nat) (part much : Int32) (k : Nat) : Int32 := tE t s (envS t part much k)
def fedK (kind v : Int32) (k : Nat) (hour num : Int32) : Int32 :=
  if kind = 1 then bd (v * 2) else if kind = 2 then v / 2 else if kind = 3 then (if k = 1 then num else bd (v * 2)) else if kind = 4 then (if jrem hour 4 = 0 then v / 2 + 10 else v / 2) else if kind = 5 then bd (v + num) else v
def kFed (t : Tk) (k : Nat) : Int32 := fedK (tK t) (bd (kAsk t 0 0 (tT t) k)) k (tH t) (tN t)
def tollK (kind v p much num : Int32) : Int32 :=
  if kind = 1 then 0 else if kind = 2 then bd (v * much) else if kind = 3 then 1 else if kind = 4 then (if p = jrem num 6 then 0 else bd (v * much)) else if kind = 5 then 9 else v
def kTp (t : Tk) (k p : Nat) (much : Int32) : Int32 := tollK (tK t) (bd (kAsk t 1 (nI p) much k)) (nI p) much (tN t)
/-- what crosses of a part -/
def kCr (t : Tk) (k : Nat) (st : Nat → Int32) (p : Nat) : Int32 := jmax 0 (tD t p - st (6 * k + p))
def tollN (t : Tk) (k : Nat) (st : Nat → Int32) : Nat → Int32
  | 0 => 0
  | p + 1 => if kCr t k st p ≤ 0 then tollN t k st p else tollN t k st p + kTp t k p (kCr t k st p)
def kToll (t : Tk) (k : Nat) (st : Nat → Int32) : Int32 := tollN t k st 6
def canN (t : Tk) (k : Nat) (st : Nat → Int32) : Nat → Bool
  | 0 => true
  | p + 1 => canN t k st p && !decide (st (6 * (1 - k) + p) < kCr t k st p)
def kCan (t : Tk) (k : Nat) (st : Nat → Int32) : Bool := canN t k st 6
def crN (t : Tk) (k : Nat) (st : Nat → Int32) : Nat → Int32
  | 0 => 0
  | p + 1 => crN t k st p + kCr t k st p
def sgK (kind : Int32) (yes cooks below : Bool) : Bool :=
  if kind = 1 then true else if kind = 2 then yes && below else if kind = 3 then true else if kind = 4 then (yes && below) || cooks else if kind = 5 then yes || cooks else yes
/-- whether kitchen i signs, if k cooks it -/
def kSg (t : Tk) (k i : Nat) (toll : Int32) : Bool := sgK (tK t) (!decide (kAsk t 2 0 toll i = 0)) (decide (i = k)) (!decide (tP t i ≤ toll))
def kCk (t : Tk) (k : Nat) (st : Nat → Int32) : Bool := kCan t k st && (kSg t k 0 (kToll t k st) && kSg t k 1 (kToll t k st))
/-- the stores, when it was cooked -/
def kUse (t : Tk) (k : Nat) (st : Nat → Int32) : Nat → Int32 := fun j => if j / 6 = k then st j - (tD t (j % 6) - kCr t k st (j % 6)) else st j - kCr t k st (j % 6)
def zI (b : Bool) : Int32 := if b then 1 else 0
theorem zI_zb (b : Bool) : zb (zI b) = true := by cases b <;> decide
theorem zI_0 (b : Bool) : (zI b = 0) = (b = false) := by cases b <;> simp [zI]
theorem evS_congr {c : Int32} {e1 e2 : Nat → Int32} {t : List Int32} (h : ∀ i, i < 6 → e1 i = e2 i) : evS c e1 t = evS c e2 t := by
  unfold evS
  by_cases c6 : c < (-6)
  · rw [if_pos c6, if_pos c6]
  · rw [if_neg c6, if_neg c6]
    by_cases c0 : c < 0
    · rw [if_pos c0, if_pos c0]
      obtain ⟨j, hj, ej⟩ := negix c6 c0
      rw [ej, nI_clamp (by omega), h j hj]
    · rw [if_neg c0, if_neg c0]
theorem evR_congr {cs e1 e2 : Nat → Int32} (h : ∀ i, i < 6 → e1 i = e2 i) : ∀ (n i : Nat) (t : List Int32), evR cs e1 n i t = evR cs e2 n i t := by
  intro n
  induction n with
  | zero => intro i t; rfl
  | succ n ih =>
    intro i t
    show evR cs e1 n (i + 1) (evS (cs i) e1 t) = evR cs e2 n (i + 1) (evS (cs i) e2 t)
    rw [evS_congr h, ih]
theorem evT_congr {cs ends e1 e2 : Nat → Int32} {s : Nat} (h : ∀ i, i < 6 → e1 i = e2 i) : evT cs ends e1 s = evT cs ends e2 s := by
  unfold evT
  rw [evR_congr h]
/-- what Cooking holds of a DISH -/
def Took (M : Mem) (t : Tk) : Prop := M 36 2 = tK t ∧ M 36 3 = tN t ∧ M 36 4 = tH t ∧ (∀ i, i < 2 → M 37 i = tP t i) ∧ (∀ i, i < 6 → M 38 i = tD t i) ∧ M 36 7 = tT t ∧ ∃ q, isTx q ∧ M 36 1 = nI q ∧ WfT (M (q + 2)) ∧ tE t = (fun s env => evT (M (q + 1)) (M (q + 2)) env s)
theorem Took.keep {M M1 : Mem} {t : Tk} (h : Took M t) (h36 : ∀ j, j < 12 → M1 36 j = M 36 j) (hp : ∀ p, (p < 34 ∨ p = 37 ∨ p = 38) → 16 ≤ p → M1 p = M p) : Took M1 t := by
  obtain ⟨a, b, c, d, e, f, q, q1, q2, q3, q4⟩ := h
  obtain ⟨z1, z2, z3, z4, z5, z6, z7⟩ := tx_kd q1
  have w : ∃ t, t < 6 ∧ q = 16 + 3 * t := q1
  obtain ⟨tt, ht, rfl⟩ := w
  refine ⟨(h36 2 (by omega)).trans a, (h36 3 (by omega)).trans b, (h36 4 (by omega)).trans c, fun i hi => ?_, fun i hi => ?_, (h36 7 (by omega)).trans f, 16 + 3 * tt, q1, (h36 1 (by omega)).trans q2, ?_, ?_⟩
  · rw [hp 37 (by omega) (by omega)]; exact d i hi
  · rw [hp 38 (by omega) (by omega)]; exact e i hi
  · rw [hp _ (by omega) (by omega)]; exact q3
  · rw [hp (16 + 3 * tt + 1) (by omega) (by omega), hp (16 + 3 * tt + 2) (by omega) (by omega)]; exact q4
theorem ask_eq {M : Mem} {t : Tk} (hT : Took M t) {s k : Nat} (hs : s < 3) (hk : k < 2) (part much : Int32) :
    ∃ M1 : Mem, f_X0_ask (nI s) part much (nI k) M = some (kAsk t s part much k, M1) ∧ ∀ p, p ≠ 39 → p ≠ 40 → M1 p = M p := by
  obtain ⟨a, b, c, d, e, f, q, q1, q2, q3, q4⟩ := hT
  have qb := tx_kd q1
  unfold f_X0_ask
  rw [inb_nI hk (by omega), q2, nI_clamp (by omega), nI_clamp (show k < 2 ^ 31 by omega)]
  simp only [ck_true]
  generalize hM2 : mu (mu (mu (mu (mu (mu M 39 0 part) 39 1 much) 39 2 (nI k)) 39 3 (M 36 4)) 39 4 (M 36 3)) 39 5 (M 37 k) = M2
  have o : ∀ p, p ≠ 39 → M2 p = M p := fun p hp => by rw [← hM2, mun hp, mun hp, mun hp, mun hp, mun hp, mun hp]
  have hw : WfT (M2 (q + 2)) := by rw [o _ (by omega)]; exact q3
  obtain ⟨M1, g1, g2⟩ := value_eq q1 hs M2 hw
  refine ⟨M1, ?_, fun p h1 h2 => (g2 p h2).trans (o p h1)⟩
  rw [g1]
  simp only [Option.bind_some]
  rw [show (kd q == 6) = true by rw [qb.1]; rfl]
  simp only [ck_true]
  congr 2
  unfold kAsk
  rw [q4, o _ (show q + 1 ≠ 39 by omega), o _ (show q + 2 ≠ 39 by omega)]
  apply evT_congr
  intro i hi
  have e39 : M2 39 = upd (upd (upd (upd (upd (upd (M 39) 0 part) 1 much) 2 (nI k)) 3 (M 36 4)) 4 (M 36 3)) 5 (M 37 k) := by
    rw [← hM2]; simp only [mus]
  rw [e39]
  unfold envS
  rw [← c, ← b, ← d k hk]
  rcases Nat.lt_or_ge i 3 with h3 | h3
  · rcases Nat.lt_or_ge i 1 with h | h
    · have : i = 0 := by omega
      subst this; rfl
    · rcases Nat.lt_or_ge i 2 with h | h
      · have : i = 1 := by omega
        subst this; rfl
      · have : i = 2 := by omega
        subst this; rfl
  · rcases Nat.lt_or_ge i 4 with h | h
    · have : i = 3 := by omega
      subst this; rfl
    · rcases Nat.lt_or_ge i 5 with h | h
      · have : i = 4 := by omega
        subst this; rfl
      · have : i = 5 := by omega
        subst this; rfl
theorem bounded_eq (x : Int32) (M : Mem) : f_X2_bounded x M = some (bd x, M) := rfl
theorem fed_eq (kind v : Int32) {k : Nat} (hk : k < 2) (hour num : Int32) (M : Mem) : f_X2_fed kind v (nI k) hour num M = some (fedK kind v k hour num, M) := by
  unfold f_X2_fed fedK
  simp only [bounded_eq, Option.bind_some]
  have e : (nI k = 1) = (k = 1) := by rw [show (1 : Int32) = nI 1 from rfl, nIeq (by omega) (by omega)]
  simp only [e]
  repeat (first | rfl | split)
theorem toll_eq (kind v p much num : Int32) (M : Mem) : f_X2_toll kind v p much num M = some (tollK kind v p much num, M) := by
  unfold f_X2_toll tollK
  simp only [bounded_eq, Option.bind_some]
  repeat (first | rfl | split)
theorem signs_eq (kind : Int32) (a b c : Bool) (M : Mem) : f_X2_signs kind (zI a) (zI b) (zI c) M = some (zI (sgK kind a b c), M) := by
  unfold f_X2_signs sgK f_X2_signs_b62
  simp only [zI_0, zI_zb, ck_true]
  by_cases k1 : kind = 1
  · simp only [if_pos k1]; rfl
  · simp only [if_neg k1]
    by_cases k2 : kind = 2
    · simp only [if_pos k2]
      cases a <;> cases c <;> rfl
    · simp only [if_neg k2]
      by_cases k3 : kind = 3
      · simp only [if_pos k3]; rfl
      · simp only [if_neg k3]
        by_cases k4 : kind = 4
        · simp only [if_pos k4]
          cases a <;> cases b <;> cases c <;> rfl
        · simp only [if_neg k4]
          by_cases k5 : kind = 5
          · simp only [if_pos k5]
            cases a <;> cases b <;> rfl
          · simp only [if_neg k5]
theorem ask1_eq {M : Mem} {t : Tk} (hT : Took M t) {k : Nat} (hk : k < 2) (part much : Int32) : ∃ M1 : Mem, f_X0_ask 1 part much (nI k) M = some (kAsk t 1 part much k, M1) ∧ ∀ p, p ≠ 39 → p ≠ 40 → M1 p = M p := ask_eq hT (s := 1) (by omega) hk part much
theorem ask0_eq {M : Mem} {t : Tk} (hT : Took M t) {k : Nat} (hk : k < 2) (part much : Int32) : ∃ M1 : Mem, f_X0_ask 0 part much (nI k) M = some (kAsk t 0 part much k, M1) ∧ ∀ p, p ≠ 39 → p ≠ 40 → M1 p = M p := ask_eq hT (s := 0) (by omega) hk part much
theorem ask2_eq {M : Mem} {t : Tk} (hT : Took M t) {k : Nat} (hk : k < 2) (part much : Int32) : ∃ M1 : Mem, f_X0_ask 2 part much (nI k) M = some (kAsk t 2 part much k, M1) ∧ ∀ p, p ≠ 39 → p ≠ 40 → M1 p = M p := ask_eq hT (s := 2) (by omega) hk part much
/-- a loop's fuel is more than its turns -/
theorem FU_ge : 200 < FU := by decide
/-- cross: what crosses, and whether it can be -/
theorem cross_l {t : Tk} {k q2 : Nat} {st : Nat → Int32} (hk : k < 2) (hq : kd q2 = 10) (hl : ln q2 = 12) (hq3 : q2 ≠ 36 ∧ q2 ≠ 41) :
    ∀ (n p fuel : Nat) (M : Mem), p + n = 6 → n < fuel → (∀ i, i < 6 → M 38 i = tD t i) → M q2 = st → (∀ i, i < p → M 41 i = kCr t k st i) → M 36 12 = zI (canN t k st p) → M 36 13 = crN t k st p →
    ∃ M1 : Mem, f_X0_cross_l26 fuel q2 (nI (6 * k)) (nI (6 * (1 - k))) (nI p) M = some M1 ∧ (∀ i, i < 6 → M1 41 i = kCr t k st i) ∧ M1 36 12 = zI (kCan t k st) ∧ M1 36 13 = crN t k st 6 ∧ (∀ r, r ≠ 36 → r ≠ 41 → M1 r = M r) ∧ (∀ j, j ≠ 12 → j ≠ 13 → M1 36 j = M 36 j) := by
  intro n
  induction n with
  | zero =>
    intro p fuel M hp hf hD hq2 h41 hc hs
    obtain ⟨f, rfl⟩ : ∃ f, fuel = f + 1 := ⟨fuel - 1, by omega⟩
    have e6 : p = 6 := by omega
    subst e6
    refine ⟨M, ?_, h41, hc, hs, fun _ _ _ => rfl, fun _ _ _ => rfl⟩
    rw [f_X0_cross_l26, if_pos (id (by decide) : (6 : Int32) ≤ nI 6)]
  | succ n ih =>
    intro p fuel M hp hf hD hq2 h41 hc hs
    obtain ⟨f, rfl⟩ : ∃ f, fuel = f + 1 := ⟨fuel - 1, by omega⟩
    have hn6 : ¬ (6 : Int32) ≤ nI p := by rw [show (6 : Int32) = nI 6 from rfl, nIle (by omega) (by omega)]; omega
    have k1 : 1 - k < 2 := by omega
    rw [f_X0_cross_l26, if_neg hn6, inb_nI (show p < 6 by omega) (by omega), show (kd q2 == 10) = true by rw [hq]; rfl, nI_add, nI_add, hl, inb_nI (show 6 * k + p < 12 by omega) (by omega), inb_nI (show 6 * (1 - k) + p < 12 by omega) (by omega)]
    simp only [ck_true]
    rw [nI_clamp (show p < 2 ^ 31 by omega), nI_clamp (show 6 * k + p < 2 ^ 31 by omega), nI_clamp (show 6 * (1 - k) + p < 2 ^ 31 by omega), hD p (by omega), hq2]
    have ecr : jmax 0 (tD t p - st (6 * k + p)) = kCr t k st p := rfl
    rw [ecr]
    generalize hM2 : mu (mu M 41 p (kCr t k st p)) 36 13 (M 36 13 + kCr t k st p) = M2
    have o : ∀ r, r ≠ 36 → r ≠ 41 → M2 r = M r := fun r h1 h2 => by rw [← hM2, mun h1, mun h2]
    have o36 : ∀ j, j ≠ 13 → M2 36 j = M 36 j := fun j h1 => by rw [← hM2, mus, upn h1, mun (by omega)]
    have o3613 : M2 36 13 = crN t k st (p + 1) := by rw [← hM2, mus, ups, hs]; rfl
    have o41 : ∀ i, i < p + 1 → M2 41 i = kCr t k st i := fun i hi => by
      rw [← hM2, mun (by omega), mus]
      by_cases e : i = p
      · subst e; rw [ups]
      · rw [upn e]; exact h41 i (by omega)
    have fin : ∀ b : Bool, canN t k st (p + 1) = b → ∃ M1 : Mem, f_X0_cross_b104 (f_X0_cross_l26 f) q2 (nI (6 * k)) (nI (6 * (1 - k))) (nI p) (zI b) M2 = some M1 ∧ (∀ i, i < 6 → M1 41 i = kCr t k st i) ∧ M1 36 12 = zI (kCan t k st) ∧ M1 36 13 = crN t k st 6 ∧ (∀ r, r ≠ 36 → r ≠ 41 → M1 r = M r) ∧ (∀ j, j ≠ 12 → j ≠ 13 → M1 36 j = M 36 j) := by
      intro b hb
      unfold f_X0_cross_b104
      rw [zI_zb, nIp]
      simp only [ck_true]
      obtain ⟨M1, g1, g2, g3, g4, g5, g6⟩ := ih (p + 1) f (mu M2 36 12 (zI b)) (by omega) (by omega) (fun i hi => by rw [mun (by omega), o 38 (by omega) (by omega)]; exact hD i hi) (by rw [mun hq3.1, o q2 hq3.1 hq3.2]; exact hq2) (fun i hi => by rw [mun (by omega)]; exact o41 i hi) (by rw [mus, ups, hb]) (by rw [mus, upn (by omega)]; exact o3613)
      exact ⟨M1, g1, g2, g3, g4, fun r h1 h2 => by rw [g5 r h1 h2, mun h1, o r h1 h2], fun j h1 h2 => by rw [g6 j h1 h2, mus, upn h1, o36 j h2]⟩
    have c0 : M 36 12 = 0 ↔ canN t k st p = false := by rw [hc]; exact Iff.of_eq (zI_0 _)
    by_cases hcb : canN t k st p = false
    · rw [if_pos (c0.mpr hcb)]
      unfold f_X0_cross_b103
      refine fin false ?_
      show (canN t k st p && _) = false
      rw [hcb]; rfl
    · rw [if_neg (fun h => hcb (c0.mp h)), o q2 hq3.1 hq3.2, hq2]
      have hct : canN t k st p = true := by cases hx : canN t k st p; exact absurd hx hcb; rfl
      by_cases hlt : st (6 * (1 - k) + p) < kCr t k st p
      · rw [if_pos hlt]
        unfold f_X0_cross_b103
        refine fin false ?_
        show (canN t k st p && !decide _) = false
        rw [decide_eq_true hlt]; simp
      · rw [if_neg hlt]
        refine fin true ?_
        show (canN t k st p && !decide _) = true
        rw [decide_eq_false hlt, hct]; rfl
theorem cross_eq {M : Mem} {t : Tk} {k q2 : Nat} (hD : ∀ i, i < 6 → M 38 i = tD t i) (hk : k < 2) (hq : kd q2 = 10) (hl : ln q2 = 12) (hq3 : q2 ≠ 36 ∧ q2 ≠ 41) :
    ∃ M1 : Mem, f_X0_cross (nI k) q2 M = some M1 ∧ (∀ i, i < 6 → M1 41 i = kCr t k (M q2) i) ∧ M1 36 12 = zI (kCan t k (M q2)) ∧ M1 36 13 = crN t k (M q2) 6 ∧ (∀ r, r ≠ 36 → r ≠ 41 → M1 r = M r) ∧ (∀ j, j ≠ 12 → j ≠ 13 → M1 36 j = M 36 j) := by
  unfold f_X0_cross
  rw [show (6 : Int32) = nI 6 from rfl, pk_mul, show (1 : Int32) = nI 1 from rfl, pk_sub (by omega), pk_mul, Nat.mul_comm k 6, Nat.mul_comm (1 - k) 6]
  obtain ⟨M1, g1, g2, g3, g4, g5, g6⟩ := cross_l (t := t) (st := M q2) hk hq hl hq3 6 0 FU (mu (mu M 36 12 (nI 1)) 36 13 0) (by omega) (by have := FU_ge; omega) (fun i hi => by rw [mun (by omega), mun (by omega)]; exact hD i hi) (by rw [mun hq3.1, mun hq3.1]) (fun i hi => absurd hi (Nat.not_lt_zero i)) (by rw [mus, upn (by omega), mus, ups]; rfl) (by rw [mus, ups]; rfl)
  exact ⟨M1, g1, g2, g3, g4, fun r h1 h2 => by rw [g5 r h1 h2, mun h1, mun h1], fun j h1 h2 => by rw [g6 j h1 h2, mus, upn h2, mus, upn h1]⟩
end
section
/-! COOKING, the class's -/
/-- all but Cooking's own cells is as it was -/
def Sm (M M1 : Mem) : Prop := ∀ p, p < 36 ∨ 42 < p → M1 p = M p
theorem Sm.refl (M : Mem) : Sm M M := fun _ _ => rfl
theorem Sm.trans {M M1 M2 : Mem} (h : Sm M M1) (h2 : Sm M1 M2) : Sm M M2 := fun p hp => (h2 p hp).trans (h p hp)
theorem judge_l1 {t : Tk} {k : Nat} {st : Nat → Int32} (hk : k < 2) (kx : Int32 → Mem → Option Mem) :
    ∀ (n p fuel : Nat) (M : Mem), p + n = 6 → n < fuel → Took M t → (∀ i, i < 6 → M 41 i = kCr t k st i) → M 36 14 = tollN t k st p →
    ∃ M1 : Mem, f_X0_judge_l41 kx fuel (nI k) (nI p) M = kx (nI k) M1 ∧ Took M1 t ∧ M1 36 14 = kToll t k st ∧ (∀ r, r ≠ 36 → r ≠ 39 → r ≠ 40 → M1 r = M r) ∧ (∀ j, j ≠ 14 → M1 36 j = M 36 j) := by
  intro n
  induction n with
  | zero =>
    intro p fuel M hp hf hT h41 ht
    obtain ⟨f, rfl⟩ : ∃ f, fuel = f + 1 := ⟨fuel - 1, by omega⟩
    have e6 : p = 6 := by omega
    subst e6
    refine ⟨M, ?_, hT, ht, fun _ _ _ _ => rfl, fun _ _ => rfl⟩
    rw [f_X0_judge_l41, if_pos (id (by decide) : (6 : Int32) ≤ nI 6)]
  | succ n ih =>
    intro p fuel M hp hf hT h41 ht
    obtain ⟨f, rfl⟩ : ∃ f, fuel = f + 1 := ⟨fuel - 1, by omega⟩
    have hn6 : ¬ (6 : Int32) ≤ nI p := by rw [show (6 : Int32) = nI 6 from rfl, nIle (by omega) (by omega)]; omega
    rw [f_X0_judge_l41, if_neg hn6, inb_nI (show p < 6 by omega) (by omega)]
    simp only [ck_true]
    rw [nI_clamp (show p < 2 ^ 31 by omega), h41 p (by omega)]
    by_cases hc : kCr t k st p ≤ 0
    · rw [if_pos hc]
      unfold f_X0_judge_b91
      rw [nIp]
      obtain ⟨M1, g1, g2, g3, g4, g5⟩ := ih (p + 1) f M (by omega) (by omega) hT h41 (by rw [ht]; show _ = if _ then _ else _; rw [if_pos hc])
      exact ⟨M1, g1, g2, g3, g4, g5⟩
    · rw [if_neg hc]
      obtain ⟨M2, a1, a2⟩ := ask1_eq hT hk (nI p) (kCr t k st p)
      rw [a1]
      simp only [Option.bind_some, bounded_eq, toll_eq]
      unfold f_X0_judge_b91
      rw [nIp]
      have hT2 : Took M2 t := hT.keep (fun j _ => by rw [a2 36 (by omega) (by omega)]) (fun r h1 h2 => a2 r (by omega) (by omega))
      have hk2 : M 36 2 = tK t := hT.1
      have hn2 : M2 36 3 = tN t := hT2.2.1
      obtain ⟨M1, g1, g2, g3, g4, g5⟩ := ih (p + 1) f (mu M2 36 14 (M 36 14 + tollK (M 36 2) (bd (kAsk t 1 (nI p) (kCr t k st p) k)) (nI p) (kCr t k st p) (M2 36 3))) (by omega) (by omega)
        (hT2.keep (fun j hj => by
          by_cases e : j = 14
          · omega
          · rw [mus, upn e]) (fun r h1 h2 => mun (by omega)))
        (fun i hi => by rw [mun (by omega), a2 41 (by omega) (by omega)]; exact h41 i hi)
        (by rw [mus, ups, ht, hk2, hn2]; show _ = if _ then _ else _; rw [if_neg hc]; rfl)
      refine ⟨M1, g1, g2, g3, fun r h1 h2 h3 => by rw [g4 r h1 h2 h3, mun h1, a2 r h2 h3], fun j hj => by rw [g5 j hj, mus, upn hj, a2 36 (by omega) (by omega)]⟩
theorem judge_l2 {t : Tk} {k : Nat} {st : Nat → Int32} (hk : k < 2) :
    ∀ (n i fuel : Nat) (M : Mem), i + n = 2 → n < fuel → Took M t → M 36 14 = kToll t k st → (∀ j, j < i → M 42 j = zI (kSg t k j (kToll t k st))) →
    ∃ M1 : Mem, f_X0_judge_l99 fuel (nI k) (nI i) M = some M1 ∧ Took M1 t ∧ (∀ j, j < 2 → M1 42 j = zI (kSg t k j (kToll t k st))) ∧ (∀ r, r ≠ 39 → r ≠ 40 → r ≠ 42 → M1 r = M r) := by
  intro n
  induction n with
  | zero =>
    intro i fuel M hi hf hT ht h42
    obtain ⟨f, rfl⟩ : ∃ f, fuel = f + 1 := ⟨fuel - 1, by omega⟩
    have e2 : i = 2 := by omega
    subst e2
    refine ⟨M, ?_, hT, h42, fun _ _ _ _ => rfl⟩
    rw [f_X0_judge_l99, if_pos (id (by decide) : (2 : Int32) ≤ nI 2)]
  | succ n ih =>
    intro i fuel M hi hf hT ht h42
    obtain ⟨f, rfl⟩ : ∃ f, fuel = f + 1 := ⟨fuel - 1, by omega⟩
    have hn2 : ¬ (2 : Int32) ≤ nI i := by rw [show (2 : Int32) = nI 2 from rfl, nIle (by omega) (by omega)]; omega
    rw [f_X0_judge_l99, if_neg hn2]
    obtain ⟨M2, a1, a2⟩ := ask2_eq hT (k := i) (by omega) 0 (M 36 14)
    rw [a1]
    simp only [Option.bind_some]
    have hT2 : Took M2 t := hT.keep (fun j _ => by rw [a2 36 (by omega) (by omega)]) (fun r h1 h2 => a2 r (by omega) (by omega))
    have hkk : M 36 2 = tK t := hT.1
    have hP : M2 37 i = tP t i := hT2.2.2.2.1 i (by omega)
    have ht2 : M2 36 14 = kToll t k st := by rw [a2 36 (by omega) (by omega)]; exact ht
    have fin : ∀ yes : Bool, (yes = !decide (kAsk t 2 0 (kToll t k st) i = 0)) → ∃ M1 : Mem, f_X0_judge_b132 (f_X0_judge_l99 f) (nI k) (nI i) (nI i) (M 36 2) (zI yes) M2 = some M1 ∧ Took M1 t ∧ (∀ j, j < 2 → M1 42 j = zI (kSg t k j (kToll t k st))) ∧ (∀ r, r ≠ 39 → r ≠ 40 → r ≠ 42 → M1 r = M r) := by
      intro yes hy
      have b1 : f_X0_judge_b132 (f_X0_judge_l99 f) (nI k) (nI i) (nI i) (M 36 2) (zI yes) M2 = f_X0_judge_b142 (f_X0_judge_l99 f) (nI k) (nI i) (nI i) (M 36 2) (zI yes) (zI (decide (i = k))) M2 := by
        unfold f_X0_judge_b132
        by_cases e : i = k
        · subst e; rw [if_pos rfl, decide_eq_true rfl]; rfl
        · rw [if_neg (by rw [nIeq (by omega) (by omega)]; exact e), decide_eq_false e]; rfl
      have b2 : f_X0_judge_b142 (f_X0_judge_l99 f) (nI k) (nI i) (nI i) (M 36 2) (zI yes) (zI (decide (i = k))) M2 = f_X0_judge_b160 (f_X0_judge_l99 f) (nI k) (nI i) (nI i) (M 36 2) (zI yes) (zI (decide (i = k))) (zI (!decide (tP t i ≤ kToll t k st))) M2 := by
        unfold f_X0_judge_b142
        rw [inb_nI (show i < 2 by omega) (by omega)]
        simp only [ck_true]
        rw [nI_clamp (by omega), hP, ht2]
        by_cases e : tP t i ≤ kToll t k st
        · rw [if_pos e, decide_eq_true e]; rfl
        · rw [if_neg e, decide_eq_false e]; rfl
      rw [b1, b2]
      unfold f_X0_judge_b160
      rw [signs_eq]
      simp only [Option.bind_some]
      rw [inb_nI (show i < 2 by omega) (by omega), zI_zb]
      simp only [ck_true]
      rw [nI_clamp (by omega), nIp]
      obtain ⟨M1, g1, g2, g3, g4⟩ := ih (i + 1) f (mu M2 42 i (zI (sgK (M 36 2) yes (decide (i = k)) (!decide (tP t i ≤ kToll t k st))))) (by omega) (by omega) (hT2.keep (fun j _ => by rw [mun (by omega)]) (fun r h1 h2 => mun (by omega))) (by rw [mun (by omega)]; exact ht2) (fun j hj => by
        rw [mus]
        by_cases e : j = i
        · subst e; rw [ups, hkk, hy]; rfl
        · rw [upn e, a2 42 (by omega) (by omega)]; exact h42 j (by omega))
      exact ⟨M1, g1, g2, g3, fun r h1 h2 h3 => by rw [g4 r h1 h2 h3, mun h3, a2 r h1 h2]⟩
    rw [ht] at a1 ⊢
    by_cases hy : kAsk t 2 0 (kToll t k st) i = 0
    · rw [if_pos hy]
      exact fin false (by rw [decide_eq_true hy]; rfl)
    · rw [if_neg hy]
      exact fin true (by rw [decide_eq_false hy]; rfl)
theorem judge_eq {M : Mem} {t : Tk} {k : Nat} {st : Nat → Int32} (hk : k < 2) (hT : Took M t) (h41 : ∀ i, i < 6 → M 41 i = kCr t k st i) :
    ∃ M1 : Mem, f_X0_judge (nI k) M = some M1 ∧ Took M1 t ∧ M1 36 15 = kFed t k ∧ M1 36 14 = kToll t k st ∧ (∀ j, j < 2 → M1 42 j = zI (kSg t k j (kToll t k st))) ∧ (∀ r, r ≠ 36 → r ≠ 39 → r ≠ 40 → r ≠ 42 → M1 r = M r) ∧ (∀ j, j ≠ 14 → j ≠ 15 → M1 36 j = M 36 j) := by
  unfold f_X0_judge
  obtain ⟨M2, a1, a2⟩ := ask0_eq hT hk 0 (M 36 7)
  rw [a1]
  have hT2 : Took M2 t := hT.keep (fun j _ => by rw [a2 36 (by omega) (by omega)]) (fun r h1 h2 => a2 r (by omega) (by omega))
  have e7 : M 36 7 = tT t := hT.2.2.2.2.2.1
  simp only [Option.bind_some, bounded_eq]
  rw [fed_eq _ _ hk]
  simp only [Option.bind_some]
  rw [e7, hT.1, hT2.2.2.1, hT2.2.1]
  generalize hM3 : mu (mu M2 36 15 (fedK (tK t) (bd (kAsk t 0 0 (tT t) k)) k (tH t) (tN t))) 36 14 0 = M3
  have o : ∀ r, r ≠ 36 → r ≠ 39 → r ≠ 40 → M3 r = M r := fun r h1 h2 h3 => by rw [← hM3, mun h1, mun h1, a2 r h2 h3]
  have o36 : ∀ j, j ≠ 14 → j ≠ 15 → M3 36 j = M 36 j := fun j h1 h2 => by rw [← hM3, mus, upn h1, mus, upn h2, a2 36 (by omega) (by omega)]
  have hT3 : Took M3 t := hT.keep (fun j hj => o36 j (by omega) (by omega)) (fun r h1 h2 => o r (by omega) (by omega) (by omega))
  obtain ⟨M4, b1, b2, b3, b4, b5⟩ := judge_l1 (t := t) (st := st) hk f_X0_judge_b97 6 0 FU M3 (by omega) (by have := FU_ge; omega) hT3 (fun i hi => by rw [o 41 (by omega) (by omega) (by omega)]; exact h41 i hi) (by rw [← hM3, mus, ups]; rfl)
  rw [show (0 : Int32) = nI 0 from rfl, b1]
  unfold f_X0_judge_b97
  obtain ⟨M5, c1, c2, c3, c4⟩ := judge_l2 (t := t) (st := st) hk 2 0 FU M4 (by omega) (by have := FU_ge; omega) b2 b3 (fun j hj => absurd hj (Nat.not_lt_zero j))
  rw [show (0 : Int32) = nI 0 from rfl, c1]
  refine ⟨M5, rfl, c2, ?_, ?_, c3, fun r h1 h2 h3 h4 => by rw [c4 r h2 h3 h4, b4 r h1 h2 h3, o r h1 h2 h3], fun j h1 h2 => by rw [c4 36 (by omega) (by omega) (by omega), b5 j h1, o36 j h1 h2]⟩
  · rw [c4 36 (by omega) (by omega) (by omega), b5 15 (by omega), ← hM3, mus, upn (by omega), mus, ups]
    rfl
  · rw [c4 36 (by omega) (by omega) (by omega), b3]
/-- the places that hold stores -/
def isSt (q : Nat) : Prop := q = 2 ∨ q = 9 ∨ q = 44 ∨ (47 ≤ q ∧ q < 54)
theorem st_kd {q : Nat} (h : isSt q) : kd q = 10 ∧ ln q = 12 ∧ q ≠ 36 ∧ q ≠ 41 ∧ (q < 16 ∨ 42 < q) := by
  have hd : ∀ q, q < 54 → (q = 2 ∨ q = 9 ∨ q = 44 ∨ (47 ≤ q ∧ q < 54)) → kd q = 10 ∧ ln q = 12 := by decide +kernel
  unfold isSt at h
  obtain ⟨a, b⟩ := hd q (by omega) h
  exact ⟨a, b, by omega, by omega, by omega⟩
theorem isCooked_eq {M : Mem} {t : Tk} {k q : Nat} (hk : k < 2) (hT : Took M t) (hq : isSt q) :
    ∃ M1 : Mem, f_X0_isCooked (nI k) q M = some (zI (kCk t k (M q)), M1) ∧ Took M1 t ∧ Sm M M1 ∧ M1 36 12 = zI (kCan t k (M q)) ∧ (kCan t k (M q) = true → M1 36 15 = kFed t k ∧ M1 36 14 = kToll t k (M q)) ∧ (∀ i, i < 6 → M1 41 i = kCr t k (M q) i) := by
  obtain ⟨k1, k2, k3, k4, k5⟩ := st_kd hq
  unfold f_X0_isCooked
  obtain ⟨M2, a1, a2, a3, a4, a5, a6⟩ := cross_eq (M := M) (t := t) (q2 := q) hT.2.2.2.2.1 hk k1 k2 ⟨k3, k4⟩
  have hT2 : Took M2 t := hT.keep (fun j hj => by
    by_cases e : j = 12
    · omega
    · exact a6 j e (by omega)) (fun r h1 h2 => a5 r (by omega) (by omega))
  have s2 : Sm M M2 := fun r hr => a5 r (by omega) (by omega)
  rw [a1]
  simp only [Option.bind_some]
  rw [a3]
  cases hc : kCan t k (M q) with
  | false =>
    refine ⟨M2, ?_, hT2, s2, (by rw [a3, hc]), (fun h => by cases h), a2⟩
    rw [if_pos (id rfl : zI false = 0)]
    unfold kCk
    rw [hc]
    rfl
  | true =>
    rw [if_neg (by decide)]
    obtain ⟨M3, b1, b2, b3, b4, b5, b6, b7⟩ := judge_eq (st := M q) hk hT2 a2
    rw [b1]
    simp only [Option.bind_some]
    rw [b5 0 (by omega), b5 1 (by omega)]
    refine ⟨M3, ?_, b2, s2.trans (fun r hr => b6 r (by omega) (by omega) (by omega) (by omega)), ?_, fun _ => ⟨b3, b4⟩, fun i hi => by rw [b6 41 (by omega) (by omega) (by omega) (by omega)]; exact a2 i hi⟩
    · unfold kCk
      rw [hc]
      cases kSg t k 0 (kToll t k (M q)) <;> cases kSg t k 1 (kToll t k (M q)) <;> rfl
    · rw [b7 12 (by omega) (by omega), a3, hc]
theorem worth_eq (M : Mem) : f_X0_worth M = some (M 36 15 - M 36 14, M) := rfl
/-- the stores, one part after the other -/
def useN (t : Tk) (k : Nat) (st : Nat → Int32) (p : Nat) : Nat → Int32 := fun j => if j % 6 < p then kUse t k st j else st j
theorem useUp_l {t : Tk} {k q : Nat} {st : Nat → Int32} (hk : k < 2) (hq : isSt q) :
    ∀ (n p fuel : Nat) (M : Mem), p + n = 6 → n < fuel → (∀ i, i < 6 → M 38 i = tD t i) → (∀ i, i < 6 → M 41 i = kCr t k st i) → (∀ j, j < 12 → M q j = useN t k st p j) →
    ∃ M1 : Mem, f_X0_useUp_l16 fuel q (nI (6 * k)) (nI (6 * (1 - k))) (nI p) M = some M1 ∧ (∀ j, j < 12 → M1 q j = kUse t k st j) ∧ ∀ r, r ≠ q → M1 r = M r := by
  obtain ⟨k1, k2, k3, k4, k5⟩ := st_kd hq
  intro n
  induction n with
  | zero =>
    intro p fuel M hp hf hD hC hS
    obtain ⟨f, rfl⟩ : ∃ f, fuel = f + 1 := ⟨fuel - 1, by omega⟩
    have e6 : p = 6 := by omega
    subst e6
    refine ⟨M, ?_, fun j hj => ?_, fun _ _ => rfl⟩
    · rw [f_X0_useUp_l16, if_pos (id (by decide) : (6 : Int32) ≤ nI 6)]
    · rw [hS j hj]
      unfold useN
      rw [if_pos (by omega)]
  | succ n ih =>
    intro p fuel M hp hf hD hC hS
    obtain ⟨f, rfl⟩ : ∃ f, fuel = f + 1 := ⟨fuel - 1, by omega⟩
    have hn6 : ¬ (6 : Int32) ≤ nI p := by rw [show (6 : Int32) = nI 6 from rfl, nIle (by omega) (by omega)]; omega
    rw [f_X0_useUp_l16, if_neg hn6, inb_nI (show p < 6 by omega) (by omega), show (kd q == 10) = true by rw [k1]; rfl, nI_add, nI_add, k2, inb_nI (show 6 * k + p < 12 by omega) (by omega), inb_nI (show 6 * (1 - k) + p < 12 by omega) (by omega)]
    simp only [ck_true]
    rw [nI_clamp (show p < 2 ^ 31 by omega), nI_clamp (show 6 * k + p < 2 ^ 31 by omega), nI_clamp (show 6 * (1 - k) + p < 2 ^ 31 by omega), mun (show 41 ≠ q by omega), hD p (by omega), hC p (by omega), nIp]
    have hne : 6 * (1 - k) + p ≠ 6 * k + p := by omega
    rw [show mu M q (6 * k + p) (M q (6 * k + p) - (tD t p - kCr t k st p)) q (6 * (1 - k) + p) = M q (6 * (1 - k) + p) by rw [mus, upn hne]]
    have h1 : M q (6 * k + p) = st (6 * k + p) := by rw [hS _ (by omega)]; unfold useN; rw [if_neg (by omega)]
    have h2 : M q (6 * (1 - k) + p) = st (6 * (1 - k) + p) := by rw [hS _ (by omega)]; unfold useN; rw [if_neg (by omega)]
    rw [h1, h2]
    obtain ⟨M1, g1, g2, g3⟩ := ih (p + 1) f (mu (mu M q (6 * k + p) (st (6 * k + p) - (tD t p - kCr t k st p))) q (6 * (1 - k) + p) (st (6 * (1 - k) + p) - kCr t k st p)) (by omega) (by omega) (fun i hi => by rw [mun (by omega), mun (by omega)]; exact hD i hi) (fun i hi => by rw [mun (by omega), mun (by omega)]; exact hC i hi) (fun j hj => by
      rw [mus, mus]
      by_cases e1 : j = 6 * (1 - k) + p
      · subst e1
        rw [ups]
        unfold useN kUse
        rw [if_pos (by omega), if_neg (by omega), show (6 * (1 - k) + p) % 6 = p by omega]
      · rw [upn e1]
        by_cases e2 : j = 6 * k + p
        · subst e2
          rw [ups]
          unfold useN kUse
          rw [if_pos (by omega), if_pos (by omega), show (6 * k + p) % 6 = p by omega]
        · rw [upn e2, hS j hj]
          unfold useN
          have : j % 6 ≠ p := by omega
          by_cases e3 : j % 6 < p
          · rw [if_pos e3, if_pos (by omega)]
          · rw [if_neg e3, if_neg (by omega)])
    exact ⟨M1, g1, g2, fun r hr => by rw [g3 r hr, mun hr, mun hr]⟩
theorem useUp_eq {M : Mem} {t : Tk} {k q : Nat} (hk : k < 2) (hq : isSt q) (hD : ∀ i, i < 6 → M 38 i = tD t i) (hC : ∀ i, i < 6 → M 41 i = kCr t k (M q) i) :
    ∃ M1 : Mem, f_X0_useUp (nI k) q M = some M1 ∧ (∀ j, j < 12 → M1 q j = kUse t k (M q) j) ∧ ∀ r, r ≠ q → M1 r = M r := by
  unfold f_X0_useUp
  rw [show (6 : Int32) = nI 6 from rfl, pk_mul, show (1 : Int32) = nI 1 from rfl, pk_sub (by omega), pk_mul, Nat.mul_comm k 6, Nat.mul_comm (1 - k) 6]
  exact useUp_l (st := M q) hk hq 6 0 FU M (by omega) (by have := FU_ge; omega) hD hC (fun j _ => by unfold useN; rw [if_neg (by omega)])
/-- a part of six digits -/
def ndg (x : Int32) (p : Nat) : Int32 := jrem (x / stv 2000 p) 10
def totN (x : Int32) : Nat → Int32
  | 0 => 0
  | p + 1 => totN x p + ndg x p
theorem pw_nz : ∀ p, p < 6 → (!(stv 2000 p == 0)) = true := by decide
theorem needsOf_eq {d p : Nat} (hd : d < 6) (hp : p < 6) (M : Mem) : f_X1_needsOf (nI d) (nI p) M = some (ndg (M 6 d) p, M) := by
  unfold f_X1_needsOf
  rw [inb_nI hd (by omega), inb_nI hp (by omega), nI_clamp (by omega), nI_clamp (by omega), pw_nz p hp]
  rfl
theorem needsTogether_l {d : Nat} (hd : d < 6) (M : Mem) : ∀ (n p fuel : Nat), p + n = 6 → n < fuel → f_X1_needsTogether_l4 fuel (nI d) (totN (M 6 d) p) (nI p) M = some (totN (M 6 d) 6, M) := by
  intro n
  induction n with
  | zero =>
    intro p fuel hp hf
    obtain ⟨f, rfl⟩ : ∃ f, fuel = f + 1 := ⟨fuel - 1, by omega⟩
    have e6 : p = 6 := by omega
    subst e6
    rw [f_X1_needsTogether_l4, if_pos (id (by decide) : (6 : Int32) ≤ nI 6)]
  | succ n ih =>
    intro p fuel hp hf
    obtain ⟨f, rfl⟩ : ∃ f, fuel = f + 1 := ⟨fuel - 1, by omega⟩
    have hn6 : ¬ (6 : Int32) ≤ nI p := by rw [show (6 : Int32) = nI 6 from rfl, nIle (by omega) (by omega)]; omega
    rw [f_X1_needsTogether_l4, if_neg hn6, needsOf_eq hd (by omega)]
    simp only [Option.bind_some]
    rw [nIp]
    exact ih (p + 1) f (by omega) (by omega)
theorem needsTogether_eq {d : Nat} (hd : d < 6) (M : Mem) : f_X1_needsTogether (nI d) M = some (totN (M 6 d) 6, M) :=
  needsTogether_l hd M 6 0 FU (by omega) (by have := FU_ge; omega)
/-- what is taken up of a DISH -/
def tkC (M : Mem) (d : Nat) (ev : Nat → (Nat → Int32) → Int32) : Tk := (M 4 d, M 5 d, M 1 7, M 3, ndg (M 6 d), totN (M 6 d) 6, ev)
/-- TEXT r, as the class holds it -/
def evC (M : Mem) (r : Nat) : Nat → (Nat → Int32) → Int32 := fun s env => evT (M (16 + 3 * r + 1)) (M (16 + 3 * r + 2)) env s
theorem ruleBy_eq {r : Nat} (hr : r < 6) (M : Mem) : f_X0_ruleBy (nI r) M = some (mu M 36 1 (nI (16 + 3 * r))) := by
  unfold f_X0_ruleBy
  rw [if_neg (nI_pos (by omega)), if_neg (by rw [show (6 : Int32) = nI 6 from rfl, nIle (by omega) (by omega)]; omega), inb_nI hr (by omega), nI_clamp (by omega), decide_eq_true (show 16 + 3 * r < 63 by omega)]
  rfl
theorem takeUp_l1 (kx : Int32 → Mem → Option Mem) (v : Int32) : ∀ (n i fuel : Nat) (M : Mem), i + n = 2 → n < fuel → (∀ j, j < i → M 37 j = M 3 j) →
    ∃ M1 : Mem, f_X0_takeUp_l30 kx fuel v (nI i) M = kx v M1 ∧ (∀ j, j < 2 → M1 37 j = M 3 j) ∧ ∀ r, r ≠ 37 → M1 r = M r := by
  intro n
  induction n with
  | zero =>
    intro i fuel M hi hf h
    obtain ⟨f, rfl⟩ : ∃ f, fuel = f + 1 := ⟨fuel - 1, by omega⟩
    have e2 : i = 2 := by omega
    subst e2
    exact ⟨M, by rw [f_X0_takeUp_l30, if_pos (id (by decide) : (2 : Int32) ≤ nI 2)], h, fun _ _ => rfl⟩
  | succ n ih =>
    intro i fuel M hi hf h
    obtain ⟨f, rfl⟩ : ∃ f, fuel = f + 1 := ⟨fuel - 1, by omega⟩
    have hn : ¬ (2 : Int32) ≤ nI i := by rw [show (2 : Int32) = nI 2 from rfl, nIle (by omega) (by omega)]; omega
    rw [f_X0_takeUp_l30, if_neg hn, inb_nI (show i < 2 by omega) (by omega), nI_clamp (by omega), nIp]
    simp only [ck_true]
    obtain ⟨M1, g1, g2, g3⟩ := ih (i + 1) f (mu M 37 i (M 3 i)) (by omega) (by omega) (fun j hj => by
      rw [mus, mun (by omega)]
      by_cases e : j = i
      · subst e; rw [ups]
      · rw [upn e]; exact h j (by omega))
    exact ⟨M1, g1, fun j hj => by rw [g2 j hj, mun (by omega)], fun r hr => by rw [g3 r hr, mun hr]⟩
theorem takeUp_l2 (kx : Int32 → Mem → Option Mem) {d : Nat} (hd : d < 6) : ∀ (n p fuel : Nat) (M : Mem), p + n = 6 → n < fuel → (∀ j, j < p → M 38 j = ndg (M 6 d) j) →
    ∃ M1 : Mem, f_X0_takeUp_l55 kx fuel (nI d) (nI p) M = kx (nI d) M1 ∧ (∀ j, j < 6 → M1 38 j = ndg (M 6 d) j) ∧ ∀ r, r ≠ 38 → M1 r = M r := by
  intro n
  induction n with
  | zero =>
    intro p fuel M hi hf h
    obtain ⟨f, rfl⟩ : ∃ f, fuel = f + 1 := ⟨fuel - 1, by omega⟩
    have e2 : p = 6 := by omega
    subst e2
    exact ⟨M, by rw [f_X0_takeUp_l55, if_pos (id (by decide) : (6 : Int32) ≤ nI 6)], h, fun _ _ => rfl⟩
  | succ n ih =>
    intro p fuel M hi hf h
    obtain ⟨f, rfl⟩ : ∃ f, fuel = f + 1 := ⟨fuel - 1, by omega⟩
    have hn : ¬ (6 : Int32) ≤ nI p := by rw [show (6 : Int32) = nI 6 from rfl, nIle (by omega) (by omega)]; omega
    rw [f_X0_takeUp_l55, if_neg hn, needsOf_eq hd (by omega)]
    simp only [Option.bind_some]
    rw [inb_nI (show p < 6 by omega) (by omega), nI_clamp (by omega), nIp]
    simp only [ck_true]
    obtain ⟨M1, g1, g2, g3⟩ := ih (p + 1) f (mu M 38 p (ndg (M 6 d) p)) (by omega) (by omega) (fun j hj => by
      rw [mus, mun (by omega)]
      by_cases e : j = p
      · subst e; rw [ups]
      · rw [upn e]; exact h j (by omega))
    exact ⟨M1, g1, fun j hj => by rw [g2 j hj, mun (by omega)], fun r hr => by rw [g3 r hr, mun hr]⟩
theorem takeUp_eq {M : Mem} {d r : Nat} (hd : d < 6) (hr : r < 6) (hrule : M 1 8 = nI r) (hw : WfT (M (16 + 3 * r + 2))) :
    ∃ M1 : Mem, f_X0_takeUp (nI d) M = some M1 ∧ Took M1 (tkC M d (evC M r)) ∧ Sm M M1 := by
  unfold f_X0_takeUp
  rw [inb_nI hd (by omega), nI_clamp (by omega)]
  simp only [ck_true]
  generalize hM2 : mu (mu (mu M 36 2 (M 4 d)) 36 3 (M 5 d)) 36 4 (M 1 7) = M2
  have o2 : ∀ r, r ≠ 36 → M2 r = M r := fun r h => by rw [← hM2, mun h, mun h, mun h]
  obtain ⟨M3, a1, a2, a3⟩ := takeUp_l1 f_X0_takeUp_b53 (nI d) 2 0 FU M2 (by omega) (by have := FU_ge; omega) (fun j hj => absurd hj (Nat.not_lt_zero j))
  rw [show (0 : Int32) = nI 0 from rfl, a1]
  unfold f_X0_takeUp_b53
  obtain ⟨M4, b1, b2, b3⟩ := takeUp_l2 f_X0_takeUp_b79 hd 6 0 FU M3 (by omega) (by have := FU_ge; omega) (fun j hj => absurd hj (Nat.not_lt_zero j))
  rw [show (0 : Int32) = nI 0 from rfl, b1]
  unfold f_X0_takeUp_b79
  have o4 : ∀ r, r ≠ 36 → r ≠ 37 → r ≠ 38 → M4 r = M r := fun r h1 h2 h3 => by rw [b3 r h3, a3 r h2, o2 r h1]
  rw [needsTogether_eq hd]
  simp only [Option.bind_some]
  rw [o4 1 (by omega) (by omega) (by omega), hrule, ruleBy_eq hr]
  simp only [Option.bind_some]
  have e36 : ∀ j, mu (mu M4 36 7 (totN (M4 6 d) 6)) 36 1 (nI (16 + 3 * r)) 36 j = if j = 1 then nI (16 + 3 * r) else if j = 7 then totN (M 6 d) 6 else if j = 4 then M 1 7 else if j = 3 then M 5 d else if j = 2 then M 4 d else M 36 j := by
    intro j
    rw [mus]
    by_cases e1 : j = 1
    · subst e1; rw [ups, if_pos rfl]
    · rw [upn e1, if_neg e1, mus]
      by_cases e7 : j = 7
      · subst e7; rw [ups, if_pos rfl, o4 6 (by omega) (by omega) (by omega)]
      · rw [upn e7, if_neg e7, b3 36 (by omega), a3 36 (by omega), ← hM2, mus]
        by_cases e4 : j = 4
        · subst e4; rw [ups, if_pos rfl]
        · rw [upn e4, if_neg e4, mus]
          by_cases e3 : j = 3
          · subst e3; rw [ups, if_pos rfl]
          · rw [upn e3, if_neg e3, mus]
            by_cases e2 : j = 2
            · subst e2; rw [ups, if_pos rfl]
            · rw [upn e2, if_neg e2]
  have oo : ∀ r1, r1 ≠ 36 → mu (mu M4 36 7 (totN (M4 6 d) 6)) 36 1 (nI (16 + 3 * r)) r1 = M4 r1 := fun r1 h => by rw [mun h, mun h]
  refine ⟨_, rfl, ⟨?_, ?_, ?_, fun i hi => ?_, fun i hi => ?_, ?_, 16 + 3 * r, ⟨r, hr, rfl⟩, ?_, ?_, ?_⟩, fun r1 h1 => ?_⟩
  · rw [e36]; rfl
  · rw [e36]; rfl
  · rw [e36]; rfl
  · rw [oo 37 (by omega), b3 37 (by omega), a2 i hi, o2 3 (by omega)]; rfl
  · rw [oo 38 (by omega), b2 i hi, a3 6 (by omega), o2 6 (by omega)]; rfl
  · rw [e36]; rfl
  · rw [e36]; rfl
  · rw [oo _ (by omega), o4 _ (by omega) (by omega) (by omega)]; exact hw
  · rw [oo _ (show 16 + 3 * r + 1 ≠ 36 by omega), oo _ (show 16 + 3 * r + 2 ≠ 36 by omega), o4 (16 + 3 * r + 1) (by omega) (by omega) (by omega), o4 (16 + 3 * r + 2) (by omega) (by omega) (by omega)]
    rfl
  · rw [oo r1 (by omega), o4 r1 (by omega) (by omega) (by omega)]
end
section
/-! COOKING, the reference's -/
theorem i_lt {a b : Int32} : (a < b) = (a.toInt < b.toInt) := propext Int32.lt_iff_toInt_lt
theorem i_le {a b : Int32} : (a ≤ b) = (a.toInt ≤ b.toInt) := propext Int32.le_iff_toInt_le
theorem i_eq {a b : Int32} : (a = b) = (a.toInt = b.toInt) := propext Int32.toInt_inj.symm
theorem i_nI {n : Nat} (h : n < 2 ^ 31) : (nI n).toInt = n := nI_toInt h
theorem in_eq (x a b : Int32) (M : Mem) : f_X9_in x.toInt64 a.toInt64 b.toInt64 M = some (zI (!decide (x < a) && !decide (b < x)), M) := by
  unfold f_X9_in
  have w : ∀ p q : Int32, (p.toInt64 < q.toInt64) = (p < q) := fun p q => by rw [i_lt, Int64.lt_iff_toInt_lt, Int32.toInt_toInt64, Int32.toInt_toInt64]
  have e1 : (lg_cmp x.toInt64 a.toInt64 < 0) = (x < a) := by rw [propext (lg_cmp_lt _ _), w]
  have e2 : (0 < lg_cmp x.toInt64 b.toInt64) = (b < x) := by rw [propext (lg_cmp_gt _ _), w]
  simp only [e1, e2]
  by_cases h1 : x < a
  · simp [h1, zI]
  · by_cases h2 : b < x
    · simp [h1, h2, zI]
    · simp [h1, h2, zI]
theorem within_eq (x : Int32) (M : Mem) : f_X9_within x 0 99 M = some (bd x, M) := by
  unfold f_X9_within bd jmax jmin
  by_cases h0 : (0 : Int32) ≤ x
  · rw [if_pos h0]
    by_cases h9 : x ≤ 99
    · rw [if_pos h9]
      by_cases h : x < 99
      · rw [if_pos h]
        by_cases hz : 0 < x
        · rw [if_pos hz]
        · rw [if_neg hz]
          have : x = 0 := by rw [i_lt] at hz; rw [i_le] at h0; rw [i_eq]; omega
          rw [this]
      · rw [if_neg h, if_pos (by decide)]
        have : x = 99 := by rw [i_lt] at h; rw [i_le] at h9; rw [i_eq]; omega
        rw [this]
    · rw [if_neg h9]
      have : ¬ x < 99 := by rw [i_lt]; rw [i_le] at h9; omega
      rw [if_neg this, if_pos (by decide)]
  · rw [if_neg h0]
    have e0 : (0 : Int32).toInt = 0 := by decide
    have e9 : (99 : Int32).toInt = 99 := by decide
    rw [i_le, e0] at h0
    have h1 : x < 99 := by rw [i_lt, e9]; omega
    have h2 : ¬ 0 < x := by rw [i_lt, e0]; omega
    rw [if_pos h1, if_neg h2]
theorem bd_of (x : Int32) : ∃ n : Nat, n ≤ 99 ∧ bd x = nI n := by
  unfold bd jmax jmin
  have e0 : (0 : Int32).toInt = 0 := by decide
  have e9 : (99 : Int32).toInt = 99 := by decide
  by_cases h : x < 99
  · rw [if_pos h]
    by_cases hz : 0 < x
    · rw [if_pos hz]
      rw [i_lt, e9] at h
      rw [i_lt, e0] at hz
      obtain ⟨j, hj, rfl⟩ := nI_of (x := x) (by rw [i_lt, e0]; omega)
      rw [i_nI hj] at h
      exact ⟨j, by omega, rfl⟩
    · rw [if_neg hz]; exact ⟨0, by omega, rfl⟩
  · rw [if_neg h, if_pos (by decide)]; exact ⟨99, by omega, rfl⟩
theorem bd_nI {n : Nat} (h : n ≤ 99) : bd (nI n) = nI n := by
  unfold bd jmax jmin
  by_cases h1 : nI n < 99
  · rw [if_pos h1]
    by_cases hz : 0 < nI n
    · rw [if_pos hz]
    · rw [if_neg hz]
      rw [show (0 : Int32) = nI 0 from rfl, nIlt (by omega) (by omega)] at hz
      have : n = 0 := by omega
      subst this; rfl
  · rw [if_neg h1, if_pos (by decide)]
    rw [show (99 : Int32) = nI 99 from rfl, nIlt (by omega) (by omega)] at h1
    have : n = 99 := by omega
    subst this; rfl
/-- all but the reader's own cells is as it was -/
def SmM (M M1 : Mem) : Prop := (∀ p, p ≠ 100 → M1 p = M p) ∧ ∀ j, (j < 13 ∨ 27 < j) → M1 100 j = M 100 j
theorem SmM.refl (M : Mem) : SmM M M := ⟨fun _ _ => rfl, fun _ _ => rfl⟩
theorem SmM.trans {M M1 M2 : Mem} (h : SmM M M1) (h2 : SmM M1 M2) : SmM M M2 := ⟨fun p hp => (h2.1 p hp).trans (h.1 p hp), fun j hj => (h2.2 j hj).trans (h.2 j hj)⟩
/-- TEXT r, as the reference reads it, tells ev -/
def TxM (M : Mem) (r : Nat) (ev : Nat → (Nat → Int32) → Int32) : Prop := ∀ M2 : Mem, (∀ j, j < 160 → M2 101 (160 * r + j) = M 101 (160 * r + j)) → M2 102 r = M 102 r → ∀ w, w < 3 → ∃ M1 : Mem, f_X9_read (nI r) (nI w) M2 = some (ev w (fun i => M2 100 (13 + i)), M1) ∧ SmM M2 M1
theorem TxM.keep {M M1 : Mem} {r : Nat} {ev : Nat → (Nat → Int32) → Int32} (h : TxM M r ev) (h1 : ∀ j, j < 160 → M1 101 (160 * r + j) = M 101 (160 * r + j)) (h2 : M1 102 r = M 102 r) : TxM M1 r ev :=
  fun M2 a b => h M2 (fun j hj => (a j hj).trans (h1 j hj)) (b.trans h2)
def EvC (ev : Nat → (Nat → Int32) → Int32) : Prop := ∀ (s : Nat) (e1 e2 : Nat → Int32), (∀ i, i < 6 → e1 i = e2 i) → ev s e1 = ev s e2
/-- what the reference holds of a DISH -/
def TkM (M : Mem) (d : Nat) (t : Tk) : Prop := M 106 d = tK t ∧ M 107 (3 * d) = tN t ∧ M 100 7 = tH t ∧ (∀ i, i < 2 → M 105 i = tP t i) ∧ (∃ n, n ≤ 999999 ∧ M 107 (3 * d + 1) = nI n ∧ (∀ p, p < 6 → tD t p = ndg (nI n) p) ∧ tT t = totN (nI n) 6) ∧ (∃ j, j < 6 ∧ tK t = nI j) ∧ (∃ n, n ≤ 9 ∧ tN t = nI n) ∧ EvC (tE t) ∧ ∃ r, r < 6 ∧ M 100 4 = nI r ∧ TxM M r (tE t)
theorem TkM.keep {M M1 : Mem} {d : Nat} {t : Tk} (h : TkM M d t) (hp : ∀ p, (p = 101 ∨ p = 102 ∨ p = 105 ∨ p = 106 ∨ p = 107) → M1 p = M p) (h4 : M1 100 4 = M 100 4) (h7 : M1 100 7 = M 100 7) : TkM M1 d t := by
  obtain ⟨a, b, c, e, f, g, g2, i, r, r1, r2, r3⟩ := h
  refine ⟨?_, ?_, h7.trans c, ?_, ?_, g, g2, i, r, r1, h4.trans r2, r3.keep (fun j _ => ?_) ?_⟩
  · rw [hp 106 (by omega)]; exact a
  · rw [hp 107 (by omega)]; exact b
  · rw [hp 105 (by omega)]; exact e
  · rw [hp 107 (by omega)]; exact f
  · rw [hp 101 (by omega)]
  · rw [hp 102 (by omega)]
theorem TkM.sm {M M1 : Mem} {d : Nat} {t : Tk} (h : TkM M d t) (s : SmM M M1) : TkM M1 d t := h.keep (fun p hp => s.1 p (by omega)) (s.2 4 (by omega)) (s.2 7 (by omega))
/-- says, before it is bounded -/
theorem says_eq {M : Mem} {d k w : Nat} {t : Tk} (hd : d < 6) (hk : k < 2) (hw : w < 3) (hT : TkM M d t) (part much : Int32) :
    ∃ M1 : Mem, f_X9_says (nI w) (nI d) (nI k) part much M = some (if w = 2 then kAsk t w part much k else bd (kAsk t w part much k), M1) ∧ SmM M M1 := by
  obtain ⟨a, b, c, e, f, g, g2, i, r, r1, r2, r3⟩ := hT
  unfold f_X9_says
  rw [show (3 : Int32) = nI 3 from rfl, pk_mul, inb_nI (show 3 * d < 18 by omega) (by omega), inb_nI hk (by omega), nI_clamp (show 3 * d < 2 ^ 31 by omega), nI_clamp (show k < 2 ^ 31 by omega), r2]
  simp only [ck_true]
  generalize hM2 : mu (mu (mu (mu (mu (mu M 100 13 part) 100 14 much) 100 15 (nI k)) 100 16 (M 100 7)) 100 17 (M 107 (3 * d))) 100 18 (M 105 k) = M2
  have o : ∀ p, p ≠ 100 → M2 p = M p := fun p hp => by rw [← hM2, mun hp, mun hp, mun hp, mun hp, mun hp, mun hp]
  have oj : ∀ j, (j < 13 ∨ 27 < j) → M2 100 j = M 100 j := fun j hj => by
    rw [← hM2]
    simp only [mus]
    rw [upn (by omega), upn (by omega), upn (by omega), upn (by omega), upn (by omega), upn (by omega)]
  obtain ⟨M1, g1, s1⟩ := r3 M2 (fun j _ => by rw [o 101 (by omega)]) (by rw [o 102 (by omega)]) w hw
  rw [g1]
  simp only [Option.bind_some, within_eq]
  have env : tE t w (fun i => M2 100 (13 + i)) = kAsk t w part much k := by
    unfold kAsk
    refine i w _ _ (fun x hx => ?_)
    show M2 100 (13 + x) = _
    rw [← hM2]
    simp only [mus]
    unfold envS
    rw [← c, ← b, ← e k hk]
    rcases Nat.lt_or_ge x 3 with h3 | h3
    · rcases Nat.lt_or_ge x 1 with h | h
      · have : x = 0 := by omega
        subst this; rfl
      · rcases Nat.lt_or_ge x 2 with h | h
        · have : x = 1 := by omega
          subst this; rfl
        · have : x = 2 := by omega
          subst this; rfl
    · rcases Nat.lt_or_ge x 4 with h | h
      · have : x = 3 := by omega
        subst this; rfl
      · rcases Nat.lt_or_ge x 5 with h | h
        · have : x = 4 := by omega
          subst this; rfl
        · have : x = 5 := by omega
          subst this; rfl
  rw [env]
  have s : SmM M M1 := SmM.trans ⟨o, oj⟩ s1
  by_cases h2 : w = 2
  · subst h2
    have e2 : nI 2 = 2 := rfl
    rw [if_pos e2]
    exact ⟨M1, rfl, s⟩
  · rw [if_neg (by rw [show (2 : Int32) = nI 2 from rfl, nIeq (by omega) (by omega)]; exact h2), if_neg h2]
    exact ⟨M1, rfl, s⟩
theorem jrem_nI {a d : Nat} (ha : a < 2 ^ 31) (h0 : 0 < d) (hd : d < 2 ^ 31) : jrem (nI a) (nI d) = nI (a % d) := pk_rem ha h0 hd
theorem pw_nI : ∀ p, p < 6 → stv 2000 p = nI (10 ^ (5 - p)) := by decide
theorem ndg_nI {n p : Nat} (hn : n ≤ 999999) (hp : p < 6) : ndg (nI n) p = nI (n / 10 ^ (5 - p) % 10) := by
  unfold ndg
  have h10 : 10 ^ (5 - p) < 2 ^ 31 := by
    have : ∀ p, p < 6 → 10 ^ (5 - p) < 2 ^ 31 := by decide
    exact this p hp
  rw [pw_nI p hp, pk_div (by omega) (Nat.pow_pos (by omega)) h10, show (10 : Int32) = nI 10 from rfl, jrem_nI (Nat.lt_of_le_of_lt (Nat.div_le_self _ _) (by omega)) (by omega) (by omega)]
theorem needsM_l {p : Nat} (hp : p < 6) (M : Mem) : ∀ (m x c fuel : Nat), c = p + m → x < 2 ^ 31 → m < fuel → c < 6 → f_X9_needsOf_l14 fuel (nI p) (nI x) (nI c) M = some (nI (x / 10 ^ m % 10), M) := by
  intro m
  induction m with
  | zero =>
    intro x c fuel hc hx hf hc6
    obtain ⟨f, rfl⟩ : ∃ f, fuel = f + 1 := ⟨fuel - 1, by omega⟩
    rw [f_X9_needsOf_l14, if_pos (by rw [nIle (by omega) (by omega)]; omega), show (10 : Int32) = nI 10 from rfl, jrem_nI hx (by omega) (by omega)]
    simp
  | succ m ih =>
    intro x c fuel hc hx hf hc6
    obtain ⟨f, rfl⟩ : ∃ f, fuel = f + 1 := ⟨fuel - 1, by omega⟩
    rw [f_X9_needsOf_l14, if_neg (by rw [nIle (by omega) (by omega)]; omega), show (10 : Int32) = nI 10 from rfl, pk_div hx (by omega) (by omega), nIm1 (by omega)]
    rw [ih (x / 10) (c - 1) f (by omega) (by omega) (by omega) (by omega), Nat.div_div_eq_div_mul, Nat.pow_succ, Nat.mul_comm 10]
theorem needsM_eq {M : Mem} {d p n : Nat} (hd : d < 6) (hp : p < 6) (hn : n ≤ 999999) (h : M 107 (3 * d + 1) = nI n) : f_X9_needsOf (nI d) (nI p) M = some (ndg (nI n) p, M) := by
  unfold f_X9_needsOf
  rw [show (3 : Int32) = nI 3 from rfl, pk_mul, nIp, inb_nI (show 3 * d + 1 < 18 by omega) (by omega), nI_clamp (by omega), h]
  simp only [ck_true]
  rw [show (5 : Int32) = nI 5 from rfl, needsM_l hp M (5 - p) n 5 FU (by omega) (by omega) (by have := FU_ge; omega) (by omega), ndg_nI hn hp]
theorem needsAll_l {M : Mem} {d n : Nat} (hd : d < 6) (hn : n ≤ 999999) (h : M 107 (3 * d + 1) = nI n) : ∀ (m p fuel : Nat), p + m = 6 → m < fuel → f_X9_needsAll_l4 fuel (nI d) (totN (nI n) p) (nI p) M = some (totN (nI n) 6, M) := by
  intro m
  induction m with
  | zero =>
    intro p fuel hp hf
    obtain ⟨f, rfl⟩ : ∃ f, fuel = f + 1 := ⟨fuel - 1, by omega⟩
    have e6 : p = 6 := by omega
    subst e6
    rw [f_X9_needsAll_l4, if_pos (id (by decide) : (6 : Int32) ≤ nI 6)]
  | succ m ih =>
    intro p fuel hp hf
    obtain ⟨f, rfl⟩ : ∃ f, fuel = f + 1 := ⟨fuel - 1, by omega⟩
    have hn6 : ¬ (6 : Int32) ≤ nI p := by rw [show (6 : Int32) = nI 6 from rfl, nIle (by omega) (by omega)]; omega
    rw [f_X9_needsAll_l4, if_neg hn6, needsM_eq hd (by omega) hn h]
    simp only [Option.bind_some]
    rw [nIp]
    exact ih (p + 1) f (by omega) (by omega)
theorem needsAll_eq {M : Mem} {d n : Nat} (hd : d < 6) (hn : n ≤ 999999) (h : M 107 (3 * d + 1) = nI n) : f_X9_needsAll (nI d) M = some (totN (nI n) 6, M) :=
  needsAll_l hd hn h 6 0 FU (by omega) (by have := FU_ge; omega)
theorem half_bd {n : Nat} (h : n ≤ 99) : nI n / 2 = nI (n / 2) := by
  rw [show (2 : Int32) = nI 2 from rfl, pk_div (by omega) (by omega) (by omega)]
theorem feedsOf_eq {M : Mem} {d k : Nat} {t : Tk} (hd : d < 6) (hk : k < 2) (hT : TkM M d t) :
    ∃ M1 : Mem, f_X9_feedsOf (nI d) (nI k) M = some (kFed t k, M1) ∧ SmM M M1 := by
  have hT0 := hT
  obtain ⟨a, b, c, e, ⟨n, n1, n2, n3, n4⟩, ⟨j, j1, j2⟩, ⟨nu, nu1, nu2⟩, i, r, r1, r2, r3⟩ := hT
  unfold f_X9_feedsOf
  rw [inb_nI hd (by omega), show (3 : Int32) = nI 3 from rfl, pk_mul, inb_nI (show 3 * d < 18 by omega) (by omega), nI_clamp (show 3 * d < 2 ^ 31 by omega), nI_clamp (show d < 2 ^ 31 by omega), a, b]
  simp only [ck_true]
  have ek : (nI k = 1) = (k = 1) := by rw [show (1 : Int32) = nI 1 from rfl, nIeq (by omega) (by omega)]
  by_cases h3 : tK t = 3 ∧ k = 1
  · obtain ⟨h3a, h3b⟩ := h3
    rw [show (nI 3) = 3 from rfl, if_pos h3a, if_pos (by rw [ek]; exact h3b)]
    refine ⟨M, ?_, SmM.refl M⟩
    unfold kFed fedK
    rw [h3a, if_neg (by decide), if_neg (by decide), if_pos rfl, if_pos h3b]
  · have hb : (if tK t = nI 3 then if nI k = 1 then some (tN t, M) else f_X9_feedsOf_b30 (nI d) (nI k) (tK t) (tN t) M else f_X9_feedsOf_b30 (nI d) (nI k) (tK t) (tN t) M) = f_X9_feedsOf_b30 (nI d) (nI k) (tK t) (tN t) M := by
      by_cases h : tK t = nI 3
      · rw [if_pos h, if_neg (by rw [ek]; exact fun h1 => h3 ⟨h, h1⟩)]
      · rw [if_neg h]
    rw [hb]
    unfold f_X9_feedsOf_b30
    rw [needsAll_eq hd n1 n2]
    simp only [Option.bind_some]
    obtain ⟨M1, g1, s1⟩ := says_eq hd hk (w := 0) (by omega) hT0 0 (totN (nI n) 6)
    have g1 : f_X9_says 0 (nI d) (nI k) 0 (totN (nI n) 6) M = some (bd (kAsk t 0 0 (totN (nI n) 6) k), M1) := by
      have := g1
      rw [if_neg (by omega)] at this
      exact this
    rw [g1, ← n4]
    simp only [Option.bind_some]
    refine ⟨M1, ?_, s1⟩
    obtain ⟨v, v1, v2⟩ := bd_of (kAsk t 0 0 (tT t) k)
    unfold kFed fedK
    rw [v2]
    have hh : M1 100 7 = tH t := by rw [s1.2 7 (by omega)]; exact c
    rw [hh, nu2]
    unfold f_X9_feedsOf_b55 f_X9_feedsOf_b98 f_X9_feedsOf_b117
    simp only [within_eq, Option.bind_some]
    have m2 : (2 : Int32) * nI v = nI v * 2 := by rw [show (2 : Int32) = nI 2 from rfl, pk_mul, pk_mul, Nat.mul_comm]
    by_cases k1 : tK t = 1
    · rw [if_pos k1, if_pos k1, m2]
    · rw [if_neg k1, if_neg k1]
      by_cases k3 : tK t = 3
      · rw [if_pos k3, if_neg (by rw [k3]; decide), if_pos k3, if_neg (fun h => h3 ⟨k3, h⟩), m2]
      · rw [if_neg k3]
        by_cases k2 : tK t = 2
        · rw [if_pos k2, if_pos k2, half_bd v1, bd_nI (by omega)]
        · rw [if_neg k2, if_neg k2, if_neg k3]
          by_cases k4 : tK t = 4
          · rw [if_pos k4, if_pos k4, half_bd v1]
            by_cases h0 : jrem (tH t) 4 = 0
            · rw [if_pos h0, if_pos h0, show (10 : Int32) = nI 10 from rfl, nI_add, bd_nI (by omega)]
            · rw [if_neg h0, if_neg h0, show (0 : Int32) = nI 0 from rfl, nI_add, bd_nI (by omega)]
              simp
          · rw [if_neg k4, if_neg k4]
            by_cases k5 : tK t = 5
            · rw [if_pos k5, if_pos k5]
            · rw [if_neg k5, if_neg k5, bd_nI v1]
theorem kCr_alt (t : Tk) (k : Nat) (st : Nat → Int32) (p : Nat) (M : Mem) : (if (0 : Int32) ≤ tD t p - st (6 * k + p) then some (tD t p - st (6 * k + p), M) else some (0, M)) = some (kCr t k st p, M) := by
  unfold kCr jmax
  generalize tD t p - st (6 * k + p) = x
  by_cases h : (0 : Int32) ≤ x
  · rw [if_pos h]
    by_cases h2 : 0 < x
    · rw [if_pos h2]
    · rw [if_neg h2]
      have : x = 0 := by rw [i_lt] at h2; rw [i_le] at h; rw [i_eq]; omega
      rw [this]
  · rw [if_neg h, if_neg (by rw [i_lt]; rw [i_le] at h; omega)]
theorem crossOf_eq {M : Mem} {d k p : Nat} {t : Tk} (hd : d < 6) (hk : k < 2) (hp : p < 6) (hT : TkM M d t) : f_X9_crossOf (nI d) (nI k) (nI p) M = some (kCr t k (M 104) p, M) := by
  obtain ⟨a, b, c, e, ⟨n, n1, n2, n3, n4⟩, _⟩ := hT
  unfold f_X9_crossOf
  rw [needsM_eq hd hp n1 n2, ← n3 p hp]
  simp only [Option.bind_some]
  rw [show (6 : Int32) = nI 6 from rfl, pk_mul, nI_add, inb_nI (show 6 * k + p < 12 by omega) (by omega), nI_clamp (by omega)]
  simp only [ck_true]
  exact kCr_alt t k (M 104) p M
theorem tollPart_eq {M : Mem} {d k p : Nat} {t : Tk} (hd : d < 6) (hk : k < 2) (hp : p < 6) (hT : TkM M d t) (much : Int32) :
    ∃ M1 : Mem, f_X9_tollPart (nI d) (nI k) (nI p) much M = some (kTp t k p much, M1) ∧ SmM M M1 := by
  have hT0 := hT
  obtain ⟨a, b, c, e, f, ⟨j, j1, j2⟩, ⟨nu, nu1, nu2⟩, i, r, r1, r2, r3⟩ := hT
  obtain ⟨M1, g1, s1⟩ := says_eq hd hk (w := 1) (by omega) hT0 (nI p) much
  have g1 : f_X9_says 1 (nI d) (nI k) (nI p) much M = some (bd (kAsk t 1 (nI p) much k), M1) := by
    have := g1
    rw [if_neg (by omega)] at this
    exact this
  unfold f_X9_tollPart
  rw [inb_nI hd (by omega), nI_clamp (show d < 2 ^ 31 by omega), a]
  simp only [ck_true]
  unfold f_X9_tollPart_b26
  have b72 : (tK t = 0 ∨ tK t = 2 ∨ (tK t = 4 ∧ ¬ nI p = jrem (tN t) 6)) → f_X9_tollPart_b72 (nI d) (nI k) (nI p) much (tK t) M = some (kTp t k p much, M1) := by
    intro h
    unfold f_X9_tollPart_b72 f_X9_tollPart_b99
    rw [g1]
    simp only [Option.bind_some, within_eq]
    unfold kTp tollK
    obtain ⟨v, v1, v2⟩ := bd_of (kAsk t 1 (nI p) much k)
    rw [v2]
    have m2 : much * nI v = nI v * much := Int32.mul_comm _ _
    rcases h with h | h | h
    · rw [if_pos h, h, bd_nI v1]; rfl
    · rw [h, m2]; rfl
    · rw [h.1, if_neg (by decide), if_neg (by decide), if_neg (by decide), if_neg (by decide), if_pos rfl, if_neg h.2, m2]
  by_cases k1 : tK t = 1
  · rw [if_pos k1, if_pos k1]
    exact ⟨M, by unfold kTp tollK; rw [if_pos k1], SmM.refl M⟩
  · rw [if_neg k1]
    by_cases k3 : tK t = 3
    · rw [if_pos k3, k3, if_neg (by decide), if_pos rfl]
      exact ⟨M, by unfold kTp tollK; rw [k3]; rfl, SmM.refl M⟩
    · rw [if_neg k3]
      by_cases k5 : tK t = 5
      · rw [if_pos k5, k5, if_neg (by decide), if_neg (by decide)]
        exact ⟨M, by unfold kTp tollK; rw [k5]; rfl, SmM.refl M⟩
      · rw [if_neg k5]
        by_cases k4 : tK t = 4
        · rw [if_pos k4, show (3 : Int32) = nI 3 from rfl, pk_mul, inb_nI (show 3 * d < 18 by omega) (by omega), nI_clamp (show 3 * d < 2 ^ 31 by omega), b]
          simp only [ck_true]
          by_cases hp6 : nI p = jrem (tN t) 6
          · rw [if_pos hp6]
            exact ⟨M, by unfold kTp tollK; rw [k4, if_neg (by decide), if_neg (by decide), if_neg (by decide), if_pos rfl, if_pos hp6], SmM.refl M⟩
          · rw [if_neg hp6, b72 (Or.inr (Or.inr ⟨k4, hp6⟩))]
            exact ⟨M1, rfl, s1⟩
        · rw [if_neg k4]
          have : tK t = 0 ∨ tK t = 2 := by
            rw [j2] at k1 k3 k4 k5 ⊢
            rcases Nat.lt_or_ge j 1 with h | h
            · have : j = 0 := by omega
              subst this; exact Or.inl rfl
            · have : j = 2 := by
                rcases Nat.lt_or_ge j 2 with h2 | h2
                · exact absurd (show nI j = 1 by rw [show j = 1 by omega]; rfl) k1
                · rcases Nat.lt_or_ge j 3 with h3 | h3
                  · omega
                  · rcases Nat.lt_or_ge j 4 with h4 | h4
                    · exact absurd (show nI j = 3 by rw [show j = 3 by omega]; rfl) k3
                    · rcases Nat.lt_or_ge j 5 with h5 | h5
                      · exact absurd (show nI j = 4 by rw [show j = 4 by omega]; rfl) k4
                      · exact absurd (show nI j = 5 by rw [show j = 5 by omega]; rfl) k5
              subst this; exact Or.inr rfl
          rw [b72 (by rcases this with h | h; exact Or.inl h; exact Or.inr (Or.inl h))]
          exact ⟨M1, rfl, s1⟩
theorem tollOf_l {d k : Nat} {t : Tk} {st : Nat → Int32} (hd : d < 6) (hk : k < 2) : ∀ (n p fuel : Nat) (M : Mem), p + n = 6 → n < fuel → TkM M d t → M 104 = st →
    ∃ M1 : Mem, f_X9_tollOf_l5 fuel (nI d) (nI k) (tollN t k st p) (nI p) M = some (kToll t k st, M1) ∧ SmM M M1 := by
  intro n
  induction n with
  | zero =>
    intro p fuel M hp hf hT hst
    obtain ⟨f, rfl⟩ : ∃ f, fuel = f + 1 := ⟨fuel - 1, by omega⟩
    have e6 : p = 6 := by omega
    subst e6
    exact ⟨M, by rw [f_X9_tollOf_l5, if_pos (id (by decide) : (6 : Int32) ≤ nI 6)]; rfl, SmM.refl M⟩
  | succ n ih =>
    intro p fuel M hp hf hT hst
    obtain ⟨f, rfl⟩ : ∃ f, fuel = f + 1 := ⟨fuel - 1, by omega⟩
    have hn6 : ¬ (6 : Int32) ≤ nI p := by rw [show (6 : Int32) = nI 6 from rfl, nIle (by omega) (by omega)]; omega
    rw [f_X9_tollOf_l5, if_neg hn6, crossOf_eq hd hk (by omega) hT, hst]
    simp only [Option.bind_some]
    unfold f_X9_tollOf_b42
    by_cases hc : kCr t k st p ≤ 0
    · rw [if_pos hc, nIp]
      obtain ⟨M1, g1, g2⟩ := ih (p + 1) f M (by omega) (by omega) hT hst
      refine ⟨M1, ?_, g2⟩
      rw [← g1]
      congr 1
      show tollN t k st p + 0 = if _ then _ else _
      rw [if_pos hc]; simp
    · rw [if_neg hc]
      obtain ⟨M2, a1, a2⟩ := tollPart_eq hd hk (show p < 6 by omega) hT (kCr t k st p)
      rw [a1]
      simp only [Option.bind_some]
      rw [nIp]
      obtain ⟨M1, g1, g2⟩ := ih (p + 1) f M2 (by omega) (by omega) (hT.sm a2) (by rw [a2.1 104 (by omega)]; exact hst)
      refine ⟨M1, ?_, a2.trans g2⟩
      rw [← g1]
      congr 1
      show _ = if _ then _ else _
      rw [if_neg hc]
theorem tollOf_eq {M : Mem} {d k : Nat} {t : Tk} (hd : d < 6) (hk : k < 2) (hT : TkM M d t) : ∃ M1 : Mem, f_X9_tollOf (nI d) (nI k) M = some (kToll t k (M 104), M1) ∧ SmM M M1 :=
  tollOf_l hd hk 6 0 FU M (by omega) (by have := FU_ge; omega) hT rfl
theorem signsAt_eq {M : Mem} {d k i : Nat} {t : Tk} (hd : d < 6) (hk : k < 2) (hi : i < 2) (hT : TkM M d t) (toll : Int32) :
    ∃ M1 : Mem, f_X9_signsAt (nI d) (nI k) (nI i) toll M = some (zI (kSg t k i toll), M1) ∧ SmM M M1 := by
  have hT0 := hT
  obtain ⟨a, b, c, e, f, g, g2, ic, r, r1, r2, r3⟩ := hT
  obtain ⟨M1, g1, s1⟩ := says_eq hd hi (w := 2) (by omega) hT0 0 toll
  have g1 : f_X9_says 2 (nI d) (nI i) 0 toll M = some (kAsk t 2 0 toll i, M1) := g1
  have e1 : M1 105 i = tP t i := by rw [s1.1 105 (by omega)]; exact e i hi
  have eki : (nI k = nI i) = (i = k) := by rw [nIeq (by omega) (by omega)]; exact propext ⟨Eq.symm, Eq.symm⟩
  unfold f_X9_signsAt
  rw [inb_nI hd (by omega), nI_clamp (show d < 2 ^ 31 by omega), a]
  simp only [ck_true]
  have b35 : tK t ≠ 1 → tK t ≠ 3 → ¬ (tK t = 4 ∧ i = k) → f_X9_signsAt_b35 (nI d) (nI k) (nI i) toll (tK t) M = some (zI (kSg t k i toll), M1) := by
    intro n1 n3 n4
    unfold f_X9_signsAt_b35
    rw [g1]
    simp only [Option.bind_some]
    have b53 : ∀ y : Bool, f_X9_signsAt_b53 (nI k) (nI i) toll (tK t) (zI y) M1 = some (zI (sgK (tK t) y (decide (i = k)) (!decide (tP t i ≤ toll))), M1) := by
      intro y
      unfold f_X9_signsAt_b53 f_X9_signsAt_b67 sgK
      rw [inb_nI hi (by omega), nI_clamp (by omega), e1, zI_zb]
      simp only [ck_true, zI_0, eki]
      rw [if_neg n1]
      by_cases k2 : tK t = 2
      · rw [if_pos k2, if_pos k2]
        cases y
        · rfl
        · by_cases h : tP t i ≤ toll
          · rw [if_neg (by decide), if_pos h, decide_eq_true h]; rfl
          · rw [if_neg (by decide), if_neg h, decide_eq_false h]; rfl
      · rw [if_neg k2, if_neg k2, if_neg n3]
        by_cases k4 : tK t = 4
        · rw [if_pos k4, if_pos k4]
          have : ¬ i = k := fun h => n4 ⟨k4, h⟩
          rw [decide_eq_false this]
          cases y
          · rfl
          · by_cases h : tP t i ≤ toll
            · rw [if_neg (by decide), if_pos h, decide_eq_true h]; rfl
            · rw [if_neg (by decide), if_neg h, decide_eq_false h]; rfl
        · rw [if_neg k4, if_neg k4]
          by_cases k5 : tK t = 5
          · rw [if_pos k5, if_pos k5]
            cases y
            · by_cases h : i = k
              · rw [if_pos rfl, if_pos h, decide_eq_true h]; rfl
              · rw [if_pos rfl, if_neg h, decide_eq_false h]; rfl
            · rfl
          · rw [if_neg k5, if_neg k5]
    unfold kSg
    by_cases hy : kAsk t 2 0 toll i = 0
    · rw [if_pos hy, decide_eq_true hy]; exact b53 false
    · rw [if_neg hy, decide_eq_false hy]; exact b53 true
  by_cases k1 : tK t = 1
  · rw [if_pos k1]
    exact ⟨M, by unfold kSg sgK; rw [if_pos k1]; rfl, SmM.refl M⟩
  · rw [if_neg k1]
    by_cases k3 : tK t = 3
    · rw [if_pos k3]
      exact ⟨M, by unfold kSg sgK; rw [k3]; rfl, SmM.refl M⟩
    · rw [if_neg k3]
      by_cases k4 : tK t = 4
      · rw [if_pos k4]
        by_cases h : i = k
        · rw [if_pos (show nI k = nI i by rw [eki]; exact h)]
          exact ⟨M, by unfold kSg sgK; rw [k4, if_neg (by decide), if_neg (by decide), if_neg (by decide), if_pos rfl, decide_eq_true h]; simp [zI], SmM.refl M⟩
        · rw [if_neg (show ¬ nI k = nI i by rw [eki]; exact h), b35 k1 k3 (fun q => h q.2)]
          exact ⟨M1, rfl, s1⟩
      · rw [if_neg k4, b35 k1 k3 (fun q => k4 q.1)]
        exact ⟨M1, rfl, s1⟩
theorem sgM0_eq {M : Mem} {d k : Nat} {t : Tk} (hd : d < 6) (hk : k < 2) (hT : TkM M d t) (toll : Int32) : ∃ M1 : Mem, f_X9_signsAt (nI d) (nI k) 0 toll M = some (zI (kSg t k 0 toll), M1) ∧ SmM M M1 := signsAt_eq hd hk (i := 0) (by omega) hT toll
theorem sgM1_eq {M : Mem} {d k : Nat} {t : Tk} (hd : d < 6) (hk : k < 2) (hT : TkM M d t) (toll : Int32) : ∃ M1 : Mem, f_X9_signsAt (nI d) (nI k) 1 toll M = some (zI (kSg t k 1 toll), M1) ∧ SmM M M1 := signsAt_eq hd hk (i := 1) (by omega) hT toll
theorem canN_false {t : Tk} {k : Nat} {st : Nat → Int32} {p : Nat} (h : canN t k st p = false) : ∀ n, canN t k st (p + n) = false := by
  intro n
  induction n with
  | zero => exact h
  | succ n ih => show (canN t k st (p + n) && _) = false; rw [ih]; rfl
theorem canBe_l {d k : Nat} {t : Tk} {M : Mem} (hd : d < 6) (hk : k < 2) (hT : TkM M d t) : ∀ (n p fuel : Nat), p + n = 6 → n < fuel → canN t k (M 104) p = true → f_X9_canBe_l2 fuel (nI d) (nI k) (nI p) M = some (zI (kCan t k (M 104)), M) := by
  intro n
  induction n with
  | zero =>
    intro p fuel hp hf hc
    obtain ⟨f, rfl⟩ : ∃ f, fuel = f + 1 := ⟨fuel - 1, by omega⟩
    have e6 : p = 6 := by omega
    subst e6
    rw [f_X9_canBe_l2, if_pos (id (by decide) : (6 : Int32) ≤ nI 6)]
    unfold kCan
    rw [hc]; rfl
  | succ n ih =>
    intro p fuel hp hf hc
    obtain ⟨f, rfl⟩ : ∃ f, fuel = f + 1 := ⟨fuel - 1, by omega⟩
    have hn6 : ¬ (6 : Int32) ≤ nI p := by rw [show (6 : Int32) = nI 6 from rfl, nIle (by omega) (by omega)]; omega
    rw [f_X9_canBe_l2, if_neg hn6, crossOf_eq hd hk (by omega) hT]
    simp only [Option.bind_some]
    rw [show (1 : Int32) = nI 1 from rfl, pk_sub (by omega), show (6 : Int32) = nI 6 from rfl, pk_mul, nI_add, inb_nI (show 6 * (1 - k) + p < 12 by omega) (by omega), nI_clamp (by omega)]
    simp only [ck_true]
    by_cases h : kCr t k (M 104) p ≤ M 104 (6 * (1 - k) + p)
    · rw [if_pos h, nI_add]
      refine ih (p + 1) f (by omega) (by omega) ?_
      show (canN t k (M 104) p && !decide _) = true
      rw [hc, decide_eq_false (by rw [i_lt]; rw [i_le] at h; omega)]; rfl
    · rw [if_neg h]
      have : canN t k (M 104) (p + 1) = false := by
        show (canN t k (M 104) p && !decide _) = false
        rw [decide_eq_true (by rw [i_lt]; rw [i_le] at h; omega)]; simp
      have := canN_false this n
      unfold kCan
      rw [show 6 = p + 1 + n by omega, this]; rfl
theorem canBe_eq {d k : Nat} {t : Tk} {M : Mem} (hd : d < 6) (hk : k < 2) (hT : TkM M d t) : f_X9_canBe (nI d) (nI k) M = some (zI (kCan t k (M 104)), M) :=
  canBe_l hd hk hT 6 0 FU (by omega) (by have := FU_ge; omega) rfl
/-- both sign -/
def kRat (t : Tk) (k : Nat) (st : Nat → Int32) : Bool := kSg t k 0 (kToll t k st) && kSg t k 1 (kToll t k st)
theorem kCk_eq (t : Tk) (k : Nat) (st : Nat → Int32) : kCk t k st = (kCan t k st && kRat t k st) := rfl
theorem isRatified_eq {d k : Nat} {t : Tk} {M : Mem} (hd : d < 6) (hk : k < 2) (hT : TkM M d t) : ∃ M1 : Mem, f_X9_isRatified (nI d) (nI k) M = some (zI (kRat t k (M 104)), M1) ∧ SmM M M1 := by
  unfold f_X9_isRatified
  obtain ⟨M2, a1, a2⟩ := tollOf_eq hd hk hT
  rw [a1]
  simp only [Option.bind_some]
  obtain ⟨M3, b1, b2⟩ := sgM0_eq hd hk (hT.sm a2) (kToll t k (M 104))
  rw [b1]
  simp only [Option.bind_some]
  unfold kRat
  cases h0 : kSg t k 0 (kToll t k (M 104)) with
  | false => exact ⟨M3, rfl, a2.trans b2⟩
  | true =>
    obtain ⟨M4, c1, c2⟩ := sgM1_eq hd hk ((hT.sm a2).sm b2) (kToll t k (M 104))
    rw [if_neg (by decide), c1]
    simp only [Option.bind_some]
    refine ⟨M4, ?_, (a2.trans b2).trans c2⟩
    cases kSg t k 1 (kToll t k (M 104)) <;> rfl
theorem isCookedM_eq {d k : Nat} {t : Tk} {M : Mem} (hd : d < 6) (hk : k < 2) (hT : TkM M d t) : ∃ M1 : Mem, f_X9_isCooked (nI d) (nI k) M = some (zI (kCk t k (M 104)), M1) ∧ SmM M M1 := by
  unfold f_X9_isCooked
  rw [canBe_eq hd hk hT]
  simp only [Option.bind_some]
  rw [kCk_eq]
  cases kCan t k (M 104) with
  | false => exact ⟨M, rfl, SmM.refl M⟩
  | true =>
    rw [if_neg (by decide)]
    obtain ⟨M2, a1, a2⟩ := isRatified_eq hd hk hT
    rw [a1]
    simp only [Option.bind_some]
    refine ⟨M2, ?_, a2⟩
    cases kRat t k (M 104) <;> rfl
theorem crossAll_l {d k : Nat} {t : Tk} {M : Mem} (hd : d < 6) (hk : k < 2) (hT : TkM M d t) : ∀ (n p fuel : Nat), p + n = 6 → n < fuel → f_X9_crossAll_l5 fuel (nI d) (nI k) (crN t k (M 104) p) (nI p) M = some (crN t k (M 104) 6, M) := by
  intro n
  induction n with
  | zero =>
    intro p fuel hp hf
    obtain ⟨f, rfl⟩ : ∃ f, fuel = f + 1 := ⟨fuel - 1, by omega⟩
    have e6 : p = 6 := by omega
    subst e6
    rw [f_X9_crossAll_l5, if_pos (id (by decide) : (6 : Int32) ≤ nI 6)]
  | succ n ih =>
    intro p fuel hp hf
    obtain ⟨f, rfl⟩ : ∃ f, fuel = f + 1 := ⟨fuel - 1, by omega⟩
    have hn6 : ¬ (6 : Int32) ≤ nI p := by rw [show (6 : Int32) = nI 6 from rfl, nIle (by omega) (by omega)]; omega
    rw [f_X9_crossAll_l5, if_neg hn6, crossOf_eq hd hk (by omega) hT]
    simp only [Option.bind_some]
    rw [nIp]
    exact ih (p + 1) f (by omega) (by omega)
theorem crossAll_eq {d k : Nat} {t : Tk} {M : Mem} (hd : d < 6) (hk : k < 2) (hT : TkM M d t) : f_X9_crossAll (nI d) (nI k) M = some (crN t k (M 104) 6, M) :=
  crossAll_l hd hk hT 6 0 FU (by omega) (by have := FU_ge; omega)
/-- what a dish crosses only hangs on its own part -/
theorem kCr_congr {t : Tk} {k p : Nat} {s1 s2 : Nat → Int32} (h : s1 (6 * k + p) = s2 (6 * k + p)) : kCr t k s1 p = kCr t k s2 p := by unfold kCr; rw [h]
theorem uses_l {d k : Nat} {t : Tk} {st : Nat → Int32} (hd : d < 6) (hk : k < 2) : ∀ (n p fuel : Nat) (M : Mem), p + n = 6 → n < fuel → TkM M d t → (∀ j, j < 12 → M 104 j = useN t k st p j) →
    ∃ M1 : Mem, f_X9_uses_l2 fuel (nI d) (nI k) (nI p) M = some M1 ∧ (∀ j, j < 12 → M1 104 j = kUse t k st j) ∧ ∀ r, r ≠ 104 → M1 r = M r := by
  intro n
  induction n with
  | zero =>
    intro p fuel M hp hf hT hS
    obtain ⟨f, rfl⟩ : ∃ f, fuel = f + 1 := ⟨fuel - 1, by omega⟩
    have e6 : p = 6 := by omega
    subst e6
    refine ⟨M, by rw [f_X9_uses_l2, if_pos (id (by decide) : (6 : Int32) ≤ nI 6)], fun j hj => ?_, fun _ _ => rfl⟩
    rw [hS j hj]
    unfold useN
    rw [if_pos (by omega)]
  | succ n ih =>
    intro p fuel M hp hf hT hS
    obtain ⟨f, rfl⟩ : ∃ f, fuel = f + 1 := ⟨fuel - 1, by omega⟩
    have hn6 : ¬ (6 : Int32) ≤ nI p := by rw [show (6 : Int32) = nI 6 from rfl, nIle (by omega) (by omega)]; omega
    have h1 : M 104 (6 * k + p) = st (6 * k + p) := by rw [hS _ (by omega)]; unfold useN; rw [if_neg (by omega)]
    have h2 : M 104 (6 * (1 - k) + p) = st (6 * (1 - k) + p) := by rw [hS _ (by omega)]; unfold useN; rw [if_neg (by omega)]
    obtain ⟨m, m1, m2, m3, m4⟩ := hT.2.2.2.2.1
    rw [f_X9_uses_l2, if_neg hn6, crossOf_eq hd hk (by omega) hT, kCr_congr h1]
    simp only [Option.bind_some]
    rw [needsM_eq hd (by omega) m1 m2, ← m3 p (by omega)]
    simp only [Option.bind_some]
    have hne : 6 * (1 - k) + p ≠ 6 * k + p := by omega
    rw [show (1 : Int32) = nI 1 from rfl, pk_sub (by omega), show (6 : Int32) = nI 6 from rfl, pk_mul, pk_mul, nI_add, nI_add, inb_nI (show 6 * (1 - k) + p < 12 by omega) (by omega), inb_nI (show 6 * k + p < 12 by omega) (by omega), nI_clamp (show 6 * k + p < 2 ^ 31 by omega), nI_clamp (show 6 * (1 - k) + p < 2 ^ 31 by omega)]
    simp only [ck_true]
    rw [show mu M 104 (6 * k + p) (M 104 (6 * k + p) - (tD t p - kCr t k st p)) 104 (6 * (1 - k) + p) = M 104 (6 * (1 - k) + p) by rw [mus, upn hne]]
    rw [h1, h2, nI_add]
    obtain ⟨M1, g1, g2, g3⟩ := ih (p + 1) f (mu (mu M 104 (6 * k + p) (st (6 * k + p) - (tD t p - kCr t k st p))) 104 (6 * (1 - k) + p) (st (6 * (1 - k) + p) - kCr t k st p)) (by omega) (by omega) (hT.keep (fun r hr => by rw [mun (by omega), mun (by omega)]) (by rw [mun (by omega), mun (by omega)]) (by rw [mun (by omega), mun (by omega)])) (fun j hj => by
      rw [mus, mus]
      by_cases e1 : j = 6 * (1 - k) + p
      · subst e1
        rw [ups]
        unfold useN kUse
        rw [if_pos (by omega), if_neg (by omega), show (6 * (1 - k) + p) % 6 = p by omega]
      · rw [upn e1]
        by_cases e2 : j = 6 * k + p
        · subst e2
          rw [ups]
          unfold useN kUse
          rw [if_pos (by omega), if_pos (by omega), show (6 * k + p) % 6 = p by omega]
        · rw [upn e2, hS j hj]
          unfold useN
          have : j % 6 ≠ p := by omega
          by_cases e3 : j % 6 < p
          · rw [if_pos e3, if_pos (by omega)]
          · rw [if_neg e3, if_neg (by omega)])
    exact ⟨M1, g1, g2, fun r hr => by rw [g3 r hr, mun hr, mun hr]⟩
theorem uses_eq {d k : Nat} {t : Tk} {M : Mem} (hd : d < 6) (hk : k < 2) (hT : TkM M d t) : ∃ M1 : Mem, f_X9_uses (nI d) (nI k) M = some M1 ∧ (∀ j, j < 12 → M1 104 j = kUse t k (M 104) j) ∧ ∀ r, r ≠ 104 → M1 r = M r :=
  uses_l (st := M 104) hd hk 6 0 FU M (by omega) (by have := FU_ge; omega) hT (fun j _ => by unfold useN; rw [if_neg (by omega)])
end
section
/-! TOKENS: both readers side by side -/
def runTo (P : Nat → Bool) (n : Nat) : Nat → Nat → Nat
  | 0, i => i
  | f + 1, i => if i < n ∧ P i = true then runTo P n f (i + 1) else i
/-- the first place from i on where P does not hold, or n -/
def stp (P : Nat → Bool) (n i : Nat) : Nat := runTo P n (n - i) i
theorem stp_stop {P : Nat → Bool} {n i : Nat} (h : ¬ (i < n ∧ P i = true)) : stp P n i = i := by
  unfold stp
  cases hx : n - i with
  | zero => rfl
  | succ f => show (if _ then _ else _) = i; rw [if_neg h]
theorem stp_go {P : Nat → Bool} {n i : Nat} (h : i < n) (h2 : P i = true) : stp P n i = stp P n (i + 1) := by
  unfold stp
  obtain ⟨f, hf⟩ : ∃ f, n - i = f + 1 := ⟨n - i - 1, by omega⟩
  rw [hf, show n - (i + 1) = f by omega]
  show (if _ then _ else _) = _
  rw [if_pos ⟨h, h2⟩]
theorem stp_facts (P : Nat → Bool) (n : Nat) : ∀ (m i : Nat), n - i = m → i ≤ n → i ≤ stp P n i ∧ stp P n i ≤ n ∧ (∀ j, i ≤ j → j < stp P n i → P j = true) ∧ (stp P n i < n → P (stp P n i) = false) := by
  intro m
  induction m with
  | zero =>
    intro i hm hi
    have hin : ¬ (i < n ∧ P i = true) := fun h => by omega
    rw [stp_stop hin]
    exact ⟨Nat.le_refl _, hi, fun j h1 h2 => by omega, fun h => by omega⟩
  | succ m ih =>
    intro i hm hi
    by_cases hp : P i = true
    · obtain ⟨a, b, c, d⟩ := ih (i + 1) (by omega) (by omega)
      rw [stp_go (by omega) hp]
      refine ⟨by omega, b, fun j h1 h2 => ?_, d⟩
      by_cases e : j = i
      · subst e; exact hp
      · exact c j (by omega) h2
    · rw [stp_stop (fun h => hp h.2)]
      exact ⟨Nat.le_refl _, hi, fun j h1 h2 => by omega, fun _ => by cases hx : P i; rfl; exact absurd hx hp⟩
theorem mu_mu (M : Mem) (p k : Nat) (a b : Int32) : mu (mu M p k a) p k b = mu M p k b := by
  funext q j
  by_cases h : q = p
  · subst h
    rw [mus, mus, mus]
    by_cases e : j = k
    · subst e; rw [ups, ups]
    · rw [upn e, upn e, upn e]
  · rw [mun h, mun h, mun h]
theorem mu_id {M : Mem} {p k : Nat} {v : Int32} (h : M p k = v) : mu M p k v = M := by
  funext q j
  by_cases hq : q = p
  · subst hq
    rw [mus]
    by_cases e : j = k
    · subst e; rw [ups, h]
    · rw [upn e]
  · rw [mun hq]
theorem mu_at {M : Mem} {p k : Nat} {v : Int32} : mu M p k v p k = v := by rw [mus, ups]
theorem mu_o {M : Mem} {p k j : Nat} {v : Int32} (h : j ≠ k) : mu M p k v p j = M p j := by rw [mus, upn h]
/-- THE TAPE holds n bytes B -/
def BC (M : Mem) (n : Nat) (B : Nat → Nat) : Prop := M 34 1 = nI n ∧ ∀ j, j < n → M 35 j = nI (B j)
/-- the text at hand is n bytes B, from f on -/
def BM (M : Mem) (f n : Nat) (B : Nat → Nat) : Prop := M 100 19 = nI f ∧ M 100 20 = nI n ∧ f + 160 ≤ 960 ∧ ∀ j, j < n → M 101 (f + j) = nI (B j)
theorem BC.mu {M : Mem} {n : Nat} {B : Nat → Nat} (h : BC M n B) {k : Nat} {v : Int32} (hk : k ≠ 1) : BC (mu M 34 k v) n B := ⟨by rw [mu_o (Ne.symm hk)]; exact h.1, fun j hj => by rw [mun (by omega)]; exact h.2 j hj⟩
theorem BM.mu {M : Mem} {f n : Nat} {B : Nat → Nat} (h : BM M f n B) {k : Nat} {v : Int32} (hk : k ≠ 19 ∧ k ≠ 20) : BM (mu M 100 k v) f n B := ⟨by rw [mu_o (by omega)]; exact h.1, by rw [mu_o (by omega)]; exact h.2.1, h.2.2.1, fun j hj => by rw [mun (by omega)]; exact h.2.2.2 j hj⟩
def isBl (b : Nat) : Bool := b == 32 || b == 10
def isLt (b : Nat) : Bool := decide (97 ≤ b) && decide (b ≤ 122)
def isDg (b : Nat) : Bool := decide (48 ≤ b) && decide (b ≤ 57)
def isSg (b : Nat) : Bool := b == 40 || b == 41 || b == 59 || b == 43 || b == 45 || b == 42 || b == 60 || b == 61
theorem isLetC {b : Nat} (hb : b < 256) (M : Mem) : f_X5_isLetter (nI b) M = some (zI (isLt b), M) := by
  unfold f_X5_isLetter isLt
  rw [show (97 : Int32) = nI 97 from rfl, show (122 : Int32) = nI 122 from rfl]
  by_cases h1 : b < 97
  · rw [if_pos (nI_lt h1 (by omega)), decide_eq_false (by omega)]; rfl
  · rw [if_neg (nI_nlt (by omega) (by omega)), decide_eq_true (by omega)]
    by_cases h2 : 122 < b
    · rw [if_pos (nI_lt h2 (by omega)), decide_eq_false (by omega)]; rfl
    · rw [if_neg (nI_nlt (by omega) (by omega)), decide_eq_true (by omega)]; rfl
theorem isDigC {b : Nat} (hb : b < 256) (M : Mem) : f_X5_isDigit (nI b) M = some (zI (isDg b), M) := by
  unfold f_X5_isDigit isDg
  rw [show (48 : Int32) = nI 48 from rfl, show (57 : Int32) = nI 57 from rfl]
  by_cases h1 : b < 48
  · rw [if_pos (nI_lt h1 (by omega)), decide_eq_false (by omega)]; rfl
  · rw [if_neg (nI_nlt (by omega) (by omega)), decide_eq_true (by omega)]
    by_cases h2 : 57 < b
    · rw [if_pos (nI_lt h2 (by omega)), decide_eq_false (by omega)]; rfl
    · rw [if_neg (nI_nlt (by omega) (by omega)), decide_eq_true (by omega)]; rfl
theorem isSgC {b : Nat} (hb : b < 256) (M : Mem) : f_X5_isSign (nI b) M = some (zI (isSg b), M) := by
  have h : ∀ b, b < 256 → f_X5_isSign (nI b) = fun M => some (zI (isSg b), M) := by
    intro b hb
    funext M
    unfold f_X5_isSign isSg
    have e : ∀ c : Nat, c < 256 → (nI b = nI c) = (b = c) := fun c hc => nIeq (by omega) (by omega)
    rw [show (40 : Int32) = nI 40 from rfl, show (41 : Int32) = nI 41 from rfl, show (59 : Int32) = nI 59 from rfl, show (43 : Int32) = nI 43 from rfl, show (45 : Int32) = nI 45 from rfl, show (42 : Int32) = nI 42 from rfl, show (60 : Int32) = nI 60 from rfl, show (61 : Int32) = nI 61 from rfl]
    simp only [e 40 (by omega), e 41 (by omega), e 59 (by omega), e 43 (by omega), e 45 (by omega), e 42 (by omega), e 60 (by omega), e 61 (by omega)]
    by_cases c1 : b = 40
    · simp [c1, zI]
    by_cases c2 : b = 41
    · simp [c2, zI]
    by_cases c3 : b = 59
    · simp [c3, zI]
    by_cases c4 : b = 43
    · simp [c4, zI]
    by_cases c5 : b = 45
    · simp [c5, zI]
    by_cases c6 : b = 42
    · simp [c6, zI]
    by_cases c7 : b = 60
    · simp [c7, zI]
    by_cases c8 : b = 61
    · simp [c8, zI]
    simp [c1, c2, c3, c4, c5, c6, c7, c8, zI]
  rw [h b hb]
theorem skipC (k : Mem → Option Mem) {n : Nat} {B : Nat → Nat} (hn : n ≤ 160) (hB : ∀ j, j < n → B j < 256) : ∀ (m i fuel : Nat) (M : Mem), n - i = m → i ≤ n → m < fuel → BC M n B → M 34 2 = nI i →
    f_X5_advance_l0 k fuel M = k (mu M 34 2 (nI (stp (fun j => isBl (B j)) n i))) := by
  intro m
  induction m with
  | zero =>
    intro i fuel M hm hi hf hC h2
    obtain ⟨f, rfl⟩ : ∃ f, fuel = f + 1 := ⟨fuel - 1, by omega⟩
    rw [f_X5_advance_l0, hC.1, h2, if_pos (nI_le (by omega) (by omega)), stp_stop (fun h => by omega), mu_id h2]
  | succ m ih =>
    intro i fuel M hm hi hf hC h2
    obtain ⟨f, rfl⟩ : ∃ f, fuel = f + 1 := ⟨fuel - 1, by omega⟩
    rw [f_X5_advance_l0, hC.1, h2, if_neg (nI_ge (by omega) (by omega)), inb_nI (show i < 160 by omega) (by omega), nI_clamp (by omega), hC.2 i (by omega)]
    simp only [ck_true]
    have hb := hB i (by omega)
    rw [show (32 : Int32) = nI 32 from rfl, show (10 : Int32) = nI 10 from rfl]
    have go : isBl (B i) = true → f_X5_advance_b39 (f_X5_advance_l0 k f) k M = k (mu M 34 2 (nI (stp (fun j => isBl (B j)) n i))) := by
      intro hbl
      unfold f_X5_advance_b39
      rw [h2, nIp, ih (i + 1) f (mu M 34 2 (nI (i + 1))) (by omega) (by omega) (by omega) (hC.mu (by omega)) mu_at, mu_mu, stp_go (P := fun j => isBl (B j)) (by omega) hbl]
    by_cases c1 : B i = 32
    · rw [if_pos (by rw [c1]), go (by unfold isBl; rw [c1]; rfl)]
    · rw [if_neg (by rw [nIeq (by omega) (by omega)]; exact c1)]
      by_cases c2 : B i = 10
      · rw [if_pos (by rw [c2]), go (by unfold isBl; rw [c2]; rfl)]
      · rw [if_neg (by rw [nIeq (by omega) (by omega)]; exact c2), stp_stop (fun h => by have := h.2; unfold isBl at this; simp [c1, c2] at this), mu_id h2]
theorem wordC (k : Mem → Option Mem) {n : Nat} {B : Nat → Nat} (hn : n ≤ 160) (hB : ∀ j, j < n → B j < 256) : ∀ (m i fuel : Nat) (M : Mem), n - i = m → i ≤ n → m < fuel → BC M n B → M 34 2 = nI i →
    f_X5_advanceWord_l0 k fuel M = k (mu M 34 2 (nI (stp (fun j => isLt (B j)) n i))) := by
  intro m
  induction m with
  | zero =>
    intro i fuel M hm hi hf hC h2
    obtain ⟨f, rfl⟩ : ∃ f, fuel = f + 1 := ⟨fuel - 1, by omega⟩
    rw [f_X5_advanceWord_l0, hC.1, h2, if_pos (nI_le (by omega) (by omega)), stp_stop (fun h => by omega), mu_id h2]
  | succ m ih =>
    intro i fuel M hm hi hf hC h2
    obtain ⟨f, rfl⟩ : ∃ f, fuel = f + 1 := ⟨fuel - 1, by omega⟩
    rw [f_X5_advanceWord_l0, hC.1, h2, if_neg (nI_ge (by omega) (by omega)), inb_nI (show i < 160 by omega) (by omega), nI_clamp (by omega), hC.2 i (by omega), isLetC (hB i (by omega))]
    simp only [ck_true, Option.bind_some, zI_0]
    by_cases c1 : isLt (B i) = true
    · rw [if_neg (by rw [c1]; decide), h2, nIp, ih (i + 1) f (mu M 34 2 (nI (i + 1))) (by omega) (by omega) (by omega) (hC.mu (by omega)) mu_at, mu_mu, stp_go (P := fun j => isLt (B j)) (by omega) c1]
    · rw [if_pos (by cases hx : isLt (B i); rfl; exact absurd hx c1), stp_stop (P := fun j => isLt (B j)) (fun h => c1 h.2), mu_id h2]
/-- the first four digits -/
def nmN (B : Nat → Nat) (p : Nat) : Nat → Nat
  | 0 => 0
  | c + 1 => if c < 4 then nmN B p c * 10 + (B (p + c) - 48) else nmN B p c
theorem nmN_s (B : Nat → Nat) (p c : Nat) : nmN B p (c + 1) = if c < 4 then nmN B p c * 10 + (B (p + c) - 48) else nmN B p c := rfl
theorem nmN_le (B : Nat → Nat) (p : Nat) : ∀ c, (∀ i, i < c → isDg (B (p + i)) = true) → nmN B p c + 1 ≤ 10 ^ (min c 4) := by
  intro c
  induction c with
  | zero => intro _; exact Nat.le_refl 1
  | succ c ih =>
    intro h
    have a := ih (fun i hi => h i (by omega))
    have b := h c (by omega)
    unfold isDg at b
    simp only [Bool.and_eq_true, decide_eq_true_eq] at b
    unfold nmN
    by_cases hc : c < 4
    · rw [if_pos hc, show min (c + 1) 4 = c + 1 by omega, Nat.pow_succ]
      rw [show min c 4 = c by omega] at a
      omega
    · rw [if_neg hc, show min (c + 1) 4 = 4 by omega]
      rw [show min c 4 = 4 by omega] at a
      exact a
theorem nmN_lt (B : Nat → Nat) (p c : Nat) (h : ∀ i, i < c → isDg (B (p + i)) = true) : nmN B p c < 10000 := by
  have := nmN_le B p c h
  have h2 : 10 ^ (min c 4) ≤ 10000 := by
    have : ∀ x, x ≤ 4 → 10 ^ x ≤ 10000 := by decide
    exact this _ (by omega)
  omega
theorem numC (k : Mem → Option Mem) {n p : Nat} {B : Nat → Nat} (hn : n ≤ 160) (hB : ∀ j, j < n → B j < 256) : ∀ (m i fuel : Nat) (M : Mem), n - i = m → i ≤ n → p ≤ i → m < fuel → BC M n B → M 34 2 = nI i → M 34 4 = nI p → M 34 5 = nI (nmN B p (i - p)) → (∀ j, p ≤ j → j < i → isDg (B j) = true) →
    f_X5_advanceNumber_l5 k fuel M = k (mu (mu M 34 5 (nI (nmN B p (stp (fun j => isDg (B j)) n i - p)))) 34 2 (nI (stp (fun j => isDg (B j)) n i))) := by
  intro m
  induction m with
  | zero =>
    intro i fuel M hm hi hp hf hC h2 h4 h5 hd
    obtain ⟨f, rfl⟩ : ∃ f, fuel = f + 1 := ⟨fuel - 1, by omega⟩
    rw [f_X5_advanceNumber_l5, hC.1, h2, if_pos (nI_le (by omega) (by omega)), stp_stop (fun h => by omega), mu_id h5, mu_id h2]
  | succ m ih =>
    intro i fuel M hm hi hp hf hC h2 h4 h5 hd
    obtain ⟨f, rfl⟩ : ∃ f, fuel = f + 1 := ⟨fuel - 1, by omega⟩
    rw [f_X5_advanceNumber_l5, hC.1, h2, if_neg (nI_ge (by omega) (by omega)), inb_nI (show i < 160 by omega) (by omega), nI_clamp (by omega), hC.2 i (by omega), isDigC (hB i (by omega))]
    simp only [ck_true, Option.bind_some, zI_0]
    by_cases c1 : isDg (B i) = true
    · rw [if_neg (by rw [c1]; decide), h2, h4, pk_sub hp, inb_nI (show i < 160 by omega) (by omega), nI_clamp (show i < 2 ^ 31 by omega), hC.2 i (by omega), show (4 : Int32) = nI 4 from rfl, stp_go (P := fun j => isDg (B j)) (show i < n by omega) c1]
      simp only [ck_true]
      have hd1 : ∀ j, p ≤ j → j < i + 1 → isDg (B j) = true := fun j h1 h2 => by
        by_cases e : j = i
        · subst e; exact c1
        · exact hd j h1 (by omega)
      have hlt := nmN_lt B p (i - p) (fun x hx => hd (p + x) (by omega) (by omega))
      have hbi : 48 ≤ B i ∧ B i ≤ 57 := by unfold isDg at c1; simpa using c1
      unfold f_X5_advanceNumber_b68
      by_cases c4 : 4 ≤ i - p
      · rw [if_pos (nI_le c4 (by omega)), h2, nIp]
        rw [ih (i + 1) f (mu M 34 2 (nI (i + 1))) (by omega) (by omega) (by omega) (by omega) (hC.mu (by omega)) mu_at (by rw [mu_o (by omega)]; exact h4) (by rw [mu_o (by omega), h5, show i + 1 - p = (i - p) + 1 by omega, nmN_s, if_neg (by omega)]) hd1]
        congr 1
        funext q j
        by_cases hq : q = 34
        · subst hq
          by_cases e2 : j = 2
          · subst e2; rw [mu_at, mu_at]
          · rw [mu_o e2, mu_o e2]
            by_cases e5 : j = 5
            · subst e5; rw [mu_at, mu_at]
            · rw [mu_o e5, mu_o e5, mu_o e2]
        · rw [mun hq, mun hq, mun hq, mun hq, mun hq]
      · rw [if_neg (nI_ge (by omega) (by omega)), h5]
        have e5 : nI (nmN B p (i - p)) * 10 + nI (B i) - 48 = nI (nmN B p (i + 1 - p)) := by
          rw [show (10 : Int32) = nI 10 from rfl, show (48 : Int32) = nI 48 from rfl, pk_mul, nI_add, pk_sub (by omega), show i + 1 - p = (i - p) + 1 by omega]
          rw [nmN_s, if_pos (by omega), show p + (i - p) = i by omega]
          congr 1
          omega
        rw [e5]
        rw [mu_o (show (2 : Nat) ≠ 5 by omega), h2, nIp]
        rw [ih (i + 1) f (mu (mu M 34 5 (nI (nmN B p (i + 1 - p)))) 34 2 (nI (i + 1))) (by omega) (by omega) (by omega) (by omega) ((hC.mu (by omega)).mu (by omega)) mu_at (by rw [mu_o (by omega), mu_o (by omega)]; exact h4) (by rw [mu_o (by omega), mu_at]) hd1]
        congr 1
        funext q j
        by_cases hq : q = 34
        · subst hq
          by_cases e2 : j = 2
          · subst e2; rw [mu_at, mu_at]
          · rw [mu_o e2, mu_o e2]
            by_cases e5 : j = 5
            · subst e5; rw [mu_at, mu_at]
            · rw [mu_o e5, mu_o e5, mu_o e2, mu_o e5]
        · rw [mun hq, mun hq, mun hq, mun hq, mun hq, mun hq]
    · rw [if_pos (by cases hx : isDg (B i); rfl; exact absurd hx c1), stp_stop (P := fun j => isDg (B j)) (fun h => c1 h.2), mu_id h5, mu_id h2]
end
section
/-! TOKENS, the reference's -/
theorem byteAt_eq {M : Mem} {f n i : Nat} {B : Nat → Nat} (hn : n ≤ 160) (hi : i < 2 ^ 30) (h : BM M f n B) : f_X9_byteAt (nI i) M = some (if i < n then nI (B i) else (-1), M) := by
  unfold f_X9_byteAt
  rw [h.2.1, h.1, nI_add]
  by_cases c : i < n
  · rw [if_neg (nI_ge c (by omega)), if_pos c, inb_nI (show f + i < 960 by have := h.2.2.1; omega) (by omega), nI_clamp (by have := h.2.2.1; omega), h.2.2.2 i c]
    rfl
  · rw [if_pos (nI_le (by omega) (by omega)), if_neg c]
theorem inLt {b : Nat} (hb : b < 256) (M : Mem) : f_X9_in (nI b).toInt64 97 122 M = some (zI (isLt b), M) := by
  have h := in_eq (nI b) 97 122 M
  rw [show (97 : Int32).toInt64 = 97 by decide, show (122 : Int32).toInt64 = 122 by decide] at h
  rw [h]
  unfold isLt
  rw [show (97 : Int32) = nI 97 from rfl, show (122 : Int32) = nI 122 from rfl]
  congr 3
  by_cases h1 : b < 97
  · rw [decide_eq_true (nI_lt h1 (by omega)), decide_eq_false (show ¬ 97 ≤ b by omega)]; rfl
  · rw [decide_eq_false (nI_nlt (show 97 ≤ b by omega) (by omega)), decide_eq_true (show 97 ≤ b by omega)]
    by_cases h2 : 122 < b
    · rw [decide_eq_true (nI_lt h2 (by omega)), decide_eq_false (show ¬ b ≤ 122 by omega)]; rfl
    · rw [decide_eq_false (nI_nlt (show b ≤ 122 by omega) (by omega)), decide_eq_true (show b ≤ 122 by omega)]; rfl
theorem inDg {b : Nat} (hb : b < 256) (M : Mem) : f_X9_in (nI b).toInt64 48 57 M = some (zI (isDg b), M) := by
  have h := in_eq (nI b) 48 57 M
  rw [show (48 : Int32).toInt64 = 48 by decide, show (57 : Int32).toInt64 = 57 by decide] at h
  rw [h]
  unfold isDg
  rw [show (48 : Int32) = nI 48 from rfl, show (57 : Int32) = nI 57 from rfl]
  congr 3
  by_cases h1 : b < 48
  · rw [decide_eq_true (nI_lt h1 (by omega)), decide_eq_false (show ¬ 48 ≤ b by omega)]; rfl
  · rw [decide_eq_false (nI_nlt (show 48 ≤ b by omega) (by omega)), decide_eq_true (show 48 ≤ b by omega)]
    by_cases h2 : 57 < b
    · rw [decide_eq_true (nI_lt h2 (by omega)), decide_eq_false (show ¬ b ≤ 57 by omega)]; rfl
    · rw [decide_eq_false (nI_nlt (show b ≤ 57 by omega) (by omega)), decide_eq_true (show b ≤ 57 by omega)]; rfl
theorem inLt1 (M : Mem) : f_X9_in ((-1 : Int32)).toInt64 97 122 M = some (0, M) := by
  have h := in_eq (-1) 97 122 M
  rw [show (97 : Int32).toInt64 = 97 by decide, show (122 : Int32).toInt64 = 122 by decide] at h
  rw [h]; rfl
theorem inDg1 (M : Mem) : f_X9_in ((-1 : Int32)).toInt64 48 57 M = some (0, M) := by
  have h := in_eq (-1) 48 57 M
  rw [show (48 : Int32).toInt64 = 48 by decide, show (57 : Int32).toInt64 = 57 by decide] at h
  rw [h]; rfl
theorem skipM (k : Mem → Option Mem) {f0 n : Nat} {B : Nat → Nat} (hn : n ≤ 160) (hB : ∀ j, j < n → B j < 256) : ∀ (m i fuel : Nat) (M : Mem), n - i = m → i ≤ n → m < fuel → BM M f0 n B → M 100 21 = nI i →
    f_X9_next_l0 k fuel M = k (mu M 100 21 (nI (stp (fun j => isBl (B j)) n i))) := by
  intro m
  induction m with
  | zero =>
    intro i fuel M hm hi hf hC h2
    obtain ⟨f, rfl⟩ : ∃ f, fuel = f + 1 := ⟨fuel - 1, by omega⟩
    rw [f_X9_next_l0, h2, byteAt_eq hn (by omega) hC, if_neg (by omega)]
    simp only [Option.bind_some]
    rw [if_neg (by decide), h2, byteAt_eq hn (by omega) hC, if_neg (by omega)]
    simp only [Option.bind_some]
    rw [if_neg (by decide), stp_stop (fun h => by omega), mu_id h2]
  | succ m ih =>
    intro i fuel M hm hi hf hC h2
    obtain ⟨f, rfl⟩ : ∃ f, fuel = f + 1 := ⟨fuel - 1, by omega⟩
    have hb := hB i (by omega)
    rw [f_X9_next_l0, h2, byteAt_eq hn (by omega) hC, if_pos (by omega)]
    simp only [Option.bind_some]
    rw [show (32 : Int32) = nI 32 from rfl, show (10 : Int32) = nI 10 from rfl]
    have go : isBl (B i) = true → f_X9_next_b26 (f_X9_next_l0 k f) k M = k (mu M 100 21 (nI (stp (fun j => isBl (B j)) n i))) := by
      intro hbl
      unfold f_X9_next_b26
      rw [h2, nIp, ih (i + 1) f (mu M 100 21 (nI (i + 1))) (by omega) (by omega) (by omega) (hC.mu (by omega)) mu_at, mu_mu, stp_go (P := fun j => isBl (B j)) (by omega) hbl]
    by_cases c1 : B i = 32
    · rw [if_pos (by rw [c1]), go (by unfold isBl; rw [c1]; rfl)]
    · rw [if_neg (by rw [nIeq (by omega) (by omega)]; exact c1), h2, byteAt_eq hn (by omega) hC, if_pos (by omega)]
      simp only [Option.bind_some]
      by_cases c2 : B i = 10
      · rw [if_pos (by rw [c2]), go (by unfold isBl; rw [c2]; rfl)]
      · rw [if_neg (by rw [nIeq (by omega) (by omega)]; exact c2), stp_stop (P := fun j => isBl (B j)) (fun h => by have := h.2; unfold isBl at this; simp [c1, c2] at this), mu_id h2]
theorem wordM {f0 n : Nat} {B : Nat → Nat} (hn : n ≤ 160) (hB : ∀ j, j < n → B j < 256) : ∀ (m i fuel : Nat) (M : Mem), n - i = m → i ≤ n → m < fuel → BM M f0 n B → M 100 21 = nI i →
    f_X9_next_l100 fuel M = some (mu M 100 21 (nI (stp (fun j => isLt (B j)) n i))) := by
  intro m
  induction m with
  | zero =>
    intro i fuel M hm hi hf hC h2
    obtain ⟨f, rfl⟩ : ∃ f, fuel = f + 1 := ⟨fuel - 1, by omega⟩
    rw [f_X9_next_l100, h2, byteAt_eq hn (by omega) hC, if_neg (by omega)]
    simp only [Option.bind_some]
    rw [inLt1]
    simp only [Option.bind_some]
    rw [if_pos True.intro, stp_stop (P := fun j => isLt (B j)) (fun h => by omega), mu_id h2]
  | succ m ih =>
    intro i fuel M hm hi hf hC h2
    obtain ⟨f, rfl⟩ : ∃ f, fuel = f + 1 := ⟨fuel - 1, by omega⟩
    rw [f_X9_next_l100, h2, byteAt_eq hn (by omega) hC, if_pos (by omega)]
    simp only [Option.bind_some]
    rw [inLt (hB i (by omega))]
    simp only [Option.bind_some, zI_0]
    by_cases c1 : isLt (B i) = true
    · rw [if_neg (by rw [c1]; decide), h2, nIp, ih (i + 1) f (mu M 100 21 (nI (i + 1))) (by omega) (by omega) (by omega) (hC.mu (by omega)) mu_at, mu_mu, stp_go (P := fun j => isLt (B j)) (by omega) c1]
    · rw [if_pos (by cases hx : isLt (B i); rfl; exact absurd hx c1), stp_stop (P := fun j => isLt (B j)) (fun h => c1 h.2), mu_id h2]
theorem lN_chk {x : Nat} (h : x < 2 ^ 31) : (((lN x).toInt32).toInt64 == lN x) = true := by
  rw [lN_i, nI_l h, beq_self_eq_true]
theorem numM (k : Int32 → Mem → Option Mem) {f0 n p : Nat} {B : Nat → Nat} (hn : n ≤ 160) (hB : ∀ j, j < n → B j < 256) : ∀ (m i fuel : Nat) (M : Mem), n - i = m → i ≤ n → p ≤ i → m < fuel → BM M f0 n B → M 100 21 = nI i → M 100 24 = nI (nmN B p (i - p)) → (∀ j, p ≤ j → j < i → isDg (B j) = true) →
    f_X9_next_l160 k fuel (nI (i - p)) M = k (nI (stp (fun j => isDg (B j)) n i - p)) (mu (mu M 100 24 (nI (nmN B p (stp (fun j => isDg (B j)) n i - p)))) 100 21 (nI (stp (fun j => isDg (B j)) n i))) := by
  intro m
  induction m with
  | zero =>
    intro i fuel M hm hi hp hf hC h2 h5 hd
    obtain ⟨f, rfl⟩ : ∃ f, fuel = f + 1 := ⟨fuel - 1, by omega⟩
    rw [f_X9_next_l160, h2, byteAt_eq hn (by omega) hC, if_neg (by omega)]
    simp only [Option.bind_some]
    rw [inDg1]
    simp only [Option.bind_some]
    rw [if_pos True.intro, stp_stop (P := fun j => isDg (B j)) (fun h => by omega), mu_id h5, mu_id h2]
  | succ m ih =>
    intro i fuel M hm hi hp hf hC h2 h5 hd
    obtain ⟨f, rfl⟩ : ∃ f, fuel = f + 1 := ⟨fuel - 1, by omega⟩
    rw [f_X9_next_l160, h2, byteAt_eq hn (by omega) hC, if_pos (by omega)]
    simp only [Option.bind_some]
    rw [inDg (hB i (by omega))]
    simp only [Option.bind_some, zI_0]
    by_cases c1 : isDg (B i) = true
    · have hd1 : ∀ j, p ≤ j → j < i + 1 → isDg (B j) = true := fun j h1 h2 => by
        by_cases e : j = i
        · subst e; exact c1
        · exact hd j h1 (by omega)
      have hlt := nmN_lt B p (i - p) (fun x hx => hd (p + x) (by omega) (by omega))
      have hlt1 := nmN_lt B p (i + 1 - p) (fun x hx => hd1 (p + x) (by omega) (by omega))
      have hbi : 48 ≤ B i ∧ B i ≤ 57 := by unfold isDg at c1; simpa using c1
      rw [if_neg (by rw [c1]; decide), stp_go (P := fun j => isDg (B j)) (show i < n by omega) c1, show (4 : Int32) = nI 4 from rfl]
      unfold f_X9_next_b216
      have fin : ∀ x : Nat, x = nmN B p (i + 1 - p) → ck ((((lN x)).toInt32).toInt64 == lN x) (f_X9_next_l160 k f (nI (i - p) + 1) (mu (mu M 100 24 (lN x).toInt32) 100 21 (M 100 21 + 1))) = k (nI (stp (fun j => isDg (B j)) n (i + 1) - p)) (mu (mu M 100 24 (nI (nmN B p (stp (fun j => isDg (B j)) n (i + 1) - p)))) 100 21 (nI (stp (fun j => isDg (B j)) n (i + 1)))) := by
        intro x hx
        subst hx
        rw [lN_chk (by omega), lN_i, h2, nIp, nIp, show i - p + 1 = i + 1 - p by omega]
        simp only [ck_true]
        rw [ih (i + 1) f (mu (mu M 100 24 (nI (nmN B p (i + 1 - p)))) 100 21 (nI (i + 1))) (by omega) (by omega) (by omega) (by omega) ((hC.mu (by omega)).mu (by omega)) mu_at (by rw [mu_o (by omega), mu_at]) hd1]
        congr 1
        funext q j
        by_cases hq : q = 100
        · subst hq
          by_cases e2 : j = 21
          · subst e2; rw [mu_at, mu_at]
          · rw [mu_o e2, mu_o e2]
            by_cases e5 : j = 24
            · subst e5; rw [mu_at, mu_at]
            · rw [mu_o e5, mu_o e5, mu_o e2, mu_o e5]
        · rw [mun hq, mun hq, mun hq, mun hq, mun hq, mun hq]
      by_cases c4 : 4 ≤ i - p
      · rw [if_pos (nI_le c4 (by omega)), h5, nI_l (by omega)]
        refine fin _ ?_
        rw [show i + 1 - p = (i - p) + 1 by omega, nmN_s, if_neg (by omega)]
      · rw [if_neg (nI_ge (by omega) (by omega)), h2, byteAt_eq hn (by omega) hC, if_pos (by omega)]
        simp only [Option.bind_some]
        rw [h5, nI_l (show nmN B p (i - p) < 2 ^ 31 by omega), nI_l (show B i < 2 ^ 31 by have := hB i (by omega); omega), show (10 : Int64) = lN 10 from rfl, show (48 : Int64) = lN 48 from rfl, lN_mul, lN_add, lN_sub (by omega)]
        refine fin _ ?_
        rw [show i + 1 - p = (i - p) + 1 by omega, nmN_s, if_pos (by omega), show p + (i - p) = i by omega]
        omega
    · rw [if_pos (by cases hx : isDg (B i); rfl; exact absurd hx c1), stp_stop (P := fun j => isDg (B j)) (fun h => c1 h.2), mu_id h5, mu_id h2]
end
section
/-! WORDS -/
def wN (B : Nat → Nat) (p : Nat) (s : List Nat) : Nat → Nat → Bool
  | 0, _ => true
  | m + 1, i => B (p + i) == s.getD i 0 && wN B p s m (i + 1)
/-- the word from p to e is s -/
def wIs (B : Nat → Nat) (p e : Nat) (s : List Nat) : Bool := decide (e - p = s.length) && wN B p s s.length 0
theorem wN_iff (B : Nat → Nat) (p : Nat) (s : List Nat) : ∀ m i, wN B p s m i = true ↔ ∀ x, x < m → B (p + (i + x)) = s.getD (i + x) 0 := by
  intro m
  induction m with
  | zero => intro i; exact ⟨fun _ x hx => absurd hx (Nat.not_lt_zero x), fun _ => rfl⟩
  | succ m ih =>
    intro i
    unfold wN
    rw [Bool.and_eq_true, ih (i + 1), beq_iff_eq]
    constructor
    · intro h x hx
      cases x with
      | zero => exact h.1
      | succ x => have := h.2 x (by omega); rw [show i + 1 + x = i + (x + 1) by omega] at this; exact this
    · intro h
      refine ⟨h 0 (by omega), fun x hx => ?_⟩
      rw [show i + 1 + x = i + (x + 1) by omega]
      exact h (x + 1) (by omega)
theorem wIs_iff (B : Nat → Nat) (p e : Nat) (s : List Nat) : wIs B p e s = true ↔ e - p = s.length ∧ ∀ x, x < s.length → B (p + x) = s.getD x 0 := by
  unfold wIs
  rw [Bool.and_eq_true, decide_eq_true_eq, wN_iff]
  simp only [Nat.zero_add]
theorem wIs_one {B : Nat → Nat} {p e : Nat} {s t : List Nat} (h : wIs B p e s = true) (h2 : wIs B p e t = true) : s = t := by
  rw [wIs_iff] at h h2
  have hl : s.length = t.length := h.1.symm.trans h2.1
  apply List.ext_getElem hl
  intro i h3 h4
  have a := h.2 i h3
  have b := h2.2 i h4
  rw [a] at b
  simpa [List.getD_eq_getElem?_getD, h3, h4] using b
/-- a word's letters, by its number -/
def sw (k : Nat) : List Nat := strs.getD k []
theorem sw_one : ∀ j, j < 12 → ∀ k, k < 12 → sw j = sw k → j = k := by decide +kernel
theorem sw_ok : ∀ k, k < 13 → isStr (1000 + k) = true ∧ slenN (1000 + k) = (sw k).length ∧ ((sw k).length ≤ 40) := by decide +kernel
theorem sw_byte : ∀ k, k < 13 → ∀ i, i < (sw k).length → (sw k).getD i 0 < 256 := by decide +kernel
theorem sw_lt : ∀ k, k < 12 → (sw k).length ≤ 8 ∧ ∀ i, i < (sw k).length → (sw k).getD i 0 ≠ 0 := by decide +kernel
theorem schar_eq (k j : Nat) : schar (1000 + k) j = nI ((sw k).getD j 0) := by
  unfold schar sw
  rw [Nat.add_sub_cancel_left]
  rfl
theorem slen_eq {k : Nat} (hk : k < 13) : slen (1000 + k) = nI (sw k).length := by
  unfold slen
  rw [(sw_ok k hk).2.1]
  rfl
theorem isWordC_l {k n p : Nat} {B : Nat → Nat} {M : Mem} (hk : k < 13) (hn : n ≤ 160) (hB : ∀ j, j < n → B j < 256) (hC : BC M n B) (h4 : M 34 4 = nI p) (hp : p + (sw k).length ≤ n) : ∀ (m i fuel : Nat), i + m = (sw k).length → m < fuel → f_X5_isWord_l20 fuel (1000 + k) (nI i) M = some (zI (wN B p (sw k) m i), M) := by
  obtain ⟨a1, a2, a3⟩ := sw_ok k hk
  intro m
  induction m with
  | zero =>
    intro i fuel hi hf
    obtain ⟨f, rfl⟩ : ∃ f, fuel = f + 1 := ⟨fuel - 1, by omega⟩
    rw [f_X5_isWord_l20, a1, slen_eq hk]
    simp only [ck_true]
    rw [if_pos (nI_le (by omega) (by omega))]
    rfl
  | succ m ih =>
    intro i fuel hi hf
    obtain ⟨f, rfl⟩ : ∃ f, fuel = f + 1 := ⟨fuel - 1, by omega⟩
    rw [f_X5_isWord_l20, a1, slen_eq hk]
    simp only [ck_true]
    rw [if_neg (nI_ge (by omega) (by omega)), h4, nI_add, inb_nI (show p + i < 160 by omega) (by omega), a2, inb_nI (show i < (sw k).length by omega) (by omega), nI_clamp (by omega), nI_clamp (by omega), hC.2 (p + i) (by omega), schar_eq]
    simp only [ck_true]
    have hb := hB (p + i) (by omega)
    have hs := sw_byte k hk i (by omega)
    show _ = some (zI (B (p + i) == (sw k).getD i 0 && wN B p (sw k) m (i + 1)), M)
    by_cases e : B (p + i) = (sw k).getD i 0
    · rw [if_pos (by rw [e]), nIp, ih (i + 1) f (by omega) (by omega), e, beq_self_eq_true]
      rfl
    · rw [if_neg (by rw [nIeq (by omega) (by omega)]; exact e), beq_eq_false_iff_ne.mpr e]
      rfl
theorem isWordC {k n p e : Nat} {B : Nat → Nat} {M : Mem} (hk : k < 13) (hn : n ≤ 160) (hB : ∀ j, j < n → B j < 256) (hC : BC M n B) (h4 : M 34 4 = nI p) (h2 : M 34 2 = nI e) (hpe : p ≤ e) (he : e ≤ n) : f_X5_isWord (1000 + k) M = some (zI (wIs B p e (sw k)), M) := by
  obtain ⟨a1, a2, a3⟩ := sw_ok k hk
  unfold f_X5_isWord wIs
  rw [a1, h2, h4, pk_sub hpe, slen_eq hk]
  simp only [ck_true]
  by_cases c : e - p = (sw k).length
  · rw [if_pos (by rw [c]), decide_eq_true c, show (0 : Int32) = nI 0 from rfl, isWordC_l hk hn hB hC h4 (by omega) (sw k).length 0 FU (by omega) (by have := FU_ge; omega)]
    rfl
  · rw [if_neg (by rw [nIeq (by omega) (by omega)]; exact c), decide_eq_false c]
    rfl
/-- the reference's look at a letter -/
def lM (B : Nat → Nat) (p e l i : Nat) : Bool := if e ≤ p + i then l == 0 else B (p + i) == l
theorem isLetterM {f0 n p e i l : Nat} {B : Nat → Nat} {M : Mem} (hn : n ≤ 160) (hB : ∀ j, j < n → B j < 256) (hC : BM M f0 n B) (h23 : M 100 23 = nI p) (h21 : M 100 21 = nI e) (he : e ≤ n) (hp : p ≤ 160) (hi : i < 8) (hl : l < 256) : f_X9_isLetter (nI i) (nI l) M = some (zI (lM B p e l i), M) := by
  unfold f_X9_isLetter lM
  rw [h21, h23, nI_add]
  by_cases c : e ≤ p + i
  · rw [if_pos (nI_le c (by omega)), if_pos c]
    by_cases z : l = 0
    · subst z; rw [if_pos (id rfl : nI 0 = 0)]; rfl
    · rw [if_neg (nI_ne0 (by omega) (by omega)), beq_eq_false_iff_ne.mpr z]; rfl
  · rw [if_neg (nI_ge (by omega) (by omega)), if_neg c, byteAt_eq hn (by omega) hC, if_pos (by omega)]
    simp only [Option.bind_some]
    have hb := hB (p + i) (by omega)
    by_cases z : B (p + i) = l
    · rw [if_pos (by rw [z]), z, beq_self_eq_true]; rfl
    · rw [if_neg (by rw [nIeq (by omega) (by omega)]; exact z), beq_eq_false_iff_ne.mpr z]; rfl
theorem isWordM {f0 n p e : Nat} {B : Nat → Nat} {M : Mem} {s : List Nat} (hs : s.length ≤ 8) (hs0 : ∀ i, i < s.length → s.getD i 0 ≠ 0) (hs2 : ∀ i, i < 8 → s.getD i 0 < 256) (hn : n ≤ 160) (hB : ∀ j, j < n → B j < 256) (hC : BM M f0 n B) (h23 : M 100 23 = nI p) (h21 : M 100 21 = nI e) (hpe : p ≤ e) (he : e ≤ n) (hw : ∀ j, p ≤ j → j < e → B j ≠ 0) (hb : M 100 26 = 0) (ht : M 100 22 = 1) :
    f_X9_isWord (nI (s.getD 0 0)) (nI (s.getD 1 0)) (nI (s.getD 2 0)) (nI (s.getD 3 0)) (nI (s.getD 4 0)) (nI (s.getD 5 0)) (nI (s.getD 6 0)) (nI (s.getD 7 0)) M = some (zI (wIs B p e s), M) := by
  have L : ∀ i, i < 8 → f_X9_isLetter (nI i) (nI (s.getD i 0)) M = some (zI (lM B p e (s.getD i 0) i), M) := fun i hi => isLetterM hn hB hC h23 h21 he (by omega) hi (hs2 i hi)
  have l0 := L 0 (by omega)
  have l1 := L 1 (by omega)
  have l2 := L 2 (by omega)
  have l3 := L 3 (by omega)
  have l4 := L 4 (by omega)
  have l5 := L 5 (by omega)
  have l6 := L 6 (by omega)
  have l7 := L 7 (by omega)
  have key : wIs B p e s = true ↔ e ≤ p + 8 ∧ ∀ i, i < 8 → lM B p e (s.getD i 0) i = true := by
    rw [wIs_iff]
    constructor
    · intro ⟨h1, h2⟩
      refine ⟨by omega, fun i hi => ?_⟩
      unfold lM
      by_cases c : e ≤ p + i
      · rw [if_pos c, beq_iff_eq, List.getD_eq_getElem?_getD, List.getElem?_eq_none (by omega)]; rfl
      · rw [if_neg c, beq_iff_eq]; exact h2 i (by omega)
    · intro ⟨h1, h2⟩
      have a : ∀ i, i < s.length → p + i < e := fun i hi => by
        have := h2 i (by omega)
        unfold lM at this
        by_cases c : e ≤ p + i
        · rw [if_pos c, beq_iff_eq] at this; exact absurd this (hs0 i hi)
        · omega
      have b : ∀ i, i < 8 → s.length ≤ i → e ≤ p + i := fun i hi hl => by
        have := h2 i hi
        unfold lM at this
        by_cases c : e ≤ p + i
        · exact c
        · rw [if_neg c, beq_iff_eq, List.getD_eq_getElem?_getD, List.getElem?_eq_none hl] at this
          exact absurd this (hw (p + i) (by omega) (by omega))
      refine ⟨?_, fun x hx => ?_⟩
      · by_cases c8 : s.length = 8
        · have := a 7 (by omega); omega
        · have := b s.length (by omega) (Nat.le_refl _)
          by_cases c0 : s.length = 0
          · omega
          · have := a (s.length - 1) (by omega); omega
      · have := h2 x (by omega)
        unfold lM at this
        rw [if_neg (by have := a x hx; omega), beq_iff_eq] at this
        exact this
  unfold f_X9_isWord
  rw [if_pos hb, if_pos ht, h23, h21, show (8 : Int32) = nI 8 from rfl, nI_add]
  by_cases c : p + 8 < e
  · rw [if_pos (nI_lt c (by omega))]
    have : wIs B p e s = false := by
      cases hx : wIs B p e s
      · rfl
      · have := (key.mp hx).1; omega
    rw [this]; rfl
  · rw [if_neg (nI_nlt (by omega) (by omega))]
    rw [show (0 : Int32) = nI 0 from rfl, show (1 : Int32) = nI 1 from rfl, show (2 : Int32) = nI 2 from rfl, show (3 : Int32) = nI 3 from rfl, show (4 : Int32) = nI 4 from rfl, show (5 : Int32) = nI 5 from rfl, show (6 : Int32) = nI 6 from rfl, show (7 : Int32) = nI 7 from rfl]
    simp only [l0, l1, l2, l3, l4, l5, l6, l7, Option.bind_some]
    simp only [show nI 0 = (0 : Int32) from rfl, show nI 1 = (1 : Int32) from rfl, zI_0]
    have all : wIs B p e s = (lM B p e (s.getD 0 0) 0 && (lM B p e (s.getD 1 0) 1 && (lM B p e (s.getD 2 0) 2 && (lM B p e (s.getD 3 0) 3 && (lM B p e (s.getD 4 0) 4 && (lM B p e (s.getD 5 0) 5 && (lM B p e (s.getD 6 0) 6 && lM B p e (s.getD 7 0) 7))))))) := by
      apply Bool.eq_iff_iff.mpr
      rw [key]
      simp only [Bool.and_eq_true]
      constructor
      · intro h; exact ⟨h.2 0 (by omega), h.2 1 (by omega), h.2 2 (by omega), h.2 3 (by omega), h.2 4 (by omega), h.2 5 (by omega), h.2 6 (by omega), h.2 7 (by omega)⟩
      · intro ⟨h0, h1, h2, h3, h4, h5, h6, h7⟩
        refine ⟨by omega, fun i hi => ?_⟩
        match i, hi with
        | 0, _ => exact h0
        | 1, _ => exact h1
        | 2, _ => exact h2
        | 3, _ => exact h3
        | 4, _ => exact h4
        | 5, _ => exact h5
        | 6, _ => exact h6
        | 7, _ => exact h7
    rw [all]
    cases lM B p e (s.getD 0 0) 0
    · rfl
    cases lM B p e (s.getD 1 0) 1
    · rfl
    cases lM B p e (s.getD 2 0) 2
    · rfl
    cases lM B p e (s.getD 3 0) 3
    · rfl
    cases lM B p e (s.getD 4 0) 4
    · rfl
    cases lM B p e (s.getD 5 0) 5
    · rfl
    cases lM B p e (s.getD 6 0) 6
    · rfl
    cases lM B p e (s.getD 7 0) 7
    · rfl
    · rfl
end
section
/-! ONE TOKEN ON -/
def fwN (w : Nat → Bool) : Nat → Nat → Nat
  | 0, k => k
  | m + 1, k => if w k = true then k else fwN w m (k + 1)
/-- which of the twelve words stands from p to e (12: none) -/
def fw (B : Nat → Nat) (p e : Nat) : Nat := fwN (fun k => wIs B p e (sw k)) 12 0
theorem fwN_facts (w : Nat → Bool) : ∀ m k, k ≤ fwN w m k ∧ fwN w m k ≤ k + m ∧ (fwN w m k < k + m → w (fwN w m k) = true) ∧ (∀ j, k ≤ j → j < fwN w m k → w j = false) := by
  intro m
  induction m with
  | zero => intro k; exact ⟨Nat.le_refl _, Nat.le_refl _, fun h => absurd h (Nat.lt_irrefl _), fun j h1 h2 => absurd h1 (Nat.not_le.mpr h2)⟩
  | succ m ih =>
    intro k
    unfold fwN
    by_cases h : w k = true
    · rw [if_pos h]
      exact ⟨Nat.le_refl _, by omega, fun _ => h, fun j h1 h2 => by omega⟩
    · rw [if_neg h]
      obtain ⟨a, b, c, d⟩ := ih (k + 1)
      refine ⟨by omega, by omega, fun hh => c (by omega), fun j h1 h2 => ?_⟩
      by_cases e : j = k
      · subst e; cases hx : w j; rfl; exact absurd hx h
      · exact d j (by omega) h2
theorem fw_le (B : Nat → Nat) (p e : Nat) : fw B p e ≤ 12 := (fwN_facts _ 12 0).2.1
theorem fw_is {B : Nat → Nat} {p e k : Nat} (hk : k < 12) : wIs B p e (sw k) = decide (fw B p e = k) := by
  obtain ⟨a, b, c, d⟩ := fwN_facts (fun k => wIs B p e (sw k)) 12 0
  by_cases h : fw B p e = k
  · rw [decide_eq_true h, ← h]
    exact c (by show fw B p e < _; omega)
  · rw [decide_eq_false h]
    cases hx : wIs B p e (sw k)
    · rfl
    · exfalso
      have hlt : fw B p e < 12 ∨ fw B p e = 12 := by have := fw_le B p e; omega
      rcases hlt with hl | hl
      · have h1 := c (by show fw B p e < _; omega)
        exact h (sw_one _ hl k hk (wIs_one h1 hx))
      · have := d k (by omega) (by show k < fw B p e; omega)
        rw [hx] at this
        cases this
def tkW (w : Nat) : Int32 := if w < 6 then 259 else if w < 12 then nI (254 + w) else 257
theorem nameCode_eq (x : Int32) (M : Mem) : f_X7_nameCode x M = some ((-1) - x, M) := rfl
theorem advWord_eq {n p e : Nat} {B : Nat → Nat} {M : Mem} (hn : n ≤ 160) (hB : ∀ j, j < n → B j < 256) (hC : BC M n B) (h4 : M 34 4 = nI p) (h2 : M 34 2 = nI e) (hpe : p ≤ e) (he : e ≤ n) :
    f_X5_advanceWord_b39 M = some (if fw B p e < 6 then mu (mu M 34 3 259) 34 5 ((-1) - nI (fw B p e)) else mu (mu M 34 3 259) 34 3 (tkW (fw B p e))) := by
  have hC1 : BC (mu M 34 3 259) n B := hC.mu (by omega)
  have h41 : mu M 34 3 259 34 4 = nI p := by rw [mu_o (by omega)]; exact h4
  have h21 : mu M 34 3 259 34 2 = nI e := by rw [mu_o (by omega)]; exact h2
  have c0 : f_X5_isWord 1000 (mu M 34 3 259) = some (zI (wIs B p e (sw 0)), mu M 34 3 259) := isWordC (k := 0) (by omega) hn hB hC1 h41 h21 hpe he
  have c1 : f_X5_isWord 1001 (mu M 34 3 259) = some (zI (wIs B p e (sw 1)), mu M 34 3 259) := isWordC (k := 1) (by omega) hn hB hC1 h41 h21 hpe he
  have c2 : f_X5_isWord 1002 (mu M 34 3 259) = some (zI (wIs B p e (sw 2)), mu M 34 3 259) := isWordC (k := 2) (by omega) hn hB hC1 h41 h21 hpe he
  have c3 : f_X5_isWord 1003 (mu M 34 3 259) = some (zI (wIs B p e (sw 3)), mu M 34 3 259) := isWordC (k := 3) (by omega) hn hB hC1 h41 h21 hpe he
  have c4 : f_X5_isWord 1004 (mu M 34 3 259) = some (zI (wIs B p e (sw 4)), mu M 34 3 259) := isWordC (k := 4) (by omega) hn hB hC1 h41 h21 hpe he
  have c5 : f_X5_isWord 1005 (mu M 34 3 259) = some (zI (wIs B p e (sw 5)), mu M 34 3 259) := isWordC (k := 5) (by omega) hn hB hC1 h41 h21 hpe he
  have c6 : f_X5_isWord 1006 (mu M 34 3 259) = some (zI (wIs B p e (sw 6)), mu M 34 3 259) := isWordC (k := 6) (by omega) hn hB hC1 h41 h21 hpe he
  have c7 : f_X5_isWord 1007 (mu M 34 3 259) = some (zI (wIs B p e (sw 7)), mu M 34 3 259) := isWordC (k := 7) (by omega) hn hB hC1 h41 h21 hpe he
  have c8 : f_X5_isWord 1008 (mu M 34 3 259) = some (zI (wIs B p e (sw 8)), mu M 34 3 259) := isWordC (k := 8) (by omega) hn hB hC1 h41 h21 hpe he
  have c9 : f_X5_isWord 1009 (mu M 34 3 259) = some (zI (wIs B p e (sw 9)), mu M 34 3 259) := isWordC (k := 9) (by omega) hn hB hC1 h41 h21 hpe he
  have c10 : f_X5_isWord 1010 (mu M 34 3 259) = some (zI (wIs B p e (sw 10)), mu M 34 3 259) := isWordC (k := 10) (by omega) hn hB hC1 h41 h21 hpe he
  have c11 : f_X5_isWord 1011 (mu M 34 3 259) = some (zI (wIs B p e (sw 11)), mu M 34 3 259) := isWordC (k := 11) (by omega) hn hB hC1 h41 h21 hpe he
  have hfw : fw B p e = if wIs B p e (sw 0) = true then 0 else if wIs B p e (sw 1) = true then 1 else if wIs B p e (sw 2) = true then 2 else if wIs B p e (sw 3) = true then 3 else if wIs B p e (sw 4) = true then 4 else if wIs B p e (sw 5) = true then 5 else if wIs B p e (sw 6) = true then 6 else if wIs B p e (sw 7) = true then 7 else if wIs B p e (sw 8) = true then 8 else if wIs B p e (sw 9) = true then 9 else if wIs B p e (sw 10) = true then 10 else if wIs B p e (sw 11) = true then 11 else 12 := rfl
  unfold f_X5_advanceWord_b39
  simp only [c0, c1, c2, c3, c4, c5, c6, c7, c8, c9, c10, c11, Option.bind_some, nameCode_eq, zI_0]
  rw [hfw]
  generalize wIs B p e (sw 0) = b0
  generalize wIs B p e (sw 1) = b1
  generalize wIs B p e (sw 2) = b2
  generalize wIs B p e (sw 3) = b3
  generalize wIs B p e (sw 4) = b4
  generalize wIs B p e (sw 5) = b5
  generalize wIs B p e (sw 6) = b6
  generalize wIs B p e (sw 7) = b7
  generalize wIs B p e (sw 8) = b8
  generalize wIs B p e (sw 9) = b9
  generalize wIs B p e (sw 10) = b10
  generalize wIs B p e (sw 11) = b11
  cases b0
  case true => rfl
  cases b1
  case true => rfl
  cases b2
  case true => rfl
  cases b3
  case true => rfl
  cases b4
  case true => rfl
  cases b5
  case true => rfl
  cases b6
  case true => rfl
  cases b7
  case true => rfl
  cases b8
  case true => rfl
  cases b9
  case true => rfl
  cases b10
  case true => rfl
  cases b11
  case true => rfl
  rfl
/-- both stand at one token, at place p: w is the word's number (12: no such word) -/
def Lx (n : Nat) (B : Nat → Nat) (Mc Mm : Mem) (p w : Nat) : Prop :=
  p ≤ n ∧ Mc 34 4 = nI p ∧ Mm 100 23 = nI p ∧
  ((p = n ∧ w = 12 ∧ Mc 34 3 = 256 ∧ Mm 100 22 = 0) ∨
   (∃ e, p < e ∧ e ≤ n ∧ Mc 34 2 = nI e ∧ Mm 100 21 = nI e ∧ Mm 100 22 = 1 ∧ w = fw B p e ∧ Mc 34 3 = tkW w ∧ (w < 6 → Mc 34 5 = (-1) - nI w) ∧ ∀ j, p ≤ j → j < e → B j ≠ 0) ∨
   (∃ e v, p < e ∧ e ≤ n ∧ w = 12 ∧ Mc 34 2 = nI e ∧ Mm 100 21 = nI e ∧ Mm 100 22 = 2 ∧ Mc 34 3 = 258 ∧ v < 10000 ∧ Mc 34 5 = nI v ∧ Mm 100 24 = nI v) ∨
   (p < n ∧ w = 12 ∧ isSg (B p) = true ∧ Mc 34 2 = nI (p + 1) ∧ Mm 100 21 = nI (p + 1) ∧ Mm 100 22 = 3 ∧ Mc 34 3 = nI (B p) ∧ Mm 100 24 = nI (B p)) ∨
   (p < n ∧ w = 12 ∧ Mc 34 3 = 257 ∧ Mm 100 22 = 4))
theorem advC {n i : Nat} {B : Nat → Nat} {M : Mem} (hn : n ≤ 160) (hB : ∀ j, j < n → B j < 256) (hC : BC M n B) (h2 : M 34 2 = nI i) (hi : i ≤ n) :
    ∃ M1 : Mem, f_X5_advance M = some M1 ∧ (∀ q, q ≠ 34 → M1 q = M q) ∧ (∀ j, j ≠ 2 → j ≠ 3 → j ≠ 4 → j ≠ 5 → M1 34 j = M 34 j) ∧ M1 34 4 = nI (stp (fun j => isBl (B j)) n i) ∧
    (stp (fun j => isBl (B j)) n i = n → M1 34 3 = 256) ∧
    (stp (fun j => isBl (B j)) n i < n → isLt (B (stp (fun j => isBl (B j)) n i)) = true → M1 34 2 = nI (stp (fun j => isLt (B j)) n (stp (fun j => isBl (B j)) n i)) ∧ M1 34 3 = tkW (fw B (stp (fun j => isBl (B j)) n i) (stp (fun j => isLt (B j)) n (stp (fun j => isBl (B j)) n i))) ∧ (fw B (stp (fun j => isBl (B j)) n i) (stp (fun j => isLt (B j)) n (stp (fun j => isBl (B j)) n i)) < 6 → M1 34 5 = (-1) - nI (fw B (stp (fun j => isBl (B j)) n i) (stp (fun j => isLt (B j)) n (stp (fun j => isBl (B j)) n i))))) ∧
    (stp (fun j => isBl (B j)) n i < n → isDg (B (stp (fun j => isBl (B j)) n i)) = true → M1 34 2 = nI (stp (fun j => isDg (B j)) n (stp (fun j => isBl (B j)) n i)) ∧ M1 34 3 = (if stp (fun j => isDg (B j)) n (stp (fun j => isBl (B j)) n i) - stp (fun j => isBl (B j)) n i ≤ 4 then 258 else 257) ∧ M1 34 5 = nI (nmN B (stp (fun j => isBl (B j)) n i) (stp (fun j => isDg (B j)) n (stp (fun j => isBl (B j)) n i) - stp (fun j => isBl (B j)) n i))) ∧
    (stp (fun j => isBl (B j)) n i < n → isLt (B (stp (fun j => isBl (B j)) n i)) = false → isDg (B (stp (fun j => isBl (B j)) n i)) = false → M1 34 2 = nI (stp (fun j => isBl (B j)) n i + 1) ∧ M1 34 3 = (if isSg (B (stp (fun j => isBl (B j)) n i)) = true then nI (B (stp (fun j => isBl (B j)) n i)) else 257)) := by
  obtain ⟨s1, s2, s3, s4⟩ := stp_facts (fun j => isBl (B j)) n (n - i) i rfl hi
  unfold f_X5_advance
  rw [skipC f_X5_advance_b52 hn hB (n - i) i FU M rfl hi (by have := FU_ge; omega) hC h2]
  generalize stp (fun j => isBl (B j)) n i = p at s1 s2 s3 s4 ⊢
  generalize hM1 : mu M 34 2 (nI p) = M1
  have hC1 : BC M1 n B := by rw [← hM1]; exact hC.mu (by omega)
  have e2 : M1 34 2 = nI p := by rw [← hM1]; exact mu_at
  have o1 : ∀ q, q ≠ 34 → M1 q = M q := fun q hq => by rw [← hM1]; exact mun hq
  have o1j : ∀ j, j ≠ 2 → M1 34 j = M 34 j := fun j hj => by rw [← hM1]; exact mu_o hj
  unfold f_X5_advance_b52
  rw [e2, hC1.1]
  by_cases c : p < n
  · rw [if_pos (nI_lt c (by omega)), inb_nI (show p < 160 by omega) (by omega), nI_clamp (by omega), hC1.2 p c, isLetC (hB p c)]
    simp only [ck_true, Option.bind_some, zI_0]
    generalize hM2 : mu M1 34 4 (nI p) = M2
    have hC2 : BC M2 n B := by rw [← hM2]; exact hC1.mu (by omega)
    have f2 : M2 34 2 = nI p := by rw [← hM2, mu_o (by omega)]; exact e2
    have f4 : M2 34 4 = nI p := by rw [← hM2]; exact mu_at
    have o2 : ∀ q, q ≠ 34 → M2 q = M q := fun q hq => by rw [← hM2, mun hq]; exact o1 q hq
    have o2j : ∀ j, j ≠ 2 → j ≠ 4 → M2 34 j = M 34 j := fun j h1 h2 => by rw [← hM2, mu_o h2]; exact o1j j h1
    cases hl : isLt (B p) with
    | true =>
      rw [if_neg (by decide)]
      obtain ⟨w1, w2, w3, w4⟩ := stp_facts (fun j => isLt (B j)) n (n - p) p rfl s2
      unfold f_X5_advanceWord
      rw [wordC f_X5_advanceWord_b39 hn hB (n - p) p FU M2 rfl s2 (by have := FU_ge; omega) hC2 f2]
      generalize stp (fun j => isLt (B j)) n p = e at w1 w2 w3 w4 ⊢
      rw [advWord_eq (n := n) (p := p) (e := e) hn hB (hC2.mu (by omega)) (by rw [mu_o (by omega)]; exact f4) mu_at w1 w2]
      simp only [Option.bind_some]
      have hdg : isDg (B p) = false := by
        unfold isLt at hl; unfold isDg
        simp only [Bool.and_eq_true, decide_eq_true_eq] at hl
        rw [decide_eq_false (show ¬ B p ≤ 57 by omega)]; simp
      refine ⟨_, rfl, ?_, ?_, ?_, (fun h => by omega), fun _ _ => ?_, (fun _ h => by rw [hdg] at h; cases h), (fun _ h => by cases h)⟩
      · intro q hq
        split
        · rw [mun hq, mun hq, mun hq]; exact o2 q hq
        · rw [mun hq, mun hq, mun hq]; exact o2 q hq
      · intro j h1 h2 h3 h4
        split
        · rw [mu_o h4, mu_o h2, mu_o h1]; exact o2j j h1 h3
        · rw [mu_o h2, mu_o h2, mu_o h1]; exact o2j j h1 h3
      · split
        · rw [mu_o (by omega), mu_o (by omega), mu_o (by omega)]; exact f4
        · rw [mu_o (by omega), mu_o (by omega), mu_o (by omega)]; exact f4
      · refine ⟨?_, ?_, fun h => ?_⟩
        · split
          · rw [mu_o (by omega), mu_o (by omega)]; exact mu_at
          · rw [mu_o (by omega), mu_o (by omega)]; exact mu_at
        · by_cases h6 : fw B p e < 6
          · rw [if_pos h6, mu_o (by omega), mu_at]; unfold tkW; rw [if_pos h6]
          · rw [if_neg h6, mu_at]
        · rw [if_pos h, mu_at]
    | false =>
      rw [if_pos rfl, f2, inb_nI (show p < 160 by omega) (by omega), nI_clamp (by omega), hC2.2 p c, isDigC (hB p c)]
      simp only [ck_true, Option.bind_some, zI_0]
      cases hd : isDg (B p) with
      | true =>
        rw [if_neg (by decide)]
        obtain ⟨w1, w2, w3, w4⟩ := stp_facts (fun j => isDg (B j)) n (n - p) p rfl s2
        unfold f_X5_advanceNumber
        rw [numC (p := p) f_X5_advanceNumber_b81 hn hB (n - p) p FU (mu M2 34 5 0) rfl s2 (Nat.le_refl p) (by have := FU_ge; omega) (hC2.mu (by omega)) (by rw [mu_o (by omega)]; exact f2) (by rw [mu_o (by omega)]; exact f4) (by rw [mu_at, Nat.sub_self]; rfl) (fun j h1 h2 => by omega)]
        generalize stp (fun j => isDg (B j)) n p = e at w1 w2 w3 w4 ⊢
        unfold f_X5_advanceNumber_b81
        rw [mu_at, mu_o (show (4 : Nat) ≠ 2 by omega), mu_o (show (4 : Nat) ≠ 5 by omega), mu_o (show (4 : Nat) ≠ 5 by omega), f4, pk_sub w1, show (4 : Int32) = nI 4 from rfl]
        have r : (if nI (e - p) ≤ nI 4 then some (mu (mu (mu (mu M2 34 5 0) 34 5 (nI (nmN B p (e - p)))) 34 2 (nI e)) 34 3 258) else some (mu (mu (mu (mu M2 34 5 0) 34 5 (nI (nmN B p (e - p)))) 34 2 (nI e)) 34 3 257)) = some (mu (mu (mu (mu M2 34 5 0) 34 5 (nI (nmN B p (e - p)))) 34 2 (nI e)) 34 3 (if e - p ≤ 4 then 258 else 257)) := by
          by_cases h4 : e - p ≤ 4
          · rw [if_pos (nI_le h4 (by omega)), if_pos h4]
          · rw [if_neg (nI_ge (by omega) (by omega)), if_neg h4]
        rw [r]
        simp only [Option.bind_some]
        refine ⟨_, rfl, fun q hq => by rw [mun hq, mun hq, mun hq, mun hq]; exact o2 q hq, fun j h1 h2 h3 h4 => by rw [mu_o h2, mu_o h1, mu_o h4, mu_o h4]; exact o2j j h1 h3, by rw [mu_o (by omega), mu_o (by omega), mu_o (by omega), mu_o (by omega)]; exact f4, (fun h => by omega), (fun _ h => by cases h), fun _ _ => ⟨by rw [mu_o (by omega), mu_at], mu_at, by rw [mu_o (by omega), mu_o (by omega), mu_at]⟩, (fun _ _ h => by cases h)⟩
      | false =>
        rw [if_pos rfl, f2, inb_nI (show p < 160 by omega) (by omega), nI_clamp (by omega), hC2.2 p c, isSgC (hB p c)]
        simp only [ck_true, Option.bind_some, zI_0]
        unfold f_X5_advance_b156
        cases hs : isSg (B p) with
        | true =>
          rw [if_neg (by decide), f2, nIp, inb_nI (show p < 160 by omega) (by omega), nI_clamp (by omega), hC2.2 p c]
          simp only [ck_true]
          refine ⟨_, rfl, fun q hq => by rw [mun hq, mun hq]; exact o2 q hq, fun j h1 h2 h3 h4 => by rw [mu_o h1, mu_o h2]; exact o2j j h1 h3, by rw [mu_o (by omega), mu_o (by omega)]; exact f4, (fun h => by omega), (fun _ h => by cases h), (fun _ h => by cases h), fun _ _ _ => ⟨mu_at, by rw [mu_o (by omega), mu_at]; rfl⟩⟩
        | false =>
          rw [if_pos rfl, f2, nIp]
          refine ⟨_, rfl, fun q hq => by rw [mun hq, mun hq]; exact o2 q hq, fun j h1 h2 h3 h4 => by rw [mu_o h1, mu_o h2]; exact o2j j h1 h3, by rw [mu_o (by omega), mu_o (by omega)]; exact f4, (fun h => by omega), (fun _ h => by cases h), (fun _ h => by cases h), fun _ _ _ => ⟨mu_at, by rw [mu_o (by omega), mu_at]; rfl⟩⟩
  · rw [if_neg (nI_nlt (by omega) (by omega))]
    refine ⟨_, rfl, fun q hq => by rw [mun hq, mun hq]; exact o1 q hq, fun j h1 h2 h3 h4 => by rw [mu_o h2, mu_o h3]; exact o1j j h1, by rw [mu_o (by omega), mu_at], fun _ => mu_at, fun h => absurd h c, fun h => absurd h c, fun h => absurd h c⟩
end
section
/-! ONE TOKEN ON, the reference's; both together -/
theorem nextM {f0 n i : Nat} {B : Nat → Nat} {M : Mem} (hn : n ≤ 160) (hB : ∀ j, j < n → B j < 256) (hC : BM M f0 n B) (h2 : M 100 21 = nI i) (hi : i ≤ n) :
    ∃ M1 : Mem, f_X9_next M = some M1 ∧ (∀ q, q ≠ 100 → M1 q = M q) ∧ (∀ j, j ≠ 21 → j ≠ 22 → j ≠ 23 → j ≠ 24 → M1 100 j = M 100 j) ∧ M1 100 23 = nI (stp (fun j => isBl (B j)) n i) ∧
    (stp (fun j => isBl (B j)) n i = n → M1 100 22 = 0) ∧
    (stp (fun j => isBl (B j)) n i < n → isLt (B (stp (fun j => isBl (B j)) n i)) = true → M1 100 21 = nI (stp (fun j => isLt (B j)) n (stp (fun j => isBl (B j)) n i)) ∧ M1 100 22 = 1) ∧
    (stp (fun j => isBl (B j)) n i < n → isDg (B (stp (fun j => isBl (B j)) n i)) = true → M1 100 21 = nI (stp (fun j => isDg (B j)) n (stp (fun j => isBl (B j)) n i)) ∧ M1 100 22 = (if stp (fun j => isDg (B j)) n (stp (fun j => isBl (B j)) n i) - stp (fun j => isBl (B j)) n i ≤ 4 then 2 else 4) ∧ M1 100 24 = nI (nmN B (stp (fun j => isBl (B j)) n i) (stp (fun j => isDg (B j)) n (stp (fun j => isBl (B j)) n i) - stp (fun j => isBl (B j)) n i))) ∧
    (stp (fun j => isBl (B j)) n i < n → isLt (B (stp (fun j => isBl (B j)) n i)) = false → isDg (B (stp (fun j => isBl (B j)) n i)) = false → (isSg (B (stp (fun j => isBl (B j)) n i)) = true → M1 100 21 = nI (stp (fun j => isBl (B j)) n i + 1) ∧ M1 100 22 = 3 ∧ M1 100 24 = nI (B (stp (fun j => isBl (B j)) n i))) ∧ (isSg (B (stp (fun j => isBl (B j)) n i)) = false → M1 100 22 = 4)) := by
  obtain ⟨s1, s2, s3, s4⟩ := stp_facts (fun j => isBl (B j)) n (n - i) i rfl hi
  unfold f_X9_next
  rw [skipM f_X9_next_b39 hn hB (n - i) i FU M rfl hi (by have := FU_ge; omega) hC h2]
  generalize stp (fun j => isBl (B j)) n i = p at s1 s2 s3 s4 ⊢
  generalize hM1 : mu M 100 21 (nI p) = M1
  have hC1 : BM M1 f0 n B := by rw [← hM1]; exact hC.mu (by omega)
  have e2 : M1 100 21 = nI p := by rw [← hM1]; exact mu_at
  have o1 : ∀ q, q ≠ 100 → M1 q = M q := fun q hq => by rw [← hM1]; exact mun hq
  have o1j : ∀ j, j ≠ 21 → M1 100 j = M 100 j := fun j hj => by rw [← hM1]; exact mu_o hj
  unfold f_X9_next_b39
  rw [e2]
  generalize hM2 : mu M1 100 23 (nI p) = M2
  have hC2 : BM M2 f0 n B := by rw [← hM2]; exact hC1.mu (by omega)
  have f2 : M2 100 21 = nI p := by rw [← hM2, mu_o (by omega)]; exact e2
  have f4 : M2 100 23 = nI p := by rw [← hM2]; exact mu_at
  have o2 : ∀ q, q ≠ 100 → M2 q = M q := fun q hq => by rw [← hM2, mun hq]; exact o1 q hq
  have o2j : ∀ j, j ≠ 21 → j ≠ 23 → M2 100 j = M 100 j := fun j h1 h2 => by rw [← hM2, mu_o h2]; exact o1j j h1
  rw [byteAt_eq hn (by omega) hC2]
  by_cases c : p < n
  · have hb := hB p c
    rw [if_pos c]
    simp only [Option.bind_some]
    rw [if_pos (nI_pos' (by omega)), inLt hb]
    simp only [Option.bind_some, zI_0]
    cases hl : isLt (B p) with
    | true =>
      rw [if_neg (by decide)]
      rw [wordM hn hB (n - p) p FU _ rfl s2 (by have := FU_ge; omega) ((hC2.mu (k := 22) (by omega)).mu (k := 22) (by omega)) (by rw [mu_o (by omega), mu_o (by omega)]; exact f2)]
      have hdg : isDg (B p) = false := by
        unfold isLt at hl; unfold isDg
        simp only [Bool.and_eq_true, decide_eq_true_eq] at hl
        rw [decide_eq_false (show ¬ B p ≤ 57 by omega)]; simp
      exact ⟨_, rfl, (fun q hq => by rw [mun hq, mun hq, mun hq]; exact o2 q hq), (fun j h1 h2 h3 h4 => by rw [mu_o h1, mu_o h2, mu_o h2]; exact o2j j h1 h3), (by rw [mu_o (by omega), mu_o (by omega), mu_o (by omega)]; exact f4), (fun h => by omega), (fun _ _ => ⟨mu_at, by rw [mu_o (by omega), mu_at]⟩), (fun _ h => by rw [hdg] at h; cases h), (fun _ h => by cases h)⟩
    | false =>
      rw [if_pos rfl, inDg hb]
      simp only [Option.bind_some, zI_0]
      cases hd : isDg (B p) with
      | true =>
        rw [if_neg (by decide)]
        have ch : ((Nat.toInt32 0).toInt64 == 0) = true := by decide
        rw [ch]
        simp only [ck_true]
        obtain ⟨w1, w2, w3, w4⟩ := stp_facts (fun j => isDg (B j)) n (n - p) p rfl s2
        have nm := numM (p := p) f_X9_next_b235 hn hB (n - p) p FU (mu (mu (mu M2 100 22 4) 100 22 2) 100 24 (Nat.toInt32 0)) rfl s2 (Nat.le_refl p) (by have := FU_ge; omega) (((hC2.mu (k := 22) (by omega)).mu (k := 22) (by omega)).mu (by omega)) (by rw [mu_o (by omega), mu_o (by omega), mu_o (by omega)]; exact f2) (by rw [mu_at, Nat.sub_self]; rfl) (fun j h1 h2 => by omega)
        rw [Nat.sub_self] at nm
        rw [show (0 : Int32) = nI 0 from rfl, nm]
        generalize stp (fun j => isDg (B j)) n p = e at w1 w2 w3 w4 ⊢
        unfold f_X9_next_b235
        generalize hM3 : mu (mu (mu (mu (mu M2 100 22 4) 100 22 2) 100 24 (Nat.toInt32 0)) 100 24 (nI (nmN B p (e - p)))) 100 21 (nI e) = M3
        have r : (if nI (e - p) ≤ 4 then some (mu M3 100 22 2) else some (mu M3 100 22 4)) = some (mu M3 100 22 (if e - p ≤ 4 then 2 else 4)) := by
          have e4 : (4 : Int32) = nI 4 := rfl
          by_cases h4 : e - p ≤ 4
          · rw [if_pos (e4 ▸ nI_le h4 (by omega)), if_pos h4]
          · rw [if_neg (e4 ▸ nI_ge (by omega) (by omega)), if_neg h4]
        rw [r]
        refine ⟨_, rfl, (fun q hq => by rw [mun hq, ← hM3, mun hq, mun hq, mun hq, mun hq, mun hq]; exact o2 q hq), (fun j h1 h2 h3 h4 => by rw [mu_o h2, ← hM3, mu_o h1, mu_o h4, mu_o h4, mu_o h2, mu_o h2]; exact o2j j h1 h3), (by rw [mu_o (by omega), ← hM3, mu_o (by omega), mu_o (by omega), mu_o (by omega), mu_o (by omega), mu_o (by omega)]; exact f4), (fun h => by omega), (fun _ h => by cases h), (fun _ _ => ⟨by rw [mu_o (by omega), ← hM3, mu_at], mu_at, by rw [mu_o (by omega), ← hM3, mu_o (by omega), mu_at]⟩), (fun _ _ h => by cases h)⟩
      | false =>
        rw [if_pos rfl]
        have e : ∀ c : Nat, c < 256 → (nI (B p) = nI c) = (B p = c) := fun c hc => nIeq (by omega) (by omega)
        rw [show (40 : Int32) = nI 40 from rfl, show (41 : Int32) = nI 41 from rfl, show (59 : Int32) = nI 59 from rfl, show (43 : Int32) = nI 43 from rfl, show (45 : Int32) = nI 45 from rfl, show (42 : Int32) = nI 42 from rfl, show (60 : Int32) = nI 60 from rfl, show (61 : Int32) = nI 61 from rfl]
        simp only [e 40 (by omega), e 41 (by omega), e 59 (by omega), e 43 (by omega), e 45 (by omega), e 42 (by omega), e 60 (by omega), e 61 (by omega)]
        have b300 : f_X9_next_b300 (nI (B p)) (mu M2 100 22 4) = some (mu (mu (mu (mu M2 100 22 4) 100 22 3) 100 24 (nI (B p))) 100 21 (nI (p + 1))) := by
          unfold f_X9_next_b300
          rw [nI_l (by omega), lN_chk (by omega), lN_i, mu_o (by omega), f2, nIp]
          rfl
        have sgn : isSg (B p) = true → ∃ M1 : Mem, f_X9_next_b300 (nI (B p)) (mu M2 100 22 4) = some M1 ∧ (∀ q, q ≠ 100 → M1 q = M q) ∧ (∀ j, j ≠ 21 → j ≠ 22 → j ≠ 23 → j ≠ 24 → M1 100 j = M 100 j) ∧ M1 100 23 = nI p ∧ (p = n → M1 100 22 = 0) ∧ (p < n → false = true → M1 100 21 = nI (stp (fun j => isLt (B j)) n p) ∧ M1 100 22 = 1) ∧ (p < n → false = true → M1 100 21 = nI (stp (fun j => isDg (B j)) n p) ∧ M1 100 22 = (if stp (fun j => isDg (B j)) n p - p ≤ 4 then 2 else 4) ∧ M1 100 24 = nI (nmN B p (stp (fun j => isDg (B j)) n p - p))) ∧ (p < n → True → True → (isSg (B p) = true → M1 100 21 = nI (p + 1) ∧ M1 100 22 = 3 ∧ M1 100 24 = nI (B p)) ∧ (isSg (B p) = false → M1 100 22 = 4)) := by
          intro hs
          rw [b300]
          exact ⟨_, rfl, (fun q hq => by rw [mun hq, mun hq, mun hq, mun hq]; exact o2 q hq), (fun j h1 h2 h3 h4 => by rw [mu_o h1, mu_o h4, mu_o h2, mu_o h2]; exact o2j j h1 h3), (by rw [mu_o (by omega), mu_o (by omega), mu_o (by omega), mu_o (by omega)]; exact f4), (fun h => by omega), (fun _ h => by cases h), (fun _ h => by cases h), (fun _ _ _ => ⟨fun _ => ⟨mu_at, by rw [mu_o (by omega), mu_o (by omega), mu_at], by rw [mu_o (by omega), mu_at]⟩, fun h => by rw [hs] at h; cases h⟩)⟩
        by_cases c1 : B p = 40
        · rw [if_pos c1]; exact sgn (by unfold isSg; rw [c1]; rfl)
        rw [if_neg c1]
        by_cases c2 : B p = 41
        · rw [if_pos c2]; exact sgn (by unfold isSg; rw [c2]; rfl)
        rw [if_neg c2]
        by_cases c3 : B p = 59
        · rw [if_pos c3]; exact sgn (by unfold isSg; rw [c3]; rfl)
        rw [if_neg c3]
        by_cases c4 : B p = 43
        · rw [if_pos c4]; exact sgn (by unfold isSg; rw [c4]; rfl)
        rw [if_neg c4]
        by_cases c5 : B p = 45
        · rw [if_pos c5]; exact sgn (by unfold isSg; rw [c5]; rfl)
        rw [if_neg c5]
        by_cases c6 : B p = 42
        · rw [if_pos c6]; exact sgn (by unfold isSg; rw [c6]; rfl)
        rw [if_neg c6]
        by_cases c7 : B p = 60
        · rw [if_pos c7]; exact sgn (by unfold isSg; rw [c7]; rfl)
        rw [if_neg c7]
        by_cases c8 : B p = 61
        · rw [if_pos c8]; exact sgn (by unfold isSg; rw [c8]; rfl)
        rw [if_neg c8]
        have hs : isSg (B p) = false := by unfold isSg; simp [c1, c2, c3, c4, c5, c6, c7, c8]
        exact ⟨_, rfl, (fun q hq => by rw [mun hq]; exact o2 q hq), (fun j h1 h2 h3 h4 => by rw [mu_o h2]; exact o2j j h1 h3), (by rw [mu_o (by omega)]; exact f4), (fun h => by omega), (fun _ h => by cases h), (fun _ h => by cases h), (fun _ _ _ => ⟨(fun h => by rw [hs] at h; cases h), fun _ => mu_at⟩)⟩
  · have pn : p = n := by omega
    rw [if_neg c]
    simp only [Option.bind_some]
    rw [if_neg (by decide)]
    refine ⟨_, rfl, (fun q hq => by rw [mun hq, mun hq, mun hq]; exact o2 q hq), (fun j h1 h2 h3 h4 => by rw [mu_o h3, mu_o h2, mu_o h2]; exact o2j j h1 h3), (by rw [mu_at, hC2.2.1, pn]), (fun _ => by rw [mu_o (by omega), mu_at]), (fun h => absurd h c), (fun h => absurd h c), (fun h => absurd h c)⟩
/-- both go on by one token -/
theorem advBoth {n f0 i : Nat} {B : Nat → Nat} {Mc Mm : Mem} (hn : n ≤ 160) (hB : ∀ j, j < n → B j < 256) (hC : BC Mc n B) (hM : BM Mm f0 n B) (h2 : Mc 34 2 = nI i) (h21 : Mm 100 21 = nI i) (hi : i ≤ n) :
    ∃ (Mc1 Mm1 : Mem) (p w : Nat), f_X5_advance Mc = some Mc1 ∧ f_X9_next Mm = some Mm1 ∧ Lx n B Mc1 Mm1 p w ∧ i ≤ p ∧ (∀ q, q ≠ 34 → Mc1 q = Mc q) ∧ (∀ j, j ≠ 2 → j ≠ 3 → j ≠ 4 → j ≠ 5 → Mc1 34 j = Mc 34 j) ∧ (∀ q, q ≠ 100 → Mm1 q = Mm q) ∧ (∀ j, j ≠ 21 → j ≠ 22 → j ≠ 23 → j ≠ 24 → Mm1 100 j = Mm 100 j) := by
  obtain ⟨Mc1, a1, a2, a3, a4, a5, a6, a7, a8⟩ := advC hn hB hC h2 hi
  obtain ⟨Mm1, b1, b2, b3, b4, b5, b6, b7, b8⟩ := nextM hn hB hM h21 hi
  obtain ⟨s1, s2, s3, s4⟩ := stp_facts (fun j => isBl (B j)) n (n - i) i rfl hi
  generalize stp (fun j => isBl (B j)) n i = p at a4 a5 a6 a7 a8 b4 b5 b6 b7 b8 s1 s2 s3 s4
  by_cases c : p < n
  · cases hl : isLt (B p) with
    | true =>
      obtain ⟨x1, x2, x3⟩ := a6 c hl
      obtain ⟨y1, y2⟩ := b6 c hl
      obtain ⟨w1, w2, w3, w4⟩ := stp_facts (fun j => isLt (B j)) n (n - p) p rfl s2
      have hp1 : p < stp (fun j => isLt (B j)) n p := by
        rw [stp_go (P := fun j => isLt (B j)) c hl]
        have := (stp_facts (fun j => isLt (B j)) n (n - (p + 1)) (p + 1) rfl (by omega)).1
        omega
      generalize stp (fun j => isLt (B j)) n p = e at x1 x2 x3 y1 w1 w2 w3 w4 hp1
      refine ⟨Mc1, Mm1, p, fw B p e, a1, b1, ⟨s2, a4, b4, Or.inr (Or.inl ⟨e, hp1, w2, x1, y1, y2, rfl, x2, x3, fun j h1 h2 => ?_⟩)⟩, s1, a2, a3, b2, b3⟩
      have := w3 j h1 h2
      intro h0
      simp only [h0] at this
      exact absurd this (by decide)
    | false =>
      cases hd : isDg (B p) with
      | true =>
        obtain ⟨x1, x2, x3⟩ := a7 c hd
        obtain ⟨y1, y2, y3⟩ := b7 c hd
        obtain ⟨w1, w2, w3, w4⟩ := stp_facts (fun j => isDg (B j)) n (n - p) p rfl s2
        have hp1 : p < stp (fun j => isDg (B j)) n p := by
          rw [stp_go (P := fun j => isDg (B j)) c hd]
          have := (stp_facts (fun j => isDg (B j)) n (n - (p + 1)) (p + 1) rfl (by omega)).1
          omega
        generalize stp (fun j => isDg (B j)) n p = e at x1 x2 x3 y1 y2 y3 w1 w2 w3 w4 hp1
        by_cases h4 : e - p ≤ 4
        · rw [if_pos h4] at x2 y2
          exact ⟨Mc1, Mm1, p, 12, a1, b1, ⟨s2, a4, b4, Or.inr (Or.inr (Or.inl ⟨e, nmN B p (e - p), hp1, w2, rfl, x1, y1, y2, x2, nmN_lt B p (e - p) (fun x hx => w3 (p + x) (by omega) (by omega)), x3, y3⟩))⟩, s1, a2, a3, b2, b3⟩
        · rw [if_neg h4] at x2 y2
          exact ⟨Mc1, Mm1, p, 12, a1, b1, ⟨s2, a4, b4, Or.inr (Or.inr (Or.inr (Or.inr ⟨c, rfl, x2, y2⟩)))⟩, s1, a2, a3, b2, b3⟩
      | false =>
        obtain ⟨x1, x2⟩ := a8 c hl hd
        obtain ⟨y1, y2⟩ := b8 c hl hd
        cases hs : isSg (B p) with
        | true =>
          obtain ⟨z1, z2, z3⟩ := y1 hs
          rw [hs, if_pos rfl] at x2
          exact ⟨Mc1, Mm1, p, 12, a1, b1, ⟨s2, a4, b4, Or.inr (Or.inr (Or.inr (Or.inl ⟨c, rfl, hs, x1, z1, z2, x2, z3⟩)))⟩, s1, a2, a3, b2, b3⟩
        | false =>
          rw [hs, if_neg (by decide)] at x2
          exact ⟨Mc1, Mm1, p, 12, a1, b1, ⟨s2, a4, b4, Or.inr (Or.inr (Or.inr (Or.inr ⟨c, rfl, x2, y2 hs⟩)))⟩, s1, a2, a3, b2, b3⟩
  · have pn : p = n := by omega
    exact ⟨Mc1, Mm1, p, 12, a1, b1, ⟨s2, a4, b4, Or.inl ⟨pn, rfl, a5 pn, b5 pn⟩⟩, s1, a2, a3, b2, b3⟩
end
section
/-! WHAT BOTH READERS SEE OF A TOKEN; THE TWO STATES OF A READING -/
def FrC (t : Nat) (M M1 : Mem) : Prop := (∀ q, q ≠ 34 → q ≠ t → q ≠ t + 1 → M1 q = M q) ∧ (∀ j, (j < 2 ∨ 6 < j) → M1 34 j = M 34 j) ∧ (∀ j, j ≠ 2 → M1 t j = M t j)
def FrM (M M1 : Mem) : Prop := (∀ q, q ≠ 100 → M1 q = M q) ∧ (∀ j, (j < 21 ∨ 27 < j) → M1 100 j = M 100 j)
theorem FrC.refl (t : Nat) (M : Mem) : FrC t M M := ⟨fun _ _ _ _ => rfl, fun _ _ => rfl, fun _ _ => rfl⟩
theorem FrM.refl (M : Mem) : FrM M M := ⟨fun _ _ => rfl, fun _ _ => rfl⟩
theorem FrC.tr {t : Nat} {a b c : Mem} (h : FrC t a b) (k : FrC t b c) : FrC t a c := ⟨fun q x y z => (k.1 q x y z).trans (h.1 q x y z), fun j x => (k.2.1 j x).trans (h.2.1 j x), fun j x => (k.2.2 j x).trans (h.2.2 j x)⟩
theorem FrM.tr {a b c : Mem} (h : FrM a b) (k : FrM b c) : FrM a c := ⟨fun q x => (k.1 q x).trans (h.1 q x), fun j x => (k.2 j x).trans (h.2 j x)⟩
theorem FrC.mu {t : Nat} (ht : isTx t) (M : Mem) {k : Nat} (hk : 2 ≤ k ∧ k ≤ 6) (v : Int32) : FrC t M (mu M 34 k v) := by
  obtain ⟨r, hr, rfl⟩ := ht
  exact ⟨fun q x y z => mun x, fun j x => mu_o (by omega), fun j x => by rw [mun (by omega)]⟩
theorem FrM.mu (M : Mem) {k : Nat} (hk : 21 ≤ k ∧ k ≤ 27) (v : Int32) : FrM M (mu M 100 k v) := ⟨fun q x => mun x, fun j x => mu_o (by omega)⟩
def env (M : Mem) : Nat → Int32 := fun i => if i < 6 then M 100 (13 + i) else 0
theorem FrM.en {a b : Mem} (h : FrM a b) : env b = env a := by
  funext i
  unfold env
  by_cases c : i < 6
  · rw [if_pos c, if_pos c]; exact h.2 _ (by omega)
  · rw [if_neg c, if_neg c]
def Live (n : Nat) (B : Nat → Nat) (f0 t d : Nat) (Mc Mm : Mem) (p w s : Nat) : Prop :=
  Lx n B Mc Mm p w ∧ BC Mc n B ∧ BM Mm f0 n B ∧ Mc 34 6 = -1 ∧ Mm 100 26 = 0 ∧ Mm 100 25 = nI d ∧ Mc t 2 = nI s ∧ s ≤ p
def Dead (t f : Nat) (Mc Mm : Mem) : Prop := Mc 34 3 = 257 ∧ Mc 34 6 = nI f ∧ Mm 100 26 = 1 ∧ Mm 100 27 = nI f ∧ f ≤ 160 ∧ ∃ s, s ≤ 160 ∧ Mc t 2 = nI s
theorem tkW_f : ∀ w, w ≤ 12 → (tkW w = if w < 6 then nI 259 else if w < 12 then nI (254 + w) else nI 257) := by decide +kernel
theorem tkW_sg {w c : Nat} (hw : w ≤ 12) (hc : c < 256) : tkW w ≠ nI c := by
  rw [tkW_f w hw]
  split
  · exact fun h => by rw [nIeq (by omega) (by omega)] at h; omega
  · split
    · exact fun h => by rw [nIeq (by omega) (by omega)] at h; omega
    · exact fun h => by rw [nIeq (by omega) (by omega)] at h; omega
/-- a sign, to both -/
theorem obsS {n : Nat} {B : Nat → Nat} {Mc Mm : Mem} {p w : Nat} (hB : ∀ j, j < n → B j < 256) (h : Lx n B Mc Mm p w) (hb : Mm 100 26 = 0) {c : Nat} (hc : c < 256) : f_X9_isSign (nI c) Mm = some (zI (decide (Mc 34 3 = nI c)), Mm) := by
  unfold f_X9_isSign
  rw [if_pos hb]
  obtain ⟨hp, h4, h23, h1 | h1 | h1 | h1 | h1⟩ := h
  · obtain ⟨a1, a2, a3, a4⟩ := h1
    rw [a3, a4, if_neg (by decide), decide_eq_false (show ¬ (256 : Int32) = nI c by rw [show (256 : Int32) = nI 256 from rfl, nIeq (by omega) (by omega)]; omega)]
    rfl
  · obtain ⟨e, a1, a2, a3, a4, a5, a6, a7, a8⟩ := h1
    rw [a5, a7, if_neg (by decide), decide_eq_false (tkW_sg (by rw [a6]; exact fw_le B p e) hc)]
    rfl
  · obtain ⟨e, v, a1, a2, a3, a4, a5, a6, a7, a8⟩ := h1
    rw [a6, a7, if_neg (by decide), decide_eq_false (show ¬ (258 : Int32) = nI c by rw [show (258 : Int32) = nI 258 from rfl, nIeq (by omega) (by omega)]; omega)]
    rfl
  · obtain ⟨a1, a2, a3, a4, a5, a6, a7, a8⟩ := h1
    have hbp := hB p a1
    rw [a6, a7, a8, if_pos rfl]
    by_cases e : B p = c
    · rw [e, if_pos (by unfold lg_cmp; simp), decide_eq_true rfl]; rfl
    · have e2 : ¬ nI (B p) = nI c := by rw [nIeq (by omega) (by omega)]; exact e
      rw [decide_eq_false e2, if_neg]
      · rfl
      · rw [nI_l (by omega), nI_l (by omega)]
        intro hz
        unfold lg_cmp at hz
        split at hz
        · cases hz
        · split at hz
          · rename_i u1 u2
            apply e
            have g := congrArg Int64.toInt32 u2
            rw [lN_i, lN_i, nIeq (by omega) (by omega)] at g
            exact g
          · cases hz
  · obtain ⟨a1, a2, a3, a4⟩ := h1
    rw [a3, a4, if_neg (by decide), decide_eq_false (show ¬ (257 : Int32) = nI c by rw [show (257 : Int32) = nI 257 from rfl, nIeq (by omega) (by omega)]; omega)]
    rfl
def wordM0 (s : List Nat) (M : Mem) : Option (Int32 × Mem) := f_X9_isWord (nI (s.getD 0 0)) (nI (s.getD 1 0)) (nI (s.getD 2 0)) (nI (s.getD 3 0)) (nI (s.getD 4 0)) (nI (s.getD 5 0)) (nI (s.getD 6 0)) (nI (s.getD 7 0)) M
theorem sw_b8 : ∀ k, k < 12 → ∀ i, i < 8 → (sw k).getD i 0 < 256 := by decide +kernel
/-- a word, to both -/
theorem obsW {n f0 : Nat} {B : Nat → Nat} {Mc Mm : Mem} {p w : Nat} (hn : n ≤ 160) (hB : ∀ j, j < n → B j < 256) (hM : BM Mm f0 n B) (h : Lx n B Mc Mm p w) (hb : Mm 100 26 = 0) {k : Nat} (hk : k < 12) : wordM0 (sw k) Mm = some (zI (decide (w = k)), Mm) := by
  have no : w = 12 → Mm 100 22 ≠ 1 → wordM0 (sw k) Mm = some (zI (decide (w = k)), Mm) := by
    intro h1 h2
    unfold wordM0 f_X9_isWord
    rw [if_pos hb, if_neg h2, decide_eq_false (show ¬ w = k by omega)]
    rfl
  obtain ⟨hp, h4, h23, h1 | h1 | h1 | h1 | h1⟩ := h
  · obtain ⟨a1, a2, a3, a4⟩ := h1
    exact no a2 (by rw [a4]; decide)
  · obtain ⟨e, a1, a2, a3, a4, a5, a6, a7, a8, a9⟩ := h1
    unfold wordM0
    rw [isWordM (p := p) (e := e) (sw_lt k hk).1 (sw_lt k hk).2 (sw_b8 k hk) hn hB hM h23 a4 (by omega) a2 a9 hb a5, fw_is hk, a6]
  · obtain ⟨e, v, a1, a2, a3, a4, a5, a6, a7, a8⟩ := h1
    exact no a3 (by rw [a6]; decide)
  · obtain ⟨a1, a2, a3, a4, a5, a6, a7, a8⟩ := h1
    exact no a2 (by rw [a6]; decide)
  · obtain ⟨a1, a2, a3, a4⟩ := h1
    exact no a2 (by rw [a4]; decide)
theorem obsS0 {M : Mem} (hb : M 100 26 = 1) (c : Int32) : f_X9_isSign c M = some (0, M) := by
  unfold f_X9_isSign; rw [if_neg (by rw [hb]; decide)]
theorem obsW0 {M : Mem} (hb : M 100 26 = 1) (s : List Nat) : wordM0 s M = some (0, M) := by
  unfold wordM0 f_X9_isWord; rw [if_neg (by rw [hb]; decide)]
/-- the word's token, to the class -/
theorem obsK {n : Nat} {B : Nat → Nat} {Mc Mm : Mem} {p w : Nat} (hB : ∀ j, j < n → B j < 256) (h : Lx n B Mc Mm p w) {k : Nat} (hk : 6 ≤ k ∧ k < 12) : (Mc 34 3 = nI (254 + k)) = (w = k) := by
  apply propext
  obtain ⟨hp, h4, h23, h1 | h1 | h1 | h1 | h1⟩ := h
  · obtain ⟨a1, a2, a3, a4⟩ := h1
    rw [a3, a2, show (256 : Int32) = nI 256 from rfl, nIeq (by omega) (by omega)]; omega
  · obtain ⟨e, a1, a2, a3, a4, a5, a6, a7, a8⟩ := h1
    have hw : w ≤ 12 := by rw [a6]; exact fw_le B p e
    rw [a7, tkW_f w hw]
    split
    · rw [nIeq (by omega) (by omega)]; omega
    · split
      · rw [nIeq (by omega) (by omega)]; omega
      · rw [nIeq (by omega) (by omega)]; omega
  · obtain ⟨e, v, a1, a2, a3, a4, a5, a6, a7, a8⟩ := h1
    rw [a7, a3, show (258 : Int32) = nI 258 from rfl, nIeq (by omega) (by omega)]; omega
  · obtain ⟨a1, a2, a3, a4, a5, a6, a7, a8⟩ := h1
    have hbp := hB p a1
    rw [a7, a2, nIeq (by omega) (by omega)]; omega
  · obtain ⟨a1, a2, a3, a4⟩ := h1
    rw [a3, a2, show (257 : Int32) = nI 257 from rfl, nIeq (by omega) (by omega)]; omega
theorem failBoth {n f0 t d : Nat} {B : Nat → Nat} {Mc Mm : Mem} {p w s : Nat} (ht : isTx t) (hn : n ≤ 160) (h : Live n B f0 t d Mc Mm p w s) :
    ∃ Mc1 Mm1 : Mem, f_X5_fail Mc = some Mc1 ∧ f_X9_fail Mm = some Mm1 ∧ FrC t Mc Mc1 ∧ FrM Mm Mm1 ∧ Dead t p Mc1 Mm1 := by
  obtain ⟨hL, hC, hM, h6, h26, h25, hs, hsp⟩ := h
  unfold f_X5_fail f_X9_fail
  rw [if_pos h6, if_pos h26]
  have hp := hL.1
  have h4 := hL.2.1
  have h23 := hL.2.2.1
  refine ⟨_, _, rfl, rfl, (FrC.mu ht Mc (by omega) _).tr (FrC.mu ht _ (by omega) _), (FrM.mu Mm (by omega) _).tr (FrM.mu _ (by omega) _), mu_at, ?_, ?_, ?_, by omega, s, by omega, ?_⟩
  · rw [mu_o (by omega), mu_at, h4]
  · rw [mu_o (by omega), mu_at]
  · rw [mu_at, h23]
  · obtain ⟨r, hr, rfl⟩ := ht
    rw [mun (by omega), mun (by omega)]; exact hs
theorem failDead {t f : Nat} {Mc Mm : Mem} (h : Dead t f Mc Mm) : f_X5_fail Mc = some Mc ∧ f_X9_fail Mm = some Mm := by
  obtain ⟨h3, h6, h26, h27, hf, h⟩ := h
  unfold f_X5_fail f_X9_fail
  rw [if_neg (by rw [h6]; intro hx; exact nI_pos (n := f) (by omega) (by rw [hx]; decide)), if_neg (by rw [h26]; decide), mu_id h3]
  exact ⟨rfl, rfl⟩
theorem app_eq {t s : Nat} (ht : isTx t) {M : Mem} (hs : M t 2 = nI s) (h : s < 160) (v : Int32) : f_X7_append t v M = some (mu (mu M (t + 1) s v) t 2 (nI (s + 1))) := by
  obtain ⟨k1, k2, k3, l1, l2, q1, q2⟩ := tx_kd ht
  unfold f_X7_append
  rw [k1, hs, if_neg (by rw [show (160 : Int32) = nI 160 from rfl, nIle (by omega) (by omega)]; omega), k2, l1, inb_nI h (by omega), nI_clamp (by omega), nIp]
  rfl
theorem app_fr {t s : Nat} (ht : isTx t) (M : Mem) (v u : Int32) : FrC t M (mu (mu M (t + 1) s v) t 2 u) := by
  obtain ⟨r, hr, rfl⟩ := ht
  exact ⟨fun q x y z => by rw [mun y, mun z], fun j x => by rw [mun (by omega), mun (by omega)], fun j x => by rw [mu_o x, mun (by omega)]⟩
theorem app_dead {t f : Nat} (ht : isTx t) {Mc Mm : Mem} (h : Dead t f Mc Mm) (v : Int32) : ∃ M1 : Mem, f_X7_append t v Mc = some M1 ∧ FrC t Mc M1 ∧ Dead t f M1 Mm := by
  obtain ⟨h3, h6, h26, h27, hf, s, hs, h2⟩ := h
  by_cases c : s < 160
  · refine ⟨_, app_eq ht h2 c v, app_fr ht Mc v _, ?_, ?_, h26, h27, hf, s + 1, c, mu_at⟩
    · obtain ⟨r, hr, rfl⟩ := ht
      rw [mun (by omega), mun (by omega)]; exact h3
    · obtain ⟨r, hr, rfl⟩ := ht
      rw [mun (by omega), mun (by omega)]; exact h6
  · have e : s = 160 := by omega
    subst e
    refine ⟨Mc, ?_, FrC.refl t Mc, h3, h6, h26, h27, hf, 160, by omega, h2⟩
    unfold f_X7_append
    rw [(tx_kd ht).1, h2, if_pos (by decide)]
    rfl
end
section
/-! READING SIDE BY SIDE: one operator on, and the rows of operators -/
theorem evR_add (cs e : Nat → Int32) : ∀ a b i t, evR cs e (a + b) i t = evR cs e b (i + a) (evR cs e a i t) := by
  intro a
  induction a with
  | zero => intro b i t; rw [Nat.zero_add]; rfl
  | succ a ih =>
    intro b i t
    rw [show a + 1 + b = (a + b) + 1 by omega]
    show evR cs e (a + b) (i + 1) (evS (cs i) e t) = _
    rw [ih, show i + 1 + a = i + (a + 1) by omega]
    rfl
theorem evR_cg {cs cs2 e : Nat → Int32} : ∀ n i t, (∀ j, i ≤ j → j < i + n → cs j = cs2 j) → evR cs e n i t = evR cs2 e n i t := by
  intro n
  induction n with
  | zero => intro i t h; rfl
  | succ n ih =>
    intro i t h
    show evR cs e n (i + 1) (evS (cs i) e t) = evR cs2 e n (i + 1) (evS (cs2 i) e t)
    rw [h i (by omega) (by omega)]
    exact ih _ _ (fun j h1 h2 => h j (by omega) (by omega))
theorem Lx.cg {n : Nat} {B : Nat → Nat} {Mc Mm Mc1 Mm1 : Mem} {p w : Nat} (h : Lx n B Mc Mm p w) (h1 : ∀ j, 2 ≤ j → j ≤ 5 → Mc1 34 j = Mc 34 j) (h2 : ∀ j, 21 ≤ j → j ≤ 24 → Mm1 100 j = Mm 100 j) : Lx n B Mc1 Mm1 p w := by
  unfold Lx at h ⊢
  rw [h1 2 (by omega) (by omega), h1 3 (by omega) (by omega), h1 4 (by omega) (by omega), h1 5 (by omega) (by omega), h2 21 (by omega) (by omega), h2 22 (by omega) (by omega), h2 23 (by omega) (by omega), h2 24 (by omega) (by omega)]
  exact h
theorem obsV {n : Nat} {B : Nat → Nat} {Mc Mm : Mem} {p w c : Nat} (h : Lx n B Mc Mm p w) (hc : c < 256) (h3 : Mc 34 3 = nI c) : Mm 100 24 = nI c := by
  obtain ⟨hp, h4, h23, h1 | h1 | h1 | h1 | h1⟩ := h
  · obtain ⟨a1, a2, a3, a4⟩ := h1
    rw [h3, show (256 : Int32) = nI 256 from rfl, nIeq (by omega) (by omega)] at a3; omega
  · obtain ⟨e, a1, a2, a3, a4, a5, a6, a7, a8⟩ := h1
    exact absurd (a7.symm.trans h3) (tkW_sg (by rw [a6]; exact fw_le B p e) hc)
  · obtain ⟨e, v, a1, a2, a3, a4, a5, a6, a7, a8⟩ := h1
    rw [h3, show (258 : Int32) = nI 258 from rfl, nIeq (by omega) (by omega)] at a7; omega
  · obtain ⟨a1, a2, a3, a4, a5, a6, a7, a8⟩ := h1
    rw [a8, ← a7]; exact h3
  · obtain ⟨a1, a2, a3, a4⟩ := h1
    rw [h3, show (257 : Int32) = nI 257 from rfl, nIeq (by omega) (by omega)] at a3; omega
theorem advLive {n f0 t d : Nat} {B : Nat → Nat} {Mc Mm : Mem} {p w s : Nat} (ht : isTx t) (hn : n ≤ 160) (hB : ∀ j, j < n → B j < 256) (h : Live n B f0 t d Mc Mm p w s) (h6 : Mc 34 3 ≠ 256) (h7 : Mc 34 3 ≠ 257) :
    ∃ (Mc1 Mm1 : Mem) (p1 w1 : Nat), f_X5_advance Mc = some Mc1 ∧ f_X9_next Mm = some Mm1 ∧ FrC t Mc Mc1 ∧ FrM Mm Mm1 ∧ Live n B f0 t d Mc1 Mm1 p1 w1 s ∧ p < p1 ∧ Mc1 (t + 1) = Mc (t + 1) := by
  obtain ⟨hL, hC, hM, a6, a26, a25, hs, hsp⟩ := h
  have key : ∃ i, p < i ∧ i ≤ n ∧ Mc 34 2 = nI i ∧ Mm 100 21 = nI i := by
    obtain ⟨hp, h4, h23, h1 | h1 | h1 | h1 | h1⟩ := hL
    · exact absurd h1.2.2.1 h6
    · obtain ⟨e, a1, a2, a3, a4, a5⟩ := h1
      exact ⟨e, a1, a2, a3, a4⟩
    · obtain ⟨e, v, a1, a2, a3, a4, a5, a6⟩ := h1
      exact ⟨e, a1, a2, a4, a5⟩
    · obtain ⟨a1, a2, a3, a4, a5, a6⟩ := h1
      exact ⟨p + 1, by omega, by omega, a4, a5⟩
    · exact absurd h1.2.2.1 h7
  obtain ⟨i, i1, i2, i3, i4⟩ := key
  obtain ⟨Mc1, Mm1, p1, w1, b1, b2, b3, b4, b5, b6, b7, b8⟩ := advBoth hn hB hC hM i3 i4 i2
  obtain ⟨r, hr, rfl⟩ := ht
  refine ⟨Mc1, Mm1, p1, w1, b1, b2, ⟨fun q x y z => b5 q x, fun j x => b6 j (by omega) (by omega) (by omega) (by omega), fun j x => by rw [b5 _ (by omega)]⟩, ⟨b7, fun j x => b8 j (by omega) (by omega) (by omega) (by omega)⟩, ⟨b3, ⟨?_, ?_⟩, ⟨?_, ?_, hM.2.2.1, ?_⟩, ?_, ?_, ?_, ?_, by omega⟩, by omega, b5 _ (by omega)⟩
  · rw [b6 1 (by omega) (by omega) (by omega) (by omega)]; exact hC.1
  · intro j hj; rw [b5 35 (by omega)]; exact hC.2 j hj
  · rw [b8 19 (by omega) (by omega) (by omega) (by omega)]; exact hM.1
  · rw [b8 20 (by omega) (by omega) (by omega) (by omega)]; exact hM.2.1
  · intro j hj; rw [b7 101 (by omega)]; exact hM.2.2.2 j hj
  · rw [b6 6 (by omega) (by omega) (by omega) (by omega)]; exact a6
  · rw [b8 26 (by omega) (by omega) (by omega) (by omega)]; exact a26
  · rw [b8 25 (by omega) (by omega) (by omega) (by omega)]; exact a25
  · rw [b5 _ (by omega)]; exact hs
theorem appLive {n f0 t d : Nat} {B : Nat → Nat} {Mc Mm : Mem} {p w s : Nat} (ht : isTx t) (hn : n ≤ 160) (h : Live n B f0 t d Mc Mm p w s) (hs1 : s + 1 ≤ p) (c : Int32) :
    ∃ Mc1 : Mem, f_X7_append t c Mc = some Mc1 ∧ FrC t Mc Mc1 ∧ Live n B f0 t d Mc1 Mm p w (s + 1) ∧ Mc1 (t + 1) s = c ∧ ∀ j, j ≠ s → Mc1 (t + 1) j = Mc (t + 1) j := by
  obtain ⟨hL, hC, hM, a6, a26, a25, hs, hsp⟩ := h
  have hp := hL.1
  refine ⟨_, app_eq ht hs (by omega) c, app_fr ht Mc c _, ?_, ?_, ?_⟩
  · obtain ⟨r, hr, rfl⟩ := ht
    have o : ∀ j, mu (mu Mc (16 + 3 * r + 1) s c) (16 + 3 * r) 2 (nI (s + 1)) 34 j = Mc 34 j := fun j => by rw [mun (by omega), mun (by omega)]
    refine ⟨hL.cg (fun j _ _ => o j) (fun _ _ _ => rfl), ⟨(o 1).trans hC.1, fun j hj => ?_⟩, hM, (o 6).trans a6, a26, a25, mu_at, by omega⟩
    rw [mun (by omega), mun (by omega)]; exact hC.2 j hj
  · rw [mun (by omega), mu_at]
  · intro j hj
    rw [mun (by omega), mu_o hj]
def Go (n : Nat) (B : Nat → Nat) (f0 t d : Nat) (Mc Mm : Mem) (p s : Nat) (Mc1 Mm1 : Mem) (v : Int32) : Prop :=
  ∃ p1 w1 s1, Live n B f0 t d Mc1 Mm1 p1 w1 s1 ∧ p < p1 ∧ s ≤ s1 ∧ s1 + p ≤ s + p1 ∧ (∀ j, j < s → Mc1 (t + 1) j = Mc (t + 1) j) ∧ ∀ st, evR (Mc1 (t + 1)) (env Mm) (s1 - s) s st = v :: st
def PS (n : Nat) (B : Nat → Nat) (f0 t : Nat) (fc : Nat → Int32 → Mem → Option Mem) (gm : Mem → Option (Int32 × Mem)) (d : Nat) : Prop :=
  ∀ Mc Mm : Mem, (∀ p w s, Live n B f0 t d Mc Mm p w s → ∃ (Mc1 Mm1 : Mem) (v : Int32), fc t (nI d) Mc = some Mc1 ∧ gm Mm = some (v, Mm1) ∧ FrC t Mc Mc1 ∧ FrM Mm Mm1 ∧ (Go n B f0 t d Mc Mm p s Mc1 Mm1 v ∨ ∃ f, Dead t f Mc1 Mm1)) ∧
    (∀ f, Dead t f Mc Mm → ∃ (Mc1 Mm1 : Mem) (v : Int32), fc t (nI d) Mc = some Mc1 ∧ gm Mm = some (v, Mm1) ∧ FrC t Mc Mc1 ∧ FrM Mm Mm1 ∧ Dead t f Mc1 Mm1)
/-- what stands after an operator, and the operator's code -/
theorem opStep {n f0 t d : Nat} {B : Nat → Nat} {Mc Mm : Mem} {p w s : Nat} {rc : Nat → Int32 → Mem → Option Mem} {rm : Mem → Option (Int32 × Mem)} (ht : isTx t) (hn : n ≤ 160) (hB : ∀ j, j < n → B j < 256) (hP : PS n B f0 t rc rm d) (h : Live n B f0 t d Mc Mm p w s) (h6 : Mc 34 3 ≠ 256) (h7 : Mc 34 3 ≠ 257) (c : Int32) :
    ∃ (A Am C Mc1 Mm1 : Mem) (v : Int32), f_X5_advance Mc = some A ∧ f_X9_next Mm = some Am ∧ rc t (nI d) A = some C ∧ rm Am = some (v, Mm1) ∧ f_X7_append t c C = some Mc1 ∧ FrC t Mc Mc1 ∧ FrM Mm Mm1 ∧
      ((∃ p1 w1 s1, Live n B f0 t d Mc1 Mm1 p1 w1 (s1 + 1) ∧ p < p1 ∧ s ≤ s1 ∧ s1 + 1 + p ≤ s + p1 ∧ (∀ j, j < s → Mc1 (t + 1) j = Mc (t + 1) j) ∧ ∀ st, evR (Mc1 (t + 1)) (env Mm) (s1 + 1 - s) s st = evS c (env Mm) (v :: st)) ∨ ∃ f, Dead t f Mc1 Mm1) := by
  obtain ⟨A, Am, p1, w1, e1, e2, e3, e4, e5, e6, e7⟩ := advLive ht hn hB h h6 h7
  obtain ⟨C, Mm1, v, g1, g2, g3, g4, g5⟩ := (hP A Am).1 _ _ _ e5
  rcases g5 with g5 | ⟨f, g5⟩
  · obtain ⟨p2, w2, s2, k1, k2, k3, k4, k5, k6⟩ := g5
    have hsp := h.2.2.2.2.2.2.2
    obtain ⟨Mc1, l1, l2, l3, l4, l5⟩ := appLive ht hn k1 (by omega) c
    refine ⟨A, Am, C, Mc1, Mm1, v, e1, e2, g1, g2, l1, e3.tr (g3.tr l2), e4.tr g4, Or.inl ⟨p2, w2, s2, l3, by omega, by omega, by omega, fun j hj => ?_, fun st => ?_⟩⟩
    · rw [l5 j (by omega), k5 j hj, e7]
    · rw [show s2 + 1 - s = (s2 - s) + 1 by omega, evR_add, show s + (s2 - s) = s2 by omega]
      rw [evR_cg (cs2 := C (t + 1)) (s2 - s) s st (fun j h1 h2 => l5 j (by omega))]
      have := k6 st
      rw [e4.en] at this
      rw [this]
      show evS (Mc1 (t + 1) s2) (env Mm) (v :: st) = _
      rw [l4]
  · obtain ⟨Mc1, l1, l2, l3⟩ := app_dead ht g5 c
    exact ⟨A, Am, C, Mc1, Mm1, v, e1, e2, g1, g2, l1, e3.tr (g3.tr l2), e4.tr g4, Or.inr ⟨f, l3⟩⟩
/-- a row of operators -/
theorem loopPS {n f0 t d : Nat} {B : Nat → Nat} {rc : Nat → Int32 → Mem → Option Mem} {rm : Mem → Option (Int32 × Mem)} (ht : isTx t) (hn : n ≤ 160) (hB : ∀ j, j < n → B j < 256) (hP : PS n B f0 t rc rm d)
    (L : Nat → Nat → Int32 → Int32 → Mem → Option Mem) (Lm : Nat → Int32 → Mem → Option (Int32 × Mem)) (tk : Int32 → Option Int32)
    (hL : ∀ f v2 v3 M, L (f + 1) t v2 v3 M = if 160 ≤ v3 then some M else match tk (M 34 3) with | none => some M | some c => (f_X5_advance M).bind fun o5 => (rc t v2 o5).bind fun o7 => (f_X7_append t c o7).bind fun o9 => L f t v2 (v3 + 1) o9)
    (hMn : ∀ f v Mc Mm p w s, Live n B f0 t d Mc Mm p w s → tk (Mc 34 3) = none → Lm (f + 1) v Mm = some (v, Mm))
    (hMy : ∀ f v Mc Mm p w s c, Live n B f0 t d Mc Mm p w s → tk (Mc 34 3) = some c → Lm (f + 1) v Mm = (f_X9_next Mm).bind fun o6 => (rm o6).bind fun o8 => Lm f (jn c v o8.1) o8.2)
    (hMd : ∀ f v (Mm : Mem), Mm 100 26 = 1 → Lm (f + 1) v Mm = some (v, Mm))
    (hk6 : tk 256 = none) (hk7 : tk 257 = none) (hc : ∀ x c, tk x = some c → ∀ e b a st, evS c e (b :: a :: st) = jn c a b :: st) :
    ∀ m fuel v3 (Mc Mm : Mem) p w s v, Live n B f0 t d Mc Mm p w s → n - p = m → m < fuel → v3 ≤ p →
      ∃ (Mc1 Mm1 : Mem) (v1 : Int32), L fuel t (nI d) (nI v3) Mc = some Mc1 ∧ Lm fuel v Mm = some (v1, Mm1) ∧ FrC t Mc Mc1 ∧ FrM Mm Mm1 ∧
        ((∃ p1 w1 s1, Live n B f0 t d Mc1 Mm1 p1 w1 s1 ∧ p ≤ p1 ∧ s ≤ s1 ∧ s1 + p ≤ s + p1 ∧ (∀ j, j < s → Mc1 (t + 1) j = Mc (t + 1) j) ∧ ∀ st, evR (Mc1 (t + 1)) (env Mm) (s1 - s) s (v :: st) = v1 :: st) ∨ ∃ f, Dead t f Mc1 Mm1) := by
  intro m
  induction m using Nat.strongRecOn with
  | ind m ih =>
    intro fuel v3 Mc Mm p w s v h hm hf h3
    obtain ⟨f, rfl⟩ : ∃ f, fuel = f + 1 := ⟨fuel - 1, by omega⟩
    have hpn := h.1.1
    rw [hL]
    cases htk : tk (Mc 34 3) with
    | none =>
      refine ⟨Mc, Mm, v, by simp, hMn f v Mc Mm p w s h htk, FrC.refl t Mc, FrM.refl Mm, Or.inl ⟨p, w, s, h, Nat.le_refl _, Nat.le_refl _, Nat.le_refl _, fun _ _ => rfl, fun st => ?_⟩⟩
      rw [Nat.sub_self]
      rfl
    | some c =>
      have h6 : Mc 34 3 ≠ 256 := fun e => by rw [e, hk6] at htk; cases htk
      have h7 : Mc 34 3 ≠ 257 := fun e => by rw [e, hk7] at htk; cases htk
      obtain ⟨A, Am, C, Mc1, Mm1, v1, e1, e2, e3, e4, e5, e6, e7, e8⟩ := opStep ht hn hB hP h h6 h7 c
      have hpl : p < n := by
        obtain ⟨A2, Am2, p2, w2, x1, x2, x3, x4, x5, x6, x7⟩ := advLive ht hn hB h h6 h7
        have := x5.1.1
        omega
      rw [if_neg (by rw [show (160 : Int32) = nI 160 from rfl, nIle (by omega) (by omega)]; omega), e1]
      simp only [Option.bind_some]
      rw [e3]
      simp only [Option.bind_some]
      rw [e5]
      simp only [Option.bind_some]
      rw [hMy f v Mc Mm p w s c h htk, e2]
      simp only [Option.bind_some]
      rw [e4]
      simp only [Option.bind_some]
      rw [nIp]
      rcases e8 with ⟨p1, w1, s1, k1, k2, k3, k4, k5, k6⟩ | ⟨f1, k1⟩
      · obtain ⟨Mc2, Mm2, v2, j1, j2, j3, j4, j5⟩ := ih (n - p1) (by omega) f (v3 + 1) Mc1 Mm1 p1 w1 (s1 + 1) (jn c v v1) k1 rfl (by omega) (by omega)
        refine ⟨Mc2, Mm2, v2, j1, j2, e6.tr j3, e7.tr j4, ?_⟩
        rcases j5 with ⟨p2, w2, s2, i1, i2, i3, i4, i5, i6⟩ | j5
        · refine Or.inl ⟨p2, w2, s2, i1, by omega, by omega, by omega, fun j hj => (i5 j (by omega)).trans (k5 j hj), fun st => ?_⟩
          rw [show s2 - s = (s1 + 1 - s) + (s2 - (s1 + 1)) by omega, evR_add, show s + (s1 + 1 - s) = s1 + 1 by omega]
          rw [evR_cg (cs2 := Mc1 (t + 1)) (s1 + 1 - s) s (v :: st) (fun j h1 h2 => i5 j (by omega)), k6, hc _ c htk]
          have := i6 st
          rw [e7.en] at this
          exact this
        · exact Or.inr j5
      · obtain ⟨f2, rfl⟩ : ∃ f2, f = f2 + 1 := ⟨f - 1, by omega⟩
        have z3 := k1.1
        have z26 := k1.2.2.1
        refine ⟨Mc1, Mm1, jn c v v1, ?_, hMd f2 _ Mm1 z26, e6, e7, Or.inr ⟨f1, k1⟩⟩
        rw [hL, z3, hk7]
        simp
/-- the first, and then a row of operators -/
theorem rowPS {n f0 t d : Nat} {B : Nat → Nat} {rc : Nat → Int32 → Mem → Option Mem} {rm : Mem → Option (Int32 × Mem)} (ht : isTx t) (hn : n ≤ 160) (hB : ∀ j, j < n → B j < 256) (hP : PS n B f0 t rc rm d)
    (L : Nat → Nat → Int32 → Int32 → Mem → Option Mem) (Lm : Nat → Int32 → Mem → Option (Int32 × Mem)) (tk : Int32 → Option Int32)
    (hL : ∀ f v2 v3 M, L (f + 1) t v2 v3 M = if 160 ≤ v3 then some M else match tk (M 34 3) with | none => some M | some c => (f_X5_advance M).bind fun o5 => (rc t v2 o5).bind fun o7 => (f_X7_append t c o7).bind fun o9 => L f t v2 (v3 + 1) o9)
    (hMn : ∀ f v Mc Mm p w s, Live n B f0 t d Mc Mm p w s → tk (Mc 34 3) = none → Lm (f + 1) v Mm = some (v, Mm))
    (hMy : ∀ f v Mc Mm p w s c, Live n B f0 t d Mc Mm p w s → tk (Mc 34 3) = some c → Lm (f + 1) v Mm = (f_X9_next Mm).bind fun o6 => (rm o6).bind fun o8 => Lm f (jn c v o8.1) o8.2)
    (hMd : ∀ f v (Mm : Mem), Mm 100 26 = 1 → Lm (f + 1) v Mm = some (v, Mm))
    (hk6 : tk 256 = none) (hk7 : tk 257 = none) (hc : ∀ x c, tk x = some c → ∀ e b a st, evS c e (b :: a :: st) = jn c a b :: st) :
    PS n B f0 t (fun q v M => (rc q v M).bind fun o1 => L FU q v 0 o1) (fun M => (rm M).bind fun o1 => Lm FU o1.1 o1.2) d := by
  have dead : ∀ f (Mc Mm : Mem) v, Dead t f Mc Mm → L FU t (nI d) 0 Mc = some Mc ∧ Lm FU v Mm = some (v, Mm) := by
    intro f Mc Mm v k1
    obtain ⟨f2, hf2⟩ : ∃ f2, FU = f2 + 1 := ⟨FU - 1, by have := FU_ge; omega⟩
    rw [hf2]
    refine ⟨?_, hMd f2 _ Mm k1.2.2.1⟩
    rw [hL, k1.1, hk7]
    simp
  intro Mc Mm
  constructor
  · intro p w s h
    obtain ⟨A, Am, v, e1, e2, e3, e4, e5⟩ := (hP Mc Mm).1 p w s h
    simp only [e1, e2, Option.bind_some]
    rcases e5 with ⟨p1, w1, s1, k1, k2, k3, k4, k5, k6⟩ | ⟨f, k1⟩
    · have hpn := k1.1.1
      obtain ⟨Mc2, Mm2, v2, j1, j2, j3, j4, j5⟩ := loopPS ht hn hB hP L Lm tk hL hMn hMy hMd hk6 hk7 hc (n - p1) FU 0 A Am p1 w1 s1 v k1 rfl (by have := FU_ge; omega) (by omega)
      refine ⟨Mc2, Mm2, v2, j1, j2, e3.tr j3, e4.tr j4, ?_⟩
      rcases j5 with ⟨p2, w2, s2, i1, i2, i3, i4, i5, i6⟩ | j5
      · refine Or.inl ⟨p2, w2, s2, i1, by omega, by omega, by omega, fun j hj => (i5 j (by omega)).trans (k5 j hj), fun st => ?_⟩
        rw [show s2 - s = (s1 - s) + (s2 - s1) by omega, evR_add, show s + (s1 - s) = s1 by omega]
        rw [evR_cg (cs2 := A (t + 1)) (s1 - s) s st (fun j h1 h2 => i5 j (by omega)), k6]
        have := i6 st
        rw [e4.en] at this
        exact this
      · exact Or.inr j5
    · obtain ⟨x1, x2⟩ := dead f A Am v k1
      exact ⟨A, Am, v, x1, x2, e3, e4, Or.inr ⟨f, k1⟩⟩
  · intro f h
    obtain ⟨A, Am, v, e1, e2, e3, e4, e5⟩ := (hP Mc Mm).2 f h
    obtain ⟨x1, x2⟩ := dead f A Am v e5
    simp only [e1, e2, Option.bind_some]
    exact ⟨A, Am, v, x1, x2, e3, e4, e5⟩
end
section
/-! THE ROWS: term, sum, both, either -/
section
variable {n f0 t d : Nat} {B : Nat → Nat} {rE rB rN rS rT rO : Nat → Int32 → Mem → Option Mem} {me mb mn ma mt mo : Mem → Option (Int32 × Mem)}
theorem jn8 (a b : Int32) : jn (-8) a b = if a = 0 then 0 else if b = 0 then 0 else 1 := by
  unfold jn
  rw [if_neg (show ¬ ((-8 : Int32) = (-13)) by decide), if_neg (show ¬ ((-8 : Int32) = (-12)) by decide), if_neg (show ¬ ((-8 : Int32) = (-11)) by decide), if_neg (show ¬ ((-8 : Int32) = (-10)) by decide), if_neg (show ¬ ((-8 : Int32) = (-9)) by decide), if_pos rfl]
theorem jn7 (a b : Int32) : jn (-7) a b = if a = 0 then (if b = 0 then 0 else 1) else 1 := by
  unfold jn
  rw [if_neg (show ¬ ((-7 : Int32) = (-13)) by decide), if_neg (show ¬ ((-7 : Int32) = (-12)) by decide), if_neg (show ¬ ((-7 : Int32) = (-11)) by decide), if_neg (show ¬ ((-7 : Int32) = (-10)) by decide), if_neg (show ¬ ((-7 : Int32) = (-9)) by decide), if_neg (show ¬ ((-7 : Int32) = (-8)) by decide), if_pos rfl]
theorem kd6 (ht : isTx t) : (kd t == 6) = true := by rw [(tx_kd ht).1]; rfl
theorem evJ {c : Int32} (h1 : c < -6) (h2 : c ≠ -9) (h3 : c ≠ -15) (e : Nat → Int32) (b a : Int32) (st : List Int32) : evS c e (b :: a :: st) = jn c a b :: st := by
  unfold evS
  rw [if_pos h1, if_neg h2, if_neg h3]
theorem termPS (ht : isTx t) (hn : n ≤ 160) (hB : ∀ j, j < n → B j < 256) (hP : PS n B f0 t rO mo d) : PS n B f0 t (f_X5_readTerm_b rE rB rN rS rT rO) (f_X9_term_b me mb mn ma mt mo) d := by
  refine rowPS ht hn hB hP (f_X5_readTerm_l8 rE rB rN rS rT rO) (f_X9_term_l5 me mb mn ma mt mo) (fun x => if x = 42 then some (-14) else none) ?_ ?_ ?_ ?_ (by decide) (by decide) ?_
  · intro f v2 v3 M
    rw [f_X5_readTerm_l8, kd6 ht]
    by_cases c : M 34 3 = 42
    · simp only [c, if_true, ck_true]
    · simp only [c, if_false]
  · intro f v Mc Mm p w s h hk
    have c : ¬ Mc 34 3 = nI 42 := fun e => by simp only [e] at hk; exact absurd hk (by decide)
    have o := obsS hB h.1 h.2.2.2.2.1 (c := 42) (by omega)
    rw [decide_eq_false c] at o
    rw [f_X9_term_l5, show (42 : Int32) = nI 42 from rfl, o]
    rfl
  · intro f v Mc Mm p w s c h hk
    by_cases e : Mc 34 3 = nI 42
    · have o := obsS hB h.1 h.2.2.2.2.1 (c := 42) (by omega)
      rw [decide_eq_true e] at o
      rw [f_X9_term_l5, show (42 : Int32) = nI 42 from rfl, o]
      simp only [e] at hk
      cases hk
      rfl
    · have : (if Mc 34 3 = 42 then some (-14 : Int32) else none) = none := if_neg e
      rw [this] at hk
      cases hk
  · intro f v Mm h
    rw [f_X9_term_l5, obsS0 h]
    rfl
  · intro x c hx
    have hc : c = -14 := by
      by_cases e : x = 42
      · simp only [e, if_true] at hx; cases hx; rfl
      · simp only [e, if_false] at hx; cases hx
    subst hc
    exact fun e b a st => evJ (by decide) (by decide) (by decide) e b a st
theorem sumPS (ht : isTx t) (hn : n ≤ 160) (hB : ∀ j, j < n → B j < 256) (hP : PS n B f0 t rT mt d) : PS n B f0 t (f_X5_readSum_b rE rB rN rS rT rO) (f_X9_added_b me mb mn ma mt mo) d := by
  refine rowPS ht hn hB hP (f_X5_readSum_l8 rE rB rN rS rT rO) (f_X9_added_l5 me mb mn ma mt mo) (fun x => if x = 43 then some (-12) else if x = 45 then some (-13) else none) ?_ ?_ ?_ ?_ (by decide) (by decide) ?_
  · intro f v2 v3 M
    rw [f_X5_readSum_l8]
    unfold f_X5_readSum_b33 f_X5_readSum_b49
    rw [kd6 ht]
    by_cases c : M 34 3 = 43
    · simp only [c, if_true, ck_true]
    · by_cases c2 : M 34 3 = 45
      · simp only [c2, show ¬ (45 : Int32) = 43 by decide, if_true, if_false, ck_true]
      · simp only [c, c2, if_false]
  · intro f v Mc Mm p w s h hk
    have c : ¬ Mc 34 3 = nI 43 := fun e => by simp only [e] at hk; exact absurd hk (by decide)
    have c2 : ¬ Mc 34 3 = nI 45 := fun e => by simp only [e] at hk; exact absurd hk (by decide)
    have o := obsS hB h.1 h.2.2.2.2.1 (c := 43) (by omega)
    rw [decide_eq_false c] at o
    have o2 := obsS hB h.1 h.2.2.2.2.1 (c := 45) (by omega)
    rw [decide_eq_false c2] at o2
    rw [f_X9_added_l5, show (43 : Int32) = nI 43 from rfl, show (45 : Int32) = nI 45 from rfl, o]
    simp only [Option.bind_some, o2]
    rfl
  · intro f v Mc Mm p w s c h hk
    by_cases e : Mc 34 3 = nI 43
    · have o := obsS hB h.1 h.2.2.2.2.1 (c := 43) (by omega)
      rw [decide_eq_true e] at o
      rw [f_X9_added_l5, show (43 : Int32) = nI 43 from rfl, o]
      have ov := obsV h.1 (c := 43) (by omega) e
      simp only [e] at hk
      cases hk
      simp only [Option.bind_some]
      unfold f_X9_added_b23 f_X9_added_b39
      rw [ov, if_neg (by decide), if_pos (by decide)]
      rfl
    · by_cases e2 : Mc 34 3 = nI 45
      · have o := obsS hB h.1 h.2.2.2.2.1 (c := 43) (by omega)
        rw [decide_eq_false e] at o
        have o2 := obsS hB h.1 h.2.2.2.2.1 (c := 45) (by omega)
        rw [decide_eq_true e2] at o2
        rw [f_X9_added_l5, show (43 : Int32) = nI 43 from rfl, show (45 : Int32) = nI 45 from rfl, o]
        simp only [Option.bind_some, o2]
        have ov := obsV h.1 (c := 45) (by omega) e2
        simp only [e2] at hk
        cases hk
        unfold f_X9_added_b23 f_X9_added_b39
        rw [ov, if_pos (by decide), if_neg (by decide), if_neg (by decide)]
        rfl
      · have : (if Mc 34 3 = 43 then some (-12 : Int32) else if Mc 34 3 = 45 then some (-13) else none) = none := (if_neg e).trans (if_neg e2)
        rw [this] at hk
        cases hk
  · intro f v Mm h
    rw [f_X9_added_l5, obsS0 h]
    simp only [Option.bind_some, obsS0 h]
    rfl
  · intro x c hx
    by_cases e : x = 43
    · simp only [e, if_true] at hx; cases hx
      exact fun e b a st => evJ (by decide) (by decide) (by decide) e b a st
    · by_cases e2 : x = 45
      · simp only [e2, show ¬ (45 : Int32) = 43 by decide, if_true, if_false] at hx; cases hx
        exact fun e b a st => evJ (by decide) (by decide) (by decide) e b a st
      · simp only [e, e2, if_false] at hx; cases hx
theorem bothPS (ht : isTx t) (hn : n ≤ 160) (hB : ∀ j, j < n → B j < 256) (hP : PS n B f0 t rN mn d) : PS n B f0 t (f_X5_readBoth_b rE rB rN rS rT rO) (f_X9_both_b me mb mn ma mt mo) d := by
  refine rowPS ht hn hB hP (f_X5_readBoth_l8 rE rB rN rS rT rO) (f_X9_both_l5 me mb mn ma mt mo) (fun x => if x = 264 then some (-8) else none) ?_ ?_ ?_ ?_ (by decide) (by decide) ?_
  · intro f v2 v3 M
    rw [f_X5_readBoth_l8, kd6 ht]
    by_cases c : M 34 3 = 264
    · simp only [c, if_true, ck_true]
    · simp only [c, if_false]
  · intro f v Mc Mm p w s h hk
    have c : ¬ w = 10 := fun e => by
      have := obsK hB h.1 (k := 10) (by omega)
      rw [eq_true e] at this
      rw [of_eq_true this] at hk
      exact absurd hk (by decide)
    have o := obsW hn hB h.2.2.1 h.1 h.2.2.2.2.1 (k := 10) (by omega)
    rw [decide_eq_false c] at o
    show (wordM0 (sw 10) Mm).bind _ = _
    rw [o]
    rfl
  · intro f v Mc Mm p w s c h hk
    by_cases e : w = 10
    · have o := obsW hn hB h.2.2.1 h.1 h.2.2.2.2.1 (k := 10) (by omega)
      rw [decide_eq_true e] at o
      have := obsK hB h.1 (k := 10) (by omega)
      rw [eq_true e] at this
      rw [of_eq_true this] at hk
      cases hk
      show (wordM0 (sw 10) Mm).bind _ = _
      rw [o]
      simp only [Option.bind_some]
      rw [if_neg (by decide)]
      congr 1
      funext o6
      congr 1
      funext o8
      unfold f_X9_both_b44 f_X9_both_b45
      rw [jn8]
      by_cases z : v = 0
      · rw [if_pos z, if_pos z]
      · rw [if_neg z, if_neg z]
        by_cases z2 : o8.1 = 0
        · rw [if_pos z2, if_pos z2]
        · rw [if_neg z2, if_neg z2]
    · have e2 : ¬ Mc 34 3 = 264 := fun x => e ((obsK hB h.1 (k := 10) (by omega)).mp x)
      have : (if Mc 34 3 = 264 then some (-8 : Int32) else none) = none := if_neg e2
      rw [this] at hk
      cases hk
  · intro f v Mm h
    show (wordM0 (sw 10) Mm).bind _ = _
    rw [obsW0 h]
    rfl
  · intro x c hx
    have hc : c = -8 := by
      by_cases e : x = 264
      · simp only [e, if_true] at hx; cases hx; rfl
      · simp only [e, if_false] at hx; cases hx
    subst hc
    exact fun e b a st => evJ (by decide) (by decide) (by decide) e b a st
theorem eitherPS (ht : isTx t) (hn : n ≤ 160) (hB : ∀ j, j < n → B j < 256) (hP : PS n B f0 t rB mb d) : PS n B f0 t (f_X5_readEither_b rE rB rN rS rT rO) (f_X9_either_b me mb mn ma mt mo) d := by
  refine rowPS ht hn hB hP (f_X5_readEither_l8 rE rB rN rS rT rO) (f_X9_either_l5 me mb mn ma mt mo) (fun x => if x = 263 then some (-7) else none) ?_ ?_ ?_ ?_ (by decide) (by decide) ?_
  · intro f v2 v3 M
    rw [f_X5_readEither_l8, kd6 ht]
    by_cases c : M 34 3 = 263
    · simp only [c, if_true, ck_true]
    · simp only [c, if_false]
  · intro f v Mc Mm p w s h hk
    have c : ¬ w = 9 := fun e => by
      have := obsK hB h.1 (k := 9) (by omega)
      rw [eq_true e] at this
      rw [of_eq_true this] at hk
      exact absurd hk (by decide)
    have o := obsW hn hB h.2.2.1 h.1 h.2.2.2.2.1 (k := 9) (by omega)
    rw [decide_eq_false c] at o
    show (wordM0 (sw 9) Mm).bind _ = _
    rw [o]
    rfl
  · intro f v Mc Mm p w s c h hk
    by_cases e : w = 9
    · have o := obsW hn hB h.2.2.1 h.1 h.2.2.2.2.1 (k := 9) (by omega)
      rw [decide_eq_true e] at o
      have := obsK hB h.1 (k := 9) (by omega)
      rw [eq_true e] at this
      rw [of_eq_true this] at hk
      cases hk
      show (wordM0 (sw 9) Mm).bind _ = _
      rw [o]
      simp only [Option.bind_some]
      rw [if_neg (by decide)]
      congr 1
      funext o6
      congr 1
      funext o8
      unfold f_X9_either_b39 f_X9_either_b44
      rw [jn7]
      by_cases z : v = 0
      · rw [if_pos z, if_pos z]
        by_cases z2 : o8.1 = 0
        · rw [if_pos z2, if_pos z2]
        · rw [if_neg z2, if_neg z2]
      · rw [if_neg z, if_neg z]
    · have e2 : ¬ Mc 34 3 = 263 := fun x => e ((obsK hB h.1 (k := 9) (by omega)).mp x)
      have : (if Mc 34 3 = 263 then some (-7 : Int32) else none) = none := if_neg e2
      rw [this] at hk
      cases hk
  · intro f v Mm h
    show (wordM0 (sw 9) Mm).bind _ = _
    rw [obsW0 h]
    rfl
  · intro x c hx
    have hc : c = -7 := by
      by_cases e : x = 263
      · simp only [e, if_true] at hx; cases hx; rfl
      · simp only [e, if_false] at hx; cases hx
    subst hc
    exact fun e b a st => evJ (by decide) (by decide) (by decide) e b a st
end
end
section
/-! NOT, AND ONE -/
section
variable {n f0 t d : Nat} {B : Nat → Nat} {rE rB rN rS rT rO : Nat → Int32 → Mem → Option Mem} {me mb mn ma mt mo : Mem → Option (Int32 × Mem)}
theorem Live.op {Mc Mm : Mem} {p w s : Nat} (h : Live n B f0 t d Mc Mm p w s) (d2 : Nat) : Live n B f0 t d2 Mc (mu Mm 100 25 (nI d2)) p w s := by
  obtain ⟨hL, hC, hM, a6, a26, a25, hs, hsp⟩ := h
  exact ⟨hL.cg (fun _ _ _ => rfl) (fun j h1 h2 => mu_o (by omega)), hC, hM.mu (by omega), a6, (by rw [mu_o (by omega)]; exact a26), mu_at, hs, hsp⟩
theorem Dead.op {Mc Mm : Mem} {f : Nat} (h : Dead t f Mc Mm) (x : Int32) : Dead t f Mc (mu Mm 100 25 x) := by
  obtain ⟨h3, h6, h26, h27, hf, h⟩ := h
  exact ⟨h3, h6, (by rw [mu_o (by omega)]; exact h26), (by rw [mu_o (by omega)]; exact h27), hf, h⟩
theorem Go.fst {Mc Mm Mc1 Mm1 A Am : Mem} {p s p1 : Nat} {v : Int32} (h1 : p < p1 ∨ p = p1) (h2 : A (t + 1) = Mc (t + 1)) (h3 : env Am = env Mm) (h : Go n B f0 t d A Am p1 s Mc1 Mm1 v) : Go n B f0 t d Mc Mm p s Mc1 Mm1 v := by
  obtain ⟨p2, w2, s2, k1, k2, k3, k4, k5, k6⟩ := h
  exact ⟨p2, w2, s2, k1, by omega, k3, by omega, fun j hj => by rw [k5 j hj, h2], fun st => by rw [← h3]; exact k6 st⟩
theorem cmpS {c k : Nat} (hc : c < 256) (hk : k < 256) : (lg_cmp (nI c).toInt64 (nI k).toInt64 = 0) = (c = k) := by
  apply propext
  constructor
  · intro hz
    rw [nI_l (by omega), nI_l (by omega)] at hz
    unfold lg_cmp at hz
    split at hz
    · cases hz
    · split at hz
      · rename_i u1 u2
        have g := congrArg Int64.toInt32 u2
        rw [lN_i, lN_i, nIeq (by omega) (by omega)] at g
        exact g
      · cases hz
  · intro e
    subst e
    unfold lg_cmp
    simp
theorem notPS (ht : isTx t) (hn : n ≤ 160) (hd : d ≤ 5) (hB : ∀ j, j < n → B j < 256) (hS : PS n B f0 t rS ma d) (hN : d < 5 → PS n B f0 t rN mn (d + 1)) : PS n B f0 t (f_X5_readNot_b rE rB rN rS rT rO) (f_X9_not_b me mb mn ma mt mo) d := by
  intro Mc Mm
  constructor
  · intro p w s h
    have h26 := h.2.2.2.2.1
    have h25 := h.2.2.2.2.2.1
    have hp := h.1.1
    have ow := obsW hn hB h.2.2.1 h.1 h26 (k := 11) (by omega)
    have ok := obsK hB h.1 (k := 11) (by omega)
    unfold f_X5_readNot_b
    have gm : f_X9_not_b me mb mn ma mt mo Mm = (wordM0 (sw 11) Mm).bind fun o1 => (if o1.1 = 0 then (ma o1.2).bind fun o4 => (f_X9_isSign 60 o4.2).bind fun o6 => (if o6.1 = 0 then (f_X9_isSign 61 o6.2).bind fun o9 => (if o9.1 = 0 then some (o4.1, o9.2) else (f_X9_not_b77 me mb mn ma mt mo) o4.1 o9.2) else (f_X9_not_b77 me mb mn ma mt mo) o4.1 o6.2) else (f_X9_opens o1.2).bind fun o12 => (if o12.1 = 0 then some (0, o12.2) else (mn o12.2).bind fun o15 => (if o15.1 = 0 then some (1, (mu o15.2 100 25 ((o15.2 100 25) - 1))) else some (0, (mu o15.2 100 25 ((o15.2 100 25) - 1)))))) := rfl
    rw [gm, ow]
    simp only [Option.bind_some, zI_0]
    by_cases c : w = 11
    · have tk : Mc 34 3 = 265 := by have := ok; rw [eq_true c] at this; exact of_eq_true this
      rw [if_pos tk, decide_eq_true c, if_neg (show ¬ (true = false) by decide)]
      unfold f_X9_opens
      rw [h25]
      by_cases c5 : d < 5
      · rw [if_pos (show nI d < 5 by exact nI_lt (b := 5) c5 (by omega)), if_neg (by rw [show (5 : Int32) = nI 5 from rfl, nIeq (by omega) (by omega)]; omega), nIp]
        have h2 := h.op (d + 1)
        obtain ⟨A, Am, C, Mc1, Mm1, v, e1, e2, e3, e4, e5, e6, e7, e8⟩ := opStep ht hn hB (hN c5) h2 (by rw [tk]; decide) (by rw [tk]; decide) (-9)
        rw [e1, e2]
        simp only [Option.bind_some, nIp]
        rw [if_neg (by decide), e3, e4]
        simp only [Option.bind_some]
        rw [e5, kd6 ht]
        simp only [Option.bind_some, ck_true]
        have fm : FrM Mm Mm1 := (FrM.mu Mm (by omega) _).tr e7
        have r : (if v = 0 then some ((1 : Int32), (mu Mm1 100 25 ((Mm1 100 25) - 1))) else some (0, (mu Mm1 100 25 ((Mm1 100 25) - 1)))) = some (if v = 0 then 1 else 0, mu Mm1 100 25 ((Mm1 100 25) - 1)) := by
          by_cases z : v = 0
          · rw [if_pos z, if_pos z]
          · rw [if_neg z, if_neg z]
        rw [r]
        refine ⟨Mc1, _, _, rfl, rfl, e6, fm.tr (FrM.mu Mm1 (by omega) _), ?_⟩
        rcases e8 with ⟨p1, w1, s1, k1, k2, k3, k4, k5, k6⟩ | ⟨f, k1⟩
        · have o25 := k1.2.2.2.2.2.1
          rw [o25, nIm (by omega), Nat.add_sub_cancel]
          refine Or.inl ⟨p1, w1, s1 + 1, k1.op d, k2, by omega, by omega, k5, fun st => ?_⟩
          have := k6 st
          rw [(FrM.mu Mm (by omega) (nI (d + 1))).en] at this
          rw [this]
          unfold evS
          rw [if_pos (by decide), if_pos rfl]
        · exact Or.inr ⟨f, k1.op _⟩
      · have e5 : d = 5 := by omega
        subst e5
        rw [if_neg (show ¬ nI 5 < 5 by decide), if_pos (show nI 5 = 5 from rfl)]
        obtain ⟨Mc1, Mm1, e1, e2, e3, e4, e5⟩ := failBoth ht hn h
        rw [e1, e2]
        simp only [Option.bind_some]
        exact ⟨Mc1, Mm1, 0, rfl, rfl, e3, e4, Or.inr ⟨p, e5⟩⟩
    · have tk : ¬ Mc 34 3 = 265 := fun x => c ((eq_true x ▸ ok).mp True.intro)
      rw [if_neg tk, decide_eq_false c, if_pos rfl]
      obtain ⟨A, Am, a, e1, e2, e3, e4, e5⟩ := (hS Mc Mm).1 p w s h
      rw [e1, e2]
      simp only [Option.bind_some]
      rcases e5 with e5 | ⟨f, e5⟩
      · obtain ⟨p1, w1, s1, k1, k2, k3, k4, k5, k6⟩ := e5
        have b26 := k1.2.2.2.2.1
        have o60 := obsS hB k1.1 b26 (c := 60) (by omega)
        have o61 := obsS hB k1.1 b26 (c := 61) (by omega)
        rw [show (60 : Int32) = nI 60 from rfl, show (61 : Int32) = nI 61 from rfl, o60]
        simp only [Option.bind_some, zI_0, o61]
        -- what stands after the sign
        have go : ∀ (c : Int32) (q : Nat), q < 256 → A 34 3 = nI q → c < -6 → c ≠ -9 → c ≠ -15 → (∀ (v : Int32) (o : Mem), (if (if q = 60 then (1 : Int32) else 0) = 0 then (if a = v then some ((1 : Int32), o) else some (0, o)) else (if v ≤ a then some (0, o) else some (1, o))) = some (jn c a v, o)) →
            ∃ (Mc1 Mm1 : Mem) (v : Int32), f_X5_readNot_b79 rE rB rN rS rT rO t (nI d) c A = some Mc1 ∧ f_X9_not_b77 me mb mn ma mt mo a Am = some (v, Mm1) ∧ FrC t Mc Mc1 ∧ FrM Mm Mm1 ∧ (Go n B f0 t d Mc Mm p s Mc1 Mm1 v ∨ ∃ f, Dead t f Mc1 Mm1) := by
          intro c q hq h3 hc1 hc2 hc3 hj
          obtain ⟨A2, Am2, C, Mc1, Mm1, v, g1, g2, g3, g4, g5, g6, g7, g8⟩ := opStep ht hn hB hS k1 (by rw [h3, show (256 : Int32) = nI 256 from rfl]; intro x; rw [nIeq (by omega) (by omega)] at x; omega) (by rw [h3, show (257 : Int32) = nI 257 from rfl]; intro x; rw [nIeq (by omega) (by omega)] at x; omega) c
          have ov := obsV k1.1 hq h3
          refine ⟨Mc1, Mm1, jn c a v, ?_, ?_, e3.tr g6, e4.tr g7, ?_⟩
          · unfold f_X5_readNot_b79
            rw [g1]
            simp only [Option.bind_some]
            rw [g3]
            simp only [Option.bind_some]
            rw [g5, kd6 ht]
            rfl
          · unfold f_X9_not_b77 f_X9_not_b93
            rw [ov, show (60 : Int64) = (nI 60).toInt64 from rfl, g2]
            simp only [Option.bind_some]
            rw [g4]
            simp only [Option.bind_some]
            have := hj v Mm1
            by_cases z : q = 60
            · rw [if_pos ((cmpS hq (by omega)).mpr z)]; rw [if_pos z] at this; exact this
            · rw [if_neg (fun x => z ((cmpS hq (by omega)).mp x))]; rw [if_neg z] at this; exact this
          · rcases g8 with ⟨p2, w2, s2, i1, i2, i3, i4, i5, i6⟩ | g8
            · refine Or.inl ⟨p2, w2, s2 + 1, i1, by omega, by omega, by omega, fun j hj => (i5 j (by omega)).trans (k5 j hj), fun st => ?_⟩
              rw [show s2 + 1 - s = (s1 - s) + (s2 + 1 - s1) by omega, evR_add, show s + (s1 - s) = s1 by omega]
              rw [evR_cg (cs2 := A (t + 1)) (s1 - s) s st (fun j h1 h2 => i5 j (by omega)), k6]
              have := i6 (a :: st)
              rw [e4.en] at this
              rw [this, evJ hc1 hc2 hc3]
            · exact Or.inr g8
        by_cases c60 : A 34 3 = nI 60
        · rw [if_pos c60, decide_eq_true c60, if_neg (by decide)]
          unfold f_X5_readNot_b63
          rw [if_pos (show A 34 3 = 60 from c60)]
          obtain ⟨Mc1, Mm1, v, x1, x2, x3, x4, x5⟩ := go (-10) 60 (by omega) c60 (by decide) (by decide) (by decide) (fun v o => by
            rw [if_pos rfl, if_neg (by decide)]
            unfold jn
            rw [if_neg (show ¬ ((-10 : Int32) = (-13)) by decide), if_neg (show ¬ ((-10 : Int32) = (-12)) by decide), if_neg (show ¬ ((-10 : Int32) = (-11)) by decide), if_pos rfl]
            by_cases z : v ≤ a
            · rw [if_pos z, if_pos z]
            · rw [if_neg z, if_neg z])
          rw [x1]
          exact ⟨Mc1, Mm1, v, rfl, x2, x3, x4, x5⟩
        · rw [if_neg c60, decide_eq_false c60, if_pos rfl]
          by_cases c61 : A 34 3 = nI 61
          · rw [if_pos c61, decide_eq_true c61, if_neg (by decide)]
            unfold f_X5_readNot_b63
            rw [if_neg (show ¬ A 34 3 = 60 from c60)]
            obtain ⟨Mc1, Mm1, v, x1, x2, x3, x4, x5⟩ := go (-11) 61 (by omega) c61 (by decide) (by decide) (by decide) (fun v o => by
              rw [if_pos (show (if (61 : Nat) = 60 then (1 : Int32) else 0) = 0 from rfl)]
              unfold jn
              rw [if_neg (show ¬ ((-11 : Int32) = (-13)) by decide), if_neg (show ¬ ((-11 : Int32) = (-12)) by decide), if_pos rfl]
              by_cases z : a = v
              · rw [if_pos z, if_pos z]
              · rw [if_neg z, if_neg z])
            rw [x1]
            exact ⟨Mc1, Mm1, v, rfl, x2, x3, x4, x5⟩
          · rw [if_neg c61, decide_eq_false c61, if_pos rfl]
            exact ⟨A, Am, a, rfl, rfl, e3, e4, Or.inl ⟨p1, w1, s1, k1, k2, k3, k4, k5, k6⟩⟩
      · rw [obsS0 e5.2.2.1]
        simp only [Option.bind_some]
        rw [obsS0 e5.2.2.1, e5.1, if_neg (by decide), if_neg (by decide)]
        exact ⟨A, Am, a, rfl, rfl, e3, e4, Or.inr ⟨f, e5⟩⟩
  · intro f h
    unfold f_X5_readNot_b
    have gm : f_X9_not_b me mb mn ma mt mo Mm = (wordM0 (sw 11) Mm).bind fun o1 => (if o1.1 = 0 then (ma o1.2).bind fun o4 => (f_X9_isSign 60 o4.2).bind fun o6 => (if o6.1 = 0 then (f_X9_isSign 61 o6.2).bind fun o9 => (if o9.1 = 0 then some (o4.1, o9.2) else (f_X9_not_b77 me mb mn ma mt mo) o4.1 o9.2) else (f_X9_not_b77 me mb mn ma mt mo) o4.1 o6.2) else (f_X9_opens o1.2).bind fun o12 => (if o12.1 = 0 then some (0, o12.2) else (mn o12.2).bind fun o15 => (if o15.1 = 0 then some (1, (mu o15.2 100 25 ((o15.2 100 25) - 1))) else some (0, (mu o15.2 100 25 ((o15.2 100 25) - 1)))))) := rfl
    rw [gm, obsW0 h.2.2.1, h.1, if_neg (by decide)]
    obtain ⟨A, Am, a, e1, e2, e3, e4, e5⟩ := (hS Mc Mm).2 f h
    simp only [Option.bind_some, e1, if_true, e2, obsS0 e5.2.2.1]
    rw [e5.1, if_neg (by decide), if_neg (by decide)]
    exact ⟨A, Am, a, rfl, rfl, e3, e4, e5⟩
end
end
section
/-! ONE -/
section
variable {n f0 t d : Nat} {B : Nat → Nat} {rE rB rN rS rT rO : Nat → Int32 → Mem → Option Mem} {me mb mn ma mt mo : Mem → Option (Int32 × Mem)}
theorem appAdv {Mc Mm : Mem} {p w s : Nat} (ht : isTx t) (hn : n ≤ 160) (hB : ∀ j, j < n → B j < 256) (h : Live n B f0 t d Mc Mm p w s) (h6 : Mc 34 3 ≠ 256) (h7 : Mc 34 3 ≠ 257) (c : Int32) :
    ∃ (P Mc1 Mm1 : Mem) (p1 w1 : Nat), f_X7_append t c Mc = some P ∧ f_X5_advance P = some Mc1 ∧ f_X9_next Mm = some Mm1 ∧ FrC t Mc Mc1 ∧ FrM Mm Mm1 ∧ Live n B f0 t d Mc1 Mm1 p1 w1 (s + 1) ∧ p < p1 ∧ Mc1 (t + 1) s = c ∧ ∀ j, j ≠ s → Mc1 (t + 1) j = Mc (t + 1) j := by
  obtain ⟨hL, hC, hM, a6, a26, a25, hs, hsp⟩ := h
  have hp := hL.1
  have key : ∃ i, p < i ∧ i ≤ n ∧ Mc 34 2 = nI i ∧ Mm 100 21 = nI i := by
    obtain ⟨hp, h4, h23, h1 | h1 | h1 | h1 | h1⟩ := hL
    · exact absurd h1.2.2.1 h6
    · obtain ⟨e, a1, a2, a3, a4, a5⟩ := h1
      exact ⟨e, a1, a2, a3, a4⟩
    · obtain ⟨e, v, a1, a2, a3, a4, a5, a6⟩ := h1
      exact ⟨e, a1, a2, a4, a5⟩
    · obtain ⟨a1, a2, a3, a4, a5, a6⟩ := h1
      exact ⟨p + 1, by omega, by omega, a4, a5⟩
    · exact absurd h1.2.2.1 h7
  obtain ⟨i, i1, i2, i3, i4⟩ := key
  have ha := app_eq ht hs (show s < 160 by omega) c
  have hf := app_fr (s := s) ht Mc c (nI (s + 1))
  have hx1 : mu (mu Mc (t + 1) s c) t 2 (nI (s + 1)) (t + 1) s = c := by rw [mun (by omega), mu_at]
  have hx2 : ∀ j, j ≠ s → mu (mu Mc (t + 1) s c) t 2 (nI (s + 1)) (t + 1) j = Mc (t + 1) j := fun j hj => by rw [mun (by omega), mu_o hj]
  have hx3 : mu (mu Mc (t + 1) s c) t 2 (nI (s + 1)) t 2 = nI (s + 1) := mu_at
  obtain ⟨r, hr, rfl⟩ := ht
  have hx4 : ∀ j, mu (mu Mc (16 + 3 * r + 1) s c) (16 + 3 * r) 2 (nI (s + 1)) 34 j = Mc 34 j := fun j => by rw [mun (by omega), mun (by omega)]
  have hx5 : ∀ j, mu (mu Mc (16 + 3 * r + 1) s c) (16 + 3 * r) 2 (nI (s + 1)) 35 j = Mc 35 j := fun j => by rw [mun (by omega), mun (by omega)]
  generalize mu (mu Mc (16 + 3 * r + 1) s c) (16 + 3 * r) 2 (nI (s + 1)) = P at ha hf hx1 hx2 hx3 hx4 hx5
  obtain ⟨Mc1, Mm1, p1, w1, b1, b2, b3, b4, b5, b6, b7, b8⟩ := advBoth hn hB (Mc := P) ⟨(hx4 1).trans hC.1, fun j hj => (hx5 j).trans (hC.2 j hj)⟩ hM ((hx4 2).trans i3) i4 i2
  refine ⟨P, Mc1, Mm1, p1, w1, ha, b1, b2, hf.tr ⟨fun q x y z => b5 q x, fun j x => b6 j (by omega) (by omega) (by omega) (by omega), fun j x => by rw [b5 _ (by omega)]⟩, ⟨b7, fun j x => b8 j (by omega) (by omega) (by omega) (by omega)⟩, ⟨b3, ⟨?_, ?_⟩, ⟨?_, ?_, hM.2.2.1, ?_⟩, ?_, ?_, ?_, ?_, by omega⟩, by omega, ?_, ?_⟩
  · rw [b6 1 (by omega) (by omega) (by omega) (by omega), hx4]; exact hC.1
  · intro j hj; rw [b5 35 (by omega), hx5]; exact hC.2 j hj
  · rw [b8 19 (by omega) (by omega) (by omega) (by omega)]; exact hM.1
  · rw [b8 20 (by omega) (by omega) (by omega) (by omega)]; exact hM.2.1
  · intro j hj; rw [b7 101 (by omega)]; exact hM.2.2.2 j hj
  · rw [b6 6 (by omega) (by omega) (by omega) (by omega), hx4]; exact a6
  · rw [b8 26 (by omega) (by omega) (by omega) (by omega)]; exact a26
  · rw [b8 25 (by omega) (by omega) (by omega) (by omega)]; exact a25
  · rw [b5 _ (by omega)]; exact hx3
  · rw [b5 _ (by omega)]; exact hx1
  · intro j hj; rw [b5 _ (by omega)]; exact hx2 j hj
theorem nmC : ∀ w, w < 6 → ¬ ((-1) - nI w < -6) ∧ ((-1) - nI w < 0) ∧ ((-1) - ((-1) - nI w)).toNatClampNeg = w := by decide +kernel
theorem evS_name {w : Nat} (hw : w < 6) (M : Mem) (st : List Int32) : evS ((-1) - nI w) (env M) st = M 100 (13 + w) :: st := by
  obtain ⟨a, b, c⟩ := nmC w hw
  unfold evS
  rw [if_neg a, if_pos b, c]
  unfold env
  rw [if_pos hw]
theorem evS_num {v : Nat} (hv : v < 10000) (e : Nat → Int32) (st : List Int32) : evS (nI v) e st = nI v :: st := by
  unfold evS
  have h0 : ¬ nI v < 0 := nI_pos (by omega)
  rw [if_neg (fun x => h0 (Int32.lt_trans x (by decide))), if_neg h0]
theorem nameM (hn : n ≤ 160) (hB : ∀ j, j < n → B j < 256) {Mc Mm : Mem} {p w : Nat} (hM : BM Mm f0 n B) (h : Lx n B Mc Mm p w) (hb : Mm 100 26 = 0) :
    f_X9_name Mm = if w < 6 then some (Mm 100 (13 + w), Mm) else (f_X9_fail Mm).bind fun o19 => some (0, o19) := by
  have o0 := obsW hn hB hM h hb (k := 0) (by omega)
  have o1 := obsW hn hB hM h hb (k := 1) (by omega)
  have o2 := obsW hn hB hM h hb (k := 2) (by omega)
  have o3 := obsW hn hB hM h hb (k := 3) (by omega)
  have o4 := obsW hn hB hM h hb (k := 4) (by omega)
  have o5 := obsW hn hB hM h hb (k := 5) (by omega)
  have g : f_X9_name Mm = (wordM0 (sw 0) Mm).bind fun o1 => (if o1.1 = 0 then (wordM0 (sw 1) o1.2).bind fun o4 => (if o4.1 = 0 then (wordM0 (sw 2) o4.2).bind fun o7 => (if o7.1 = 0 then (wordM0 (sw 3) o7.2).bind fun o10 => (if o10.1 = 0 then (wordM0 (sw 4) o10.2).bind fun o13 => (if o13.1 = 0 then (wordM0 (sw 5) o13.2).bind fun o16 => (if o16.1 = 0 then (f_X9_fail o16.2).bind fun o19 => some (0, o19) else some ((o16.2 100 18), o16.2)) else some ((o13.2 100 17), o13.2)) else some ((o10.2 100 16), o10.2)) else some ((o7.2 100 15), o7.2)) else some ((o4.2 100 14), o4.2)) else some ((o1.2 100 13), o1.2)) := rfl
  rw [g]
  simp only [o0, o1, o2, o3, o4, o5, Option.bind_some, zI_0, decide_eq_false_iff_not]
  by_cases c0 : w = 0
  · subst c0; rw [if_neg (fun x => x rfl), if_pos (by omega)]
  rw [if_pos c0]
  by_cases c1 : w = 1
  · subst c1; rw [if_neg (fun x => x rfl), if_pos (by omega)]
  rw [if_pos c1]
  by_cases c2 : w = 2
  · subst c2; rw [if_neg (fun x => x rfl), if_pos (by omega)]
  rw [if_pos c2]
  by_cases c3 : w = 3
  · subst c3; rw [if_neg (fun x => x rfl), if_pos (by omega)]
  rw [if_pos c3]
  by_cases c4 : w = 4
  · subst c4; rw [if_neg (fun x => x rfl), if_pos (by omega)]
  rw [if_pos c4]
  by_cases c5 : w = 5
  · subst c5; rw [if_neg (fun x => x rfl), if_pos (by omega)]
  rw [if_pos c5, if_neg (by omega)]
theorem onePS (ht : isTx t) (hn : n ≤ 160) (hd : d ≤ 5) (hB : ∀ j, j < n → B j < 256) (hE : d < 5 → PS n B f0 t rE me (d + 1)) (hO : d < 5 → PS n B f0 t rO mo (d + 1)) : PS n B f0 t (f_X5_readOne_b rE rB rN rS rT rO) (f_X9_atom_b me mb mn ma mt mo) d := by
  intro Mc Mm
  constructor
  · intro p w s h
    have h26 := h.2.2.2.2.1
    have h25 := h.2.2.2.2.2.1
    have hp := h.1.1
    have o45 := obsS hB h.1 h26 (c := 45) (by omega)
    have o40 := obsS hB h.1 h26 (c := 40) (by omega)
    -- neither can go on
    have dead : Mc 34 3 ≠ 258 → Mc 34 3 ≠ 259 → (Mc 34 3 = nI 45 ∨ Mc 34 3 = nI 40 → d = 5) → Mm 100 22 ≠ 2 → (Mm 100 22 = 1 → 6 ≤ w) →
        ∃ (Mc1 Mm1 : Mem) (v : Int32), f_X5_readOne_b rE rB rN rS rT rO t (nI d) Mc = some Mc1 ∧ f_X9_atom_b me mb mn ma mt mo Mm = some (v, Mm1) ∧ FrC t Mc Mc1 ∧ FrM Mm Mm1 ∧ (Go n B f0 t d Mc Mm p s Mc1 Mm1 v ∨ ∃ f, Dead t f Mc1 Mm1) := by
      intro n8 n9 nb n2 n1
      obtain ⟨Mc1, Mm1, e1, e2, e3, e4, e5⟩ := failBoth ht hn h
      have d26 := e5.2.2.1
      refine ⟨Mc1, Mm1, 0, ?_, ?_, e3, e4, Or.inr ⟨p, e5⟩⟩
      · unfold f_X5_readOne_b
        rw [if_neg n8, if_neg n9]
        have fin : f_X5_readOne_b66 rE rB rN rS rT rO Mc = some Mc1 := by unfold f_X5_readOne_b66; rw [e1]; rfl
        have g1 : d = 5 → f_X5_readOne_b51 rE rB rN rS rT rO t (nI d) Mc = some Mc1 := by
          intro hd5
          unfold f_X5_readOne_b51 f_X5_readOne_b56
          rw [if_neg (by decide), hd5, if_neg (show ¬ nI 5 < 5 by decide), fin]
        by_cases c1 : Mc 34 3 = nI 45
        · rw [if_pos (show Mc 34 3 = 45 from c1)]; exact g1 (nb (Or.inl c1))
        · rw [if_neg (show ¬ Mc 34 3 = 45 from c1)]
          by_cases c2 : Mc 34 3 = nI 40
          · rw [if_pos (show Mc 34 3 = 40 from c2)]; exact g1 (nb (Or.inr c2))
          · rw [if_neg (show ¬ Mc 34 3 = 40 from c2)]
            unfold f_X5_readOne_b56
            rw [if_pos rfl, fin]
      · unfold f_X9_atom_b
        rw [show (45 : Int32) = nI 45 from rfl, show (40 : Int32) = nI 40 from rfl, o45]
        simp only [Option.bind_some, zI_0, o40]
        have g1 : d = 5 → ((f_X9_opens Mm).bind fun o => (if o.1 = 0 then some ((0 : Int32), o.2) else none)) = some (0, Mm1) ∧ f_X9_opens Mm = some (0, Mm1) := by
          intro hd5
          have : f_X9_opens Mm = some (0, Mm1) := by
            unfold f_X9_opens
            rw [h25, hd5, if_pos (show nI 5 = 5 from rfl), e2]
            rfl
          rw [this]
          exact ⟨rfl, rfl⟩
        by_cases c1 : Mc 34 3 = nI 45
        · rw [decide_eq_true c1, if_neg (show ¬ (true = false) by decide), (g1 (nb (Or.inl c1))).2]
          rfl
        · rw [decide_eq_false c1, if_pos rfl]
          by_cases c2 : Mc 34 3 = nI 40
          · rw [decide_eq_true c2, if_neg (show ¬ (true = false) by decide), (g1 (nb (Or.inr c2))).2]
            rfl
          · rw [decide_eq_false c2, if_pos rfl, if_pos h26, if_neg n2]
            unfold f_X9_atom_b123 f_X9_atom_b157
            rw [if_pos h26]
            by_cases c3 : Mm 100 22 = 1
            · rw [if_pos c3, nameM hn hB h.2.2.1 h.1 h26, if_neg (by have := n1 c3; omega), e2]
              simp only [Option.bind_some]
              rw [if_neg (by rw [d26]; decide)]
            · rw [if_neg c3, e2]
              rfl
    -- a number or a name: one code, and on
    have put : Mc 34 3 ≠ 256 → Mc 34 3 ≠ 257 → (Mc 34 3 = 258 ∨ Mc 34 3 = 259) → ∀ v : Int32, (∀ Mm1, f_X9_next Mm = some Mm1 → f_X9_atom_b me mb mn ma mt mo Mm = some (v, Mm1)) → (∀ st, evS (Mc 34 5) (env Mm) st = v :: st) →
        ∃ (Mc1 Mm1 : Mem) (v : Int32), f_X5_readOne_b rE rB rN rS rT rO t (nI d) Mc = some Mc1 ∧ f_X9_atom_b me mb mn ma mt mo Mm = some (v, Mm1) ∧ FrC t Mc Mc1 ∧ FrM Mm Mm1 ∧ (Go n B f0 t d Mc Mm p s Mc1 Mm1 v ∨ ∃ f, Dead t f Mc1 Mm1) := by
      intro h6 h7 h8 v hv he
      obtain ⟨P, Mc1, Mm1, p1, w1, e1, e2, e3, e4, e5, e6, e7, e8, e9⟩ := appAdv ht hn hB h h6 h7 (Mc 34 5)
      refine ⟨Mc1, Mm1, v, ?_, hv Mm1 e3, e4, e5, Or.inl ⟨p1, w1, s + 1, e6, e7, by omega, by omega, fun j hj => e9 j (by omega), fun st => ?_⟩⟩
      · have g : f_X5_readOne_b20 rE rB rN rS rT rO t Mc = some Mc1 := by
          unfold f_X5_readOne_b20
          rw [e1, kd6 ht]
          simp only [Option.bind_some, ck_true]
          rw [e2]
          rfl
        unfold f_X5_readOne_b
        rcases h8 with h8 | h8
        · rw [if_pos h8, g]
        · rw [if_neg (by rw [h8]; decide), if_pos h8, g]
      · rw [show s + 1 - s = 0 + 1 by omega]
        show evS (Mc1 (t + 1) s) (env Mm) st = v :: st
        rw [e8]
        exact he st
    obtain ⟨_, h4, h23, h1 | h1 | h1 | h1 | h1⟩ := h.1
    · obtain ⟨a1, a2, a3, a4⟩ := h1
      exact dead (by rw [a3]; decide) (by rw [a3]; decide) (by rw [a3]; intro x; rcases x with x | x <;> exact absurd x (by decide)) (by rw [a4]; decide) (by rw [a4]; intro x; exact absurd x (by decide))
    · obtain ⟨e, a1, a2, a3, a4, a5, a6, a7, a8, a9⟩ := h1
      have hw : w ≤ 12 := by rw [a6]; exact fw_le B p e
      have n45 : ¬ Mc 34 3 = nI 45 := by rw [a7]; exact tkW_sg hw (by omega)
      have n40 : ¬ Mc 34 3 = nI 40 := by rw [a7]; exact tkW_sg hw (by omega)
      by_cases c : w < 6
      · have tk : Mc 34 3 = 259 := by rw [a7]; unfold tkW; rw [if_pos c]
        refine put (by rw [tk]; decide) (by rw [tk]; decide) (Or.inr tk) (Mm 100 (13 + w)) ?_ ?_
        · intro Mm1 hx
          unfold f_X9_atom_b
          rw [show (45 : Int32) = nI 45 from rfl, show (40 : Int32) = nI 40 from rfl, o45]
          simp only [Option.bind_some, zI_0, o40]
          rw [decide_eq_false n45, if_pos rfl, decide_eq_false n40, if_pos rfl, if_pos h26, if_neg (by rw [a5]; decide)]
          unfold f_X9_atom_b123
          rw [if_pos h26, if_pos a5, nameM hn hB h.2.2.1 h.1 h26, if_pos c]
          simp only [Option.bind_some]
          rw [if_pos h26, hx]
          rfl
        · intro st
          rw [a8 c, evS_name c]
      · have tk : Mc 34 3 ≠ 258 ∧ Mc 34 3 ≠ 259 := by
          rw [a7, tkW_f w hw, if_neg c, show (258 : Int32) = nI 258 from rfl, show (259 : Int32) = nI 259 from rfl]
          split
          · exact ⟨fun x => by rw [nIeq (by omega) (by omega)] at x; omega, fun x => by rw [nIeq (by omega) (by omega)] at x; omega⟩
          · exact ⟨fun x => by rw [nIeq (by omega) (by omega)] at x; omega, fun x => by rw [nIeq (by omega) (by omega)] at x; omega⟩
        exact dead tk.1 tk.2 (fun x => by rcases x with x | x; exact absurd x n45; exact absurd x n40) (by rw [a5]; decide) (fun _ => by omega)
    · obtain ⟨e, v, a1, a2, a3, a4, a5, a6, a7, a8, a9, a10⟩ := h1
      have n45 : ¬ Mc 34 3 = nI 45 := by rw [a7]; decide
      have n40 : ¬ Mc 34 3 = nI 40 := by rw [a7]; decide
      refine put (by rw [a7]; decide) (by rw [a7]; decide) (Or.inl a7) (nI v) ?_ (fun st => by rw [a9]; exact evS_num a8 _ _)
      intro Mm1 hx
      unfold f_X9_atom_b
      rw [show (45 : Int32) = nI 45 from rfl, show (40 : Int32) = nI 40 from rfl, o45]
      simp only [Option.bind_some, zI_0, o40]
      rw [decide_eq_false n45, if_pos rfl, decide_eq_false n40, if_pos rfl, if_pos h26, if_pos a6, hx, a10]
      simp only [Option.bind_some]
      rw [nI_l (by omega), lN_i]
    · obtain ⟨a1, a2, a3, a4, a5, a6, a7, a8⟩ := h1
      have hbp := hB p a1
      have nn : ∀ k, 256 ≤ k → k < 300 → ¬ Mc 34 3 = nI k := fun k hk hk2 => by rw [a7, nIeq (by omega) (by omega)]; omega
      have nn8 : ¬ Mc 34 3 = 258 := nn 258 (by omega) (by omega)
      have nn9 : ¬ Mc 34 3 = 259 := nn 259 (by omega) (by omega)
      by_cases c5 : d < 5
      · by_cases c1 : Mc 34 3 = nI 45
        · -- minus
          have h2 := h.op (d + 1)
          obtain ⟨A, Am, C, Mc1, Mm1, v, e1, e2, e3, e4, e5, e6, e7, e8⟩ := opStep ht hn hB (hO c5) h2 (nn 256 (by omega) (by omega)) (nn 257 (by omega) (by omega)) (-15)
          have fm : FrM Mm Mm1 := (FrM.mu Mm (by omega) _).tr e7
          refine ⟨Mc1, mu Mm1 100 25 (Mm1 100 25 - 1), -v, ?_, ?_, e6, fm.tr (FrM.mu Mm1 (by omega) _), ?_⟩
          · unfold f_X5_readOne_b
            rw [if_neg nn8, if_neg nn9, if_pos (show Mc 34 3 = 45 from c1)]
            unfold f_X5_readOne_b51 f_X5_readOne_b56
            rw [if_neg (by decide), if_pos (show nI d < 5 by exact nI_lt (b := 5) c5 (by omega)), if_pos (show Mc 34 3 = 45 from c1)]
            unfold f_X5_readOne_b85
            rw [e1]
            simp only [Option.bind_some]
            rw [if_neg (by decide), nIp, e3]
            simp only [Option.bind_some]
            rw [e5, kd6 ht]
            rfl
          · unfold f_X9_atom_b
            rw [show (45 : Int32) = nI 45 from rfl, o45, decide_eq_true c1]
            simp only [Option.bind_some]
            rw [if_neg (by decide)]
            unfold f_X9_opens
            rw [h25, if_neg (by rw [show (5 : Int32) = nI 5 from rfl, nIeq (by omega) (by omega)]; omega), nIp, e2]
            simp only [Option.bind_some]
            rw [if_neg (by decide), e4]
            rfl
          · rcases e8 with ⟨p1, w1, s1, k1, k2, k3, k4, k5, k6⟩ | ⟨f, k1⟩
            · have o25 := k1.2.2.2.2.2.1
              rw [o25, nIm (by omega), Nat.add_sub_cancel]
              refine Or.inl ⟨p1, w1, s1 + 1, k1.op d, k2, by omega, by omega, k5, fun st => ?_⟩
              have := k6 st
              rw [(FrM.mu Mm (by omega) (nI (d + 1))).en] at this
              rw [this]
              unfold evS
              rw [if_pos (by decide), if_neg (by decide), if_pos rfl]
            · exact Or.inr ⟨f, k1.op _⟩
        · by_cases c2 : Mc 34 3 = nI 40
          · -- in brackets
            have h2 := h.op (d + 1)
            obtain ⟨A, Am, p1, w1, e1, e2, e3, e4, e5, e6, e7⟩ := advLive ht hn hB h2 (nn 256 (by omega) (by omega)) (nn 257 (by omega) (by omega))
            obtain ⟨C, Cm, v, g1, g2, g3, g4, g5⟩ := (hE c5 A Am).1 _ _ _ e5
            have cl : ∀ x, f_X5_expect 41 C = some x → f_X5_readOne_b rE rB rN rS rT rO t (nI d) Mc = some x := by
              intro x hx
              unfold f_X5_readOne_b
              rw [if_neg nn8, if_neg nn9, if_neg (show ¬ Mc 34 3 = 45 from c1), if_pos (show Mc 34 3 = 40 from c2)]
              unfold f_X5_readOne_b51 f_X5_readOne_b56
              rw [if_neg (by decide), if_pos (show nI d < 5 by exact nI_lt (b := 5) c5 (by omega)), if_neg (show ¬ Mc 34 3 = 45 from c1)]
              unfold f_X5_readOne_b85
              rw [e1]
              simp only [Option.bind_some]
              rw [if_pos True.intro, nIp, g1]
              simp only [Option.bind_some]
              rw [hx]
              rfl
            have mo1 : f_X9_atom_b me mb mn ma mt mo Mm = (f_X9_isSign 41 Cm).bind fun o16 => (if o16.1 = 0 then (f_X9_fail o16.2).bind fun o19 => (f_X9_atom_b71 me mb mn ma mt mo) v o19 else (f_X9_atom_b71 me mb mn ma mt mo) v o16.2) := by
              unfold f_X9_atom_b
              rw [show (45 : Int32) = nI 45 from rfl, show (40 : Int32) = nI 40 from rfl, o45]
              simp only [Option.bind_some, zI_0, o40]
              rw [decide_eq_false c1, if_pos rfl, decide_eq_true c2, if_neg (by decide)]
              unfold f_X9_opens
              rw [h25, if_neg (by rw [show (5 : Int32) = nI 5 from rfl, nIeq (by omega) (by omega)]; omega), nIp, e2]
              simp only [Option.bind_some]
              rw [if_neg (by decide), g2]
              rfl
            have fmm : FrM Mm Cm := ((FrM.mu Mm (by omega) (nI (d + 1))).tr e4).tr g4
            rcases g5 with ⟨p2, w2, s2, k1, k2, k3, k4, k5, k6⟩ | ⟨f, k1⟩
            · have k26 := k1.2.2.2.2.1
              have k25 := k1.2.2.2.2.2.1
              have o41 := obsS hB k1.1 k26 (c := 41) (by omega)
              rw [mo1, show (41 : Int32) = nI 41 from rfl, o41]
              simp only [Option.bind_some, zI_0]
              by_cases c41 : C 34 3 = nI 41
              · have k1b := k1.op d
                obtain ⟨D, Dm, p3, w3, i1, i2, i3, i4, i5, i6, i7⟩ := advLive ht hn hB k1b (by rw [c41]; decide) (by rw [c41]; decide)
                rw [decide_eq_true c41, if_neg (by decide)]
                refine ⟨D, Dm, v, cl D ?_, ?_, e3.tr (g3.tr i3), fmm.tr ((FrM.mu Cm (by omega) _).tr i4), Or.inl ⟨p3, w3, s2, i5, by omega, by omega, by omega, fun j hj => by rw [i7, k5 j hj, e7], fun st => ?_⟩⟩
                · unfold f_X5_expect
                  rw [if_pos (show C 34 3 = 41 from c41), i1]
                  rfl
                · unfold f_X9_atom_b71
                  rw [if_pos k26, k25, nIm (by omega), Nat.add_sub_cancel, i2]
                  rfl
                · rw [i7]
                  have := k6 st
                  rw [e4.en, (FrM.mu Mm (by omega) (nI (d + 1))).en] at this
                  exact this
              · obtain ⟨D, Dm, i1, i2, i3, i4, i5⟩ := failBoth ht hn k1
                rw [decide_eq_false c41, if_pos rfl, i2]
                simp only [Option.bind_some]
                refine ⟨D, mu Dm 100 25 (Dm 100 25 - 1), v, cl D ?_, ?_, e3.tr (g3.tr i3), fmm.tr (i4.tr (FrM.mu Dm (by omega) _)), Or.inr ⟨p2, i5.op _⟩⟩
                · unfold f_X5_expect
                  rw [if_neg (show ¬ C 34 3 = 41 from c41), i1]
                  rfl
                · unfold f_X9_atom_b71
                  rw [if_neg (by rw [i5.2.2.1]; decide)]
            · obtain ⟨x1, x2⟩ := failDead k1
              rw [mo1, obsS0 k1.2.2.1]
              simp only [Option.bind_some, if_true, x2]
              refine ⟨C, mu Cm 100 25 (Cm 100 25 - 1), v, cl C ?_, ?_, e3.tr g3, fmm.tr (FrM.mu Cm (by omega) _), Or.inr ⟨f, k1.op _⟩⟩
              · unfold f_X5_expect
                rw [if_neg (by rw [k1.1]; decide), x1]
                rfl
              · unfold f_X9_atom_b71
                rw [if_neg (by rw [k1.2.2.1]; decide)]
          · exact dead (nn 258 (by omega) (by omega)) (nn 259 (by omega) (by omega)) (fun x => by rcases x with x | x; exact absurd x c1; exact absurd x c2) (by rw [a6]; decide) (by rw [a6]; intro x; exact absurd x (by decide))
      · exact dead (nn 258 (by omega) (by omega)) (nn 259 (by omega) (by omega)) (fun _ => by omega) (by rw [a6]; decide) (by rw [a6]; intro x; exact absurd x (by decide))
    · obtain ⟨a1, a2, a3, a4⟩ := h1
      exact dead (by rw [a3]; decide) (by rw [a3]; decide) (by rw [a3]; intro x; rcases x with x | x <;> exact absurd x (by decide)) (by rw [a4]; decide) (by rw [a4]; intro x; exact absurd x (by decide))
  · intro f h
    obtain ⟨x1, x2⟩ := failDead h
    have h26 := h.2.2.1
    refine ⟨Mc, Mm, 0, ?_, ?_, FrC.refl t Mc, FrM.refl Mm, h⟩
    · unfold f_X5_readOne_b
      rw [h.1, if_neg (by decide), if_neg (by decide), if_neg (by decide), if_neg (by decide)]
      unfold f_X5_readOne_b56 f_X5_readOne_b66
      rw [if_pos rfl, x1]
      rfl
    · unfold f_X9_atom_b
      rw [obsS0 h26]
      simp only [Option.bind_some, if_true, obsS0 h26]
      rw [if_neg (by rw [h26]; decide)]
      unfold f_X9_atom_b123 f_X9_atom_b157
      rw [if_neg (by rw [h26]; decide), x2]
      rfl
end
section
variable {n f0 t : Nat} {B : Nat → Nat}
/-- EVERYTHING of one part, read side by side -/
theorem parsePS (ht : isTx t) (hn : n ≤ 160) (hB : ∀ j, j < n → B j < 256) : ∀ D d, d ≤ 5 →
    (6 * (5 - d) + 1 ≤ D → PS n B f0 t (f_X5_readOne D) (f_X9_atom D) d) ∧ (6 * (5 - d) + 2 ≤ D → PS n B f0 t (f_X5_readTerm D) (f_X9_term D) d) ∧ (6 * (5 - d) + 3 ≤ D → PS n B f0 t (f_X5_readSum D) (f_X9_added D) d) ∧ (6 * (5 - d) + 4 ≤ D → PS n B f0 t (f_X5_readNot D) (f_X9_not D) d) ∧ (6 * (5 - d) + 5 ≤ D → PS n B f0 t (f_X5_readBoth D) (f_X9_both D) d) ∧ (6 * (5 - d) + 6 ≤ D → PS n B f0 t (f_X5_readEither D) (f_X9_either D) d) := by
  intro D
  induction D with
  | zero => intro d hd; exact ⟨fun h => by omega, fun h => by omega, fun h => by omega, fun h => by omega, fun h => by omega, fun h => by omega⟩
  | succ D ih =>
    intro d hd
    obtain ⟨i1, i2, i3, i4, i5, i6⟩ := ih d hd
    refine ⟨fun h => ?_, fun h => ?_, fun h => ?_, fun h => ?_, fun h => ?_, fun h => ?_⟩
    · exact onePS ht hn hd hB (fun h5 => (ih (d + 1) (by omega)).2.2.2.2.2 (by omega)) (fun h5 => (ih (d + 1) (by omega)).1 (by omega))
    · exact termPS ht hn hB (i1 (by omega))
    · exact sumPS ht hn hB (i2 (by omega))
    · exact notPS ht hn hd hB (i3 (by omega)) (fun h5 => (ih (d + 1) (by omega)).2.2.2.1 (by omega))
    · exact bothPS ht hn hB (i4 (by omega))
    · exact eitherPS ht hn hB (i5 (by omega))
theorem eitherAll (ht : isTx t) (hn : n ≤ 160) (hB : ∀ j, j < n → B j < 256) : PS n B f0 t (f_X5_readEither DP) (f_X9_either DP) 0 :=
  (parsePS ht hn hB DP 0 (by omega)).2.2.2.2.2 (by unfold DP; omega)
end
end
section
/-! A PART, AND ITS END -/
section
variable {n f0 t : Nat} {B : Nat → Nat}
def partC (t : Nat) (key : Int32) (M : Mem) : Option Mem := (f_X5_expect key M).bind fun o7 => (f_X5_readEither DP t 0 o7).bind fun o9 => f_X5_expect 59 o9
def partM (s : List Nat) (M : Mem) : Option (Int32 × Mem) := (wordM0 s M).bind fun o => f_X9_part o.1 o.2
theorem Dead.mix {f : Nat} {Mc Mm C Cm : Mem} (h : Dead t f Mc Mm) (k : Dead t f C Cm) : Dead t f C Mm := ⟨k.1, k.2.1, h.2.2.1, h.2.2.2.1, h.2.2.2.2.1, k.2.2.2.2.2⟩
theorem partDead (ht : isTx t) (hn : n ≤ 160) (hB : ∀ j, j < n → B j < 256) {f : Nat} {Mc Mm : Mem} (h : Dead t f Mc Mm) {key : Int32} (hk : key ≠ 257) : ∃ C : Mem, partC t key Mc = some C ∧ FrC t Mc C ∧ Dead t f C Mm := by
  obtain ⟨x1, x2⟩ := failDead h
  obtain ⟨C, Cm, v, g1, g2, g3, g4, g5⟩ := (eitherAll (f0 := 0) ht hn hB Mc Mm).2 f h
  obtain ⟨y1, y2⟩ := failDead g5
  refine ⟨C, ?_, g3, h.mix g5⟩
  unfold partC f_X5_expect
  rw [h.1, if_neg (Ne.symm hk), x1]
  simp only [Option.bind_some]
  rw [show (0 : Int32) = nI 0 from rfl, g1]
  simp only [Option.bind_some]
  rw [g5.1, if_neg (by decide), y1]
  rfl
theorem partBoth (ht : isTx t) (hn : n ≤ 160) (hB : ∀ j, j < n → B j < 256) {Mc Mm : Mem} {p w s k : Nat} (hk : 6 ≤ k ∧ k < 9) (h : Live n B f0 t 0 Mc Mm p w s) :
    ∃ (C Cm : Mem) (v : Int32), partC t (nI (254 + k)) Mc = some C ∧ partM (sw k) Mm = some (v, Cm) ∧ FrC t Mc C ∧ FrM Mm Cm ∧ (Go n B f0 t 0 Mc Mm p s C Cm v ∨ ∃ f, Dead t f C Cm) := by
  have h26 := h.2.2.2.2.1
  have hp := h.1.1
  have ow := obsW hn hB h.2.2.1 h.1 h26 (k := k) (by omega)
  have ok := obsK hB h.1 (k := k) (by omega)
  unfold partM
  rw [ow]
  simp only [Option.bind_some]
  unfold f_X9_part
  simp only [zI_0]
  by_cases c : w = k
  · have tk : Mc 34 3 = nI (254 + k) := by have := ok; rw [eq_true c] at this; exact of_eq_true this
    have n6 : Mc 34 3 ≠ 256 := by rw [tk, show (256 : Int32) = nI 256 from rfl]; intro x; rw [nIeq (by omega) (by omega)] at x; omega
    have n7 : Mc 34 3 ≠ 257 := by rw [tk, show (257 : Int32) = nI 257 from rfl]; intro x; rw [nIeq (by omega) (by omega)] at x; omega
    obtain ⟨A, Am, p1, w1, e1, e2, e3, e4, e5, e6, e7⟩ := advLive ht hn hB h n6 n7
    obtain ⟨C, Cm, v, g1, g2, g3, g4, g5⟩ := (eitherAll ht hn hB A Am).1 _ _ _ e5
    have cl : ∀ x, f_X5_expect 59 C = some x → partC t (nI (254 + k)) Mc = some x := by
      intro x hx
      unfold partC
      have : f_X5_expect (nI (254 + k)) Mc = some A := by unfold f_X5_expect; rw [if_pos tk, e1]; rfl
      rw [this]
      simp only [Option.bind_some]
      rw [show (0 : Int32) = nI 0 from rfl, g1]
      exact hx
    rw [decide_eq_true c, if_neg (by decide)]
    unfold f_X9_part_b8
    rw [if_pos h26, e2]
    simp only [Option.bind_some]
    unfold f_X9_part_b19
    rw [if_pos e5.2.2.2.2.1, g2]
    simp only [Option.bind_some]
    unfold f_X9_part_b34
    rcases g5 with ⟨p2, w2, s2, k1, k2, k3, k4, k5, k6⟩ | ⟨f, k1⟩
    · have k26 := k1.2.2.2.2.1
      have o59 := obsS hB k1.1 k26 (c := 59) (by omega)
      rw [show (59 : Int32) = nI 59 from rfl, o59]
      simp only [Option.bind_some, zI_0]
      by_cases c9 : C 34 3 = nI 59
      · obtain ⟨D, Dm, p3, w3, i1, i2, i3, i4, i5, i6, i7⟩ := advLive ht hn hB k1 (by rw [c9]; decide) (by rw [c9]; decide)
        rw [decide_eq_true c9, if_neg (by decide)]
        unfold f_X9_part_b48
        rw [if_pos k26, i2]
        refine ⟨D, Dm, v, cl D ?_, rfl, e3.tr (g3.tr i3), e4.tr (g4.tr i4), Or.inl ⟨p3, w3, s2, i5, by omega, by omega, by omega, fun j hj => by rw [i7, k5 j hj, e7], fun st => ?_⟩⟩
        · unfold f_X5_expect
          rw [if_pos (show C 34 3 = 59 from c9), i1]
          rfl
        · rw [i7]
          have := k6 st
          rw [e4.en] at this
          exact this
      · obtain ⟨D, Dm, i1, i2, i3, i4, i5⟩ := failBoth ht hn k1
        rw [decide_eq_false c9, if_pos rfl, i2]
        simp only [Option.bind_some]
        unfold f_X9_part_b48
        rw [if_neg (by rw [i5.2.2.1]; decide)]
        refine ⟨D, Dm, v, cl D ?_, rfl, e3.tr (g3.tr i3), e4.tr (g4.tr i4), Or.inr ⟨p2, i5⟩⟩
        unfold f_X5_expect
        rw [if_neg (show ¬ C 34 3 = 59 from c9), i1]
        rfl
    · obtain ⟨x1, x2⟩ := failDead k1
      rw [obsS0 k1.2.2.1]
      simp only [Option.bind_some, if_true, x2]
      unfold f_X9_part_b48
      rw [if_neg (by rw [k1.2.2.1]; decide)]
      refine ⟨C, Cm, v, cl C ?_, rfl, e3.tr g3, e4.tr g4, Or.inr ⟨f, k1⟩⟩
      unfold f_X5_expect
      rw [if_neg (by rw [k1.1]; decide), x1]
      rfl
  · have tk : ¬ Mc 34 3 = nI (254 + k) := fun x => c ((eq_true x ▸ ok).mp True.intro)
    obtain ⟨D, Dm, i1, i2, i3, i4, i5⟩ := failBoth ht hn h
    obtain ⟨x1, x2⟩ := failDead i5
    obtain ⟨C, Cm, v, g1, g2, g3, g4, g5⟩ := (eitherAll (f0 := f0) ht hn hB D Dm).2 p i5
    obtain ⟨y1, y2⟩ := failDead g5
    rw [decide_eq_false c, if_pos rfl, i2]
    simp only [Option.bind_some]
    have d26 := i5.2.2.1
    unfold f_X9_part_b8
    rw [if_neg (by rw [d26]; decide)]
    unfold f_X9_part_b19
    rw [if_neg (by rw [d26]; decide)]
    unfold f_X9_part_b34
    rw [obsS0 d26]
    simp only [Option.bind_some, if_true, x2]
    unfold f_X9_part_b48
    rw [if_neg (by rw [d26]; decide)]
    refine ⟨C, Dm, 0, ?_, rfl, i3.tr g3, i4, Or.inr ⟨p, i5.mix g5⟩⟩
    unfold partC f_X5_expect
    rw [if_neg tk, i1]
    simp only [Option.bind_some]
    rw [show (0 : Int32) = nI 0 from rfl, g1]
    simp only [Option.bind_some]
    rw [g5.1, if_neg (by decide), y1]
    rfl
theorem endS (ht : isTx t) (M : Mem) {i : Nat} (hi : i < 3) : f_X7_endSection t (nI i) M = some (mu M (t + 2) i (M t 2)) := by
  obtain ⟨k1, k2, k3, l1, l2, q1, q2⟩ := tx_kd ht
  unfold f_X7_endSection
  rw [k1, k3, l2, inb_nI hi (by omega), nI_clamp (by omega)]
  rfl
def setN {α : Type} (e : Nat → α) (i : Nat) (x : α) : Nat → α := fun j => if j = i then x else e j
theorem setN_at {α : Type} {e : Nat → α} {i : Nat} {x : α} : setN e i x i = x := if_pos rfl
theorem setN_ne {α : Type} {e : Nat → α} {i j : Nat} {x : α} (h : j ≠ i) : setN e i x j = e j := if_neg h
def bOf (e : Nat → Nat) (i : Nat) : Nat := if i = 0 then 0 else e (i - 1)
/-- the parts before the i-th stand in the codes, up to s -/
def Sec (t i s : Nat) (Mc : Mem) (en : Nat → Int32) (e : Nat → Nat) (v : Nat → Int32) : Prop :=
  s = bOf e i ∧ ∀ c, c < i → Mc (t + 2) c = nI (e c) ∧ bOf e c ≤ e c ∧ e c ≤ s ∧ evR (Mc (t + 1)) en (e c - bOf e c) (bOf e c) [] = [v c]
theorem Sec.step {i s p d : Nat} {Mc C Mm Cm : Mem} {e : Nat → Nat} {v : Nat → Int32} {x : Int32} (h : Sec t i s Mc (env Mm) e v) (hg : Go n B f0 t d Mc Mm p s C Cm x) (hf : FrC t Mc C) (ht : isTx t) :
    ∃ p1 w1 s1, Live n B f0 t d (mu C (t + 2) i (C t 2)) Cm p1 w1 s1 ∧ Sec t (i + 1) s1 (mu C (t + 2) i (C t 2)) (env Mm) (setN e i s1) (setN v i x) := by
  obtain ⟨p1, w1, s1, k1, k2, k3, k4, k5, k6⟩ := hg
  obtain ⟨h1, h2⟩ := h
  obtain ⟨hL, hC, hM, a6, a26, a25, hs, hsp⟩ := k1
  obtain ⟨r, hr, rfl⟩ := ht
  refine ⟨p1, w1, s1, ⟨hL.cg (fun j _ _ => by rw [mun (by omega)]) (fun _ _ _ => rfl), ⟨?_, fun j hj => ?_⟩, hM, ?_, a26, a25, ?_, hsp⟩, ?_, fun c hc => ?_⟩
  · rw [mun (by omega)]; exact hC.1
  · rw [mun (by omega)]; exact hC.2 j hj
  · rw [mun (by omega)]; exact a6
  · rw [mun (by omega)]; exact hs
  · unfold bOf
    rw [if_neg (by omega), Nat.add_sub_cancel, setN_at]
  · rw [mun (show 16 + 3 * r + 1 ≠ 16 + 3 * r + 2 by omega)]
    by_cases e0 : c = i
    · subst e0
      rw [mu_at, setN_at, setN_at]
      have hb : bOf (setN e c s1) c = s := by
        rw [h1]
        unfold bOf
        by_cases z : c = 0
        · rw [if_pos z, if_pos z]
        · rw [if_neg z, if_neg z]
          rw [setN_ne (by omega)]
      rw [hb]
      exact ⟨hs, k3, Nat.le_refl _, k6 []⟩
    · have hci : c < i := by omega
      obtain ⟨q1, q2, q3, q4⟩ := h2 c hci
      have hb : bOf (setN e i s1) c = bOf e c := by
        unfold bOf
        by_cases z : c = 0
        · rw [if_pos z, if_pos z]
        · rw [if_neg z, if_neg z]
          rw [setN_ne (by omega)]
      rw [mu_o e0, setN_ne e0, setN_ne e0, hb]
      refine ⟨?_, q2, by omega, ?_⟩
      · rw [hf.1 _ (by omega) (by omega) (by omega)]; exact q1
      · rw [evR_cg (cs2 := Mc (16 + 3 * r + 1)) _ _ _ (fun j h1 h2 => k5 j (by omega))]; exact q4
theorem Sec.done {s : Nat} {M : Mem} {en : Nat → Int32} {e : Nat → Nat} {v : Nat → Int32} (h : Sec t 3 s M en e v) (hs : s ≤ 160) : WfT (M (t + 2)) ∧ ∀ c, c < 3 → evT (M (t + 1)) (M (t + 2)) en c = v c := by
  obtain ⟨h1, h2⟩ := h
  have E : ∀ c, c < 3 → secE (M (t + 2)) c = e c := fun c hc => by
    obtain ⟨q1, q2, q3, q4⟩ := h2 c hc
    unfold secE
    rw [q1, nI_clamp (by omega)]
  have Bb : ∀ c, c < 3 → secB (M (t + 2)) c = bOf e c := fun c hc => by
    unfold secB bOf
    by_cases z : c = 0
    · rw [if_pos z, if_pos z]
    · rw [if_neg z, if_neg z]
      have := E (c - 1) (by omega)
      unfold secE at this
      exact this
  constructor
  · intro c hc
    obtain ⟨q1, q2, q3, q4⟩ := h2 c hc
    rw [E c hc, Bb c hc]
    exact ⟨q2, by omega, q1⟩
  · intro c hc
    obtain ⟨q1, q2, q3, q4⟩ := h2 c hc
    unfold evT
    rw [E c hc, Bb c hc, q4]
    rfl
end
end
section
/-! A WHOLE TEXT, READ SIDE BY SIDE -/
section
variable {n t : Nat} {B : Nat → Nat}
def FrR (t : Nat) (M M1 : Mem) : Prop := ∀ q, q ≠ 34 → q ≠ t → q ≠ t + 1 → q ≠ t + 2 → M1 q = M q
def Fr19 (M M1 : Mem) : Prop := (∀ q, q ≠ 100 → M1 q = M q) ∧ (∀ j, (j < 19 ∨ 27 < j) → M1 100 j = M 100 j)
theorem FrR.tr {a b c : Mem} (h : FrR t a b) (k : FrR t b c) : FrR t a c := fun q x y z u => (k q x y z u).trans (h q x y z u)
theorem FrC.r {a b : Mem} (h : FrC t a b) : FrR t a b := fun q x y z _ => h.1 q x y z
theorem FrM.n19 {a b : Mem} (h : FrM a b) : Fr19 a b := ⟨h.1, fun j x => h.2 j (by omega)⟩
theorem Fr19.tr {a b c : Mem} (h : Fr19 a b) (k : Fr19 b c) : Fr19 a c := ⟨fun q x => (k.1 q x).trans (h.1 q x), fun j x => (k.2 j x).trans (h.2 j x)⟩
theorem FrR.en (M : Mem) (i : Nat) (x : Int32) : FrR t M (mu M (t + 2) i x) := fun q _ _ _ u => mun u
theorem Dead.en (ht : isTx t) {f : Nat} {Mc Mm : Mem} (h : Dead t f Mc Mm) (i : Nat) (x : Int32) : Dead t f (mu Mc (t + 2) i x) Mm := by
  obtain ⟨h3, h6, h26, h27, hf, s, hs, h2⟩ := h
  obtain ⟨r, hr, rfl⟩ := ht
  exact ⟨(by rw [mun (by omega)]; exact h3), (by rw [mun (by omega)]; exact h6), h26, h27, hf, s, hs, (by rw [mun (by omega)]; exact h2)⟩
theorem l20step (ht : isTx t) (k : Mem → Option (Int32 × Mem)) (f : Nat) {i : Nat} (hi : i < 3) (M : Mem) :
    f_X5_readInto_l20 k (f + 1) t (nI i) M = (partC t (nI (260 + i)) M).bind fun o => f_X5_readInto_l20 k f t (nI (i + 1)) (mu o (t + 2) i (o t 2)) := by
  rw [f_X5_readInto_l20, if_neg (by rw [show (3 : Int32) = nI 3 from rfl, nIle (by omega) (by omega)]; omega)]
  unfold partC
  simp only [Option.bind_assoc]
  rw [show (260 : Int32) + nI i = nI (260 + i) from nI_add 260 i]
  congr 1; funext o1
  congr 1; funext o2
  congr 1; funext o3
  rw [endS ht o3 hi, kd6 ht, nIp]
  rfl
theorem deadRun (ht : isTx t) (hn : n ≤ 160) (hB : ∀ j, j < n → B j < 256) (k : Mem → Option (Int32 × Mem)) {f : Nat} : ∀ m i g (Mc Mm : Mem), i + m = 3 → Dead t f Mc Mm → ∃ C : Mem, f_X5_readInto_l20 k (m + 1 + g) t (nI i) Mc = k C ∧ FrR t Mc C ∧ Dead t f C Mm := by
  intro m
  induction m with
  | zero =>
    intro i g Mc Mm hi h
    refine ⟨Mc, ?_, fun _ _ _ _ _ => rfl, h⟩
    rw [show 0 + 1 + g = g + 1 by omega, f_X5_readInto_l20, if_pos (by rw [show i = 3 by omega]; decide)]
  | succ m ih =>
    intro i g Mc Mm hi h
    obtain ⟨C, e1, e2, e3⟩ := partDead (n := n) (B := B) ht hn hB h (key := nI (260 + i)) (by rw [show (257 : Int32) = nI 257 from rfl]; intro x; rw [nIeq (by omega) (by omega)] at x; omega)
    obtain ⟨D, g1, g2, g3⟩ := ih (i + 1) g (mu C (t + 2) i (C t 2)) Mm (by omega) (e3.en ht i _)
    refine ⟨D, ?_, (e2.r.tr (FrR.en C i _)).tr g2, g3⟩
    rw [show m + 1 + 1 + g = (m + 1 + g) + 1 by omega, l20step ht k _ (by omega), e1]
    exact g1
theorem deadEnd {f : Nat} {Mc Mm : Mem} (h : Dead t f Mc Mm) : f_X5_readInto_b57 Mc = some (nI f, mu Mc 34 1 0) := by
  unfold f_X5_readInto_b57 f_X5_readInto_b71
  rw [h.1, if_neg (by decide), (failDead h).1]
  simp only [Option.bind_some]
  rw [h.2.1]
theorem b146 (w : Nat) (hw : w < 3) (v : Nat → Int32) (M : Mem) : f_X9_read_b146 (nI w) (v 0) (v 1) (v 2) M = some (v w, M) := by
  unfold f_X9_read_b146
  by_cases h0 : w = 0
  · subst h0; rw [if_pos (show nI 0 = 0 from rfl)]
  · rw [if_neg (by rw [show (0 : Int32) = nI 0 from rfl, nIeq (by omega) (by omega)]; exact h0)]
    by_cases h1 : w = 1
    · subst h1; rw [if_pos (show nI 1 = 1 from rfl)]
    · rw [if_neg (by rw [show (1 : Int32) = nI 1 from rfl, nIeq (by omega) (by omega)]; exact h1), show w = 2 by omega]
theorem b146e (w : Nat) (hw : w < 3) (a b c : Int32) (M : Mem) : ∃ v, f_X9_read_b146 (nI w) a b c M = some (v, M) :=
  ⟨_, b146 w hw (fun i => if i = 0 then a else if i = 1 then b else c) M⟩
theorem obsE {Mc Mm : Mem} {p w : Nat} (hB : ∀ j, j < n → B j < 256) (h : Lx n B Mc Mm p w) : (Mc 34 3 = 256 ∧ Mm 100 22 = 0) ∨ (Mc 34 3 ≠ 256 ∧ Mm 100 22 ≠ 0) := by
  obtain ⟨hp, h4, h23, h1 | h1 | h1 | h1 | h1⟩ := h
  · exact Or.inl ⟨h1.2.2.1, h1.2.2.2⟩
  · obtain ⟨e, a1, a2, a3, a4, a5, a6, a7, a8⟩ := h1
    have hw : w ≤ 12 := by rw [a6]; exact fw_le B p e
    refine Or.inr ⟨?_, by rw [a5]; decide⟩
    rw [a7, tkW_f w hw, show (256 : Int32) = nI 256 from rfl]
    split
    · intro x; rw [nIeq (by omega) (by omega)] at x; omega
    · split
      · intro x; rw [nIeq (by omega) (by omega)] at x; omega
      · intro x; rw [nIeq (by omega) (by omega)] at x; omega
  · obtain ⟨e, v, a1, a2, a3, a4, a5, a6, a7, a8⟩ := h1
    exact Or.inr ⟨by rw [a7]; decide, by rw [a6]; decide⟩
  · obtain ⟨a1, a2, a3, a4, a5, a6, a7, a8⟩ := h1
    have hbp := hB p a1
    refine Or.inr ⟨?_, by rw [a6]; decide⟩
    rw [a7, show (256 : Int32) = nI 256 from rfl]
    intro x; rw [nIeq (by omega) (by omega)] at x; omega
  · obtain ⟨a1, a2, a3, a4⟩ := h1
    exact Or.inr ⟨by rw [a3]; decide, by rw [a4]; decide⟩
theorem readM_eq (v1 v2 : Int32) (M : Mem) : f_X9_read v1 v2 M = ck (inb v1 6) ((f_X9_next (mu (mu (mu (mu (mu M 100 19 (160 * v1)) 100 20 (M 102 (v1).toNatClampNeg)) 100 21 0) 100 25 0) 100 26 0)).bind fun o2 => (partM (sw 6) o2).bind fun o6 => (if (o6.2 100 26) = 0 then (partM (sw 7) o6.2).bind fun o11 => f_X9_read_b92 v2 o6.1 o11.1 o11.2 else f_X9_read_b92 v2 o6.1 0 o6.2)) := by
  unfold partM
  simp only [Option.bind_assoc]
  rfl
theorem b92_eq (v2 v3 s0 : Int32) (M : Mem) : f_X9_read_b92 v2 v3 s0 M = (if (M 100 26) = 0 then (partM (sw 8) M).bind fun o16 => f_X9_read_b126 v2 v3 s0 o16.1 o16.2 else f_X9_read_b126 v2 v3 s0 0 M) := by
  unfold partM
  simp only [Option.bind_assoc]
  rfl
theorem r160 : ∀ r, r < 6 → (160 : Int32) * nI r = nI (160 * r) ∧ inb (nI r) 6 = true ∧ (nI r).toNatClampNeg = r := by decide +kernel
theorem deadM {w : Nat} (hw : w < 3) {M : Mem} (h : M 100 26 = 1) (a b c : Int32) : (∃ v, f_X9_read_b126 (nI w) a b c M = some (v, M)) ∧ ∃ v, f_X9_read_b92 (nI w) a b M = some (v, M) := by
  have g : ∀ c, ∃ v, f_X9_read_b126 (nI w) a b c M = some (v, M) := by
    intro c
    unfold f_X9_read_b126
    rw [if_neg (by rw [h]; decide)]
    exact b146e w hw a b c M
  refine ⟨g c, ?_⟩
  rw [b92_eq, if_neg (by rw [h]; decide)]
  exact g 0
theorem readSim (ht : isTx t) (hn : n ≤ 160) (hB : ∀ j, j < n → B j < 256) {Mc Mm : Mem} (hC : BC Mc n B) {r : Nat} (hr : r < 6) (h102 : Mm 102 r = nI n) (h101 : ∀ j, j < n → Mm 101 (160 * r + j) = nI (B j)) {w : Nat} (hw : w < 3) :
    ∃ (x : Int32) (C : Mem) (v : Int32) (Cm : Mem), f_X5_readInto t Mc = some (x, C) ∧ f_X9_read (nI r) (nI w) Mm = some (v, Cm) ∧ FrR t Mc C ∧ C 34 1 = 0 ∧ Fr19 Mm Cm ∧
      ((x = -1 ∧ WfT (C (t + 2)) ∧ v = evT (C (t + 1)) (C (t + 2)) (env Mm) w ∧ Cm 100 26 = 0) ∨ (∃ f, f ≤ 160 ∧ x = nI f ∧ Cm 100 26 = 1 ∧ Cm 100 27 = nI f)) := by
  obtain ⟨q1, q2, q3⟩ := r160 r hr
  obtain ⟨g, hg⟩ : ∃ g, FU = g + 4 := ⟨FU - 4, by have := FU_ge; omega⟩
  unfold f_X5_readInto f_X7_clear
  rw [(tx_kd ht).1, readM_eq, q1, q2, q3, h102]
  simp only [beq_self_eq_true, ck_true, Option.bind_some]
  -- before the first token
  generalize hM0 : mu (mu (mu (mu (mu Mm 100 19 (nI (160 * r))) 100 20 (nI n)) 100 21 0) 100 25 0) 100 26 0 = M0
  generalize hC0 : mu (mu (mu Mc t 2 0) 34 2 0) 34 6 (-1) = C0
  have f0 : Fr19 Mm M0 := by
    rw [← hM0]
    exact ⟨fun q x => by rw [mun x, mun x, mun x, mun x, mun x], fun j x => by rw [mu_o (by omega), mu_o (by omega), mu_o (by omega), mu_o (by omega), mu_o (by omega)]⟩
  have hBM : BM M0 (160 * r) n B := by
    rw [← hM0]
    refine ⟨?_, ?_, by omega, fun j hj => ?_⟩
    · rw [mu_o (by omega), mu_o (by omega), mu_o (by omega), mu_o (by omega), mu_at]
    · rw [mu_o (by omega), mu_o (by omega), mu_o (by omega), mu_at]
    · rw [mun (by omega), mun (by omega), mun (by omega), mun (by omega), mun (by omega)]; exact h101 j hj
  have m21 : M0 100 21 = nI 0 := by rw [← hM0, mu_o (by omega), mu_o (by omega), mu_at]; rfl
  have m25 : M0 100 25 = nI 0 := by rw [← hM0, mu_o (by omega), mu_at]; rfl
  have m26 : M0 100 26 = 0 := by rw [← hM0, mu_at]
  have ht2 := ht
  obtain ⟨r0, hr0, rfl⟩ := ht2
  have fc0 : FrR (16 + 3 * r0) Mc C0 := by rw [← hC0]; exact fun q x y z u => by rw [mun x, mun x, mun y]
  have hBC : BC C0 n B := by
    rw [← hC0]
    refine ⟨?_, fun j hj => ?_⟩
    · rw [mu_o (by omega), mu_o (by omega), mun (by omega)]; exact hC.1
    · rw [mun (by omega), mun (by omega), mun (by omega)]; exact hC.2 j hj
  have c2 : C0 34 2 = nI 0 := by rw [← hC0, mu_o (by omega), mu_at]; rfl
  have c6 : C0 34 6 = -1 := by rw [← hC0, mu_at]
  have ct : C0 (16 + 3 * r0) 2 = nI 0 := by rw [← hC0, mun (by omega), mun (by omega), mu_at]; rfl
  obtain ⟨A, Am, p, w0, b1, b2, b3, b4, b5, b6, b7, b8⟩ := advBoth hn hB hBC hBM c2 m21 (by omega)
  have env0 : env Am = env Mm := by
    funext i
    unfold env
    by_cases c : i < 6
    · rw [if_pos c, if_pos c, b8 _ (by omega) (by omega) (by omega) (by omega)]; exact f0.2 _ (by omega)
    · rw [if_neg c, if_neg c]
  have L0 : Live n B (160 * r) (16 + 3 * r0) 0 A Am p w0 0 := by
    refine ⟨b3, ⟨?_, ?_⟩, ⟨?_, ?_, hBM.2.2.1, ?_⟩, ?_, ?_, ?_, ?_, by omega⟩
    · rw [b6 1 (by omega) (by omega) (by omega) (by omega)]; exact hBC.1
    · intro j hj; rw [b5 35 (by omega)]; exact hBC.2 j hj
    · rw [b8 19 (by omega) (by omega) (by omega) (by omega)]; exact hBM.1
    · rw [b8 20 (by omega) (by omega) (by omega) (by omega)]; exact hBM.2.1
    · intro j hj; rw [b7 101 (by omega)]; exact hBM.2.2.2 j hj
    · rw [b6 6 (by omega) (by omega) (by omega) (by omega)]; exact c6
    · rw [b8 26 (by omega) (by omega) (by omega) (by omega)]; exact m26
    · rw [b8 25 (by omega) (by omega) (by omega) (by omega)]; exact m25
    · rw [b5 _ (by omega)]; exact ct
  have fA : FrR (16 + 3 * r0) Mc A := fc0.tr (fun q x _ _ _ => b5 q x)
  have fAm : Fr19 Mm Am := f0.tr ⟨b7, fun j x => b8 j (by omega) (by omega) (by omega) (by omega)⟩
  rw [b1, b2]
  simp only [Option.bind_some]
  have l0 := l20step ht f_X5_readInto_b57 (g + 3) (show 0 < 3 by omega) A
  rw [hg, show f_X5_readInto_l20 f_X5_readInto_b57 (g + 4) (16 + 3 * r0) 0 A = _ from l0]
  -- the first part
  have S0 : Sec (16 + 3 * r0) 0 0 A (env Am) (fun _ => 0) (fun _ => 0) := ⟨rfl, fun c hc => by omega⟩
  obtain ⟨P1, Pm1, v1, e1, e2, e3, e4, e5⟩ := partBoth ht hn hB (k := 6) (by omega) L0
  rw [show nI (260 + 0) = nI (254 + 6) from rfl, e1, e2]
  simp only [Option.bind_some]
  have fP1 := fA.tr e3.r
  have fPm1 := fAm.tr e4.n19
  rcases e5 with e5 | ⟨f, e5⟩
  rotate_left
  · obtain ⟨C, g1, g2, g3⟩ := deadRun ht hn hB f_X5_readInto_b57 2 1 g _ Pm1 (by omega) (e5.en ht 0 (P1 (16 + 3 * r0) 2))
    rw [show g + 3 = 2 + 1 + g by omega, show (0 + 1) = 1 from rfl, g1, deadEnd g3, if_neg (by rw [e5.2.2.1]; decide)]
    obtain ⟨v, hv⟩ := (deadM hw e5.2.2.1 v1 0 0).2
    rw [hv]
    refine ⟨_, _, v, Pm1, rfl, rfl, ((fP1.tr (FrR.en P1 0 _)).tr g2).tr (fun q x _ _ _ => mun x), mu_at, fPm1, Or.inr ⟨f, e5.2.2.2.2.1, rfl, e5.2.2.1, e5.2.2.2.1⟩⟩
  obtain ⟨p1, w1, s1, L1, S1⟩ := S0.step e5 e3 ht
  have fQ1 := fP1.tr (FrR.en P1 0 (P1 (16 + 3 * r0) 2))
  generalize mu P1 (16 + 3 * r0 + 2) 0 (P1 (16 + 3 * r0) 2) = Q1 at L1 S1 fQ1
  rw [if_pos L1.2.2.2.2.1, l20step ht _ (g + 2) (show 0 + 1 < 3 by omega)]
  rw [← e4.en] at S1
  -- the second part
  obtain ⟨P2, Pm2, v2, i1, i2, i3, i4, i5⟩ := partBoth ht hn hB (k := 7) (by omega) L1
  rw [show nI (260 + (0 + 1)) = nI (254 + 7) from rfl, i1, i2]
  simp only [Option.bind_some]
  have fP2 := fQ1.tr i3.r
  have fPm2 := fPm1.tr i4.n19
  rcases i5 with i5 | ⟨f, i5⟩
  rotate_left
  · obtain ⟨C, g1, g2, g3⟩ := deadRun ht hn hB f_X5_readInto_b57 1 2 g _ Pm2 (by omega) (i5.en ht 1 (P2 (16 + 3 * r0) 2))
    rw [show g + 2 = 1 + 1 + g by omega, show (0 + 1 + 1) = 2 from rfl, show (0 + 1) = 1 from rfl, g1, deadEnd g3]
    obtain ⟨v, hv⟩ := (deadM hw i5.2.2.1 v1 v2 0).2
    rw [hv]
    refine ⟨_, _, v, Pm2, rfl, rfl, ((fP2.tr (FrR.en P2 1 _)).tr g2).tr (fun q x _ _ _ => mun x), mu_at, fPm2, Or.inr ⟨f, i5.2.2.2.2.1, rfl, i5.2.2.1, i5.2.2.2.1⟩⟩
  obtain ⟨p2, w2, s2, L2, S2⟩ := S1.step i5 i3 ht
  have fQ2 := fP2.tr (FrR.en P2 (0 + 1) (P2 (16 + 3 * r0) 2))
  generalize mu P2 (16 + 3 * r0 + 2) (0 + 1) (P2 (16 + 3 * r0) 2) = Q2 at L2 S2 fQ2
  rw [b92_eq, if_pos L2.2.2.2.2.1, l20step ht _ (g + 1) (show 0 + 1 + 1 < 3 by omega)]
  rw [← i4.en] at S2
  -- the third part
  obtain ⟨P3, Pm3, v3, j1, j2, j3, j4, j5⟩ := partBoth ht hn hB (k := 8) (by omega) L2
  rw [show nI (260 + (0 + 1 + 1)) = nI (254 + 8) from rfl, j1, j2]
  simp only [Option.bind_some]
  have fP3 := fQ2.tr j3.r
  have fPm3 := fPm2.tr j4.n19
  rcases j5 with j5 | ⟨f, j5⟩
  rotate_left
  · obtain ⟨C, g1, g2, g3⟩ := deadRun ht hn hB f_X5_readInto_b57 0 3 g _ Pm3 (by omega) (j5.en ht 2 (P3 (16 + 3 * r0) 2))
    rw [show g + 1 = 0 + 1 + g by omega, show (0 + 1 + 1 + 1) = 3 from rfl, show (0 + 1 + 1) = 2 from rfl, g1, deadEnd g3]
    obtain ⟨v, hv⟩ := (deadM hw j5.2.2.1 v1 v2 v3).1
    rw [hv]
    refine ⟨_, _, v, Pm3, rfl, rfl, ((fP3.tr (FrR.en P3 2 _)).tr g2).tr (fun q x _ _ _ => mun x), mu_at, fPm3, Or.inr ⟨f, j5.2.2.2.2.1, rfl, j5.2.2.1, j5.2.2.2.1⟩⟩
  obtain ⟨p3, w3, s3, L3, S3⟩ := S2.step j5 j3 ht
  have fQ3 := fP3.tr (FrR.en P3 (0 + 1 + 1) (P3 (16 + 3 * r0) 2))
  generalize mu P3 (16 + 3 * r0 + 2) (0 + 1 + 1) (P3 (16 + 3 * r0) 2) = Q3 at L3 S3 fQ3
  rw [f_X5_readInto_l20, if_pos (show (3 : Int32) ≤ nI (0 + 1 + 1 + 1) by decide)]
  unfold f_X9_read_b126
  rw [if_pos L3.2.2.2.2.1]
  have hs3 : s3 ≤ 160 := by have := L3.1.1; have := L3.2.2.2.2.2.2.2; omega
  rcases obsE hB L3.1 with ⟨z1, z2⟩ | ⟨z1, z2⟩
  · unfold f_X5_readInto_b57 f_X5_readInto_b71
    rw [if_pos z1, if_pos z2, L3.2.2.2.1]
    obtain ⟨u1, u2⟩ := S3.done hs3
    have hb := b146 w hw (fun i => if i = 0 then v1 else if i = 1 then v2 else v3) Pm3
    have hv : f_X9_read_b146 (nI w) v1 v2 v3 Pm3 = some ((fun i => if i = 0 then v1 else if i = 1 then v2 else v3) w, Pm3) := hb
    rw [hv]
    refine ⟨_, _, _, Pm3, rfl, rfl, fQ3.tr (fun q x _ _ _ => mun x), mu_at, fPm3, Or.inl ⟨rfl, ?_, ?_, L3.2.2.2.2.1⟩⟩
    · rw [mun (by omega)]; exact u1
    · rw [mun (by omega), mun (by omega)]
      have hE : env Pm2 = env Mm := by rw [i4.en, e4.en, env0]
      have := u2 w hw
      rw [i4.en, e4.en, env0] at this
      rw [this]
      have : w = 0 ∨ w = 1 ∨ w = 2 := by omega
      rcases this with rfl | rfl | rfl <;> rfl
  · obtain ⟨D, Dm, y1, y2, y3, y4, y5⟩ := failBoth ht hn L3
    unfold f_X5_readInto_b57 f_X5_readInto_b71
    rw [if_neg z1, if_neg z2, y1, y2]
    simp only [Option.bind_some]
    obtain ⟨v, hv⟩ := b146e w hw v1 v2 v3 Dm
    rw [hv, y5.2.1]
    refine ⟨_, _, v, Dm, rfl, rfl, (fQ3.tr y3.r).tr (fun q x _ _ _ => mun x), mu_at, fPm3.tr y4.n19, Or.inr ⟨p3, y5.2.2.2.2.1, rfl, y5.2.2.1, y5.2.2.2.1⟩⟩
end
end
section
/-! WHAT BOTH HOLD ALIKE -/
def B99 (x : Int32) (n : Nat) : Prop := ∃ k, k ≤ n ∧ x = nI k
def Hs (S P K N D C S2 P2 K2 R2 : Nat → Int32) (many : Nat) : Prop :=
  (∀ j, j < 12 → S2 j = S j ∧ B99 (S j) 99) ∧ (∀ j, j < 2 → P2 j = P j ∧ B99 (P j) 99) ∧ ∀ d, d < many → (K2 d = K d ∧ B99 (K d) 5) ∧ (R2 (3 * d) = N d ∧ B99 (N d) 9) ∧ (R2 (3 * d + 1) = D d ∧ B99 (D d) 999999) ∧ (R2 (3 * d + 2) = C d ∧ B99 (C d) 999)
def HsN (m h r m2 h2 r2 : Int32) (many txt : Nat) : Prop :=
  m = nI many ∧ m2 = nI many ∧ many ≤ 6 ∧ (h2 = h ∧ B99 h 999) ∧ (r2 = r ∧ ∃ x, x < txt ∧ r = nI x)
def HouseI (Mc Mm : Mem) (many txt : Nat) : Prop := Hs (Mc 2) (Mc 3) (Mc 4) (Mc 5) (Mc 6) (Mc 7) (Mm 104) (Mm 105) (Mm 106) (Mm 107) many ∧ HsN (Mc 1 6) (Mc 1 7) (Mc 1 8) (Mm 100 12) (Mm 100 7) (Mm 100 4) many txt
def KeptI (Mc Mm : Mem) (many txt : Nat) : Prop := Hs (Mc 9) (Mc 10) (Mc 11) (Mc 12) (Mc 13) (Mc 14) (Mm 111) (Mm 112) (Mm 106) (Mm 113) many ∧ HsN (Mc 8 6) (Mc 8 7) (Mc 8 8) (Mm 100 42) (Mm 100 43) (Mm 100 44) many txt
def ImageI (Mc Mm : Mem) (many txt : Nat) : Prop := (Mc 0 2 = 0 ∧ Mm 100 42 = -1) ∨ (Mc 0 2 = 1 ∧ ∃ k, k ≤ many ∧ KeptI Mc Mm k txt)
def TextI (Mc Mm : Mem) (txt : Nat) : Prop := txt ≤ 6 ∧ Mc 0 4 = nI txt ∧ Mm 100 3 = nI txt ∧ ∀ r, r < txt → WfT (Mc (16 + 3 * r + 2)) ∧ TxM Mm r (evC Mc r)
def TapeI (Mc Mm : Mem) : Prop := ∃ n B, n ≤ 160 ∧ (∀ j, j < n → B j < 256) ∧ BC Mc n B ∧ Mm 100 6 = nI n ∧ ∀ j, j < n → Mm 103 j = nI (B j)
def ShI (Mc Mm : Mem) (s : Nat) : Prop := (Mc (55 + 2 * s) 0 = -1 ∧ Mm 114 s = 0) ∨ ∃ so z, so < 3 ∧ z ≤ 40 ∧ Mc (55 + 2 * s) 0 = nI so ∧ Mm 115 s = nI so ∧ Mc (55 + 2 * s) 1 = nI z ∧ Mm 116 s = nI z ∧ Mm 114 s = 1 ∧ ∀ i, i < z → Mc (56 + 2 * s) i = Mm 117 (40 * s + i)
def Inv (Mc Mm : Mem) : Prop := ∃ many txt, HouseI Mc Mm many txt ∧ ImageI Mc Mm many txt ∧ TextI Mc Mm txt ∧ TapeI Mc Mm ∧ ∀ s, s < 4 → ShI Mc Mm s
/-- the class has changed nothing but its working places -/
def KC (M M1 : Mem) : Prop := ∀ q, (q < 36 ∨ 53 < q) → M1 q = M q
/-- the reference has changed nothing but its working places -/
def KM (M M1 : Mem) : Prop := (∀ q, q ≠ 100 → q ≠ 104 → q ≠ 108 → q ≠ 109 → q ≠ 110 → M1 q = M q) ∧ (∀ j, j < 12 → M1 104 j = M 104 j) ∧ ∀ j, (j < 13 ∨ 37 < j) → M1 100 j = M 100 j
theorem KC.refl (M : Mem) : KC M M := fun _ _ => rfl
theorem KM.refl (M : Mem) : KM M M := ⟨fun _ _ _ _ _ _ => rfl, fun _ _ => rfl, fun _ _ => rfl⟩
theorem KC.tr {a b c : Mem} (h : KC a b) (k : KC b c) : KC a c := fun q x => (k q x).trans (h q x)
theorem KM.tr {a b c : Mem} (h : KM a b) (k : KM b c) : KM a c := ⟨fun q x y z u v => (k.1 q x y z u v).trans (h.1 q x y z u v), fun j x => (k.2.1 j x).trans (h.2.1 j x), fun j x => (k.2.2 j x).trans (h.2.2 j x)⟩
theorem Sm.kc {a b : Mem} (h : Sm a b) : KC a b := fun q x => h q (by omega)
theorem SmM.km {a b : Mem} (h : SmM a b) : KM a b := ⟨fun q x _ _ _ _ => h.1 q x, fun j _ => by rw [h.1 104 (by omega)], fun j x => h.2 j (by omega)⟩
theorem Hs.cg {S P K N D C S2 P2 K2 R2 S2' : Nat → Int32} {many : Nat} (h : Hs S P K N D C S2 P2 K2 R2 many) (h1 : ∀ j, j < 12 → S2' j = S2 j) : Hs S P K N D C S2' P2 K2 R2 many :=
  ⟨fun j hj => ⟨(h1 j hj).trans (h.1 j hj).1, (h.1 j hj).2⟩, h.2⟩
theorem TextI.cg {Mc Mm Mc1 Mm1 : Mem} {txt : Nat} (h : TextI Mc Mm txt) (h1 : ∀ q, q ≤ 33 → q = 0 ∨ 16 ≤ q → Mc1 q = Mc q) (h2 : Mm1 101 = Mm 101) (h3 : Mm1 102 = Mm 102) (h4 : Mm1 100 3 = Mm 100 3) : TextI Mc1 Mm1 txt := by
  obtain ⟨a, b, c, d⟩ := h
  refine ⟨a, by rw [h1 0 (by omega) (by omega)]; exact b, h4.trans c, fun r hr => ?_⟩
  obtain ⟨e, f⟩ := d r hr
  refine ⟨by rw [h1 _ (by omega) (by omega)]; exact e, ?_⟩
  have : evC Mc1 r = evC Mc r := by unfold evC; rw [h1 (16 + 3 * r + 1) (by omega) (by omega), h1 (16 + 3 * r + 2) (by omega) (by omega)]
  rw [this]
  exact f.keep (fun j _ => by rw [h2]) (by rw [h3])
theorem Inv.sc {Mc Mm Mc1 Mm1 : Mem} (h : Inv Mc Mm) (kc : KC Mc Mc1) (km : KM Mm Mm1) : Inv Mc1 Mm1 := by
  obtain ⟨many, txt, a, b, c, d, e⟩ := h
  refine ⟨many, txt, ?_, ?_, ?_, ?_, ?_⟩
  · unfold HouseI
    rw [kc 1 (by omega), kc 2 (by omega), kc 3 (by omega), kc 4 (by omega), kc 5 (by omega), kc 6 (by omega), kc 7 (by omega), km.1 105 (by omega) (by omega) (by omega) (by omega) (by omega), km.1 106 (by omega) (by omega) (by omega) (by omega) (by omega), km.1 107 (by omega) (by omega) (by omega) (by omega) (by omega), km.2.2 12 (by omega), km.2.2 7 (by omega), km.2.2 4 (by omega)]
    exact ⟨a.1.cg km.2.1, a.2⟩
  · unfold ImageI KeptI
    rw [kc 0 (by omega), kc 8 (by omega), kc 9 (by omega), kc 10 (by omega), kc 11 (by omega), kc 12 (by omega), kc 13 (by omega), kc 14 (by omega), km.1 111 (by omega) (by omega) (by omega) (by omega) (by omega), km.1 112 (by omega) (by omega) (by omega) (by omega) (by omega), km.1 106 (by omega) (by omega) (by omega) (by omega) (by omega), km.1 113 (by omega) (by omega) (by omega) (by omega) (by omega), km.2.2 42 (by omega), km.2.2 43 (by omega), km.2.2 44 (by omega)]
    exact b
  · exact c.cg (fun q h1 _ => kc q (by omega)) (km.1 101 (by omega) (by omega) (by omega) (by omega) (by omega)) (km.1 102 (by omega) (by omega) (by omega) (by omega) (by omega)) (km.2.2 3 (by omega))
  · obtain ⟨n, B, d1, d2, d3, d4, d5⟩ := d
    refine ⟨n, B, d1, d2, ⟨?_, fun j hj => ?_⟩, ?_, fun j hj => ?_⟩
    · rw [kc 34 (by omega)]; exact d3.1
    · rw [kc 35 (by omega)]; exact d3.2 j hj
    · rw [km.2.2 6 (by omega)]; exact d4
    · rw [km.1 103 (by omega) (by omega) (by omega) (by omega) (by omega)]; exact d5 j hj
  · intro s hs
    have := e s hs
    unfold ShI at this ⊢
    rw [kc _ (by omega), kc _ (by omega), km.1 114 (by omega) (by omega) (by omega) (by omega) (by omega), km.1 115 (by omega) (by omega) (by omega) (by omega) (by omega), km.1 116 (by omega) (by omega) (by omega) (by omega) (by omega), km.1 117 (by omega) (by omega) (by omega) (by omega) (by omega)]
    exact this
/-! RANGES -/
def inR (v : Int32) (n : Nat) : Bool := decide (0 ≤ v.toInt ∧ v.toInt < n)
theorem inR_nI {d n : Nat} (h : d < n) (hn : n < 2 ^ 31) : inR (nI d) n = true := by
  unfold inR
  rw [i_nI (by omega)]
  exact decide_eq_true ⟨by omega, by omega⟩
theorem inR_of {v : Int32} {n : Nat} (h : inR v n = true) (hn : n < 2 ^ 31) : ∃ d, d < n ∧ v = nI d := by
  unfold inR at h
  have h := of_decide_eq_true h
  refine ⟨v.toInt.toNat, by omega, ?_⟩
  rw [i_eq, i_nI (by omega)]
  omega
theorem inC {v b : Int32} {n : Nat} (hb : b = nI n) (hn : n < 2 ^ 31) {α : Type} (x y : α) : (if v < 0 then x else (if b ≤ v then x else y)) = if inR v n = true then y else x := by
  subst hb
  unfold inR
  simp only [decide_eq_true_eq, i_lt, i_le, i_nI hn, show (0 : Int32).toInt = 0 from rfl]
  by_cases c : v.toInt < 0
  · rw [if_pos c, if_neg (by omega)]
  · rw [if_neg c]
    by_cases c2 : (n : Int) ≤ v.toInt
    · rw [if_pos c2, if_neg (by omega)]
    · rw [if_neg c2, if_pos (by omega)]
theorem inM {v b : Int32} {n : Nat} (hb : b.toInt = (n : Int) - 1) (M : Mem) : f_X9_in v.toInt64 0 b.toInt64 M = some (zI (inR v n), M) := by
  rw [show (0 : Int64) = (0 : Int32).toInt64 from rfl, in_eq]
  congr 2
  unfold inR
  simp only [i_lt, show (0 : Int32).toInt = 0 from rfl, hb]
  by_cases c : v.toInt < 0
  · rw [decide_eq_true c, decide_eq_false (show ¬ (0 ≤ v.toInt ∧ v.toInt < n) by omega)]; rfl
  · rw [decide_eq_false c]
    by_cases c2 : (n : Int) - 1 < v.toInt
    · rw [decide_eq_true c2, decide_eq_false (show ¬ (0 ≤ v.toInt ∧ v.toInt < n) by omega)]; rfl
    · rw [decide_eq_false c2, decide_eq_true (show (0 ≤ v.toInt ∧ v.toInt < n) by omega)]; rfl
theorem nI_prI {n : Nat} (hn : n ≤ 1000000) : (nI n - 1).toInt = (n : Int) - 1 := by
  cases n with
  | zero => decide
  | succ m => rw [nIm (by omega), i_nI (by omega)]; omega
theorem hasD {Mc : Mem} {many : Nat} (h : Mc 1 6 = nI many) (hm : many ≤ 6) (v : Int32) : f_X1_hasDish v Mc = some (zI (inR v many), Mc) := by
  unfold f_X1_hasDish
  rw [inC h (by omega)]
  cases inR v many <;> rfl
theorem isD {Mm : Mem} {many : Nat} (h : Mm 100 12 = nI many) (hm : many ≤ 6) (v : Int32) : f_X9_isDish v Mm = some (zI (inR v many), Mm) := by
  unfold f_X9_isDish
  rw [inM (n := many) (by rw [h]; exact nI_prI (by omega))]
  simp only [Option.bind_some, zI_zb, ck_true]
theorem hasK (v : Int32) (M : Mem) : f_X8_isKitchen v M = some (zI (inR v 2), M) := by
  unfold f_X8_isKitchen
  rw [inC (b := 2) (n := 2) rfl (by omega)]
  cases inR v 2 <;> rfl
theorem isK (v : Int32) (M : Mem) : f_X9_isKitchen v M = some (zI (inR v 2), M) := by
  unfold f_X9_isKitchen
  rw [show (1 : Int64) = (1 : Int32).toInt64 from rfl, inM (n := 2) (by decide)]
  simp only [Option.bind_some, zI_zb, ck_true]
theorem hasS (v : Int32) (M : Mem) : f_X8_isSheet v M = some (zI (inR v 4), M) := by
  unfold f_X8_isSheet
  rw [inC (b := 4) (n := 4) rfl (by omega)]
  cases inR v 4 <;> rfl
theorem isS (v : Int32) (M : Mem) : f_X9_isSheet v M = some (zI (inR v 4), M) := by
  unfold f_X9_isSheet
  rw [show (3 : Int64) = (3 : Int32).toInt64 from rfl, inM (n := 4) (by decide)]
  simp only [Option.bind_some, zI_zb, ck_true]
end
section
/-! TOLD -/
theorem inR_le {v : Int32} {a b : Nat} (h : inR v a = true) (hab : a ≤ b) (hb : b < 2 ^ 31) : inR v b = true := by
  obtain ⟨d, hd, rfl⟩ := inR_of h (by omega)
  exact inR_nI (by omega) hb
theorem isPart_eq (v : Int32) (M : Mem) : f_X9_isPart v M = some (zI (inR v 6), M) := by
  unfold f_X9_isPart
  rw [show (5 : Int64) = (5 : Int32).toInt64 from rfl, inM (n := 6) (by decide)]
  simp only [Option.bind_some, zI_zb, ck_true]
theorem inR_small {x n : Nat} (hx : x < 2 ^ 31) : inR (nI x) n = decide (x < n) := by
  unfold inR
  rw [i_nI hx]
  by_cases c : x < n
  · rw [decide_eq_true c, decide_eq_true ⟨by omega, by omega⟩]
  · rw [decide_eq_false c, decide_eq_false (fun h => c (by omega))]
theorem placeBoth (v : Int32) (Mc Mm : Mem) : ∃ b : Bool, f_X8_isPlace v Mc = some (zI b, Mc) ∧ f_X9_isOf 1 v Mm = some (zI b, Mm) ∧ (b = true → ∃ a p, a < 2 ∧ p < 6 ∧ v = nI (10 * a + p)) := by
  have mo : f_X9_isOf 1 v Mm = if inR v 16 = false then some (0, Mm) else (f_X9_isPart (jrem v 10) Mm).bind fun o11 => (if o11.1 = 0 then some (0, o11.2) else some (1, o11.2)) := by
    unfold f_X9_isOf
    rw [if_neg (by decide), if_pos rfl, show (15 : Int64) = (15 : Int32).toInt64 from rfl, inM (n := 16) (by decide)]
    simp only [Option.bind_some, zI_0]
  cases h : inR v 20 with
  | true =>
    obtain ⟨x, hx, rfl⟩ := inR_of h (by omega)
    have hc : f_X8_isPlace (nI x) Mc = some (zI (decide (x % 10 < 6)), Mc) := by
      unfold f_X8_isPlace
      rw [if_neg (nI_pos (by omega)), show (10 : Int32) = nI 10 from rfl, pk_div (by omega) (by omega) (by omega), show (2 : Int32) = nI 2 from rfl, if_neg (by rw [nIle (by omega) (by omega)]; omega), jrem_nI (by omega) (by omega) (by omega), show (6 : Int32) = nI 6 from rfl]
      by_cases c : x % 10 < 6
      · rw [if_neg (by rw [nIle (by omega) (by omega)]; omega), decide_eq_true c]; rfl
      · rw [if_pos (by rw [nIle (by omega) (by omega)]; omega), decide_eq_false c]; rfl
    refine ⟨_, hc, ?_, fun hb => ⟨x / 10, x % 10, by omega, of_decide_eq_true hb, by rw [show 10 * (x / 10) + x % 10 = x by omega]⟩⟩
    rw [mo, inR_small (by omega), isPart_eq, show (10 : Int32) = nI 10 from rfl, jrem_nI (by omega) (by omega) (by omega), inR_small (by omega)]
    simp only [Option.bind_some, zI_0]
    by_cases c : x % 10 < 6
    · have c2 : x < 16 := by omega
      rw [decide_eq_true c, decide_eq_true c2, if_neg (by decide), if_neg (by decide)]; rfl
    · rw [decide_eq_false c]
      by_cases c2 : x < 16
      · rw [decide_eq_true c2, if_neg (by decide), if_pos rfl]; rfl
      · rw [decide_eq_false c2, if_pos rfl]; rfl
  | false =>
    have h16 : inR v 16 = false := by
      cases h2 : inR v 16 with
      | false => rfl
      | true => rw [inR_le h2 (by omega) (by omega)] at h; cases h
    refine ⟨false, ?_, ?_, fun hb => by cases hb⟩
    · unfold f_X8_isPlace
      unfold inR at h
      have h := of_decide_eq_false h
      by_cases c : v < 0
      · rw [if_pos c]; rfl
      · rw [if_neg c]
        have c2 : ¬ v.toInt < 0 := by rw [i_lt] at c; exact c
        have hv : 20 ≤ v.toInt := by omega
        have hv2 : v.toInt < 2147483648 := by have := Int32.toInt_lt v; omega
        have hd : (2 : Int32) ≤ v / 10 := by
          rw [i_le, Int32.toInt_div, show (10 : Int32).toInt = 10 from rfl, show (2 : Int32).toInt = 2 from rfl, Int.tdiv_eq_ediv_of_nonneg (by omega), Int.bmod_eq_of_le (by omega) (by omega)]
          omega
        rw [if_pos hd]; rfl
    · rw [mo, h16, if_pos rfl]; rfl
def sumS (S : Nat → Int32) (a : Nat) : Nat → Int32
  | 0 => 0
  | p + 1 => sumS S a p + S (6 * a + p)
theorem sumS_cg {S T : Nat → Int32} {a : Nat} (ha : a < 2) (h : ∀ j, j < 12 → T j = S j) : ∀ p, p ≤ 6 → sumS T a p = sumS S a p := by
  intro p
  induction p with
  | zero => intro _; rfl
  | succ p ih => intro hp; show sumS T a p + T (6 * a + p) = sumS S a p + S (6 * a + p); rw [ih (by omega), h _ (by omega)]
theorem storeC {a : Nat} (ha : a < 2) (M : Mem) : f_X1_storeOf (nI a) M = some (sumS (M 2) a 6, M) := by
  have l : ∀ m p fuel, p + m = 6 → m < fuel → f_X1_storeOf_l4 fuel (nI a) (sumS (M 2) a p) (nI p) M = some (sumS (M 2) a 6, M) := by
    intro m
    induction m with
    | zero =>
      intro p fuel hp hf
      obtain ⟨f, rfl⟩ : ∃ f, fuel = f + 1 := ⟨fuel - 1, by omega⟩
      rw [f_X1_storeOf_l4, if_pos (by rw [show (6 : Int32) = nI 6 from rfl, nIle (by omega) (by omega)]; omega), show p = 6 by omega]
    | succ m ih =>
      intro p fuel hp hf
      obtain ⟨f, rfl⟩ : ∃ f, fuel = f + 1 := ⟨fuel - 1, by omega⟩
      rw [f_X1_storeOf_l4, if_neg (by rw [show (6 : Int32) = nI 6 from rfl, nIle (by omega) (by omega)]; omega), show (6 : Int32) = nI 6 from rfl, pk_mul, nI_add, inb_nI (by omega) (by omega), nI_clamp (by omega), nIp, Nat.mul_comm a 6]
      exact ih (p + 1) f (by omega) (by omega)
  exact l 6 0 FU (by omega) (by have := FU_ge; omega)
theorem storeM {a : Nat} (ha : a < 2) (M : Mem) : f_X9_storeOf (nI a) M = some (sumS (M 104) a 6, M) := by
  have l : ∀ m p fuel, p + m = 6 → m < fuel → f_X9_storeOf_l4 fuel (nI a) (sumS (M 104) a p) (nI p) M = some (sumS (M 104) a 6, M) := by
    intro m
    induction m with
    | zero =>
      intro p fuel hp hf
      obtain ⟨f, rfl⟩ : ∃ f, fuel = f + 1 := ⟨fuel - 1, by omega⟩
      rw [f_X9_storeOf_l4, if_pos (by rw [show (6 : Int32) = nI 6 from rfl, nIle (by omega) (by omega)]; omega), show p = 6 by omega]
    | succ m ih =>
      intro p fuel hp hf
      obtain ⟨f, rfl⟩ : ∃ f, fuel = f + 1 := ⟨fuel - 1, by omega⟩
      rw [f_X9_storeOf_l4, if_neg (by rw [show (6 : Int32) = nI 6 from rfl, nIle (by omega) (by omega)]; omega), show (6 : Int32) = nI 6 from rfl, pk_mul, nI_add, inb_nI (by omega) (by omega), nI_clamp (by omega), nIp]
      exact ih (p + 1) f (by omega) (by omega)
  exact l 6 0 FU (by omega) (by have := FU_ge; omega)
theorem lits : ∀ i j : Nat, i < 40 → j < 40 → (nI i = nI j) = (i = j) := fun i j hi hj => nIeq (by omega) (by omega)
theorem toldBoth {Mc Mm : Mem} {many txt : Nat} (h : HouseI Mc Mm many txt) (v : Int32) {k : Nat} (hk : k < 9) :
    ∃ (b : Bool) (x : Int32), f_X8_told v (nI k) Mc = some (if b = true then x else -1000, Mc) ∧ f_X9_isOf (nI k) v Mm = some (zI b, Mm) ∧ f_X9_told v (nI k) Mm = some (if b = true then x else -1000, Mm) ∧
      (b = true → (k ≤ 4 → ∃ n, n < 2 ^ 31 ∧ x = nI n) ∧ (k = 1 → ∃ a p, a < 2 ∧ p < 6 ∧ v = nI (10 * a + p)) ∧ (k = 2 → ∃ a, a < 2 ∧ v = nI a) ∧ (3 ≤ k → k < 8 → ∃ d, d < many ∧ v = nI d)) := by
  obtain ⟨⟨hS, hP, hR⟩, hm1, hm2, hm6, ⟨hh, x7, hx7, hh2⟩, hr⟩ := h
  have hin : ∀ k, k < 9 → f_X9_in (nI k).toInt64 0 8 Mm = some (1, Mm) := by
    intro k hk
    rw [show (8 : Int64) = (8 : Int32).toInt64 from rfl, inM (n := 9) (by decide), inR_nI hk (by omega)]
    rfl
  have mt : ∀ b : Bool, f_X9_isOf (nI k) v Mm = some (zI b, Mm) → b = false → f_X9_told v (nI k) Mm = some (-1000, Mm) := by
    intro b hb hf
    subst hf
    unfold f_X9_told
    rw [hin k hk]
    simp only [Option.bind_some]
    rw [if_neg (by decide), hb]
    simp only [Option.bind_some, zI_0]
    rw [if_pos True.intro]
  have q := fun i hi => lits k i (by omega) hi
  have le := fun i (hi : i < 40) => nIle (a := i) (b := k) (by omega) (by omega)
  have q0 : ((nI k : Int32) = 0) = (k = 0) := q 0 (by omega)
  have q1 : ((nI k : Int32) = 1) = (k = 1) := q 1 (by omega)
  have q2 : ((nI k : Int32) = 2) = (k = 2) := q 2 (by omega)
  have q3 : ((nI k : Int32) = 3) = (k = 3) := q 3 (by omega)
  have q4 : ((nI k : Int32) = 4) = (k = 4) := q 4 (by omega)
  have q5 : ((nI k : Int32) = 5) = (k = 5) := q 5 (by omega)
  have q6 : ((nI k : Int32) = 6) = (k = 6) := q 6 (by omega)
  have q7 : ((nI k : Int32) = 7) = (k = 7) := q 7 (by omega)
  have q8 : ((nI k : Int32) = 8) = (k = 8) := q 8 (by omega)
  have l3 : ((3 : Int32) ≤ nI k) = (3 ≤ k) := le 3 (by omega)
  have l5 : ((5 : Int32) ≤ nI k) = (5 ≤ k) := le 5 (by omega)
  have l6 : ((6 : Int32) ≤ nI k) = (6 ≤ k) := le 6 (by omega)
  -- what the reference tells of a place that is one
  have mtr : f_X9_isOf (nI k) v Mm = some (zI true, Mm) → f_X9_told v (nI k) Mm = (if 3 ≤ nI k then (if 6 ≤ nI k then (if nI k = 6 then ck (inb ((3 * v) + 2) 18) (some ((Mm 107 (((3 * v) + 2)).toNatClampNeg), Mm)) else (if nI k = 7 then (f_X9_needsAll v Mm).bind fun o13 => some (o13.1, o13.2) else (f_X9_storeOf v Mm).bind fun o11 => some (o11.1, o11.2))) else (if 5 ≤ nI k then ck (inb v 6) (some ((Mm 106 (v).toNatClampNeg), Mm)) else ck (inb (((3 * v) + nI k) - 3) 18) (some ((Mm 107 ((((3 * v) + nI k) - 3)).toNatClampNeg), Mm)))) else (if nI k = 0 then some ((Mm 100 7), Mm) else (if nI k = 1 then ck (inb ((6 * (v / 10)) + (jrem v 10)) 12) (some ((Mm 104 (((6 * (v / 10)) + (jrem v 10))).toNatClampNeg), Mm)) else ck (inb v 2) (some ((Mm 105 (v).toNatClampNeg), Mm))))) := by
    intro hb
    unfold f_X9_told
    rw [hin k hk]
    simp only [Option.bind_some]
    rw [if_neg (by decide), hb]
    simp only [Option.bind_some, zI_0]
    rw [if_neg (by decide)]
  by_cases k0 : k = 0
  · have e : f_X9_isOf (nI k) v Mm = some (zI true, Mm) := by unfold f_X9_isOf; rw [if_pos (q0.mpr k0)]; rfl
    refine ⟨true, nI x7, ?_, e, ?_, fun _ => ⟨fun _ => ⟨x7, by omega, rfl⟩, by omega, by omega, by omega⟩⟩
    · unfold f_X8_told; rw [if_pos (q0.mpr k0), if_pos rfl, hh2]
    · rw [mtr e, if_neg (by rw [l3]; omega), if_pos (q0.mpr k0), if_pos rfl, hh, hh2]
  by_cases k1 : k = 1
  · subst k1
    obtain ⟨b, b1, b2, b3⟩ := placeBoth v Mc Mm
    cases b with
    | false =>
      refine ⟨false, 0, ?_, b2, mt false b2 rfl, fun hb => by cases hb⟩
      unfold f_X8_told
      rw [if_neg (by decide), if_pos (by decide), b1]
      rfl
    | true =>
      obtain ⟨a, p, ha, hp, rfl⟩ := b3 rfl
      have dv : nI (10 * a + p) / 10 = nI a := by rw [show (10 : Int32) = nI 10 from rfl, pk_div (by omega) (by omega) (by omega)]; congr 1; omega
      have rm : jrem (nI (10 * a + p)) 10 = nI p := by rw [show (10 : Int32) = nI 10 from rfl, jrem_nI (by omega) (by omega) (by omega)]; congr 1; omega
      obtain ⟨s1, s2, hs2, s3⟩ := hS (6 * a + p) (by omega)
      refine ⟨true, Mc 2 (6 * a + p), ?_, b2, ?_, fun _ => ⟨fun _ => ⟨s2, by omega, s3⟩, fun _ => ⟨a, p, ha, hp, rfl⟩, by omega, by omega⟩⟩
      · unfold f_X8_told
        rw [if_neg (by decide), if_pos (by decide), b1]
        unfold f_X8_placeOf
        simp only [Option.bind_some]
        rw [if_neg (by decide), dv, rm, show (6 : Int32) = nI 6 from rfl, pk_mul, nI_add, inb_nI (by omega) (by omega), nI_clamp (by omega), Nat.mul_comm a 6]
        rfl
      · rw [mtr b2, if_neg (by decide), if_neg (by decide), if_pos (by decide), dv, rm, show (6 : Int32) = nI 6 from rfl, pk_mul, nI_add, inb_nI (by omega) (by omega), nI_clamp (by omega), s1]
        rfl
  by_cases k2 : k = 2
  · subst k2
    have e : f_X9_isOf (nI 2) v Mm = some (zI (inR v 2), Mm) := by
      unfold f_X9_isOf f_X9_isOf_b50
      rw [if_neg (by decide), if_neg (by decide), if_pos (by decide), isK]
      simp only [Option.bind_some, zI_zb, ck_true]
    have ec : f_X8_told v (nI 2) Mc = (if zI (inR v 2) = 0 then some (-1000, Mc) else (f_X8_toldOfKitchen v (nI 2) Mc).bind fun o19 => some (o19.1, o19.2)) := by
      unfold f_X8_told f_X8_told_b54
      rw [if_neg (by decide), if_neg (by decide), if_pos (by decide), hasK]
      rfl
    cases hb : inR v 2 with
    | false =>
      rw [hb] at e ec
      exact ⟨false, 0, ec, e, mt false e rfl, fun hb => by cases hb⟩
    | true =>
      rw [hb] at e ec
      obtain ⟨a, ha, rfl⟩ := inR_of hb (by omega)
      obtain ⟨s1, s2, hs2, s3⟩ := hP a ha
      refine ⟨true, Mc 3 a, ?_, e, ?_, fun _ => ⟨fun _ => ⟨s2, by omega, s3⟩, by omega, fun _ => ⟨a, ha, rfl⟩, by omega⟩⟩
      · rw [ec, if_neg (by decide)]
        unfold f_X8_toldOfKitchen
        rw [if_pos (by decide), inb_nI ha (by omega), nI_clamp (by omega)]
        rfl
      · rw [mtr e, if_neg (by decide), if_neg (by decide), if_neg (by decide), inb_nI ha (by omega), nI_clamp (by omega), s1]
        rfl
  by_cases k8 : k = 8
  · subst k8
    have e : f_X9_isOf (nI 8) v Mm = some (zI (inR v 2), Mm) := by
      unfold f_X9_isOf f_X9_isOf_b50
      rw [if_neg (by decide), if_neg (by decide), if_neg (by decide), if_pos (by decide), isK]
      simp only [Option.bind_some, zI_zb, ck_true]
    have ec : f_X8_told v (nI 8) Mc = (if zI (inR v 2) = 0 then some (-1000, Mc) else (f_X8_toldOfKitchen v (nI 8) Mc).bind fun o19 => some (o19.1, o19.2)) := by
      unfold f_X8_told f_X8_told_b54
      rw [if_neg (by decide), if_neg (by decide), if_neg (by decide), if_pos (by decide), hasK]
      rfl
    cases hb : inR v 2 with
    | false =>
      rw [hb] at e ec
      exact ⟨false, 0, ec, e, mt false e rfl, fun hb => by cases hb⟩
    | true =>
      rw [hb] at e ec
      obtain ⟨a, ha, rfl⟩ := inR_of hb (by omega)
      refine ⟨true, sumS (Mc 2) a 6, ?_, e, ?_, fun _ => ⟨by omega, by omega, by omega, by omega⟩⟩
      · rw [ec, if_neg (by decide)]
        unfold f_X8_toldOfKitchen
        rw [if_neg (by decide), storeC ha]
        rfl
      · rw [mtr e, if_pos (by decide), if_pos (by decide), if_neg (by decide), if_neg (by decide), storeM ha, sumS_cg ha (fun j hj => (hS j hj).1) 6 (by omega)]
        rfl
  have e : f_X9_isOf (nI k) v Mm = some (zI (inR v many), Mm) := by
    unfold f_X9_isOf
    rw [if_neg (by rw [q0]; exact k0), if_neg (by rw [q1]; exact k1), if_neg (by rw [q2]; exact k2), if_neg (by rw [q8]; exact k8), isD hm2 hm6]
    simp only [Option.bind_some, zI_zb, ck_true]
  have ec : f_X8_told v (nI k) Mc = (if zI (inR v many) = 0 then some (-1000, Mc) else (f_X8_toldOfDish v (nI k) Mc).bind fun o8 => some (o8.1, o8.2)) := by
    unfold f_X8_told
    rw [if_neg (by rw [q0]; exact k0), if_neg (by rw [q1]; exact k1), if_neg (by rw [q2]; exact k2), if_neg (by rw [q8]; exact k8), hasD hm1 hm6]
    rfl
  cases hb : inR v many with
  | false =>
    rw [hb] at e ec
    exact ⟨false, 0, ec, e, mt false e rfl, fun hb => by cases hb⟩
  | true =>
    rw [hb] at e ec
    obtain ⟨d, hd, rfl⟩ := inR_of hb (by omega)
    obtain ⟨⟨r1, r1b⟩, ⟨r2, n2, hn2, r2b⟩, ⟨r3, n3, hn3, r3b⟩, ⟨r4, r4b⟩⟩ := hR d hd
    have i6 : inb (nI d) 6 = true := inb_nI (by omega) (by omega)
    have c6 : (nI d).toNatClampNeg = d := nI_clamp (by omega)
    have ec2 : f_X8_told (nI d) (nI k) Mc = (f_X8_toldOfDish (nI d) (nI k) Mc).bind fun o8 => some (o8.1, o8.2) := by rw [ec, if_neg (by decide)]
    have m3 : (3 : Int32) * nI d = nI (3 * d) := by rw [show (3 : Int32) = nI 3 from rfl, pk_mul]
    have mt3 := mtr e
    rw [if_pos (show (3 : Int32) ≤ nI k by rw [l3]; omega)] at mt3
    have fin : ∀ x, f_X8_toldOfDish (nI d) (nI k) Mc = some (x, Mc) → f_X9_told (nI d) (nI k) Mm = some (x, Mm) → (k ≤ 4 → ∃ n, n < 2 ^ 31 ∧ x = nI n) → ∃ (b : Bool) (x : Int32), f_X8_told (nI d) (nI k) Mc = some (if b = true then x else -1000, Mc) ∧ f_X9_isOf (nI k) (nI d) Mm = some (zI b, Mm) ∧ f_X9_told (nI d) (nI k) Mm = some (if b = true then x else -1000, Mm) ∧
        (b = true → (k ≤ 4 → ∃ n, n < 2 ^ 31 ∧ x = nI n) ∧ (k = 1 → ∃ a p, a < 2 ∧ p < 6 ∧ nI d = nI (10 * a + p)) ∧ (k = 2 → ∃ a, a < 2 ∧ nI d = nI a) ∧ (3 ≤ k → k < 8 → ∃ d2, d2 < many ∧ nI d = nI d2)) := by
      intro x h1 h2 h3
      refine ⟨true, x, ?_, e, ?_, fun _ => ⟨h3, fun h => absurd h k1, fun h => absurd h k2, fun _ _ => ⟨d, hd, rfl⟩⟩⟩
      · rw [ec2, h1]; rfl
      · rw [h2]; rfl
    by_cases k3 : k = 3
    · subst k3
      refine fin (Mc 5 d) ?_ ?_ (fun _ => ⟨n2, by omega, r2b⟩)
      · unfold f_X8_toldOfDish
        rw [if_pos (by decide), i6, c6]; rfl
      · rw [mt3, if_neg (by decide), if_neg (by decide), m3, nI_add, show (3 : Int32) = nI 3 from rfl, pk_sub (by omega), Nat.add_sub_cancel, inb_nI (by omega) (by omega), nI_clamp (by omega), r2]; rfl
    by_cases k4 : k = 4
    · subst k4
      refine fin (Mc 6 d) ?_ ?_ (fun _ => ⟨n3, by omega, r3b⟩)
      · unfold f_X8_toldOfDish
        rw [if_neg (by decide), if_pos (by decide), i6, c6]; rfl
      · rw [mt3, if_neg (by decide), if_neg (by decide), m3, nI_add, show (3 : Int32) = nI 3 from rfl, pk_sub (by omega), show 3 * d + 4 - 3 = 3 * d + 1 by omega, inb_nI (by omega) (by omega), nI_clamp (by omega), r3]; rfl
    by_cases k5 : k = 5
    · subst k5
      refine fin (Mc 4 d) ?_ ?_ (fun h => by omega)
      · unfold f_X8_toldOfDish
        rw [if_neg (by decide), if_neg (by decide), if_pos (by decide), i6, c6]; rfl
      · rw [mt3, if_neg (by decide), if_pos (by decide), i6, c6, r1]; rfl
    by_cases k6 : k = 6
    · subst k6
      refine fin (Mc 7 d) ?_ ?_ (fun h => by omega)
      · unfold f_X8_toldOfDish
        rw [if_neg (by decide), if_neg (by decide), if_neg (by decide), if_pos (by decide), i6, c6]; rfl
      · rw [mt3, if_pos (by decide), if_pos (by decide), m3, show (2 : Int32) = nI 2 from rfl, nI_add, inb_nI (by omega) (by omega), nI_clamp (by omega), r4]; rfl
    have k7 : k = 7 := by omega
    subst k7
    refine fin (totN (Mc 6 d) 6) ?_ ?_ (fun h => by omega)
    · unfold f_X8_toldOfDish
      rw [if_neg (by decide), if_neg (by decide), if_neg (by decide), if_neg (by decide), if_pos (by decide), needsTogether_eq (by omega)]; rfl
    · rw [mt3, if_pos (by decide), if_neg (by decide), if_pos (by decide), needsAll_eq (by omega) hn3 (r3.trans r3b), r3b]; rfl
end
section
/-! TOLD, SET, DISH, FORCE, FEED, COUNT -/
def OpI (fc fm : Mem → Option (Int32 × Mem)) (Mc Mm : Mem) : Prop := ∃ (r : Int32) (Mc1 Mm1 : Mem), fc Mc = some (r, Mc1) ∧ fm Mm = some (r, Mm1) ∧ Inv Mc1 Mm1
theorem Inv.hs {Mc Mm Mc1 Mm1 : Mem} {many many1 txt : Nat} (b : ImageI Mc Mm many txt) (c : TextI Mc Mm txt) (d : TapeI Mc Mm) (e : ∀ s, s < 4 → ShI Mc Mm s) (hc : ∀ q, (q < 1 ∨ 7 < q) → Mc1 q = Mc q) (hm : ∀ q, q ≠ 100 → q ≠ 104 → q ≠ 105 → q ≠ 106 → q ≠ 107 → Mm1 q = Mm q) (hk : ∀ j, j < many → Mm1 106 j = Mm 106 j) (hs : ∀ j, j ≠ 4 → j ≠ 7 → j ≠ 12 → Mm1 100 j = Mm 100 j) (hle : many ≤ many1) (a : HouseI Mc1 Mm1 many1 txt) : Inv Mc1 Mm1 := by
  refine ⟨many1, txt, a, ?_, ?_, ?_, ?_⟩
  · rcases b with ⟨b1, b2⟩ | ⟨b1, k, hk1, b2, b3⟩
    · exact Or.inl ⟨by rw [hc 0 (by omega)]; exact b1, by rw [hs 42 (by omega) (by omega) (by omega)]; exact b2⟩
    · refine Or.inr ⟨by rw [hc 0 (by omega)]; exact b1, k, by omega, ?_⟩
      unfold KeptI
      rw [hc 8 (by omega), hc 9 (by omega), hc 10 (by omega), hc 11 (by omega), hc 12 (by omega), hc 13 (by omega), hc 14 (by omega), hm 111 (by omega) (by omega) (by omega) (by omega) (by omega), hm 112 (by omega) (by omega) (by omega) (by omega) (by omega), hm 113 (by omega) (by omega) (by omega) (by omega) (by omega), hs 42 (by omega) (by omega) (by omega), hs 43 (by omega) (by omega) (by omega), hs 44 (by omega) (by omega) (by omega)]
      refine ⟨⟨b2.1, b2.2.1, fun d hd => ?_⟩, b3⟩
      obtain ⟨x1, x2⟩ := b2.2.2 d hd
      exact ⟨⟨(hk d (by omega)).trans x1.1, x1.2⟩, x2⟩
  · exact c.cg (fun q h1 h2 => hc q (by omega)) (hm 101 (by omega) (by omega) (by omega) (by omega) (by omega)) (hm 102 (by omega) (by omega) (by omega) (by omega) (by omega)) (hs 3 (by omega) (by omega) (by omega))
  · obtain ⟨n, B, d1, d2, d3, d4, d5⟩ := d
    refine ⟨n, B, d1, d2, ⟨?_, fun j hj => ?_⟩, ?_, fun j hj => ?_⟩
    · rw [hc 34 (by omega)]; exact d3.1
    · rw [hc 35 (by omega)]; exact d3.2 j hj
    · rw [hs 6 (by omega) (by omega) (by omega)]; exact d4
    · rw [hm 103 (by omega) (by omega) (by omega) (by omega) (by omega)]; exact d5 j hj
  · intro s hs
    have := e s hs
    unfold ShI at this ⊢
    rw [hc _ (by omega), hc _ (by omega), hm 114 (by omega) (by omega) (by omega) (by omega) (by omega), hm 115 (by omega) (by omega) (by omega) (by omega) (by omega), hm 116 (by omega) (by omega) (by omega) (by omega) (by omega), hm 117 (by omega) (by omega) (by omega) (by omega) (by omega)]
    exact this
theorem ne_of_inR {v : Int32} {n k : Nat} (h : inR v n = false) (hk : k < n) (hn : n < 2 ^ 31) : v ≠ nI k := fun e => by rw [e, inR_nI hk hn] at h; cases h
theorem toldAny {Mc Mm : Mem} {many txt : Nat} (h : HouseI Mc Mm many txt) (v w : Int32) : ∃ x, f_X8_told v w Mc = some (x, Mc) ∧ f_X9_told v w Mm = some (x, Mm) := by
  cases hw : inR w 9 with
  | true =>
    obtain ⟨k, hk, rfl⟩ := inR_of hw (by omega)
    obtain ⟨b, x, h1, h2, h3, h4⟩ := toldBoth h v hk
    exact ⟨_, h1, h3⟩
  | false =>
    have ne := fun k (hk : k < 9) => ne_of_inR (k := k) hw hk (by omega)
    have n0 : w ≠ 0 := ne 0 (by omega)
    have n1 : w ≠ 1 := ne 1 (by omega)
    have n2 : w ≠ 2 := ne 2 (by omega)
    have n3 : w ≠ 3 := ne 3 (by omega)
    have n4 : w ≠ 4 := ne 4 (by omega)
    have n5 : w ≠ 5 := ne 5 (by omega)
    have n6 : w ≠ 6 := ne 6 (by omega)
    have n7 : w ≠ 7 := ne 7 (by omega)
    have n8 : w ≠ 8 := ne 8 (by omega)
    have hm1 := h.2.1
    have hm6 := h.2.2.2.1
    refine ⟨-1000, ?_, ?_⟩
    · unfold f_X8_told
      rw [if_neg n0, if_neg n1, if_neg n2, if_neg n8, hasD hm1 hm6]
      simp only [Option.bind_some]
      cases inR v many with
      | false => rw [if_pos (by decide)]
      | true =>
        rw [if_neg (by decide)]
        unfold f_X8_toldOfDish
        rw [if_neg n3, if_neg n4, if_neg n5, if_neg n6, if_neg n7]
        rfl
    · unfold f_X9_told
      rw [show (8 : Int64) = (8 : Int32).toInt64 from rfl, inM (n := 9) (by decide), hw]
      simp only [Option.bind_some]
      rw [if_pos (by decide)]
theorem told_op {Mc Mm : Mem} (h : Inv Mc Mm) (v w : Int32) : OpI (f_X8_told v w) (f_X9_told v w) Mc Mm := by
  obtain ⟨many, txt, a, _⟩ := id h
  obtain ⟨x, h1, h2⟩ := toldAny a v w
  exact ⟨x, Mc, Mm, h1, h2, h⟩
theorem B99.nI {x n : Nat} (h : x ≤ n) : B99 (nI x) n := ⟨x, h, rfl⟩
theorem set_op {Mc Mm : Mem} (h : Inv Mc Mm) (v1 v2 v3 : Int32) : OpI (f_X8_set v1 v2 v3) (f_X9_set v1 v2 v3) Mc Mm := by
  obtain ⟨many, txt, a, b, c, d, e⟩ := id h
  obtain ⟨x0, t1, t2⟩ := toldAny a v2 v1
  unfold OpI f_X8_set f_X9_set
  rw [t1, show (4 : Int64) = (4 : Int32).toInt64 from rfl, inM (n := 5) (by decide)]
  simp only [Option.bind_some, zI_0]
  cases hv : inR v1 5 with
  | false =>
    rw [if_pos rfl]
    refine ⟨-1000, Mc, Mm, ?_, rfl, h⟩
    by_cases c0 : v1 < 0
    · rw [if_pos c0]
    · rw [if_neg c0, if_pos]
      unfold inR at hv
      have hv := of_decide_eq_false hv
      rw [i_lt] at c0 ⊢
      have : (0 : Int32).toInt = 0 := rfl
      have : (4 : Int32).toInt = 4 := rfl
      omega
  | true =>
    obtain ⟨k, hk, rfl⟩ := inR_of hv (by omega)
    obtain ⟨bb, x, h1, h2, h3, h4⟩ := toldBoth a v2 (show k < 9 by omega)
    rw [t1] at h1
    have c4 : ¬ (4 : Int32) < nI k := by rw [show (4 : Int32) = nI 4 from rfl, nIlt (by omega) (by omega)]; omega
    rw [if_neg (show ¬ (true = false) by decide), if_neg (show ¬ nI k < 0 from nI_pos (by omega)), if_neg c4, h2]
    simp only [Option.bind_some, zI_0]
    cases bb with
    | false =>
      have : x0 = -1000 := by have := Option.some.inj h1; exact congrArg Prod.fst this
      rw [if_pos this, if_pos rfl]
      exact ⟨_, _, _, rfl, rfl, h⟩
    | true =>
      obtain ⟨p0, p1, p2, p3⟩ := h4 rfl
      obtain ⟨n0, hn0, rfl⟩ := p0 (by omega)
      have hx0 : x0 = nI n0 := by have := Option.some.inj h1; exact congrArg Prod.fst this
      rw [hx0, if_neg (by intro hx; exact nI_pos hn0 (by rw [hx]; decide)), if_neg (show ¬ (true = false) by decide)]
      -- how much it may be
      have key : ∃ m, m ≤ 999999 ∧ f_X8_mostOf (nI k) Mc = some (nI m, Mc) ∧ f_X9_mostOf (nI k) Mm = some (nI m, Mm) ∧ (k = 0 → m = 999) ∧ (k = 1 → m = 99) ∧ (k = 2 → m = 99) ∧ (k = 3 → m = 9) ∧ (k = 4 → m = 999999) := by
        have : k = 0 ∨ k = 1 ∨ k = 2 ∨ k = 3 ∨ k = 4 := by omega
        rcases this with rfl | rfl | rfl | rfl | rfl
        · exact ⟨999, by omega, rfl, rfl, by omega, by omega, by omega, by omega, by omega⟩
        · exact ⟨99, by omega, rfl, rfl, by omega, by omega, by omega, by omega, by omega⟩
        · exact ⟨99, by omega, rfl, rfl, by omega, by omega, by omega, by omega, by omega⟩
        · exact ⟨9, by omega, rfl, rfl, by omega, by omega, by omega, by omega, by omega⟩
        · exact ⟨999999, by omega, rfl, rfl, by omega, by omega, by omega, by omega, by omega⟩
      obtain ⟨m, hm, k1, k2, k3⟩ := key
      rw [k1, k2]
      simp only [Option.bind_some]
      rw [inM (n := m + 1) (by rw [i_nI (by omega)]; omega)]
      simp only [Option.bind_some, zI_0]
      have cls : ∀ (X Y : Option (Int32 × Mem)), (if v3 < 0 then X else if v3 ≤ nI m then Y else X) = if inR v3 (m + 1) = true then Y else X := by
        intro X Y
        unfold inR
        simp only [decide_eq_true_eq, i_lt, i_le, i_nI (show m < 2 ^ 31 by omega), show (0 : Int32).toInt = 0 from rfl]
        by_cases c : v3.toInt < 0
        · rw [if_pos c, if_neg (by omega)]
        · rw [if_neg c]
          by_cases c2 : v3.toInt ≤ (m : Int)
          · rw [if_pos c2, if_pos (by omega)]
          · rw [if_neg c2, if_neg (by omega)]
      rw [cls]
      cases hv3 : inR v3 (m + 1) with
      | false =>
        rw [if_neg (show ¬ (false = true) by decide), if_pos rfl]
        exact ⟨_, _, _, rfl, rfl, h⟩
      | true =>
        obtain ⟨y, hy, rfl⟩ := inR_of hv3 (by omega)
        rw [if_pos rfl, if_neg (show ¬ (true = false) by decide), h3]
        simp only [Option.bind_some, if_true]
        obtain ⟨⟨hS, hP, hR⟩, hm1, hm2, hm6, hh, hr⟩ := id a
        unfold f_X9_lays
        have : k = 0 ∨ k = 1 ∨ k = 2 ∨ k = 3 ∨ k = 4 := by omega
        rcases this with rfl | rfl | rfl | rfl | rfl
        · have em := k3.1 rfl
          rw [if_pos (by decide), if_pos (by decide)]
          refine ⟨_, _, _, rfl, rfl, Inv.hs b c d e (fun q hq => mun (by omega)) (fun q q1 q2 q3 q4 q5 => mun q1) (fun j hj => by rw [mun (by omega)]) (fun j j1 j2 j3 => mu_o j2) (Nat.le_refl _) ?_⟩
          refine ⟨⟨fun j hj => ?_, fun j hj => ?_, fun j hj => ?_⟩, ?_, ?_, hm6, ⟨?_, ?_⟩, ?_⟩
          · rw [mun (by omega), mun (by omega)]; exact hS j hj
          · rw [mun (by omega), mun (by omega)]; exact hP j hj
          · rw [mun (by omega), mun (by omega), mun (by omega), mun (by omega), mun (by omega), mun (by omega)]; exact hR j hj
          · rw [mu_o (by omega)]; exact hm1
          · rw [mu_o (by omega)]; exact hm2
          · rw [mu_at, mu_at]
          · rw [mu_at]; exact B99.nI (by omega)
          · rw [mu_o (by omega), mu_o (by omega)]; exact hr
        · have em := k3.2.1 rfl
          obtain ⟨a1, p, ha1, hp, rfl⟩ := p1 rfl
          have dv : nI (10 * a1 + p) / 10 = nI a1 := by rw [show (10 : Int32) = nI 10 from rfl, pk_div (by omega) (by omega) (by omega)]; congr 1; omega
          have rm : jrem (nI (10 * a1 + p)) 10 = nI p := by rw [show (10 : Int32) = nI 10 from rfl, jrem_nI (by omega) (by omega) (by omega)]; congr 1; omega
          rw [if_neg (by decide), if_pos (by decide), if_neg (by decide), if_pos (by decide)]
          unfold f_X8_placeOf
          simp only [Option.bind_some]
          rw [dv, rm, show (6 : Int32) = nI 6 from rfl, pk_mul, pk_mul, nI_add, nI_add, inb_nI (by omega) (by omega), inb_nI (by omega) (by omega), nI_clamp (by omega), nI_clamp (by omega), Nat.mul_comm a1 6]
          refine ⟨_, _, _, rfl, rfl, Inv.hs b c d e (fun q hq => mun (by omega)) (fun q q1 q2 q3 q4 q5 => mun q2) (fun j hj => by rw [mun (by omega)]) (fun j j1 j2 j3 => by rw [mun (by omega)]) (Nat.le_refl _) ?_⟩
          refine ⟨⟨fun j hj => ?_, fun j hj => ?_, fun j hj => ?_⟩, ?_⟩
          · by_cases ej : j = 6 * a1 + p
            · rw [ej, mu_at, mu_at]; exact ⟨rfl, B99.nI (by omega)⟩
            · rw [mu_o ej, mu_o ej]; exact hS j hj
          · rw [mun (by omega), mun (by omega)]; exact hP j hj
          · rw [mun (by omega), mun (by omega), mun (by omega), mun (by omega), mun (by omega), mun (by omega)]; exact hR j hj
          · rw [mun (by omega), mun (by omega)]; exact ⟨hm1, hm2, hm6, hh, hr⟩
        · have em := k3.2.2.1 rfl
          obtain ⟨a1, ha1, rfl⟩ := p2 rfl
          rw [if_neg (by decide), if_neg (by decide), if_pos (by decide), if_neg (by decide), if_neg (by decide), if_pos (by decide), inb_nI ha1 (by omega), nI_clamp (by omega)]
          refine ⟨_, _, _, rfl, rfl, Inv.hs b c d e (fun q hq => mun (by omega)) (fun q q1 q2 q3 q4 q5 => mun q3) (fun j hj => by rw [mun (by omega)]) (fun j j1 j2 j3 => by rw [mun (by omega)]) (Nat.le_refl _) ?_⟩
          refine ⟨⟨fun j hj => ?_, fun j hj => ?_, fun j hj => ?_⟩, ?_⟩
          · rw [mun (by omega), mun (by omega)]; exact hS j hj
          · by_cases ej : j = a1
            · rw [ej, mu_at, mu_at]; exact ⟨rfl, B99.nI (by omega)⟩
            · rw [mu_o ej, mu_o ej]; exact hP j hj
          · rw [mun (by omega), mun (by omega), mun (by omega), mun (by omega), mun (by omega), mun (by omega)]; exact hR j hj
          · rw [mun (by omega), mun (by omega)]; exact ⟨hm1, hm2, hm6, hh, hr⟩
        · have em := k3.2.2.2.1 rfl
          obtain ⟨d1, hd1, rfl⟩ := p3 (by omega) (by omega)
          rw [if_neg (by decide), if_neg (by decide), if_neg (by decide), if_pos (by decide), if_neg (by decide), if_neg (by decide), if_neg (by decide), if_neg (by decide), inb_nI (show d1 < 6 by omega) (by omega), nI_clamp (show d1 < 2 ^ 31 by omega), show (3 : Int32) = nI 3 from rfl, pk_mul, nI_add, pk_sub (by omega), Nat.add_sub_cancel, inb_nI (by omega) (by omega), nI_clamp (by omega)]
          refine ⟨_, _, _, rfl, rfl, Inv.hs b c d e (fun q hq => mun (by omega)) (fun q q1 q2 q3 q4 q5 => mun q5) (fun j hj => by rw [mun (by omega)]) (fun j j1 j2 j3 => by rw [mun (by omega)]) (Nat.le_refl _) ?_⟩
          refine ⟨⟨fun j hj => ?_, fun j hj => ?_, fun j hj => ?_⟩, ?_⟩
          · rw [mun (by omega), mun (by omega)]; exact hS j hj
          · rw [mun (by omega), mun (by omega)]; exact hP j hj
          · obtain ⟨r1, r2, r3, r4⟩ := hR j hj
            rw [mun (show 4 ≠ 5 by omega), mun (show 6 ≠ 5 by omega), mun (show 7 ≠ 5 by omega), mun (show 106 ≠ 107 by omega), mu_o (show 3 * j + 1 ≠ 3 * d1 by omega), mu_o (show 3 * j + 2 ≠ 3 * d1 by omega)]
            by_cases ej : j = d1
            · rw [ej, mu_at, mu_at]; rw [ej] at r1 r3 r4; exact ⟨r1, ⟨rfl, B99.nI (by omega)⟩, r3, r4⟩
            · rw [mu_o ej, mu_o (show 3 * j ≠ 3 * d1 by omega)]; exact ⟨r1, r2, r3, r4⟩
          · rw [mun (by omega), mun (by omega)]; exact ⟨hm1, hm2, hm6, hh, hr⟩
        · have em := k3.2.2.2.2 rfl
          obtain ⟨d1, hd1, rfl⟩ := p3 (by omega) (by omega)
          rw [if_neg (by decide), if_neg (by decide), if_neg (by decide), if_neg (by decide), if_neg (by decide), if_neg (by decide), if_neg (by decide), if_neg (by decide), inb_nI (show d1 < 6 by omega) (by omega), nI_clamp (show d1 < 2 ^ 31 by omega), show (3 : Int32) = nI 3 from rfl, pk_mul, nI_add, pk_sub (by omega), show 3 * d1 + 4 - 3 = 3 * d1 + 1 by omega, inb_nI (by omega) (by omega), nI_clamp (by omega)]
          refine ⟨_, _, _, rfl, rfl, Inv.hs b c d e (fun q hq => mun (by omega)) (fun q q1 q2 q3 q4 q5 => mun q5) (fun j hj => by rw [mun (by omega)]) (fun j j1 j2 j3 => by rw [mun (by omega)]) (Nat.le_refl _) ?_⟩
          refine ⟨⟨fun j hj => ?_, fun j hj => ?_, fun j hj => ?_⟩, ?_⟩
          · rw [mun (by omega), mun (by omega)]; exact hS j hj
          · rw [mun (by omega), mun (by omega)]; exact hP j hj
          · obtain ⟨r1, r2, r3, r4⟩ := hR j hj
            rw [mun (show 4 ≠ 6 by omega), mun (show 5 ≠ 6 by omega), mun (show 7 ≠ 6 by omega), mun (show 106 ≠ 107 by omega), mu_o (show 3 * j ≠ 3 * d1 + 1 by omega), mu_o (show 3 * j + 2 ≠ 3 * d1 + 1 by omega)]
            by_cases ej : j = d1
            · rw [ej, mu_at, mu_at]; rw [ej] at r1 r2 r4; exact ⟨r1, r2, ⟨rfl, B99.nI (by omega)⟩, r4⟩
            · rw [mu_o ej, mu_o (show 3 * j + 1 ≠ 3 * d1 + 1 by omega)]; exact ⟨r1, r2, r3, r4⟩
          · rw [mun (by omega), mun (by omega)]; exact ⟨hm1, hm2, hm6, hh, hr⟩
end
section
/-! DISH, FORCE, FEED, COUNT, TAKEN -/
theorem inC2 {v b : Int32} {n : Nat} (hb : b.toInt = (n : Int) - 1) {α : Type} (x y : α) : (if v < 0 then x else (if b < v then x else y)) = if inR v n = true then y else x := by
  unfold inR
  simp only [decide_eq_true_eq, i_lt, hb, show (0 : Int32).toInt = 0 from rfl]
  by_cases c : v.toInt < 0
  · rw [if_pos c, if_neg (by omega)]
  · rw [if_neg c]
    by_cases c2 : (n : Int) - 1 < v.toInt
    · rw [if_pos c2, if_neg (by omega)]
    · rw [if_neg c2, if_pos (by omega)]
theorem inC3 {v b : Int32} {n : Nat} (hb : b.toInt = (n : Int) - 1) {α : Type} (x y : α) : (if v < 0 then x else (if v ≤ b then y else x)) = if inR v n = true then y else x := by
  unfold inR
  simp only [decide_eq_true_eq, i_lt, i_le, hb, show (0 : Int32).toInt = 0 from rfl]
  by_cases c : v.toInt < 0
  · rw [if_pos c, if_neg (by omega)]
  · rw [if_neg c]
    by_cases c2 : v.toInt ≤ (n : Int) - 1
    · rw [if_pos c2, if_pos (by omega)]
    · rw [if_neg c2, if_neg (by omega)]
theorem inC4 {v b : Int32} {n : Nat} (hb : b = nI n) (hn : n < 2 ^ 31) {α : Type} (x y : α) : (if v < 0 then x else (if v < b then y else x)) = if inR v n = true then y else x := by
  subst hb
  unfold inR
  simp only [decide_eq_true_eq, i_lt, i_nI hn, show (0 : Int32).toInt = 0 from rfl]
  by_cases c : v.toInt < 0
  · rw [if_pos c, if_neg (by omega)]
  · rw [if_neg c]
    by_cases c2 : v.toInt < (n : Int)
    · rw [if_pos c2, if_pos (by omega)]
    · rw [if_neg c2, if_neg (by omega)]
theorem bt {α : Type} (x y : α) : (if (true : Bool) = false then x else y) = y := rfl
theorem bf {α : Type} (x y : α) : (if (false : Bool) = false then x else y) = x := rfl
theorem tt {α : Type} (x y : α) : (if (true : Bool) = true then x else y) = x := rfl
theorem ft {α : Type} (x y : α) : (if (false : Bool) = true then x else y) = y := rfl
theorem nIps (n : Nat) : nI n + 1 - 1 = nI n := by rw [nIp, nIm (by omega), Nat.add_sub_cancel]
theorem dish_op {Mc Mm : Mem} (h : Inv Mc Mm) (v1 v2 v3 : Int32) : OpI (f_X8_dish v1 v2 v3) (f_X9_dish v1 v2 v3) Mc Mm := by
  obtain ⟨many, txt, a, b, c, d, e⟩ := id h
  obtain ⟨⟨hS, hP, hR⟩, hm1, hm2, hm6, hh, hr⟩ := id a
  unfold OpI f_X8_dish f_X9_dish
  rw [inC (b := 6) (n := 6) rfl (by omega), inC2 (b := 9) (n := 10) (by decide), inC3 (b := 999999) (n := 1000000) (by decide)]
  rw [show (5 : Int64) = (5 : Int32).toInt64 from rfl, show (9 : Int64) = (9 : Int32).toInt64 from rfl, show (999999 : Int64) = (999999 : Int32).toInt64 from rfl, inM (n := 6) (by decide)]
  simp only [Option.bind_some, zI_0, inM (n := 10) (show (9 : Int32).toInt = ((10 : Nat) : Int) - 1 by decide), inM (n := 1000000) (show (999999 : Int32).toInt = ((1000000 : Nat) : Int) - 1 by decide)]
  cases g1 : inR v1 6 with
  | false => rw [bf, ft]; exact ⟨_, _, _, rfl, rfl, h⟩
  | true =>
    rw [bt, tt]
    cases g2 : inR v2 10 with
    | false => rw [bf, ft]; exact ⟨_, _, _, rfl, rfl, h⟩
    | true =>
      rw [bt, tt]
      cases g3 : inR v3 1000000 with
      | false => rw [bf, ft]; exact ⟨_, _, _, rfl, rfl, h⟩
      | true =>
        rw [bt, tt]
        obtain ⟨x1, hx1, rfl⟩ := inR_of g1 (by omega)
        obtain ⟨x2, hx2, rfl⟩ := inR_of g2 (by omega)
        obtain ⟨x3, hx3, rfl⟩ := inR_of g3 (by omega)
        unfold f_X1_addDish
        rw [hm1, hm2]
        by_cases c6 : many = 6
        · subst c6
          rw [if_neg (show ¬ nI 6 < 6 by decide), if_pos (show nI 6 = 6 from rfl)]
          exact ⟨_, _, _, rfl, rfl, h⟩
        · rw [if_pos (show nI many < 6 from nI_lt (b := 6) (by omega) (by omega)), if_neg (show ¬ nI many = 6 by rw [show (6 : Int32) = nI 6 from rfl, nIeq (by omega) (by omega)]; exact c6), inb_nI (show many < 6 by omega) (by omega), nI_clamp (show many < 2 ^ 31 by omega), show (3 : Int32) * nI many = nI (3 * many) by rw [show (3 : Int32) = nI 3 from rfl, pk_mul], show nI (3 * many) + 1 = nI (3 * many + 1) from nIp _, show nI (3 * many) + 2 = nI (3 * many + 2) by rw [show (2 : Int32) = nI 2 from rfl, nI_add], inb_nI (show 3 * many < 18 by omega) (by omega), inb_nI (show 3 * many + 1 < 18 by omega) (by omega), inb_nI (show 3 * many + 2 < 18 by omega) (by omega), nI_clamp (show 3 * many < 2 ^ 31 by omega), nI_clamp (show 3 * many + 1 < 2 ^ 31 by omega), nI_clamp (show 3 * many + 2 < 2 ^ 31 by omega), nIps, nIp]
          simp only [ck_true, Option.bind_some]
          refine ⟨_, _, _, rfl, rfl, Inv.hs (many1 := many + 1) b c d e (fun q hq => by rw [mun (by omega), mun (by omega), mun (by omega), mun (by omega), mun (by omega)]) (fun q q1 q2 q3 q4 q5 => by rw [mun q1, mun q5, mun q5, mun q5, mun q4]) (fun j hj => by rw [mun (by omega), mun (by omega), mun (by omega), mun (by omega), mu_o (by omega)]) (fun j j1 j2 j3 => by rw [mu_o j3, mun (by omega), mun (by omega), mun (by omega), mun (by omega)]) (by omega) ?_⟩
          refine ⟨⟨fun j hj => ?_, fun j hj => ?_, fun j hj => ?_⟩, ?_, ?_, by omega, ?_, ?_⟩
          · rw [mun (by omega), mun (by omega), mun (by omega), mun (by omega), mun (by omega), mun (by omega), mun (by omega), mun (by omega), mun (by omega), mun (by omega)]; exact hS j hj
          · rw [mun (by omega), mun (by omega), mun (by omega), mun (by omega), mun (by omega), mun (by omega), mun (by omega), mun (by omega), mun (by omega), mun (by omega)]; exact hP j hj
          · have eq4 : ∀ i, mu (mu (mu (mu (mu Mc 4 many (nI x1)) 5 many (nI x2)) 6 many (nI x3)) 7 many 0) 1 6 (nI (many + 1)) 4 i = upd (Mc 4) many (nI x1) i := fun i => by rw [mun (by omega), mun (by omega), mun (by omega), mun (by omega), mus]
            have eq5 : ∀ i, mu (mu (mu (mu (mu Mc 4 many (nI x1)) 5 many (nI x2)) 6 many (nI x3)) 7 many 0) 1 6 (nI (many + 1)) 5 i = upd (Mc 5) many (nI x2) i := fun i => by rw [mun (by omega), mun (by omega), mun (by omega), mus, mun (by omega)]
            have eq6 : ∀ i, mu (mu (mu (mu (mu Mc 4 many (nI x1)) 5 many (nI x2)) 6 many (nI x3)) 7 many 0) 1 6 (nI (many + 1)) 6 i = upd (Mc 6) many (nI x3) i := fun i => by rw [mun (by omega), mun (by omega), mus, mun (by omega), mun (by omega)]
            have eq7 : ∀ i, mu (mu (mu (mu (mu Mc 4 many (nI x1)) 5 many (nI x2)) 6 many (nI x3)) 7 many 0) 1 6 (nI (many + 1)) 7 i = upd (Mc 7) many 0 i := fun i => by rw [mun (by omega), mus, mun (by omega), mun (by omega), mun (by omega)]
            rw [eq4, eq5, eq6, eq7]
            by_cases ej : j = many
            · rw [ej, ups, ups, ups, ups]
              refine ⟨⟨?_, B99.nI (by omega)⟩, ⟨?_, B99.nI (by omega)⟩, ⟨?_, B99.nI (by omega)⟩, ⟨?_, ⟨0, by omega, rfl⟩⟩⟩
              · rw [mun (by omega), mun (by omega), mun (by omega), mun (by omega), mu_at]
              · rw [mun (by omega), mu_o (by omega), mu_o (by omega), mu_at]
              · rw [mun (by omega), mu_o (by omega), mu_at]
              · rw [mun (by omega), mu_at]
            · rw [upn ej, upn ej, upn ej, upn ej]
              obtain ⟨r1, r2, r3, r4⟩ := hR j (by omega)
              refine ⟨⟨?_, r1.2⟩, ⟨?_, r2.2⟩, ⟨?_, r3.2⟩, ⟨?_, r4.2⟩⟩
              · rw [mun (by omega), mun (by omega), mun (by omega), mun (by omega), mu_o ej]; exact r1.1
              · rw [mun (by omega), mu_o (by omega), mu_o (by omega), mu_o (by omega), mun (by omega)]; exact r2.1
              · rw [mun (by omega), mu_o (by omega), mu_o (by omega), mu_o (by omega), mun (by omega)]; exact r3.1
              · rw [mun (by omega), mu_o (by omega), mu_o (by omega), mu_o (by omega), mun (by omega)]; exact r4.1
          · rw [mu_at]
          · rw [mu_at]
          · rw [mu_o (by omega), mu_o (by omega), mun (by omega), mun (by omega), mun (by omega), mun (by omega), mun (by omega), mun (by omega), mun (by omega), mun (by omega)]; exact hh
          · rw [mu_o (by omega), mu_o (by omega), mun (by omega), mun (by omega), mun (by omega), mun (by omega), mun (by omega), mun (by omega), mun (by omega), mun (by omega)]; exact hr
theorem force_op {Mc Mm : Mem} (h : Inv Mc Mm) (v : Int32) : OpI (f_X8_force v) (f_X9_force v) Mc Mm := by
  obtain ⟨many, txt, a, b, c, d, e⟩ := id h
  obtain ⟨hs0, hm1, hm2, hm6, hh, hr, x, hx, hr2⟩ := id a
  obtain ⟨t1, t2, t3, t4⟩ := id c
  unfold OpI f_X8_force f_X9_force
  rw [inC4 t2 (by omega), inM (n := txt) (by rw [t3]; exact nI_prI (by omega))]
  simp only [Option.bind_some, zI_0]
  cases g1 : inR v txt with
  | false => rw [bf, ft]; exact ⟨_, _, _, rfl, rfl, h⟩
  | true =>
    rw [bt, tt, hr]
    obtain ⟨y, hy, rfl⟩ := inR_of g1 (by omega)
    refine ⟨_, _, _, rfl, rfl, Inv.hs b c d e (fun q hq => mun (by omega)) (fun q q1 q2 q3 q4 q5 => mun q1) (fun j hj => by rw [mun (by omega)]) (fun j j1 j2 j3 => mu_o j1) (Nat.le_refl _) ?_⟩
    refine ⟨?_, ?_, ?_, hm6, ?_, ?_, y, hy, mu_at⟩
    · rw [mun (by omega), mun (by omega), mun (by omega), mun (by omega), mun (by omega), mun (by omega), mun (by omega), mun (by omega), mun (by omega), mun (by omega)]; exact hs0
    · rw [mu_o (by omega)]; exact hm1
    · rw [mu_o (by omega)]; exact hm2
    · rw [mu_o (by omega), mu_o (by omega)]; exact hh
    · rw [mu_at, mu_at]
theorem Inv.tp {Mc Mm Mc1 Mm1 : Mem} (h : Inv Mc Mm) (hc : ∀ q, q ≠ 34 → q ≠ 35 → Mc1 q = Mc q) (hm : ∀ q, q ≠ 100 → q ≠ 103 → Mm1 q = Mm q) (hs : ∀ j, j ≠ 6 → Mm1 100 j = Mm 100 j) (d : TapeI Mc1 Mm1) : Inv Mc1 Mm1 := by
  obtain ⟨many, txt, a, b, c, _, e⟩ := h
  refine ⟨many, txt, ?_, ?_, ?_, d, ?_⟩
  · unfold HouseI
    rw [hc 1 (by omega) (by omega), hc 2 (by omega) (by omega), hc 3 (by omega) (by omega), hc 4 (by omega) (by omega), hc 5 (by omega) (by omega), hc 6 (by omega) (by omega), hc 7 (by omega) (by omega), hm 104 (by omega) (by omega), hm 105 (by omega) (by omega), hm 106 (by omega) (by omega), hm 107 (by omega) (by omega), hs 12 (by omega), hs 7 (by omega), hs 4 (by omega)]
    exact a
  · unfold ImageI KeptI
    rw [hc 0 (by omega) (by omega), hc 8 (by omega) (by omega), hc 9 (by omega) (by omega), hc 10 (by omega) (by omega), hc 11 (by omega) (by omega), hc 12 (by omega) (by omega), hc 13 (by omega) (by omega), hc 14 (by omega) (by omega), hm 111 (by omega) (by omega), hm 112 (by omega) (by omega), hm 106 (by omega) (by omega), hm 113 (by omega) (by omega), hs 42 (by omega), hs 43 (by omega), hs 44 (by omega)]
    exact b
  · exact c.cg (fun q h1 _ => hc q (by omega) (by omega)) (hm 101 (by omega) (by omega)) (hm 102 (by omega) (by omega)) (hs 3 (by omega))
  · intro s hs4
    have := e s hs4
    unfold ShI at this ⊢
    rw [hc _ (by omega) (by omega), hc _ (by omega) (by omega), hm 114 (by omega) (by omega), hm 115 (by omega) (by omega), hm 116 (by omega) (by omega), hm 117 (by omega) (by omega)]
    exact this
theorem feed_op {Mc Mm : Mem} (h : Inv Mc Mm) (v : Int32) : OpI (f_X8_feed v) (f_X9_feed v) Mc Mm := by
  obtain ⟨many, txt, a, b, c, ⟨n, B, hn, hB, hC, h6, h103⟩, e⟩ := id h
  unfold OpI f_X8_feed f_X9_feed
  rw [inC3 (b := 255) (n := 256) (by decide), show (255 : Int64) = (255 : Int32).toInt64 from rfl, inM (n := 256) (by decide)]
  simp only [Option.bind_some, zI_0]
  cases g1 : inR v 256 with
  | false => rw [bf, ft]; exact ⟨_, _, _, rfl, rfl, h⟩
  | true =>
    rw [bt, tt]
    obtain ⟨y, hy, rfl⟩ := inR_of g1 (by omega)
    unfold f_X5_append
    rw [hC.1, h6]
    by_cases c6 : n = 160
    · subst c6
      rw [if_neg (show ¬ nI 160 < 160 by decide), if_pos (show nI 160 = 160 from rfl)]
      exact ⟨_, _, _, rfl, rfl, h⟩
    · rw [if_pos (show nI n < 160 from nI_lt (b := 160) (by omega) (by omega)), if_neg (show ¬ nI n = 160 by rw [show (160 : Int32) = nI 160 from rfl, nIeq (by omega) (by omega)]; exact c6), inb_nI (show n < 160 by omega) (by omega), nI_clamp (by omega), nIp]
      simp only [ck_true, Option.bind_some]
      rw [if_neg (by decide)]
      refine ⟨nI (n + 1), mu (mu Mc 35 n (nI y)) 34 1 (nI (n + 1)), _, ?_, rfl, h.tp (fun q q1 q2 => by rw [mun q1, mun q2]) (fun q q1 q2 => by rw [mun q1, mun q2]) (fun j hj => by rw [mu_o hj, mun (by omega)]) ⟨n + 1, fun j => if j = n then y else B j, by omega, fun j hj => ?_, ⟨mu_at, fun j hj => ?_⟩, mu_at, fun j hj => ?_⟩⟩
      · rw [mu_at]
      · show (if j = n then y else B j) < 256
        by_cases ej : j = n
        · rw [if_pos ej]; omega
        · rw [if_neg ej]; exact hB j (by omega)
      · show mu (mu Mc 35 n (nI y)) 34 1 (nI (n + 1)) 35 j = nI (if j = n then y else B j)
        by_cases ej : j = n
        · rw [if_pos ej, ej, mun (by omega), mu_at]
        · rw [if_neg ej, mun (by omega), mu_o ej]; exact hC.2 j (by omega)
      · show mu (mu Mm 103 n (nI y)) 100 6 (nI (n + 1)) 103 j = nI (if j = n then y else B j)
        by_cases ej : j = n
        · rw [if_pos ej, ej, mun (by omega), mu_at]
        · rw [if_neg ej, mun (by omega), mu_o ej]; exact h103 j (by omega)
theorem count_op {Mc Mm : Mem} (h : Inv Mc Mm) (v : Int32) : OpI (f_X8_count v) (f_X9_count v) Mc Mm := by
  obtain ⟨many, txt, a, b, c, ⟨n, B, hn, hB, hC, h6, h103⟩, e⟩ := id h
  obtain ⟨⟨hS, _⟩, hm1, hm2, hm6, ⟨hh, _⟩, hr, x, hx, hr2⟩ := id a
  obtain ⟨t1, t2, t3, t4⟩ := id c
  unfold OpI f_X8_count f_X9_count
  rw [show (5 : Int64) = (5 : Int32).toInt64 from rfl, inM (n := 6) (by decide)]
  simp only [Option.bind_some, zI_0]
  cases g1 : inR v 6 with
  | false =>
    have ne := fun k (hk : k < 6) => ne_of_inR (k := k) g1 hk (by omega)
    have n0 : v ≠ 0 := ne 0 (by omega)
    have n1 : v ≠ 1 := ne 1 (by omega)
    have n2 : v ≠ 2 := ne 2 (by omega)
    have n3 : v ≠ 3 := ne 3 (by omega)
    have n4 : v ≠ 4 := ne 4 (by omega)
    have n5 : v ≠ 5 := ne 5 (by omega)
    rw [bf, if_neg n0, if_neg n1, if_neg n2, if_neg n3, if_neg n4, if_neg n5]
    exact ⟨_, _, _, rfl, rfl, h⟩
  | true =>
    rw [bt]
    obtain ⟨y, hy, rfl⟩ := inR_of g1 (by omega)
    have : y = 0 ∨ y = 1 ∨ y = 2 ∨ y = 3 ∨ y = 4 ∨ y = 5 := by omega
    have s0 := storeC (a := 0) (by omega) Mc
    have s1 := storeC (a := 1) (by omega) Mc
    have u0 := storeM (a := 0) (by omega) Mm
    have u1 := storeM (a := 1) (by omega) Mm
    rw [sumS_cg (by omega) (fun j hj => (hS j hj).1) 6 (by omega)] at u0 u1
    rcases this with rfl | rfl | rfl | rfl | rfl | rfl
    · exact ⟨nI many, Mc, Mm, by rw [if_pos (by decide), hm1], by rw [if_pos (by decide), hm2], h⟩
    · refine ⟨sumS (Mc 2) 0 6 + sumS (Mc 2) 1 6, Mc, Mm, ?_, ?_, h⟩
      · rw [if_neg (by decide), if_pos (by decide), show (0 : Int32) = nI 0 from rfl, s0]
        simp only [Option.bind_some]
        rw [show (1 : Int32) = nI 1 from rfl, s1]
        rfl
      · rw [if_neg (by decide), if_pos (by decide), show (0 : Int32) = nI 0 from rfl, u0]
        simp only [Option.bind_some]
        rw [show (1 : Int32) = nI 1 from rfl, u1]
        rfl
    · exact ⟨Mc 1 7, Mc, Mm, by rw [if_neg (by decide), if_neg (by decide), if_pos (by decide)], by rw [if_neg (by decide), if_neg (by decide), if_pos (by decide), hh], h⟩
    · exact ⟨nI txt, Mc, Mm, by rw [if_neg (by decide), if_neg (by decide), if_neg (by decide), if_pos (by decide), t2], by rw [if_neg (by decide), if_neg (by decide), if_neg (by decide), if_pos (by decide), t3], h⟩
    · exact ⟨nI n, Mc, Mm, by rw [if_neg (by decide), if_neg (by decide), if_neg (by decide), if_neg (by decide), if_pos (by decide), hC.1], by rw [if_neg (by decide), if_neg (by decide), if_neg (by decide), if_neg (by decide), if_pos (by decide), h6], h⟩
    · exact ⟨Mc 1 8, Mc, Mm, by rw [if_neg (by decide), if_neg (by decide), if_neg (by decide), if_neg (by decide), if_neg (by decide), if_pos (by decide)], by rw [if_neg (by decide), if_neg (by decide), if_neg (by decide), if_neg (by decide), if_neg (by decide), hr], h⟩
end
section
/-! TEXT, TAKEN, IMAGE, BACK -/
theorem textM_l (k : Mem → Option (Int32 × Mem)) {txt n : Nat} {B : Nat → Nat} (ht : txt < 6) (hn : n ≤ 160) : ∀ m i fuel (M : Mem), i + m = n → m < fuel → M 100 6 = nI n → M 100 3 = nI txt → (∀ j, j < n → M 103 j = nI (B j)) → (∀ j, j < i → M 101 (160 * txt + j) = nI (B j)) →
    ∃ M1 : Mem, f_X9_text_l14 k fuel (nI i) M = k M1 ∧ (∀ j, j < n → M1 101 (160 * txt + j) = nI (B j)) ∧ (∀ q, q ≠ 101 → M1 q = M q) ∧ ∀ j, j < 160 * txt → M1 101 j = M 101 j := by
  intro m
  induction m with
  | zero =>
    intro i fuel M hi hf h6 h3 h103 h101
    obtain ⟨f, rfl⟩ : ∃ f, fuel = f + 1 := ⟨fuel - 1, by omega⟩
    rw [f_X9_text_l14, h6, if_pos (nI_le (by omega) (by omega))]
    exact ⟨M, rfl, fun j hj => h101 j (by omega), fun _ _ => rfl, fun _ _ => rfl⟩
  | succ m ih =>
    intro i fuel M hi hf h6 h3 h103 h101
    obtain ⟨f, rfl⟩ : ∃ f, fuel = f + 1 := ⟨fuel - 1, by omega⟩
    rw [f_X9_text_l14, h6, if_neg (nI_ge (by omega) (by omega)), h3, show (160 : Int32) = nI 160 from rfl, pk_mul, nI_add, inb_nI (by omega) (by omega), inb_nI (show 160 * txt + i < 960 by omega) (by omega), nI_clamp (by omega), nI_clamp (by omega), h103 i (by omega), nIp]
    simp only [ck_true]
    obtain ⟨M1, e1, e2, e3, e4⟩ := ih (i + 1) f (mu M 101 (160 * txt + i) (nI (B i))) (by omega) (by omega) (by rw [mun (by omega)]; exact h6) (by rw [mun (by omega)]; exact h3) (fun j hj => by rw [mun (by omega)]; exact h103 j hj) (fun j hj => by
      by_cases e : j = i
      · rw [e, mu_at]
      · rw [mu_o (by omega)]; exact h101 j (by omega))
    exact ⟨M1, e1, e2, fun q hq => (e3 q hq).trans (mun hq), fun j hj => (e4 j hj).trans (mu_o (by omega))⟩
theorem text_op {Mc Mm : Mem} (h : Inv Mc Mm) : OpI f_X8_text f_X9_text Mc Mm := by
  obtain ⟨many, txt, a, b, c, ⟨n, B, hn, hB, hC, h6, h103⟩, e⟩ := id h
  obtain ⟨t1, t2, t3, t4⟩ := id c
  unfold OpI f_X8_text f_X9_text
  rw [t2, t3]
  by_cases c6 : txt = 6
  · subst c6
    rw [if_neg (show ¬ nI 6 < 6 by decide), if_pos (show nI 6 = 6 from rfl)]
    exact ⟨_, _, _, rfl, rfl, h⟩
  have ht6 : txt < 6 := by omega
  have ht : isTx (16 + 3 * txt) := ⟨txt, ht6, rfl⟩
  rw [if_pos (show nI txt < 6 from nI_lt (b := 6) (by omega) (by omega)), if_neg (show ¬ nI txt = 6 by rw [show (6 : Int32) = nI 6 from rfl, nIeq (by omega) (by omega)]; exact c6), inb_nI (show txt < 6 by omega) (by omega), nI_clamp (show txt < 2 ^ 31 by omega)]
  simp only [ck_true]
  obtain ⟨P, l1, l2, l3, l4⟩ := textM_l (B := B) f_X9_text_b49 ht6 hn n 0 FU Mm (by omega) (by have := FU_ge; omega) h6 t3 h103 (fun j hj => by omega)
  rw [show (0 : Int32) = nI 0 from rfl, l1]
  unfold f_X9_text_b49
  have P3 : P 100 3 = nI txt := by rw [l3 100 (by omega)]; exact t3
  have P6 : P 100 6 = nI n := by rw [l3 100 (by omega)]; exact h6
  rw [P3, P6, inb_nI ht6 (by omega), nI_clamp (show txt < 2 ^ 31 by omega)]
  simp only [ck_true]
  generalize hQ : mu (mu P 102 txt (nI n)) 100 6 0 = Q
  have Q101 : ∀ j, Q 101 j = P 101 j := fun j => by rw [← hQ, mun (by omega), mun (by omega)]
  have Q102 : Q 102 txt = nI n := by rw [← hQ, mun (by omega), mu_at]
  have Q102o : ∀ r, r ≠ txt → Q 102 r = Mm 102 r := fun r hr => by rw [← hQ, mun (by omega), mu_o hr, l3 102 (by omega)]
  have Qo : ∀ q, q ≠ 100 → q ≠ 101 → q ≠ 102 → Q q = Mm q := fun q q1 q2 q3 => by rw [← hQ, mun q1, mun q3, l3 q q2]
  have Qs : ∀ j, j ≠ 6 → Q 100 j = Mm 100 j := fun j hj => by rw [← hQ, mu_o hj, mun (by omega), l3 100 (by omega)]
  have Q6 : Q 100 6 = 0 := by rw [← hQ, mu_at]
  obtain ⟨x, C, v, Cm, e1, e2, e3, e4, e5, e6⟩ := readSim ht hn hB hC ht6 Q102 (fun j hj => by rw [Q101]; exact l2 j hj) (w := 0) (by omega)
  rw [e1, show f_X9_read (nI txt) 0 Q = _ from e2]
  simp only [Option.bind_some]
  -- what stays as it was
  have keepC : ∀ q, q ≤ 15 ∨ 35 ≤ q → C q = Mc q := fun q hq => e3 q (by omega) (by omega) (by omega) (by omega)
  have keepM : ∀ q, q ≠ 100 → q ≠ 101 → q ≠ 102 → Cm q = Mm q := fun q q1 q2 q3 => (e5.1 q q1).trans (Qo q q1 q2 q3)
  have keepS : ∀ j, (j < 19 ∨ 27 < j) → j ≠ 6 → Cm 100 j = Mm 100 j := fun j h1 h2 => (e5.2 j h1).trans (Qs j h2)
  have inv : ∀ (C2 Cm2 : Mem) (txt2 : Nat), txt ≤ txt2 → (∀ q, q ≠ 0 → C2 q = C q) → (C2 0 2 = C 0 2) → (∀ q, q ≠ 100 → Cm2 q = Cm q) → (∀ j, j ≠ 3 → Cm2 100 j = Cm 100 j) → TextI C2 Cm2 txt2 → Inv C2 Cm2 := by
    intro C2 Cm2 txt2 hle f1 f2 f3 f4 hT
    refine ⟨many, txt2, ?_, ?_, hT, ?_, ?_⟩
    · unfold HouseI
      rw [f1 1 (by omega), f1 2 (by omega), f1 3 (by omega), f1 4 (by omega), f1 5 (by omega), f1 6 (by omega), f1 7 (by omega), f3 104 (by omega), f3 105 (by omega), f3 106 (by omega), f3 107 (by omega), f4 12 (by omega), f4 7 (by omega), f4 4 (by omega), keepC 1 (by omega), keepC 2 (by omega), keepC 3 (by omega), keepC 4 (by omega), keepC 5 (by omega), keepC 6 (by omega), keepC 7 (by omega), keepM 104 (by omega) (by omega) (by omega), keepM 105 (by omega) (by omega) (by omega), keepM 106 (by omega) (by omega) (by omega), keepM 107 (by omega) (by omega) (by omega), keepS 12 (by omega) (by omega), keepS 7 (by omega) (by omega), keepS 4 (by omega) (by omega)]
      obtain ⟨a1, a2, a3, a4, a5, a6, y, hy, a7⟩ := a
      exact ⟨a1, a2, a3, a4, a5, a6, y, by omega, a7⟩
    · unfold ImageI KeptI
      rw [f2, f1 8 (by omega), f1 9 (by omega), f1 10 (by omega), f1 11 (by omega), f1 12 (by omega), f1 13 (by omega), f1 14 (by omega), f3 111 (by omega), f3 112 (by omega), f3 106 (by omega), f3 113 (by omega), f4 42 (by omega), f4 43 (by omega), f4 44 (by omega), keepC 0 (by omega), keepC 8 (by omega), keepC 9 (by omega), keepC 10 (by omega), keepC 11 (by omega), keepC 12 (by omega), keepC 13 (by omega), keepC 14 (by omega), keepM 111 (by omega) (by omega) (by omega), keepM 112 (by omega) (by omega) (by omega), keepM 106 (by omega) (by omega) (by omega), keepM 113 (by omega) (by omega) (by omega), keepS 42 (by omega) (by omega), keepS 43 (by omega) (by omega), keepS 44 (by omega) (by omega)]
      rcases b with b | ⟨b1, k, hk, b2, b3, b4, b5, b6, b7, y, hy, b8⟩
      · exact Or.inl b
      · exact Or.inr ⟨b1, k, hk, b2, b3, b4, b5, b6, b7, y, by omega, b8⟩
    · refine ⟨0, fun _ => 0, by omega, fun j hj => by omega, ⟨?_, fun j hj => by omega⟩, ?_, fun j hj => by omega⟩
      · rw [f1 34 (by omega)]; exact e4
      · rw [f4 6 (by omega), e5.2 6 (by omega)]; exact Q6
    · intro s hs
      have := e s hs
      unfold ShI at this ⊢
      rw [f1 _ (by omega), f1 _ (by omega), f3 114 (by omega), f3 115 (by omega), f3 116 (by omega), f3 117 (by omega), keepC _ (by omega), keepC _ (by omega), keepM 114 (by omega) (by omega) (by omega), keepM 115 (by omega) (by omega) (by omega), keepM 116 (by omega) (by omega) (by omega), keepM 117 (by omega) (by omega) (by omega)]
      exact this
  -- the texts before
  have old : ∀ (C2 Cm2 : Mem), (∀ q, q ≠ 0 → C2 q = C q) → (∀ q, q ≠ 100 → Cm2 q = Cm q) → ∀ r, r < txt → WfT (C2 (16 + 3 * r + 2)) ∧ TxM Cm2 r (evC C2 r) := by
    intro C2 Cm2 f1 f3 r hr
    obtain ⟨x1, x2⟩ := t4 r hr
    have k1 : C2 (16 + 3 * r + 1) = Mc (16 + 3 * r + 1) := by rw [f1 _ (by omega), e3 _ (by omega) (by omega) (by omega) (by omega)]
    have k2 : C2 (16 + 3 * r + 2) = Mc (16 + 3 * r + 2) := by rw [f1 _ (by omega), e3 _ (by omega) (by omega) (by omega) (by omega)]
    have : evC C2 r = evC Mc r := by unfold evC; rw [k1, k2]
    rw [this, k2]
    refine ⟨x1, x2.keep (fun j hj => ?_) ?_⟩
    · rw [f3 101 (by omega), e5.1 101 (by omega), Q101, l4 _ (by omega)]
    · rw [f3 102 (by omega), e5.1 102 (by omega), Q102o r (by omega)]
  rcases e6 with ⟨rfl, w1, w2, w3⟩ | ⟨f, hf, rfl, w1, w2⟩
  · rw [if_pos rfl, if_pos (show Cm 100 26 = 0 from w3)]
    have C04 : C 0 4 = nI txt := by rw [keepC 0 (by omega)]; exact t2
    have Cm3 : Cm 100 3 = nI txt := by rw [keepS 3 (by omega) (by omega)]; exact t3
    rw [C04, Cm3, nIps, nIp]
    refine ⟨_, _, _, rfl, rfl, inv _ _ (txt + 1) (by omega) (fun q hq => mun hq) (mu_o (by omega)) (fun q hq => mun hq) (fun j hj => mu_o hj) ⟨by omega, mu_at, mu_at, fun r hr => ?_⟩⟩
    by_cases er : r = txt
    · subst er
      have k1 : mu C 0 4 (nI (r + 1)) (16 + 3 * r + 1) = C (16 + 3 * r + 1) := mun (by omega)
      have k2 : mu C 0 4 (nI (r + 1)) (16 + 3 * r + 2) = C (16 + 3 * r + 2) := mun (by omega)
      rw [k2]
      refine ⟨w1, ?_⟩
      intro M2 m1 m2 w hw
      have m1' : ∀ j, j < n → M2 101 (160 * r + j) = nI (B j) := fun j hj => by rw [m1 j (by omega), mun (by omega), e5.1 101 (by omega), Q101]; exact l2 j hj
      have m2' : M2 102 r = nI n := by rw [m2, mun (by omega), e5.1 102 (by omega)]; exact Q102
      obtain ⟨x2, C2, v2, Cm2, g1, g2, g3, g4, g5, g6⟩ := readSim ht hn hB hC ht6 m2' m1' hw
      rw [e1] at g1
      have gx := Option.some.inj g1
      have gx1 : (-1 : Int32) = x2 := congrArg Prod.fst gx
      have gx2 : C = C2 := congrArg Prod.snd gx
      subst gx2
      rcases g6 with ⟨_, _, g8, _⟩ | ⟨f, hf, g7, _⟩
      · refine ⟨Cm2, ?_, g5.1, fun j hj => g5.2 j (by omega)⟩
        rw [g2, g8]
        congr 2
        unfold evC
        rw [k1, k2]
        exact evT_congr (fun i hi => by unfold env; rw [if_pos hi])
      · exfalso
        rw [← gx1] at g7
        exact nI_pos (n := f) (by omega) (by rw [← g7]; decide)
    · exact old _ _ (fun q hq => mun hq) (fun q hq => mun hq) r (by omega)
  · rw [if_neg (show ¬ nI f = -1 from fun hx => nI_pos (n := f) (by omega) (by rw [hx]; decide)), if_neg (show ¬ Cm 100 26 = 0 by rw [w1]; decide), w2]
    refine ⟨_, _, _, rfl, rfl, inv C Cm txt (Nat.le_refl _) (fun _ _ => rfl) rfl (fun _ _ => rfl) (fun _ _ => rfl) ⟨t1, ?_, ?_, old C Cm (fun _ _ => rfl) (fun _ _ => rfl)⟩⟩
    · rw [keepC 0 (by omega)]; exact t2
    · rw [keepS 3 (by omega) (by omega)]; exact t3
end
section
/-! COPIES; IMAGE AND BACK -/
theorem mcp_o {M : Mem} {a i b j n q : Nat} (h : q ≠ b) : mcp M a i b j n q = M q := if_neg h
theorem mcp_in {M : Mem} {a b n k : Nat} (h : k < n) : mcp M a 0 b 0 n b k = M a k := by
  unfold mcp va_cpy
  rw [if_pos rfl, if_pos (by omega)]
  congr 1
  omega
theorem cpyLoop {β : Type} (L : Nat → Int32 → Mem → Option β) (k : Mem → Option β) {N a b oa ob : Nat} (hab : a ≠ b)
    (hL : ∀ f i M, i ≤ N → L (f + 1) (nI i) M = if N ≤ i then k M else L f (nI (i + 1)) (mu M b (ob + i) (M a (oa + i)))) :
    ∀ m i fuel (M : Mem), i + m = N → m < fuel → ∃ M1 : Mem, L fuel (nI i) M = k M1 ∧ (∀ q, q ≠ b → M1 q = M q) ∧ (∀ j, i ≤ j → j < N → M1 b (ob + j) = M a (oa + j)) ∧ ∀ j, (j < ob + i ∨ ob + N ≤ j) → M1 b j = M b j := by
  intro m
  induction m with
  | zero =>
    intro i fuel M hi hf
    obtain ⟨f, rfl⟩ : ∃ f, fuel = f + 1 := ⟨fuel - 1, by omega⟩
    rw [hL f i M (by omega), if_pos (by omega)]
    exact ⟨M, rfl, fun _ _ => rfl, fun j h1 h2 => by omega, fun _ _ => rfl⟩
  | succ m ih =>
    intro i fuel M hi hf
    obtain ⟨f, rfl⟩ : ∃ f, fuel = f + 1 := ⟨fuel - 1, by omega⟩
    rw [hL f i M (by omega), if_neg (by omega)]
    obtain ⟨M1, e1, e2, e3, e4⟩ := ih (i + 1) f (mu M b (ob + i) (M a (oa + i))) (by omega) (by omega)
    refine ⟨M1, e1, fun q hq => (e2 q hq).trans (mun hq), fun j h1 h2 => ?_, fun j hj => ?_⟩
    · by_cases e : j = i
      · rw [e, e4 _ (by omega), mu_at]
      · rw [e3 j (by omega) h2, mun hab]
    · rw [e4 j (by omega), mu_o (by omega)]
theorem image_l {M : Mem} (k : Mem → Option (Int32 × Mem)) : ∃ M1 : Mem, f_X9_image_l2 k FU 0 M = k M1 ∧ (∀ q, q ≠ 111 → M1 q = M q) ∧ ∀ j, j < 12 → M1 111 j = M 104 j := by
  obtain ⟨M1, e1, e2, e3, e4⟩ := cpyLoop (f_X9_image_l2 k) k (N := 12) (a := 104) (b := 111) (oa := 0) (ob := 0) (by omega) (fun f i M hi => by
    rw [f_X9_image_l2]
    by_cases c : 12 ≤ i
    · rw [if_pos c, if_pos (by rw [show (12 : Int32) = nI 12 from rfl, nIle (by omega) (by omega)]; exact c)]
    · rw [if_neg c, if_neg (by rw [show (12 : Int32) = nI 12 from rfl, nIle (by omega) (by omega)]; exact c), inb_nI (by omega) (by omega), nI_clamp (by omega), nIp, Nat.zero_add]; rfl) 12 0 FU M rfl (by have := FU_ge; omega)
  exact ⟨M1, e1, e2, fun j hj => by have := e3 j (by omega) hj; rwa [Nat.zero_add] at this⟩
theorem image_l3 {M : Mem} (k : Mem → Option (Int32 × Mem)) : ∃ M1 : Mem, f_X9_image_l28 k FU 0 M = k M1 ∧ (∀ q, q ≠ 113 → M1 q = M q) ∧ ∀ j, j < 18 → M1 113 j = M 107 j := by
  obtain ⟨M1, e1, e2, e3, e4⟩ := cpyLoop (f_X9_image_l28 k) k (N := 18) (a := 107) (b := 113) (oa := 0) (ob := 0) (by omega) (fun f i M hi => by
    rw [f_X9_image_l28]
    by_cases c : 18 ≤ i
    · rw [if_pos c, if_pos (by rw [show (18 : Int32) = nI 18 from rfl, nIle (by omega) (by omega)]; exact c)]
    · rw [if_neg c, if_neg (by rw [show (18 : Int32) = nI 18 from rfl, nIle (by omega) (by omega)]; exact c), inb_nI (by omega) (by omega), nI_clamp (by omega), nIp, Nat.zero_add]; rfl) 18 0 FU M rfl (by have := FU_ge; omega)
  exact ⟨M1, e1, e2, fun j hj => by have := e3 j (by omega) hj; rwa [Nat.zero_add] at this⟩
theorem back_l {M : Mem} (k : Mem → Option (Int32 × Mem)) : ∃ M1 : Mem, f_X9_back_l13 k FU 0 M = k M1 ∧ (∀ q, q ≠ 104 → M1 q = M q) ∧ ∀ j, j < 12 → M1 104 j = M 111 j := by
  obtain ⟨M1, e1, e2, e3, e4⟩ := cpyLoop (f_X9_back_l13 k) k (N := 12) (a := 111) (b := 104) (oa := 0) (ob := 0) (by omega) (fun f i M hi => by
    rw [f_X9_back_l13]
    by_cases c : 12 ≤ i
    · rw [if_pos c, if_pos (by rw [show (12 : Int32) = nI 12 from rfl, nIle (by omega) (by omega)]; exact c)]
    · rw [if_neg c, if_neg (by rw [show (12 : Int32) = nI 12 from rfl, nIle (by omega) (by omega)]; exact c), inb_nI (by omega) (by omega), nI_clamp (by omega), nIp, Nat.zero_add]; rfl) 12 0 FU M rfl (by have := FU_ge; omega)
  exact ⟨M1, e1, e2, fun j hj => by have := e3 j (by omega) hj; rwa [Nat.zero_add] at this⟩
theorem back_l3 {M : Mem} (k : Mem → Option (Int32 × Mem)) : ∃ M1 : Mem, f_X9_back_l39 k FU 0 M = k M1 ∧ (∀ q, q ≠ 107 → M1 q = M q) ∧ ∀ j, j < 18 → M1 107 j = M 113 j := by
  obtain ⟨M1, e1, e2, e3, e4⟩ := cpyLoop (f_X9_back_l39 k) k (N := 18) (a := 113) (b := 107) (oa := 0) (ob := 0) (by omega) (fun f i M hi => by
    rw [f_X9_back_l39]
    by_cases c : 18 ≤ i
    · rw [if_pos c, if_pos (by rw [show (18 : Int32) = nI 18 from rfl, nIle (by omega) (by omega)]; exact c)]
    · rw [if_neg c, if_neg (by rw [show (18 : Int32) = nI 18 from rfl, nIle (by omega) (by omega)]; exact c), inb_nI (by omega) (by omega), nI_clamp (by omega), nIp, Nat.zero_add]; rfl) 18 0 FU M rfl (by have := FU_ge; omega)
  exact ⟨M1, e1, e2, fun j hj => by have := e3 j (by omega) hj; rwa [Nat.zero_add] at this⟩
theorem aside_l {M : Mem} : ∃ M1 : Mem, f_X9_laysAside M = some M1 ∧ (∀ q, q ≠ 108 → M1 q = M q) ∧ ∀ j, j < 12 → M1 108 j = M 104 j := by
  obtain ⟨M1, e1, e2, e3, e4⟩ := cpyLoop f_X9_laysAside_l2 (fun M => some M) (N := 12) (a := 104) (b := 108) (oa := 0) (ob := 0) (by omega) (fun f i M hi => by
    rw [f_X9_laysAside_l2]
    by_cases c : 12 ≤ i
    · rw [if_pos c, if_pos (by rw [show (12 : Int32) = nI 12 from rfl, nIle (by omega) (by omega)]; exact c)]
    · rw [if_neg c, if_neg (by rw [show (12 : Int32) = nI 12 from rfl, nIle (by omega) (by omega)]; exact c), inb_nI (by omega) (by omega), nI_clamp (by omega), nIp, Nat.zero_add]; rfl) 12 0 FU M rfl (by have := FU_ge; omega)
  exact ⟨M1, e1, e2, fun j hj => by have := e3 j (by omega) hj; rwa [Nat.zero_add] at this⟩
theorem laysBack_l {M : Mem} : ∃ M1 : Mem, f_X9_laysBack M = some M1 ∧ (∀ q, q ≠ 104 → M1 q = M q) ∧ ∀ j, j < 12 → M1 104 j = M 108 j := by
  obtain ⟨M1, e1, e2, e3, e4⟩ := cpyLoop f_X9_laysBack_l2 (fun M => some M) (N := 12) (a := 108) (b := 104) (oa := 0) (ob := 0) (by omega) (fun f i M hi => by
    rw [f_X9_laysBack_l2]
    by_cases c : 12 ≤ i
    · rw [if_pos c, if_pos (by rw [show (12 : Int32) = nI 12 from rfl, nIle (by omega) (by omega)]; exact c)]
    · rw [if_neg c, if_neg (by rw [show (12 : Int32) = nI 12 from rfl, nIle (by omega) (by omega)]; exact c), inb_nI (by omega) (by omega), nI_clamp (by omega), nIp, Nat.zero_add]; rfl) 12 0 FU M rfl (by have := FU_ge; omega)
  exact ⟨M1, e1, e2, fun j hj => by have := e3 j (by omega) hj; rwa [Nat.zero_add] at this⟩
theorem Hs.cp {S P K N D C S2 P2 K2 R2 S' P' K' N' D' C' S2' P2' R2' : Nat → Int32} {many : Nat} (h : Hs S P K N D C S2 P2 K2 R2 many) (hm : many ≤ 6) (h1 : ∀ j, j < 12 → S' j = S j) (h2 : ∀ j, j < 2 → P' j = P j) (h3 : ∀ j, j < 6 → K' j = K j) (h4 : ∀ j, j < 6 → N' j = N j) (h5 : ∀ j, j < 6 → D' j = D j) (h6 : ∀ j, j < 6 → C' j = C j) (g1 : ∀ j, j < 12 → S2' j = S2 j) (g2 : ∀ j, j < 2 → P2' j = P2 j) (g3 : ∀ j, j < 18 → R2' j = R2 j) : Hs S' P' K' N' D' C' S2' P2' K2 R2' many := by
  refine ⟨fun j hj => ?_, fun j hj => ?_, fun j hj => ?_⟩
  · rw [h1 j hj, g1 j hj]; exact h.1 j hj
  · rw [h2 j hj, g2 j hj]; exact h.2.1 j hj
  · rw [h3 j (by omega), h4 j (by omega), h5 j (by omega), h6 j (by omega), g3 _ (by omega), g3 _ (by omega), g3 _ (by omega)]; exact h.2.2 j hj
theorem image_op {Mc Mm : Mem} (h : Inv Mc Mm) : OpI f_X8_image f_X9_image Mc Mm := by
  obtain ⟨many, txt, a, b, c, d, e⟩ := id h
  obtain ⟨hs0, hm1, hm2, hm6, hh, hr⟩ := id a
  unfold OpI f_X8_image f_X9_image f_X1_become_8
  simp only [Option.bind_some]
  generalize hC : mu (mu (mu (mu (mcp (mcp (mcp (mcp (mcp (mcp Mc 2 0 9 0 12) 3 0 10 0 2) 4 0 11 0 6) 5 0 12 0 6) 6 0 13 0 6) 7 0 14 0 6) 8 6 (Mc 1 6)) 8 7 (Mc 1 7)) 8 8 (Mc 1 8)) 0 2 1 = C
  obtain ⟨P, p1, p2, p3⟩ := image_l (M := Mm) f_X9_image_b26
  obtain ⟨Q, q1, q2, q3⟩ := image_l3 (M := P) f_X9_image_b52
  rw [p1]
  unfold f_X9_image_b26
  rw [q1]
  unfold f_X9_image_b52
  generalize hD : mu (mu (mu (mu (mu Q 112 0 (Q 105 0)) 112 1 (Q 105 1)) 100 42 (Q 100 12)) 100 43 (Q 100 7)) 100 44 (Q 100 4) = D
  have Qo : ∀ q, q ≠ 111 → q ≠ 113 → Q q = Mm q := fun q h1 h2 => (q2 q h2).trans (p2 q h1)
  have Co : ∀ q, q ≠ 0 → (q < 8 ∨ 14 < q) → C q = Mc q := fun q h0 hq => by
    rw [← hC, mun h0, mun (by omega), mun (by omega), mun (by omega), mcp_o (by omega), mcp_o (by omega), mcp_o (by omega), mcp_o (by omega), mcp_o (by omega), mcp_o (by omega)]
  have Do : ∀ q, q ≠ 100 → q ≠ 111 → q ≠ 112 → q ≠ 113 → D q = Mm q := fun q h1 h2 h3 h4 => by rw [← hD, mun h1, mun h1, mun h1, mun h3, mun h3, Qo q h2 h4]
  have Ds : ∀ j, (j < 42 ∨ 44 < j) → D 100 j = Mm 100 j := fun j hj => by rw [← hD, mu_o (by omega), mu_o (by omega), mu_o (by omega), mun (by omega), mun (by omega), Qo 100 (by omega) (by omega)]
  refine ⟨nI many, C, D, ?_, ?_, many, txt, ?_, Or.inr ⟨?_, many, Nat.le_refl _, ?_⟩, ?_, ?_, ?_⟩
  · rw [mun (by omega), mun (by omega), mun (by omega), mcp_o (by omega), mcp_o (by omega), mcp_o (by omega), mcp_o (by omega), mcp_o (by omega), mcp_o (by omega), hm1]
  · rw [Qo 100 (by omega) (by omega), hm2]
  · unfold HouseI
    rw [Co 1 (by omega) (by omega), Co 2 (by omega) (by omega), Co 3 (by omega) (by omega), Co 4 (by omega) (by omega), Co 5 (by omega) (by omega), Co 6 (by omega) (by omega), Co 7 (by omega) (by omega), Do 104 (by omega) (by omega) (by omega) (by omega), Do 105 (by omega) (by omega) (by omega) (by omega), Do 106 (by omega) (by omega) (by omega) (by omega), Do 107 (by omega) (by omega) (by omega) (by omega), Ds 12 (by omega), Ds 7 (by omega), Ds 4 (by omega)]
    exact a
  · rw [← hC, mu_at]
  · refine ⟨?_, ?_⟩
    · rw [Do 106 (by omega) (by omega) (by omega) (by omega)]
      refine hs0.cp hm6 ?_ ?_ ?_ ?_ ?_ ?_ ?_ ?_ ?_
      · intro j hj; rw [← hC, mun (by omega), mun (by omega), mun (by omega), mun (by omega), mcp_o (by omega), mcp_o (by omega), mcp_o (by omega), mcp_o (by omega), mcp_o (by omega), mcp_in hj]
      · intro j hj; rw [← hC, mun (by omega), mun (by omega), mun (by omega), mun (by omega), mcp_o (by omega), mcp_o (by omega), mcp_o (by omega), mcp_o (by omega), mcp_in hj, mcp_o (by omega)]
      · intro j hj; rw [← hC, mun (by omega), mun (by omega), mun (by omega), mun (by omega), mcp_o (by omega), mcp_o (by omega), mcp_o (by omega), mcp_in hj, mcp_o (by omega), mcp_o (by omega)]
      · intro j hj; rw [← hC, mun (by omega), mun (by omega), mun (by omega), mun (by omega), mcp_o (by omega), mcp_o (by omega), mcp_in hj, mcp_o (by omega), mcp_o (by omega), mcp_o (by omega)]
      · intro j hj; rw [← hC, mun (by omega), mun (by omega), mun (by omega), mun (by omega), mcp_o (by omega), mcp_in hj, mcp_o (by omega), mcp_o (by omega), mcp_o (by omega), mcp_o (by omega)]
      · intro j hj; rw [← hC, mun (by omega), mun (by omega), mun (by omega), mun (by omega), mcp_in hj, mcp_o (by omega), mcp_o (by omega), mcp_o (by omega), mcp_o (by omega), mcp_o (by omega)]
      · intro j hj; rw [← hD, mun (by omega), mun (by omega), mun (by omega), mun (by omega), mun (by omega), q2 111 (by omega)]; exact p3 j hj
      · intro j hj
        have : j = 0 ∨ j = 1 := by omega
        rcases this with rfl | rfl
        · rw [← hD, mun (by omega), mun (by omega), mun (by omega), mu_o (by omega), mu_at, Qo 105 (by omega) (by omega)]
        · rw [← hD, mun (by omega), mun (by omega), mun (by omega), mu_at, Qo 105 (by omega) (by omega)]
      · intro j hj; rw [← hD, mun (by omega), mun (by omega), mun (by omega), mun (by omega), mun (by omega), q3 j hj, p2 107 (by omega)]
    · have s6 : C 8 6 = Mc 1 6 := by rw [← hC, mun (by omega), mu_o (by omega), mu_o (by omega), mu_at]
      have s7 : C 8 7 = Mc 1 7 := by rw [← hC, mun (by omega), mu_o (by omega), mu_at]
      have s8 : C 8 8 = Mc 1 8 := by rw [← hC, mun (by omega), mu_at]
      have d2 : D 100 42 = Mm 100 12 := by rw [← hD, mu_o (by omega), mu_o (by omega), mu_at, Qo 100 (by omega) (by omega)]
      have d3 : D 100 43 = Mm 100 7 := by rw [← hD, mu_o (by omega), mu_at, Qo 100 (by omega) (by omega)]
      have d4 : D 100 44 = Mm 100 4 := by rw [← hD, mu_at, Qo 100 (by omega) (by omega)]
      rw [s6, s7, s8, d2, d3, d4]
      exact ⟨hm1, hm2, hm6, hh, hr⟩
  · refine ⟨c.1, ?_, ?_, fun r hr => ?_⟩
    · rw [← hC, mu_o (by omega), mun (by omega), mun (by omega), mun (by omega), mcp_o (by omega), mcp_o (by omega), mcp_o (by omega), mcp_o (by omega), mcp_o (by omega), mcp_o (by omega)]; exact c.2.1
    · rw [Ds 3 (by omega)]; exact c.2.2.1
    · obtain ⟨x1, x2⟩ := c.2.2.2 r hr
      have hr6 : r < 6 := by have := c.1; omega
      have : evC C r = evC Mc r := by unfold evC; rw [Co _ (by omega) (by omega), Co _ (by omega) (by omega)]
      rw [Co _ (by omega) (by omega), this]
      exact ⟨x1, x2.keep (fun j _ => by rw [Do 101 (by omega) (by omega) (by omega) (by omega)]) (by rw [Do 102 (by omega) (by omega) (by omega) (by omega)])⟩
  · obtain ⟨n, B, d1, d2, d3, d4, d5⟩ := d
    refine ⟨n, B, d1, d2, ⟨?_, fun j hj => ?_⟩, ?_, fun j hj => ?_⟩
    · rw [Co 34 (by omega) (by omega)]; exact d3.1
    · rw [Co 35 (by omega) (by omega)]; exact d3.2 j hj
    · rw [Ds 6 (by omega)]; exact d4
    · rw [Do 103 (by omega) (by omega) (by omega) (by omega)]; exact d5 j hj
  · intro s hs
    have := e s hs
    unfold ShI at this ⊢
    rw [Co _ (by omega) (by omega), Co _ (by omega) (by omega), Do 114 (by omega) (by omega) (by omega) (by omega), Do 115 (by omega) (by omega) (by omega) (by omega), Do 116 (by omega) (by omega) (by omega) (by omega), Do 117 (by omega) (by omega) (by omega) (by omega)]
    exact this
theorem back_op {Mc Mm : Mem} (h : Inv Mc Mm) : OpI f_X8_back f_X9_back Mc Mm := by
  obtain ⟨many, txt, a, b, c, d, e⟩ := id h
  unfold OpI f_X8_back f_X9_back
  rcases b with ⟨b1, b2⟩ | ⟨b1, k, hk, ks, km1, km2, km6, kh, kr⟩
  · rw [if_pos b1, if_pos b2]
    exact ⟨_, _, _, rfl, rfl, h⟩
  have n42 : ¬ Mm 100 42 = -1 := by rw [km2]; intro hx; exact nI_pos (n := k) (by omega) (by rw [hx]; decide)
  rw [if_neg (by rw [b1]; decide), if_neg n42]
  unfold f_X1_become_1
  simp only [Option.bind_some]
  generalize hC : mu (mu (mu (mcp (mcp (mcp (mcp (mcp (mcp Mc 9 0 2 0 12) 10 0 3 0 2) 11 0 4 0 6) 12 0 5 0 6) 13 0 6 0 6) 14 0 7 0 6) 1 6 (Mc 8 6)) 1 7 (Mc 8 7)) 1 8 (Mc 8 8) = C
  obtain ⟨P, p1, p2, p3⟩ := back_l (M := Mm) f_X9_back_b37
  obtain ⟨Q, q1, q2, q3⟩ := back_l3 (M := P) f_X9_back_b63
  rw [p1]
  unfold f_X9_back_b37
  rw [q1]
  unfold f_X9_back_b63
  generalize hD : mu (mu (mu (mu (mu Q 105 0 (Q 112 0)) 105 1 (Q 112 1)) 100 12 (Q 100 42)) 100 7 (Q 100 43)) 100 4 (Q 100 44) = D
  have Qo : ∀ q, q ≠ 104 → q ≠ 107 → Q q = Mm q := fun q h1 h2 => (q2 q h2).trans (p2 q h1)
  have Co : ∀ q, (q < 1 ∨ 7 < q) → C q = Mc q := fun q hq => by
    rw [← hC, mun (by omega), mun (by omega), mun (by omega), mcp_o (by omega), mcp_o (by omega), mcp_o (by omega), mcp_o (by omega), mcp_o (by omega), mcp_o (by omega)]
  have Do : ∀ q, q ≠ 100 → q ≠ 104 → q ≠ 105 → q ≠ 107 → D q = Mm q := fun q h1 h2 h3 h4 => by rw [← hD, mun h1, mun h1, mun h1, mun h3, mun h3, Qo q h2 h4]
  have Ds : ∀ j, j ≠ 4 → j ≠ 7 → j ≠ 12 → D 100 j = Mm 100 j := fun j h1 h2 h3 => by rw [← hD, mu_o h1, mu_o h2, mu_o h3, mun (by omega), mun (by omega), Qo 100 (by omega) (by omega)]
  have s6 : C 1 6 = Mc 8 6 := by rw [← hC, mu_o (by omega), mu_o (by omega), mu_at]
  have s7 : C 1 7 = Mc 8 7 := by rw [← hC, mu_o (by omega), mu_at]
  have s8 : C 1 8 = Mc 8 8 := by rw [← hC, mu_at]
  have dd2 : D 100 12 = Mm 100 42 := by rw [← hD, mu_o (by omega), mu_o (by omega), mu_at, Qo 100 (by omega) (by omega)]
  have dd3 : D 100 7 = Mm 100 43 := by rw [← hD, mu_o (by omega), mu_at, Qo 100 (by omega) (by omega)]
  have dd4 : D 100 4 = Mm 100 44 := by rw [← hD, mu_at, Qo 100 (by omega) (by omega)]
  have kI : KeptI C D k txt := by
    unfold KeptI
    rw [Co 8 (by omega), Co 9 (by omega), Co 10 (by omega), Co 11 (by omega), Co 12 (by omega), Co 13 (by omega), Co 14 (by omega), Do 111 (by omega) (by omega) (by omega) (by omega), Do 112 (by omega) (by omega) (by omega) (by omega), Do 106 (by omega) (by omega) (by omega) (by omega), Do 113 (by omega) (by omega) (by omega) (by omega), Ds 42 (by omega) (by omega) (by omega), Ds 43 (by omega) (by omega) (by omega), Ds 44 (by omega) (by omega) (by omega)]
    exact ⟨ks, km1, km2, km6, kh, kr⟩
  refine ⟨nI k, C, D, by rw [s6, km1], by rw [Qo 100 (by omega) (by omega), km2], k, txt, ⟨?_, ?_⟩, Or.inr ⟨by rw [Co 0 (by omega)]; exact b1, k, Nat.le_refl _, kI⟩, ?_, ?_, ?_⟩
  · rw [Do 106 (by omega) (by omega) (by omega) (by omega)]
    refine ks.cp km6 ?_ ?_ ?_ ?_ ?_ ?_ ?_ ?_ ?_
    · intro j hj; rw [← hC, mun (by omega), mun (by omega), mun (by omega), mcp_o (by omega), mcp_o (by omega), mcp_o (by omega), mcp_o (by omega), mcp_o (by omega), mcp_in hj]
    · intro j hj; rw [← hC, mun (by omega), mun (by omega), mun (by omega), mcp_o (by omega), mcp_o (by omega), mcp_o (by omega), mcp_o (by omega), mcp_in hj, mcp_o (by omega)]
    · intro j hj; rw [← hC, mun (by omega), mun (by omega), mun (by omega), mcp_o (by omega), mcp_o (by omega), mcp_o (by omega), mcp_in hj, mcp_o (by omega), mcp_o (by omega)]
    · intro j hj; rw [← hC, mun (by omega), mun (by omega), mun (by omega), mcp_o (by omega), mcp_o (by omega), mcp_in hj, mcp_o (by omega), mcp_o (by omega), mcp_o (by omega)]
    · intro j hj; rw [← hC, mun (by omega), mun (by omega), mun (by omega), mcp_o (by omega), mcp_in hj, mcp_o (by omega), mcp_o (by omega), mcp_o (by omega), mcp_o (by omega)]
    · intro j hj; rw [← hC, mun (by omega), mun (by omega), mun (by omega), mcp_in hj, mcp_o (by omega), mcp_o (by omega), mcp_o (by omega), mcp_o (by omega), mcp_o (by omega)]
    · intro j hj; rw [← hD, mun (by omega), mun (by omega), mun (by omega), mun (by omega), mun (by omega), q2 104 (by omega)]; exact p3 j hj
    · intro j hj
      have : j = 0 ∨ j = 1 := by omega
      rcases this with rfl | rfl
      · rw [← hD, mun (by omega), mun (by omega), mun (by omega), mu_o (by omega), mu_at, Qo 112 (by omega) (by omega)]
      · rw [← hD, mun (by omega), mun (by omega), mun (by omega), mu_at, Qo 112 (by omega) (by omega)]
    · intro j hj; rw [← hD, mun (by omega), mun (by omega), mun (by omega), mun (by omega), mun (by omega), q3 j hj, p2 113 (by omega)]
  · rw [s6, s7, s8, dd2, dd3, dd4]
    exact ⟨km1, km2, km6, kh, kr⟩
  · exact c.cg (fun q h1 h2 => Co q (by omega)) (Do 101 (by omega) (by omega) (by omega) (by omega)) (Do 102 (by omega) (by omega) (by omega) (by omega)) (Ds 3 (by omega) (by omega) (by omega))
  · obtain ⟨n, B, d1, d2, d3, d4, d5⟩ := d
    refine ⟨n, B, d1, d2, ⟨?_, fun j hj => ?_⟩, ?_, fun j hj => ?_⟩
    · rw [Co 34 (by omega)]; exact d3.1
    · rw [Co 35 (by omega)]; exact d3.2 j hj
    · rw [Ds 6 (by omega) (by omega) (by omega)]; exact d4
    · rw [Do 103 (by omega) (by omega) (by omega) (by omega)]; exact d5 j hj
  · intro s hs
    have := e s hs
    unfold ShI at this ⊢
    rw [Co _ (by omega), Co _ (by omega), Do 114 (by omega) (by omega) (by omega) (by omega), Do 115 (by omega) (by omega) (by omega) (by omega), Do 116 (by omega) (by omega) (by omega) (by omega), Do 117 (by omega) (by omega) (by omega) (by omega)]
    exact this
end
section
/-! ASKS AND COOK, both -/
section
variable {t : Tk} {k : Nat} {s1 s2 : Nat → Int32}
theorem kCr_cg (hk : k < 2) (h : ∀ j, j < 12 → s1 j = s2 j) {p : Nat} (hp : p < 6) : kCr t k s1 p = kCr t k s2 p := kCr_congr (h _ (by omega))
theorem tollN_cg (hk : k < 2) (h : ∀ j, j < 12 → s1 j = s2 j) : ∀ p, p ≤ 6 → tollN t k s1 p = tollN t k s2 p := by
  intro p
  induction p with
  | zero => intro _; rfl
  | succ p ih => intro hp; unfold tollN; rw [kCr_cg hk h (by omega), ih (by omega)]
theorem kToll_cg (hk : k < 2) (h : ∀ j, j < 12 → s1 j = s2 j) : kToll t k s1 = kToll t k s2 := tollN_cg hk h 6 (by omega)
theorem canN_cg (hk : k < 2) (h : ∀ j, j < 12 → s1 j = s2 j) : ∀ p, p ≤ 6 → canN t k s1 p = canN t k s2 p := by
  intro p
  induction p with
  | zero => intro _; rfl
  | succ p ih => intro hp; unfold canN; rw [kCr_cg hk h (by omega), ih (by omega), h _ (by omega)]
theorem kCan_cg (hk : k < 2) (h : ∀ j, j < 12 → s1 j = s2 j) : kCan t k s1 = kCan t k s2 := canN_cg hk h 6 (by omega)
theorem crN_cg (hk : k < 2) (h : ∀ j, j < 12 → s1 j = s2 j) : ∀ p, p ≤ 6 → crN t k s1 p = crN t k s2 p := by
  intro p
  induction p with
  | zero => intro _; rfl
  | succ p ih => intro hp; unfold crN; rw [kCr_cg hk h (by omega), ih (by omega)]
theorem kCk_cg (hk : k < 2) (h : ∀ j, j < 12 → s1 j = s2 j) : kCk t k s1 = kCk t k s2 := by unfold kCk; rw [kCan_cg hk h, kToll_cg hk h]
theorem kUse_cg (hk : k < 2) (h : ∀ j, j < 12 → s1 j = s2 j) : ∀ j, j < 12 → kUse t k s1 j = kUse t k s2 j := by
  intro j hj
  unfold kUse
  rw [kCr_cg hk h (by omega), h j hj]
end
theorem jmaxS {a b : Nat} (ha : a ≤ 99) (hb : b ≤ 99) : jmax 0 (nI b - nI a) = nI (b - a) := by
  by_cases c : a ≤ b
  · rw [pk_sub c]
    unfold jmax
    by_cases z : b - a = 0
    · rw [z]; rfl
    · rw [if_pos (show (0 : Int32) < nI (b - a) by rw [show (0 : Int32) = nI 0 from rfl, nIlt (by omega) (by omega)]; omega)]
  · unfold jmax
    have : (nI b - nI a).toInt = (b : Int) - a := by
      rw [Int32.toInt_sub, i_nI (by omega), i_nI (by omega), Int.bmod_eq_of_le (by omega) (by omega)]
    rw [if_neg (by rw [i_lt, this, show (0 : Int32).toInt = 0 from rfl]; omega), show b - a = 0 by omega]
    rfl
/-- what both make of a DISH -/
theorem tkBoth {Mc Mm : Mem} {many txt d : Nat} (a : HouseI Mc Mm many txt) (c : TextI Mc Mm txt) (hd : d < many) :
    ∃ t : Tk, TkM Mm d t ∧ (∀ Mc2 : Mem, KC Mc Mc2 → ∃ M1 : Mem, f_X0_takeUp (nI d) Mc2 = some M1 ∧ Took M1 t ∧ Sm Mc2 M1) ∧ ∃ b : Nat → Nat, ∀ p, p < 6 → b p ≤ 9 ∧ tD t p = nI (b p) := by
  obtain ⟨⟨hS, hP, hR⟩, hm1, hm2, hm6, ⟨hh, _⟩, hr, r, hr0, hr2⟩ := a
  obtain ⟨t1, t2, t3, t4⟩ := c
  obtain ⟨x1, x2⟩ := t4 r hr0
  obtain ⟨⟨r1, j, hj, r1b⟩, ⟨r2, n2, hn2, r2b⟩, ⟨r3, n3, hn3, r3b⟩, ⟨r4, r4b⟩⟩ := hR d hd
  refine ⟨tkC Mc d (evC Mc r), ⟨r1, r2, hh, fun i hi => (hP i hi).1, ⟨n3, hn3, r3.trans r3b, fun p hp => ?_, ?_⟩, ⟨j, by omega, r1b⟩, ⟨n2, hn2, r2b⟩, ?_, r, by omega, hr.trans hr2, x2⟩, fun Mc2 kc => ?_, fun p => n3 / 10 ^ (5 - p) % 10, fun p hp => ⟨Nat.le_of_lt_succ (Nat.mod_lt _ (by omega)), ?_⟩⟩
  · show ndg (Mc 6 d) p = ndg (nI n3) p
    rw [r3b]
  · show totN (Mc 6 d) 6 = totN (nI n3) 6
    rw [r3b]
  · intro s e1 e2 he
    exact evT_congr he
  · have e1 : Mc2 1 8 = nI r := by rw [kc 1 (by omega)]; exact hr2
    obtain ⟨M1, g1, g2, g3⟩ := takeUp_eq (M := Mc2) (d := d) (r := r) (by omega) (by omega) e1 (by rw [kc _ (by omega)]; exact x1)
    refine ⟨M1, g1, ?_, g3⟩
    have : tkC Mc2 d (evC Mc2 r) = tkC Mc d (evC Mc r) := by
      unfold tkC evC
      rw [kc 4 (by omega), kc 5 (by omega), kc 1 (by omega), kc 3 (by omega), kc 6 (by omega), kc (16 + 3 * r + 1) (by omega), kc (16 + 3 * r + 2) (by omega)]
    rw [← this]
    exact g2
  · show ndg (Mc 6 d) p = _
    rw [r3b, ndg_nI hn3 hp]
theorem kCr_nat {t : Tk} {k : Nat} {st : Nat → Int32} {b a : Nat → Nat} (hb : ∀ p, p < 6 → b p ≤ 9 ∧ tD t p = nI (b p)) (ha : ∀ j, j < 12 → a j ≤ 99 ∧ st j = nI (a j)) (hk : k < 2) {p : Nat} (hp : p < 6) : kCr t k st p = nI (b p - a (6 * k + p)) := by
  unfold kCr
  rw [(hb p hp).2, (ha (6 * k + p) (by omega)).2]
  exact jmaxS (ha _ (by omega)).1 (by have := (hb p hp).1; omega)
theorem canN_at {t : Tk} {k : Nat} {st : Nat → Int32} : ∀ n, canN t k st n = true → ∀ p, p < n → ¬ st (6 * (1 - k) + p) < kCr t k st p := by
  intro n
  induction n with
  | zero => intro _ p hp; omega
  | succ n ih =>
    intro h p hp
    unfold canN at h
    have h := Bool.and_eq_true_iff.mp h
    by_cases e : p = n
    · subst e
      have := h.2
      simpa using this
    · exact ih h.1 p (by omega)
/-- the stores stay between none and ninety-nine -/
theorem kUse_B {t : Tk} {k : Nat} {st : Nat → Int32} {b : Nat → Nat} (hb : ∀ p, p < 6 → b p ≤ 9 ∧ tD t p = nI (b p)) (hst : ∀ j, j < 12 → B99 (st j) 99) (hk : k < 2) (hc : kCan t k st = true) : ∀ j, j < 12 → B99 (kUse t k st j) 99 := by
  obtain ⟨a, ha⟩ : ∃ a : Nat → Nat, ∀ j, j < 12 → a j ≤ 99 ∧ st j = nI (a j) := by
    refine ⟨fun j => (st j).toNatClampNeg, fun j hj => ?_⟩
    obtain ⟨x, hx, he⟩ := hst j hj
    show (st j).toNatClampNeg ≤ 99 ∧ st j = nI (st j).toNatClampNeg
    rw [he, nI_clamp (by omega)]
    exact ⟨hx, rfl⟩
  intro j hj
  have hp : j % 6 < 6 := by omega
  have hcr := kCr_nat (t := t) (st := st) hb ha hk hp
  obtain ⟨b1, b2⟩ := hb (j % 6) hp
  obtain ⟨a1, a2⟩ := ha j hj
  unfold kUse
  rw [hcr]
  by_cases e : j / 6 = k
  · rw [if_pos e, b2, a2]
    have : 6 * k + j % 6 = j := by omega
    rw [this, pk_sub (by omega), pk_sub (by omega)]
    exact ⟨_, by omega, rfl⟩
  · rw [if_neg e, a2]
    have hn := canN_at 6 hc (j % 6) hp
    have hj2 : 6 * (1 - k) + j % 6 = j := by omega
    rw [hj2, hcr, a2, nIlt (by omega) (by omega)] at hn
    rw [pk_sub (by omega)]
    exact ⟨_, by omega, rfl⟩
theorem asks_op {Mc Mm : Mem} (h : Inv Mc Mm) (v1 v2 v3 : Int32) : OpI (f_X8_asks v1 v2 v3) (f_X9_asks v1 v2 v3) Mc Mm := by
  obtain ⟨many, txt, a, b, c, d, e⟩ := id h
  obtain ⟨hs0, hm1, hm2, hm6, hh, hr⟩ := id a
  unfold OpI f_X8_asks f_X9_asks
  rw [hasD hm1 hm6, isD hm2 hm6]
  simp only [Option.bind_some, zI_0]
  cases g1 : inR v1 many with
  | false => rw [bf, bf]; exact ⟨_, _, _, rfl, rfl, h⟩
  | true =>
    rw [bt, bt, hasK, isK]
    simp only [Option.bind_some, zI_0]
    cases g2 : inR v2 2 with
    | false => rw [bf, bf]; exact ⟨_, _, _, rfl, rfl, h⟩
    | true =>
      rw [bt, bt]
      obtain ⟨d1, hd1, rfl⟩ := inR_of g1 (by omega)
      obtain ⟨k, hk, rfl⟩ := inR_of g2 (by omega)
      obtain ⟨t, tm, tc, _⟩ := tkBoth a c hd1
      have hst : ∀ j, j < 12 → Mm 104 j = Mc 2 j := fun j hj => (hs0.1 j hj).1
      obtain ⟨M1, x1, x2, x3⟩ := tc Mc (KC.refl Mc)
      have st1 : M1 2 = Mc 2 := x3 2 (by omega)
      obtain ⟨M2, y1, y2, y3, y4, y5, y6⟩ := cross_eq (M := M1) (t := t) (k := k) (q2 := 2) x2.2.2.2.2.1 hk (by decide) (by decide) (by omega)
      have T2 : Took M2 t := x2.keep (fun j hj => y6 j (by omega) (by omega)) (fun p hp _ => y5 p (by omega) (by omega))
      obtain ⟨M3, z1, z2, z3, z4, z5, z6, z7⟩ := judge_eq (M := M2) (t := t) (k := k) (st := M1 2) hk T2 y2
      rw [x1]
      simp only [Option.bind_some]
      rw [y1]
      simp only [Option.bind_some]
      rw [z1]
      simp only [Option.bind_some]
      have kc : KC Mc M3 := x3.kc.tr (fun q hq => (z6 q (by omega) (by omega) (by omega) (by omega)).trans (y5 q (by omega) (by omega)))
      have e12 : M3 36 12 = zI (kCan t k (Mc 2)) := by rw [z7 12 (by omega) (by omega), y3, st1]
      have e13 : M3 36 13 = crN t k (Mc 2) 6 := by rw [z7 13 (by omega) (by omega), y4, st1]
      rw [st1] at z4 z5
      rw [show (6 : Int64) = (6 : Int32).toInt64 from rfl, inM (n := 7) (by decide)]
      simp only [Option.bind_some, zI_0]
      cases g3 : inR v3 7 with
      | false =>
        have ne := fun k (hk : k < 7) => ne_of_inR (k := k) g3 hk (by omega)
        have n0 : v3 ≠ 0 := ne 0 (by omega)
        have n1 : v3 ≠ 1 := ne 1 (by omega)
        have n2 : v3 ≠ 2 := ne 2 (by omega)
        have n3 : v3 ≠ 3 := ne 3 (by omega)
        have n4 : v3 ≠ 4 := ne 4 (by omega)
        have n5 : v3 ≠ 5 := ne 5 (by omega)
        have n6 : v3 ≠ 6 := ne 6 (by omega)
        rw [bf, if_neg n0, if_neg n1, if_neg n2, if_neg n3, if_neg n4, if_neg n5, if_neg n6]
        exact ⟨_, _, _, rfl, rfl, h.sc kc (KM.refl Mm)⟩
      | true =>
        rw [bt]
        obtain ⟨Mm1, w1, w2⟩ := tollOf_eq (by omega) hk tm
        rw [w1]
        simp only [Option.bind_some]
        have tm1 := tm.sm w2
        have m104 : Mm1 104 = Mm 104 := w2.1 104 (by omega)
        have hst1 : ∀ j, j < 12 → Mm1 104 j = Mc 2 j := fun j hj => by rw [m104]; exact hst j hj
        rw [kToll_cg hk hst]
        obtain ⟨y, hy, rfl⟩ := inR_of g3 (by omega)
        have zz : ∀ (bb : Bool) (P Q : Mem), (if zI bb = 0 then some ((0 : Int32), P) else some (1, P)) = some (zI bb, P) := fun bb P Q => by cases bb <;> rfl
        have cs : y = 0 ∨ y = 1 ∨ y = 2 ∨ y = 3 ∨ y = 4 ∨ y = 5 ∨ y = 6 := by omega
        rcases cs with rfl | rfl | rfl | rfl | rfl | rfl | rfl
        · refine ⟨zI (kCan t k (Mc 2)), M3, Mm1, ?_, ?_, h.sc kc w2.km⟩
          · rw [if_pos (by decide), e12]; exact zz _ _ M3
          · rw [if_neg (by decide), if_pos (by decide), canBe_eq (by omega) hk tm1, kCan_cg hk hst1]; exact zz _ _ Mm1
        · refine ⟨crN t k (Mc 2) 6, M3, Mm1, ?_, ?_, h.sc kc w2.km⟩
          · rw [if_neg (by decide), if_pos (by decide), e13]
          · rw [if_neg (by decide), if_neg (by decide), if_pos (by decide), crossAll_eq (by omega) hk tm1, crN_cg hk hst1 6 (by omega)]; rfl
        · refine ⟨kToll t k (Mc 2), M3, Mm1, ?_, ?_, h.sc kc w2.km⟩
          · rw [if_neg (by decide), if_neg (by decide), if_pos (by decide), z4]
          · rw [if_neg (by decide), if_neg (by decide), if_neg (by decide)]
        · obtain ⟨Mm2, u1, u2⟩ := sgM0_eq (by omega) hk tm1 (kToll t k (Mc 2))
          refine ⟨zI (kSg t k 0 (kToll t k (Mc 2))), M3, Mm2, ?_, ?_, h.sc kc (w2.km.tr u2.km)⟩
          · rw [if_neg (by decide), if_neg (by decide), if_neg (by decide), if_pos (by decide), z5 0 (by omega)]; exact zz _ _ M3
          · rw [if_pos (by decide), if_neg (by decide), show nI 3 - 3 = (0 : Int32) by decide, u1]; exact zz _ _ Mm2
        · obtain ⟨Mm2, u1, u2⟩ := sgM1_eq (by omega) hk tm1 (kToll t k (Mc 2))
          refine ⟨zI (kSg t k 1 (kToll t k (Mc 2))), M3, Mm2, ?_, ?_, h.sc kc (w2.km.tr u2.km)⟩
          · rw [if_neg (by decide), if_neg (by decide), if_neg (by decide), if_neg (by decide), if_pos (by decide), z5 1 (by omega)]; exact zz _ _ M3
          · rw [if_pos (by decide), if_neg (by decide), show nI 4 - 3 = (1 : Int32) by decide, u1]; exact zz _ _ Mm2
        · obtain ⟨Mm2, u1, u2⟩ := feedsOf_eq (by omega) hk tm1
          refine ⟨kFed t k, M3, Mm2, ?_, ?_, h.sc kc (w2.km.tr u2.km)⟩
          · rw [if_neg (by decide), if_neg (by decide), if_neg (by decide), if_neg (by decide), if_neg (by decide), if_pos (by decide), z3]
          · rw [if_pos (by decide), if_pos (by decide), if_pos (by decide), u1]; rfl
        · obtain ⟨Mm2, u1, u2⟩ := feedsOf_eq (by omega) hk tm1
          refine ⟨kFed t k - kToll t k (Mc 2), M3, Mm2, ?_, ?_, h.sc kc (w2.km.tr u2.km)⟩
          · rw [if_neg (by decide), if_neg (by decide), if_neg (by decide), if_neg (by decide), if_neg (by decide), if_neg (by decide), if_pos (by decide), worth_eq, z3, z4]; rfl
          · rw [if_pos (by decide), if_pos (by decide), if_neg (by decide), u1]; rfl
end
section
/-! COOK, both -/
def InvN (many txt : Nat) (Mc Mm : Mem) : Prop := HouseI Mc Mm many txt ∧ ImageI Mc Mm many txt ∧ TextI Mc Mm txt ∧ TapeI Mc Mm ∧ ∀ s, s < 4 → ShI Mc Mm s
theorem InvN.i {many txt : Nat} {Mc Mm : Mem} (h : InvN many txt Mc Mm) : Inv Mc Mm := ⟨many, txt, h⟩
theorem InvN.sc {many txt : Nat} {Mc Mm Mc1 Mm1 : Mem} (h : InvN many txt Mc Mm) (kc : KC Mc Mc1) (km : KM Mm Mm1) : InvN many txt Mc1 Mm1 := by
  obtain ⟨a, b, c, d, e⟩ := h
  refine ⟨?_, ?_, ?_, ?_, ?_⟩
  · unfold HouseI
    rw [kc 1 (by omega), kc 2 (by omega), kc 3 (by omega), kc 4 (by omega), kc 5 (by omega), kc 6 (by omega), kc 7 (by omega), km.1 105 (by omega) (by omega) (by omega) (by omega) (by omega), km.1 106 (by omega) (by omega) (by omega) (by omega) (by omega), km.1 107 (by omega) (by omega) (by omega) (by omega) (by omega), km.2.2 12 (by omega), km.2.2 7 (by omega), km.2.2 4 (by omega)]
    exact ⟨a.1.cg km.2.1, a.2⟩
  · unfold ImageI KeptI
    rw [kc 0 (by omega), kc 8 (by omega), kc 9 (by omega), kc 10 (by omega), kc 11 (by omega), kc 12 (by omega), kc 13 (by omega), kc 14 (by omega), km.1 111 (by omega) (by omega) (by omega) (by omega) (by omega), km.1 112 (by omega) (by omega) (by omega) (by omega) (by omega), km.1 106 (by omega) (by omega) (by omega) (by omega) (by omega), km.1 113 (by omega) (by omega) (by omega) (by omega) (by omega), km.2.2 42 (by omega), km.2.2 43 (by omega), km.2.2 44 (by omega)]
    exact b
  · exact c.cg (fun q h1 _ => kc q (by omega)) (km.1 101 (by omega) (by omega) (by omega) (by omega) (by omega)) (km.1 102 (by omega) (by omega) (by omega) (by omega) (by omega)) (km.2.2 3 (by omega))
  · obtain ⟨n, B, d1, d2, d3, d4, d5⟩ := d
    refine ⟨n, B, d1, d2, ⟨?_, fun j hj => ?_⟩, ?_, fun j hj => ?_⟩
    · rw [kc 34 (by omega)]; exact d3.1
    · rw [kc 35 (by omega)]; exact d3.2 j hj
    · rw [km.2.2 6 (by omega)]; exact d4
    · rw [km.1 103 (by omega) (by omega) (by omega) (by omega) (by omega)]; exact d5 j hj
  · intro s hs
    have := e s hs
    unfold ShI at this ⊢
    rw [kc _ (by omega), kc _ (by omega), km.1 114 (by omega) (by omega) (by omega) (by omega) (by omega), km.1 115 (by omega) (by omega) (by omega) (by omega) (by omega), km.1 116 (by omega) (by omega) (by omega) (by omega) (by omega), km.1 117 (by omega) (by omega) (by omega) (by omega) (by omega)]
    exact this
theorem within999 {x : Nat} (h : x ≤ 999) (M : Mem) : f_X9_within (nI x + 1) 0 999 M = some (jmin 999 (nI x + 1), M) ∧ B99 (jmin 999 (nI x + 1)) 999 := by
  rw [nIp]
  unfold f_X9_within jmin
  rw [if_pos (show (0 : Int32) ≤ nI (x + 1) by rw [show (0 : Int32) = nI 0 from rfl, nIle (by omega) (by omega)]; omega), show (999 : Int32) = nI 999 from rfl]
  by_cases c : x + 1 ≤ 999
  · rw [if_pos (by rw [nIle (by omega) (by omega)]; exact c)]
    by_cases c2 : x + 1 < 999
    · rw [if_pos (by rw [nIlt (by omega) (by omega)]; exact c2)]
      exact ⟨rfl, x + 1, c, rfl⟩
    · rw [if_neg (by rw [nIlt (by omega) (by omega)]; exact c2), show x + 1 = 999 by omega]
      exact ⟨rfl, 999, by omega, rfl⟩
  · rw [if_neg (by rw [nIle (by omega) (by omega)]; exact c), if_neg (by rw [nIlt (by omega) (by omega)]; omega)]
    exact ⟨rfl, 999, by omega, rfl⟩
/-- one more of a dish is counted -/
theorem countBoth {Mc Mm : Mem} {many txt d : Nat} (a : HouseI Mc Mm many txt) (hd : d < many) : ∃ x : Int32, B99 x 999 ∧ f_X1_countCooked (nI d) Mc = some (mu Mc 7 d x) ∧ f_X9_counts (nI d) Mm = some (mu Mm 107 (3 * d + 2) x) := by
  obtain ⟨⟨hS, hP, hR⟩, hm1, hm2, hm6, hh, hr⟩ := a
  obtain ⟨r1, r2, r3, ⟨r4, n4, hn4, r4b⟩⟩ := hR d hd
  obtain ⟨w1, w2⟩ := within999 hn4 Mm
  refine ⟨jmin 999 (nI n4 + 1), w2, ?_, ?_⟩
  · unfold f_X1_countCooked
    rw [inb_nI (show d < 6 by omega) (by omega), nI_clamp (by omega), r4b]
    rfl
  · unfold f_X9_counts
    rw [show (3 : Int32) = nI 3 from rfl, show (2 : Int32) = nI 2 from rfl, pk_mul, nI_add, inb_nI (show 3 * d + 2 < 18 by omega) (by omega), nI_clamp (by omega), r4, r4b, w1]
    rfl
theorem InvN.count {many txt d : Nat} {Mc Mm : Mem} (h : InvN many txt Mc Mm) (hd : d < many) {x : Int32} (hx : B99 x 999) : InvN many txt (mu Mc 7 d x) (mu Mm 107 (3 * d + 2) x) := by
  obtain ⟨a, b, c, dd, e⟩ := h
  obtain ⟨⟨hS, hP, hR⟩, hm1, hm2, hm6, hh, hr⟩ := id a
  refine ⟨⟨⟨fun j hj => ?_, fun j hj => ?_, fun j hj => ?_⟩, ?_⟩, ?_, ?_, ?_, fun s hs => ?_⟩
  · rw [mun (by omega), mun (by omega)]; exact hS j hj
  · rw [mun (by omega), mun (by omega)]; exact hP j hj
  · obtain ⟨r1, r2, r3, r4⟩ := hR j hj
    rw [mun (show 4 ≠ 7 by omega), mun (show 5 ≠ 7 by omega), mun (show 6 ≠ 7 by omega), mun (show 106 ≠ 107 by omega), mu_o (show 3 * j ≠ 3 * d + 2 by omega), mu_o (show 3 * j + 1 ≠ 3 * d + 2 by omega)]
    refine ⟨r1, r2, r3, ?_⟩
    by_cases ej : j = d
    · rw [ej, mu_at, mu_at]; exact ⟨rfl, hx⟩
    · rw [mu_o ej, mu_o (show 3 * j + 2 ≠ 3 * d + 2 by omega)]; exact r4
  · rw [mun (by omega), mun (by omega)]; exact ⟨hm1, hm2, hm6, hh, hr⟩
  · unfold ImageI KeptI
    rw [mun (show 0 ≠ 7 by omega), mun (show 8 ≠ 7 by omega), mun (show 9 ≠ 7 by omega), mun (show 10 ≠ 7 by omega), mun (show 11 ≠ 7 by omega), mun (show 12 ≠ 7 by omega), mun (show 13 ≠ 7 by omega), mun (show 14 ≠ 7 by omega), mun (show 100 ≠ 107 by omega), mun (show 111 ≠ 107 by omega), mun (show 112 ≠ 107 by omega), mun (show 106 ≠ 107 by omega), mun (show 113 ≠ 107 by omega)]
    exact b
  · exact c.cg (fun q h1 h2 => mun (by omega)) (mun (by omega)) (mun (by omega)) (by rw [mun (by omega)])
  · obtain ⟨n, B, d1, d2, d3, d4, d5⟩ := dd
    refine ⟨n, B, d1, d2, ⟨?_, fun j hj => ?_⟩, ?_, fun j hj => ?_⟩
    · rw [mun (by omega)]; exact d3.1
    · rw [mun (by omega)]; exact d3.2 j hj
    · rw [mun (by omega)]; exact d4
    · rw [mun (by omega)]; exact d5 j hj
  · have := e s hs
    unfold ShI at this ⊢
    rw [mun (show 55 + 2 * s ≠ 7 by omega), mun (show 56 + 2 * s ≠ 7 by omega), mun (show 114 ≠ 107 by omega), mun (show 115 ≠ 107 by omega), mun (show 116 ≠ 107 by omega), mun (show 117 ≠ 107 by omega)]
    exact this
/-- the stores change alike -/
theorem InvN.store {many txt : Nat} {Mc Mm Mc1 Mm1 : Mem} (h : InvN many txt Mc Mm) (hc : ∀ q, q ≠ 2 → Mc1 q = Mc q) (hm : ∀ q, q ≠ 104 → Mm1 q = Mm q) (hs : ∀ j, j < 12 → Mm1 104 j = Mc1 2 j ∧ B99 (Mc1 2 j) 99) : InvN many txt Mc1 Mm1 := by
  obtain ⟨a, b, c, d, e⟩ := h
  obtain ⟨⟨hS, hP, hR⟩, hm1, hm2, hm6, hh, hr⟩ := id a
  refine ⟨⟨⟨hs, fun j hj => ?_, fun j hj => ?_⟩, ?_⟩, ?_, ?_, ?_, fun s hs => ?_⟩
  · rw [hc 3 (by omega), hm 105 (by omega)]; exact hP j hj
  · rw [hc 4 (by omega), hc 5 (by omega), hc 6 (by omega), hc 7 (by omega), hm 106 (by omega), hm 107 (by omega)]; exact hR j hj
  · rw [hc 1 (by omega), hm 100 (by omega)]; exact ⟨hm1, hm2, hm6, hh, hr⟩
  · unfold ImageI KeptI
    rw [hc 0 (by omega), hc 8 (by omega), hc 9 (by omega), hc 10 (by omega), hc 11 (by omega), hc 12 (by omega), hc 13 (by omega), hc 14 (by omega), hm 100 (by omega), hm 111 (by omega), hm 112 (by omega), hm 106 (by omega), hm 113 (by omega)]
    exact b
  · exact c.cg (fun q h1 h2 => hc q (by omega)) (hm 101 (by omega)) (hm 102 (by omega)) (by rw [hm 100 (by omega)])
  · obtain ⟨n, B, d1, d2, d3, d4, d5⟩ := d
    refine ⟨n, B, d1, d2, ⟨?_, fun j hj => ?_⟩, ?_, fun j hj => ?_⟩
    · rw [hc 34 (by omega)]; exact d3.1
    · rw [hc 35 (by omega)]; exact d3.2 j hj
    · rw [hm 100 (by omega)]; exact d4
    · rw [hm 103 (by omega)]; exact d5 j hj
  · have := e s hs
    unfold ShI at this ⊢
    rw [hc _ (by omega), hc _ (by omega), hm 114 (by omega), hm 115 (by omega), hm 116 (by omega), hm 117 (by omega)]
    exact this
theorem kCk_can {t : Tk} {k : Nat} {st : Nat → Int32} (h : kCk t k st = true) : kCan t k st = true := (Bool.and_eq_true_iff.mp h).1
theorem cook_op {Mc Mm : Mem} (h : Inv Mc Mm) (v1 v2 : Int32) : OpI (f_X8_cook v1 v2) (f_X9_cook v1 v2) Mc Mm := by
  obtain ⟨many, txt, hN⟩ := id h
  have hN : InvN many txt Mc Mm := hN
  obtain ⟨a, b, c, d, e⟩ := id hN
  obtain ⟨hs0, hm1, hm2, hm6, hh, hr⟩ := id a
  unfold OpI f_X8_cook f_X9_cook
  rw [hasD hm1 hm6, isD hm2 hm6]
  simp only [Option.bind_some, zI_0]
  cases g1 : inR v1 many with
  | false => rw [bf, bf]; exact ⟨_, _, _, rfl, rfl, h⟩
  | true =>
    rw [bt, bt, hasK, isK]
    simp only [Option.bind_some, zI_0]
    cases g2 : inR v2 2 with
    | false => rw [bf, bf]; exact ⟨_, _, _, rfl, rfl, h⟩
    | true =>
      rw [bt, bt]
      obtain ⟨d1, hd1, rfl⟩ := inR_of g1 (by omega)
      obtain ⟨k, hk, rfl⟩ := inR_of g2 (by omega)
      obtain ⟨t, tm, tc, bb, hb⟩ := tkBoth a c hd1
      have hst : ∀ j, j < 12 → Mm 104 j = Mc 2 j := fun j hj => (hs0.1 j hj).1
      obtain ⟨M1, x1, x2, x3⟩ := tc Mc (KC.refl Mc)
      have st1 : M1 2 = Mc 2 := x3 2 (by omega)
      obtain ⟨M2, y1, y2, y3, y4, y5, y6⟩ := isCooked_eq (t := t) (k := k) (q := 2) hk x2 (Or.inl rfl)
      rw [st1] at y1 y4 y5 y6
      have kc2 : KC Mc M2 := x3.kc.tr y3.kc
      rw [x1]
      simp only [Option.bind_some]
      rw [y1]
      simp only [Option.bind_some, zI_0]
      rw [canBe_eq (by omega) hk tm, kCan_cg hk hst]
      simp only [Option.bind_some, zI_0]
      obtain ⟨Mm1, w1, w2⟩ := isRatified_eq (by omega) hk tm
      cases hcan : kCan t k (Mc 2) with
      | false =>
        have hck : kCk t k (Mc 2) = false := by unfold kCk; rw [hcan]; rfl
        rw [hck, bf, bf, y4, hcan]
        exact ⟨_, _, _, rfl, rfl, (hN.sc kc2 (KM.refl Mm)).i⟩
      | true =>
        rw [bt, w1]
        simp only [Option.bind_some, zI_0]
        have hrat : kCk t k (Mc 2) = kRat t k (Mm 104) := by rw [← kCk_cg hk hst, kCk_eq, kCan_cg hk hst, hcan]; rfl
        rw [hrat]
        cases hr1 : kRat t k (Mm 104) with
        | false =>
          rw [bf, bf, y4, hcan]
          exact ⟨_, _, _, rfl, rfl, (hN.sc kc2 w2.km).i⟩
        | true =>
          rw [bt, bt]
          have tm1 := tm.sm w2
          obtain ⟨Mm2, u1, u2⟩ := feedsOf_eq (by omega) hk tm1
          have tm2 := tm1.sm u2
          obtain ⟨Mm3, o1, o2⟩ := tollOf_eq (by omega) hk tm2
          have tm3 := tm2.sm o2
          obtain ⟨Mm4, i1, i2, i3⟩ := uses_eq (by omega) hk tm3
          have m2 : Mm2 104 = Mm 104 := by rw [u2.1 104 (by omega), w2.1 104 (by omega)]
          have m3 : Mm3 104 = Mm 104 := by rw [o2.1 104 (by omega), m2]
          obtain ⟨M3, j1, j2, j3⟩ := useUp_eq (M := M2) (t := t) (k := k) (q := 2) hk (Or.inl rfl) y2.2.2.2.2.1 (fun i hi => by rw [y6 i hi, y3 2 (by omega), st1])
          have m22 : M2 2 = Mc 2 := by rw [y3 2 (by omega), st1]
          rw [m22] at j2
          have hN2 : InvN many txt M2 Mm3 := hN.sc kc2 ((w2.km.tr u2.km).tr o2.km)
          have hN3 : InvN many txt M3 Mm4 := hN2.store j3 i3 (fun j hj => by
            rw [i2 j hj, j2 j hj, m3]
            exact ⟨kUse_cg hk hst j hj, kUse_B hb (fun j hj => (hs0.1 j hj).2) hk hcan j hj⟩)
          obtain ⟨x, hx, c1, c2⟩ := countBoth hN3.1 hd1
          rw [u1, j1]
          simp only [Option.bind_some]
          rw [o1, c1]
          simp only [Option.bind_some]
          rw [i1]
          simp only [Option.bind_some]
          rw [c2]
          simp only [Option.bind_some, worth_eq]
          obtain ⟨f1, f2⟩ := y5 hcan
          refine ⟨kFed t k - kToll t k (Mc 2), _, _, ?_, ?_, (hN3.count hd1 hx).i⟩
          · rw [mun (by omega), j3 36 (by omega), f1, f2]
          · rw [m2, kToll_cg hk hst]
end
section
/-! TAKEN; SHEETS -/
def undB (a b : Nat) : Bool := a == b || b == 0 || (a == 3 && b == 1) || (a == 4 && b == 2)
theorem under_eq (M : Mem) : ∀ a b, a < 6 → b < 6 → f_X2_isUnder (nI a) (nI b) M = some (zI (undB a b), M) := by
  intro a b ha hb
  match a, b, ha, hb with
  | 0, 0, _, _ => rfl
  | 0, 1, _, _ => rfl
  | 0, 2, _, _ => rfl
  | 0, 3, _, _ => rfl
  | 0, 4, _, _ => rfl
  | 0, 5, _, _ => rfl
  | 1, 0, _, _ => rfl
  | 1, 1, _, _ => rfl
  | 1, 2, _, _ => rfl
  | 1, 3, _, _ => rfl
  | 1, 4, _, _ => rfl
  | 1, 5, _, _ => rfl
  | 2, 0, _, _ => rfl
  | 2, 1, _, _ => rfl
  | 2, 2, _, _ => rfl
  | 2, 3, _, _ => rfl
  | 2, 4, _, _ => rfl
  | 2, 5, _, _ => rfl
  | 3, 0, _, _ => rfl
  | 3, 1, _, _ => rfl
  | 3, 2, _, _ => rfl
  | 3, 3, _, _ => rfl
  | 3, 4, _, _ => rfl
  | 3, 5, _, _ => rfl
  | 4, 0, _, _ => rfl
  | 4, 1, _, _ => rfl
  | 4, 2, _, _ => rfl
  | 4, 3, _, _ => rfl
  | 4, 4, _, _ => rfl
  | 4, 5, _, _ => rfl
  | 5, 0, _, _ => rfl
  | 5, 1, _, _ => rfl
  | 5, 2, _, _ => rfl
  | 5, 3, _, _ => rfl
  | 5, 4, _, _ => rfl
  | 5, 5, _, _ => rfl
theorem over_eq (k : Int32 → Int32 → Int32 → Mem → Option (Int32 × Mem)) (v : Int32) (M : Mem) : ∀ a b, a < 6 → b < 6 → f_X9_taken_l33 k FU v (nI b) (nI a) M = k v (nI b) (if undB a b = true then nI b else -1) M := by
  intro a b ha hb
  match a, b, ha, hb with
  | 0, 0, _, _ => rfl
  | 0, 1, _, _ => rfl
  | 0, 2, _, _ => rfl
  | 0, 3, _, _ => rfl
  | 0, 4, _, _ => rfl
  | 0, 5, _, _ => rfl
  | 1, 0, _, _ => rfl
  | 1, 1, _, _ => rfl
  | 1, 2, _, _ => rfl
  | 1, 3, _, _ => rfl
  | 1, 4, _, _ => rfl
  | 1, 5, _, _ => rfl
  | 2, 0, _, _ => rfl
  | 2, 1, _, _ => rfl
  | 2, 2, _, _ => rfl
  | 2, 3, _, _ => rfl
  | 2, 4, _, _ => rfl
  | 2, 5, _, _ => rfl
  | 3, 0, _, _ => rfl
  | 3, 1, _, _ => rfl
  | 3, 2, _, _ => rfl
  | 3, 3, _, _ => rfl
  | 3, 4, _, _ => rfl
  | 3, 5, _, _ => rfl
  | 4, 0, _, _ => rfl
  | 4, 1, _, _ => rfl
  | 4, 2, _, _ => rfl
  | 4, 3, _, _ => rfl
  | 4, 4, _, _ => rfl
  | 4, 5, _, _ => rfl
  | 5, 0, _, _ => rfl
  | 5, 1, _, _ => rfl
  | 5, 2, _, _ => rfl
  | 5, 3, _, _ => rfl
  | 5, 4, _, _ => rfl
  | 5, 5, _, _ => rfl
theorem taken_op {Mc Mm : Mem} (h : Inv Mc Mm) (v1 v2 : Int32) : OpI (f_X8_taken v1 v2) (f_X9_taken v1 v2) Mc Mm := by
  obtain ⟨many, txt, a, b, c, d, e⟩ := id h
  obtain ⟨⟨hS, hP, hR⟩, hm1, hm2, hm6, hh, hr⟩ := id a
  unfold OpI f_X8_taken f_X9_taken
  rw [inC4 (b := 6) (n := 6) rfl (by omega), show (5 : Int64) = (5 : Int32).toInt64 from rfl, inM (n := 6) (by decide)]
  simp only [Option.bind_some, zI_0]
  cases g1 : inR v2 6 with
  | false => rw [bf, ft]; exact ⟨_, _, _, rfl, rfl, h⟩
  | true =>
    rw [bt, tt, hasD hm1 hm6, isD hm2 hm6]
    simp only [Option.bind_some, zI_0]
    cases g2 : inR v1 many with
    | false => rw [bf, bf]; exact ⟨_, _, _, rfl, rfl, h⟩
    | true =>
      rw [bt, bt]
      obtain ⟨y, hy, rfl⟩ := inR_of g1 (by omega)
      obtain ⟨d1, hd1, rfl⟩ := inR_of g2 (by omega)
      obtain ⟨⟨r1, kk, hk, r1b⟩, ⟨r2, n2, hn2, r2b⟩, _⟩ := hR d1 hd1
      rw [inb_nI (show d1 < 6 by omega) (by omega), nI_clamp (show d1 < 2 ^ 31 by omega), r1, r1b, under_eq Mc kk y (by omega) hy, over_eq _ _ _ kk y (by omega) hy]
      simp only [ck_true, Option.bind_some, zI_0]
      unfold f_X9_taken_b51
      cases hu : undB kk y with
      | false =>
        rw [bf, ft, if_neg (show ¬ (-1 : Int32) = nI y from fun hx => nI_pos (n := y) (by omega) (by rw [← hx]; decide))]
        exact ⟨_, _, _, rfl, rfl, h⟩
      | true =>
        rw [bt, tt, if_pos rfl, show (3 : Int32) = nI 3 from rfl, pk_mul, inb_nI (show 3 * d1 < 18 by omega) (by omega), nI_clamp (by omega), r2]
        exact ⟨_, _, _, rfl, rfl, h⟩
/-- only sheets change -/
theorem InvN.sheet {many txt : Nat} {Mc Mm Mc1 Mm1 : Mem} (h : InvN many txt Mc Mm) (hc : ∀ q, (q < 55 ∨ 62 < q) → Mc1 q = Mc q) (hm : ∀ q, (q < 114 ∨ 117 < q) → Mm1 q = Mm q) (hs : ∀ s, s < 4 → ShI Mc1 Mm1 s) : InvN many txt Mc1 Mm1 := by
  obtain ⟨a, b, c, d, e⟩ := h
  refine ⟨?_, ?_, ?_, ?_, hs⟩
  · unfold HouseI
    rw [hc 1 (by omega), hc 2 (by omega), hc 3 (by omega), hc 4 (by omega), hc 5 (by omega), hc 6 (by omega), hc 7 (by omega), hm 100 (by omega), hm 104 (by omega), hm 105 (by omega), hm 106 (by omega), hm 107 (by omega)]
    exact a
  · unfold ImageI KeptI
    rw [hc 0 (by omega), hc 8 (by omega), hc 9 (by omega), hc 10 (by omega), hc 11 (by omega), hc 12 (by omega), hc 13 (by omega), hc 14 (by omega), hm 100 (by omega), hm 111 (by omega), hm 112 (by omega), hm 106 (by omega), hm 113 (by omega)]
    exact b
  · exact c.cg (fun q h1 h2 => hc q (by omega)) (hm 101 (by omega)) (hm 102 (by omega)) (by rw [hm 100 (by omega)])
  · obtain ⟨n, B, d1, d2, d3, d4, d5⟩ := d
    refine ⟨n, B, d1, d2, ⟨?_, fun j hj => ?_⟩, ?_, fun j hj => ?_⟩
    · rw [hc 34 (by omega)]; exact d3.1
    · rw [hc 35 (by omega)]; exact d3.2 j hj
    · rw [hm 100 (by omega)]; exact d4
    · rw [hm 103 (by omega)]; exact d5 j hj
theorem sh_kd : ∀ s, s < 4 → kd (55 + 2 * s) = 5 ∧ kd (55 + 2 * s + 1) = 10 ∧ ln (55 + 2 * s + 1) = 40 := by decide +kernel
theorem become_l {s : Nat} (hs : s < 4) : ∀ m i fuel (M : Mem), i + m = 40 → m < fuel → ∃ M1 : Mem, f_X6_become_l12 fuel (55 + 2 * s) (nI i) M = some M1 ∧ (∀ q, q ≠ 55 + 2 * s + 1 → M1 q = M q) ∧ (∀ j, i ≤ j → j < 40 → M1 (55 + 2 * s + 1) j = 0) ∧ ∀ j, j < i → M1 (55 + 2 * s + 1) j = M (55 + 2 * s + 1) j := by
  obtain ⟨k1, k2, k3⟩ := sh_kd s hs
  intro m
  induction m with
  | zero =>
    intro i fuel M hi hf
    obtain ⟨f, rfl⟩ : ∃ f, fuel = f + 1 := ⟨fuel - 1, by omega⟩
    rw [f_X6_become_l12, if_pos (by rw [show (40 : Int32) = nI 40 from rfl, nIle (by omega) (by omega)]; omega)]
    exact ⟨M, rfl, fun _ _ => rfl, fun j h1 h2 => by omega, fun _ _ => rfl⟩
  | succ m ih =>
    intro i fuel M hi hf
    obtain ⟨f, rfl⟩ : ∃ f, fuel = f + 1 := ⟨fuel - 1, by omega⟩
    rw [f_X6_become_l12, if_neg (by rw [show (40 : Int32) = nI 40 from rfl, nIle (by omega) (by omega)]; omega), k1, k2, k3, inb_nI (show i < 40 by omega) (by omega), nI_clamp (by omega), nIp]
    obtain ⟨M1, e1, e2, e3, e4⟩ := ih (i + 1) f (mu M (55 + 2 * s + 1) i 0) (by omega) (by omega)
    refine ⟨M1, e1, fun q hq => (e2 q hq).trans (mun hq), fun j h1 h2 => ?_, fun j hj => (e4 j (by omega)).trans (mu_o (by omega))⟩
    by_cases ej : j = i
    · rw [ej, e4 i (by omega), mu_at]
    · exact e3 j (by omega) h2
theorem become_eq {s : Nat} (hs : s < 4) (M : Mem) (v1 v2 : Int32) : ∃ M1 : Mem, f_X6_become (55 + 2 * s) v1 v2 M = some M1 ∧ (∀ q, q ≠ 55 + 2 * s → q ≠ 55 + 2 * s + 1 → M1 q = M q) ∧ M1 (55 + 2 * s) 0 = v1 ∧ M1 (55 + 2 * s) 1 = v2 ∧ ∀ j, j < 40 → M1 (55 + 2 * s + 1) j = 0 := by
  obtain ⟨k1, k2, k3⟩ := sh_kd s hs
  obtain ⟨M1, e1, e2, e3, e4⟩ := become_l hs 40 0 FU (mu (mu M (55 + 2 * s) 0 v1) (55 + 2 * s) 1 v2) (by omega) (by have := FU_ge; omega)
  refine ⟨M1, ?_, fun q h1 h2 => ?_, ?_, ?_, fun j hj => e3 j (by omega) hj⟩
  · unfold f_X6_become
    rw [k1, show (0 : Int32) = nI 0 from rfl]
    simp only [beq_self_eq_true, ck_true]
    exact e1
  · rw [e2 q h2, mun h1, mun h1]
  · rw [e2 _ (by omega), mu_o (by omega), mu_at]
  · rw [e2 _ (by omega), mu_at]
theorem sheetM_l {s z : Nat} (hs : s < 4) (hz : z ≤ 40) {v2 : Int32} (h2 : ¬ v2 < 0) : ∀ m i fuel (M : Mem), i + m = z → m < fuel → ∃ M1 : Mem, f_X9_sheet_l77 fuel (nI s) v2 (nI z) (nI i) M = some (1, M1) ∧ (∀ q, q ≠ 117 → M1 q = M q) ∧ (∀ j, i ≤ j → j < z → M1 117 (40 * s + j) = 0) ∧ ∀ j, (j < 40 * s + i ∨ 40 * s + z ≤ j) → M1 117 j = M 117 j := by
  intro m
  induction m with
  | zero =>
    intro i fuel M hi hf
    obtain ⟨f, rfl⟩ : ∃ f, fuel = f + 1 := ⟨fuel - 1, by omega⟩
    rw [f_X9_sheet_l77, if_pos (nI_le (by omega) (by omega))]
    exact ⟨M, rfl, fun _ _ => rfl, fun j h1 h2 => by omega, fun _ _ => rfl⟩
  | succ m ih =>
    intro i fuel M hi hf
    obtain ⟨f, rfl⟩ : ∃ f, fuel = f + 1 := ⟨fuel - 1, by omega⟩
    rw [f_X9_sheet_l77, if_neg (nI_ge (by omega) (by omega)), if_neg h2, show (40 : Int32) = nI 40 from rfl, pk_mul, nI_add, inb_nI (show 40 * s + i < 160 by omega) (by omega), nI_clamp (by omega), nIp]
    obtain ⟨M1, e1, e2, e3, e4⟩ := ih (i + 1) f (mu M 117 (40 * s + i) 0) (by omega) (by omega)
    refine ⟨M1, e1, fun q hq => (e2 q hq).trans (mun hq), fun j h1 h2 => ?_, fun j hj => (e4 j (by omega)).trans (mu_o (by omega))⟩
    by_cases ej : j = i
    · rw [ej, e4 _ (by omega), mu_at]
    · exact e3 j (by omega) h2
theorem sheetM_eq {s so z : Nat} (hs : s < 4) (hso : so < 3) (hz : z ≤ 40) (M : Mem) : ∃ M1 : Mem, f_X9_sheet_b34 (nI s) (nI so) (nI z) M = some (1, M1) ∧ (∀ q, (q < 114 ∨ 117 < q) → M1 q = M q) ∧ M1 114 s = 1 ∧ M1 115 s = nI so ∧ M1 116 s = nI z ∧ (∀ j, j < z → M1 117 (40 * s + j) = 0) ∧ (∀ j, j ≠ s → M1 114 j = M 114 j ∧ M1 115 j = M 115 j ∧ M1 116 j = M 116 j) ∧ ∀ j, (j < 40 * s ∨ 40 * s + 40 ≤ j) → M1 117 j = M 117 j := by
  have n0 : ¬ nI so < 0 := nI_pos (by omega)
  obtain ⟨M1, e1, e2, e3, e4⟩ := sheetM_l hs hz n0 z 0 FU (mu (mu (mu M 114 s 1) 115 s (nI so)) 116 s (nI z)) (by omega) (by have := FU_ge; omega)
  refine ⟨M1, ?_, fun q hq => ?_, ?_, ?_, ?_, fun j hj => e3 j (by omega) hj, fun j hj => ⟨?_, ?_, ?_⟩, fun j hj => ?_⟩
  · unfold f_X9_sheet_b34 f_X9_sheet_b45 f_X9_sheet_b59
    rw [if_neg n0, if_pos (show (0 : Int32) ≤ nI z from by rw [show (0 : Int32) = nI 0 from rfl, nIle (by omega) (by omega)]; omega), if_neg n0, inb_nI hs (by omega), nI_clamp (by omega)]
    exact e1
  · rw [e2 q (by omega), mun (by omega), mun (by omega), mun (by omega)]
  · rw [e2 114 (by omega), mun (by omega), mun (by omega), mu_at]
  · rw [e2 115 (by omega), mun (by omega), mu_at]
  · rw [e2 116 (by omega), mu_at]
  · rw [e2 114 (by omega), mun (by omega), mun (by omega), mu_o hj]
  · rw [e2 115 (by omega), mun (by omega), mu_o hj, mun (by omega)]
  · rw [e2 116 (by omega), mu_o hj, mun (by omega), mun (by omega)]
  · rw [e4 j (by omega), mun (by omega), mun (by omega), mun (by omega)]
/-- a sheet is laid anew, by both -/
theorem layBoth {many txt s so z : Nat} {Mc Mm : Mem} (h : InvN many txt Mc Mm) (hs : s < 4) (hso : so < 3) (hz : z ≤ 40) :
    ∃ Mc1 Mm1 : Mem, f_X6_become (55 + 2 * s) (nI so) (nI z) Mc = some Mc1 ∧ f_X9_sheet_b34 (nI s) (nI so) (nI z) Mm = some (1, Mm1) ∧ InvN many txt Mc1 Mm1 ∧ (∀ q, (q < 55 ∨ 62 < q) → Mc1 q = Mc q) ∧ (∀ q, (q < 114 ∨ 117 < q) → Mm1 q = Mm q) ∧ Mc1 (55 + 2 * s) 0 = nI so ∧ Mc1 (55 + 2 * s) 1 = nI z := by
  obtain ⟨C, c1, c2, c3, c4, c5⟩ := become_eq hs Mc (nI so) (nI z)
  obtain ⟨D, d1, d2, d3, d4, d5, d6, d7, d8⟩ := sheetM_eq hs hso hz Mm
  refine ⟨C, D, c1, d1, h.sheet (fun q hq => c2 q (by omega) (by omega)) d2 (fun s2 hs2 => ?_), (fun q hq => c2 q (by omega) (by omega)), d2, c3, c4⟩
  by_cases es : s2 = s
  · subst es
    refine Or.inr ⟨so, z, hso, hz, c3, d4, c4, d5, d3, fun i hi => ?_⟩
    rw [d6 i hi, show 56 + 2 * s2 = 55 + 2 * s2 + 1 by omega, c5 i (by omega)]
  · have := h.2.2.2.2 s2 hs2
    unfold ShI at this ⊢
    obtain ⟨x1, x2, x3⟩ := d7 s2 es
    rw [c2 (55 + 2 * s2) (by omega) (by omega), c2 (56 + 2 * s2) (by omega) (by omega), x1, x2, x3]
    rcases this with t | ⟨so2, z2, t1, t2, t3, t4, t5, t6, t7, t8⟩
    · exact Or.inl t
    · exact Or.inr ⟨so2, z2, t1, t2, t3, t4, t5, t6, t7, fun i hi => by rw [d8 _ (by omega)]; exact t8 i hi⟩
theorem sheet_op {Mc Mm : Mem} (h : Inv Mc Mm) (v1 v2 v3 : Int32) : OpI (f_X8_sheet v1 v2 v3) (f_X9_sheet v1 v2 v3) Mc Mm := by
  obtain ⟨many, txt, hN⟩ := id h
  have hN : InvN many txt Mc Mm := hN
  unfold OpI f_X8_sheet f_X9_sheet
  rw [hasS, isS]
  simp only [Option.bind_some, zI_0]
  cases g1 : inR v1 4 with
  | false => rw [bf, bf]; exact ⟨_, _, _, rfl, rfl, h⟩
  | true =>
    rw [bt, bt]
    obtain ⟨s, hs, rfl⟩ := inR_of g1 (by omega)
    obtain ⟨k1, k2, k3⟩ := sh_kd s hs
    rw [show (-1 : Int64) = (-1 : Int32).toInt64 from rfl, show (2 : Int64) = (2 : Int32).toInt64 from rfl, in_eq]
    simp only [Option.bind_some, zI_0]
    rw [inb_nI hs (by omega), nI_clamp (show s < 2 ^ 31 by omega), k1]
    simp only [ck_true, beq_self_eq_true]
    by_cases c1 : v2 < -1
    · rw [decide_eq_true c1, if_pos c1, if_pos (by rfl)]
      exact ⟨_, _, _, rfl, rfl, h⟩
    · rw [decide_eq_false c1, if_neg c1]
      by_cases c2 : (2 : Int32) < v2
      · rw [decide_eq_true c2, if_neg (show ¬ v2 ≤ 2 by rw [i_lt] at c2; rw [i_le]; omega), if_pos (by rfl)]
        exact ⟨_, _, _, rfl, rfl, h⟩
      · rw [decide_eq_false c2, if_pos (show v2 ≤ 2 by rw [i_lt] at c2; rw [i_le]; omega), if_neg (show ¬ ((!false && !false) = false) by decide)]
        by_cases c3 : v2 = -1
        · subst c3
          rw [if_pos rfl, if_pos (by decide)]
          obtain ⟨C, b1, b2, b3, b4, b5⟩ := become_eq hs Mc (-1) 0
          rw [b1]
          simp only [Option.bind_some]
          have md : f_X9_sheet_b34 (nI s) (-1) v3 Mm = some (1, mu (mu (mu Mm 114 s 0) 115 s (-1)) 116 s v3) := by
            unfold f_X9_sheet_b34 f_X9_sheet_b45 f_X9_sheet_b59
            rw [if_pos (by decide), if_pos (by decide), inb_nI hs (by omega), nI_clamp (by omega)]
            obtain ⟨g, hg⟩ : ∃ g, FU = g + 1 := ⟨FU - 1, by have := FU_ge; omega⟩
            rw [hg, f_X9_sheet_l77]
            by_cases c : v3 ≤ 0
            · rw [if_pos c]; rfl
            · rw [if_neg c, if_pos (by decide)]; rfl
          rw [md]
          refine ⟨_, _, _, rfl, rfl, (hN.sheet (fun q hq => b2 q (by omega) (by omega)) (fun q hq => by rw [mun (by omega), mun (by omega), mun (by omega)]) (fun s2 hs2 => ?_)).i⟩
          by_cases es : s2 = s
          · subst es
            exact Or.inl ⟨b3, by rw [mun (by omega), mun (by omega), mu_at]⟩
          · have := hN.2.2.2.2 s2 hs2
            unfold ShI at this ⊢
            rw [b2 (55 + 2 * s2) (by omega) (by omega), b2 (56 + 2 * s2) (by omega) (by omega), mun (show 114 ≠ 116 by omega), mun (show 114 ≠ 115 by omega), mu_o es, mun (show 115 ≠ 116 by omega), mu_o es, mun (show 115 ≠ 114 by omega), mu_o es, mun (show 116 ≠ 115 by omega), mun (show 116 ≠ 114 by omega), mun (show 117 ≠ 116 by omega), mun (show 117 ≠ 115 by omega), mun (show 117 ≠ 114 by omega)]
            exact this
        · rw [if_neg c3]
          have hv2 : inR v2 3 = true := by
            unfold inR
            rw [i_lt] at c1 c2
            rw [i_eq] at c3
            have e1 : (-1 : Int32).toInt = -1 := by decide
            have e2 : (2 : Int32).toInt = 2 := by decide
            exact decide_eq_true ⟨by omega, by omega⟩
          obtain ⟨so, hso, rfl⟩ := inR_of hv2 (by omega)
          rw [if_neg (show ¬ nI so < 0 from nI_pos (by omega))]
          by_cases c4 : v3 ≤ 40
          · rw [if_pos c4, if_pos c4]
            by_cases c5 : (0 : Int32) ≤ v3
            · rw [if_pos c5]
              have hz : inR v3 41 = true := by
                unfold inR
                rw [i_le] at c4 c5
                have e1 : (0 : Int32).toInt = 0 := by decide
                have e2 : (40 : Int32).toInt = 40 := by decide
                exact decide_eq_true ⟨by omega, by omega⟩
              obtain ⟨z, hz, rfl⟩ := inR_of hz (by omega)
              obtain ⟨C, D, b1, b2, b3, _⟩ := layBoth hN hs hso (show z ≤ 40 by omega)
              rw [b1, b2]
              exact ⟨_, _, _, rfl, rfl, b3.i⟩
            · rw [if_neg c5]
              refine ⟨_, _, _, rfl, ?_, h⟩
              unfold f_X9_sheet_b34
              rw [if_neg (show ¬ nI so < 0 from nI_pos (by omega)), if_neg c5]
          · rw [if_neg c4, if_neg c4]
            exact ⟨_, _, _, rfl, rfl, h⟩
end
section
/-! CELL, FILM -/
theorem InvN.item {many txt s j : Nat} {Mc Mm : Mem} {x : Int32} (h : InvN many txt Mc Mm) (hs : s < 4) (hj : j < 40) : InvN many txt (mu Mc (55 + 2 * s + 1) j x) (mu Mm 117 (40 * s + j) x) := by
  refine h.sheet (fun q hq => mun (by omega)) (fun q hq => mun (by omega)) (fun s2 hs2 => ?_)
  have := h.2.2.2.2 s2 hs2
  unfold ShI at this ⊢
  rw [mun (show 55 + 2 * s2 ≠ 55 + 2 * s + 1 by omega), mun (show 114 ≠ 117 by omega), mun (show 115 ≠ 117 by omega), mun (show 116 ≠ 117 by omega)]
  rcases this with t | ⟨so2, z2, t1, t2, t3, t4, t5, t6, t7, t8⟩
  · exact Or.inl t
  · refine Or.inr ⟨so2, z2, t1, t2, t3, t4, t5, t6, t7, fun i hi => ?_⟩
    by_cases e : s2 = s ∧ i = j
    · obtain ⟨rfl, rfl⟩ := e
      rw [show 56 + 2 * s2 = 55 + 2 * s2 + 1 by omega, mu_at, mu_at]
    · by_cases es : s2 = s
      · subst es
        rw [show 56 + 2 * s2 = 55 + 2 * s2 + 1 by omega, mu_o (by omega), mu_o (by omega), ← show 56 + 2 * s2 = 55 + 2 * s2 + 1 by omega]
        exact t8 i hi
      · rw [mun (by omega), mu_o (by omega)]
        exact t8 i hi
theorem miss_eq {s : Nat} (hs : s < 4) {M : Mem} : (M (55 + 2 * s) 0 = -1 → f_X6_isMissing (55 + 2 * s) M = some (1, M)) ∧ (M (55 + 2 * s) 0 ≠ -1 → f_X6_isMissing (55 + 2 * s) M = some (0, M)) := by
  unfold f_X6_isMissing
  rw [(sh_kd s hs).1]
  exact ⟨fun h => by rw [if_pos h]; rfl, fun h => by rw [if_neg h]; rfl⟩
theorem item_eq {s z : Nat} (hs : s < 4) {M : Mem} (hz : z ≤ 40) (h1 : M (55 + 2 * s) 1 = nI z) (v : Int32) : f_X6_hasItem (55 + 2 * s) v M = some (zI (inR v z), M) := by
  unfold f_X6_hasItem
  rw [(sh_kd s hs).1]
  simp only [beq_self_eq_true, ck_true]
  rw [inC h1 (by omega)]
  cases inR v z <;> rfl
def cutI (so : Nat) (x : Int32) : Int32 := if so = 0 then x.toInt8.toInt32 else if so = 1 then x.toInt16.toInt32 else x
theorem put_eq {s so z j : Nat} (hs : s < 4) (hso : so < 3) {M : Mem} (hz : z ≤ 40) (h0 : M (55 + 2 * s) 0 = nI so) (h1 : M (55 + 2 * s) 1 = nI z) (hj : j < z) (x : Int32) : f_X6_put (55 + 2 * s) (nI j) x M = some (mu M (55 + 2 * s + 1) j (cutI so x)) := by
  obtain ⟨k1, k2, k3⟩ := sh_kd s hs
  unfold f_X6_put
  rw [item_eq hs hz h1, inR_nI hj (by omega)]
  simp only [Option.bind_some, zI_0]
  rw [bt, k1, k2, k3, inb_nI (show j < 40 by omega) (by omega), nI_clamp (by omega), h0]
  simp only [beq_self_eq_true, ck_true]
  unfold cutI
  have : so = 0 ∨ so = 1 ∨ so = 2 := by omega
  rcases this with rfl | rfl | rfl
  · rw [if_pos (by decide), if_pos rfl]
  · rw [if_neg (by decide), if_pos (by decide), if_neg (by decide), if_pos rfl]
  · rw [if_neg (by decide), if_neg (by decide), if_neg (by decide), if_neg (by decide)]
theorem nI_n1 {n : Nat} (h : n < 2 ^ 31) : nI n ≠ -1 := fun hx => nI_pos h (by rw [hx]; decide)
theorem cell_op {Mc Mm : Mem} (h : Inv Mc Mm) (v1 v2 v3 : Int32) : OpI (f_X8_cell v1 v2 v3) (f_X9_cell v1 v2 v3) Mc Mm := by
  obtain ⟨many, txt, hN⟩ := id h
  have hN : InvN many txt Mc Mm := hN
  unfold OpI f_X8_cell f_X9_cell
  rw [hasS, isS]
  simp only [Option.bind_some, zI_0]
  cases g1 : inR v1 4 with
  | false => rw [bf, bf]; exact ⟨_, _, _, rfl, rfl, h⟩
  | true =>
    rw [bt, bt]
    obtain ⟨s, hs, rfl⟩ := inR_of g1 (by omega)
    obtain ⟨k1, k2, k3⟩ := sh_kd s hs
    rw [inb_nI hs (by omega), nI_clamp (show s < 2 ^ 31 by omega), k1]
    simp only [ck_true, beq_self_eq_true]
    rcases hN.2.2.2.2 s hs with ⟨t1, t2⟩ | ⟨so, z, t1, t2, t3, t4, t5, t6, t7, t8⟩
    · rw [(miss_eq hs).1 t1, if_pos t2]
      exact ⟨_, _, _, rfl, rfl, h⟩
    · rw [(miss_eq hs).2 (by rw [t3]; exact nI_n1 (by omega)), if_neg (show ¬ Mm 114 s = 0 by rw [t7]; decide)]
      simp only [Option.bind_some]
      rw [if_pos True.intro, item_eq hs t2 t5, inM (n := z) (by rw [t6]; exact nI_prI (by omega))]
      simp only [Option.bind_some, zI_0]
      cases g2 : inR v2 z with
      | false => rw [bf, bf]; exact ⟨_, _, _, rfl, rfl, h⟩
      | true =>
        rw [bt, bt]
        obtain ⟨j, hj, rfl⟩ := inR_of g2 (by omega)
        rw [put_eq hs t1 t2 t3 t5 hj, t4, show (40 : Int32) = nI 40 from rfl, pk_mul, nI_add, inb_nI (show 40 * s + j < 160 by omega) (by omega), nI_clamp (show 40 * s + j < 2 ^ 31 by omega)]
        simp only [ck_true, Option.bind_some]
        have fin : ∀ x, InvN many txt (mu Mc (55 + 2 * s + 1) j x) (mu Mm 117 (40 * s + j) x) := fun x => hN.item hs (by omega)
        unfold cutI
        have : so = 0 ∨ so = 1 ∨ so = 2 := by omega
        rcases this with rfl | rfl | rfl
        · rw [if_pos rfl, if_pos (by decide)]
          exact ⟨_, _, _, rfl, rfl, (fin _).i⟩
        · rw [if_neg (by decide), if_pos rfl, if_neg (by decide), if_pos (by decide)]
          exact ⟨_, _, _, rfl, rfl, (fin _).i⟩
        · rw [if_neg (by decide), if_neg (by decide), if_neg (by decide), if_neg (by decide)]
          exact ⟨_, _, _, rfl, rfl, (fin _).i⟩
/-- what a dish is worth in a kitchen -/
def kW (t : Tk) (k : Nat) (st : Nat → Int32) : Int32 := if kCk t k st = true then kFed t k - kToll t k st else -1
theorem worthIn_eq {M : Mem} {d k : Nat} {t : Tk} (hd : d < 6) (hk : k < 2) (hT : TkM M d t) : ∃ M1 : Mem, f_X9_worthIn (nI d) (nI k) M = some (kW t k (M 104), M1) ∧ SmM M M1 := by
  unfold f_X9_worthIn kW
  obtain ⟨M1, a1, a2⟩ := isCookedM_eq hd hk hT
  rw [a1]
  simp only [Option.bind_some, zI_0]
  cases hc : kCk t k (M 104) with
  | false => rw [bf, ft]; exact ⟨M1, rfl, a2⟩
  | true =>
    rw [bt, tt]
    obtain ⟨M2, b1, b2⟩ := feedsOf_eq hd hk (hT.sm a2)
    obtain ⟨M3, c1, c2⟩ := tollOf_eq hd hk ((hT.sm a2).sm b2)
    rw [b1]
    simp only [Option.bind_some]
    rw [c1, b2.1 104 (by omega), a2.1 104 (by omega)]
    exact ⟨M3, rfl, (a2.trans b2).trans c2⟩
theorem Took.item {M : Mem} {t : Tk} {s j : Nat} {x : Int32} (h : Took M t) : Took (mu M (55 + 2 * s + 1) j x) t := h.keep (fun j hj => by rw [mun (by omega)]) (fun p hp _ => mun (by omega))
theorem filmStep {many txt s d k : Nat} {t : Tk} {Mc Mm : Mem} (hN : InvN many txt Mc Mm) (hs : s < 4) (hd : d < 6) (hk : k < 2) (hT : Took Mc t) (hM : TkM Mm d t) (h0 : Mc (55 + 2 * s) 0 = nI 2) (h1 : Mc (55 + 2 * s) 1 = nI 2) (f : Nat) (v : Int32) :
    ∃ (Mc1 Mm1 : Mem), f_X8_film_l52 (f + 1) (55 + 2 * s) v (nI k) Mc = f_X8_film_l52 f (55 + 2 * s) (v + zI (kCk t k (Mc 2))) (nI (k + 1)) Mc1 ∧ f_X9_film_l31 (f + 1) (nI s) (nI d) v (nI k) Mm = f_X9_film_l31 f (nI s) (nI d) (v + zI (kCk t k (Mc 2))) (nI (k + 1)) Mm1 ∧
      InvN many txt Mc1 Mm1 ∧ Took Mc1 t ∧ TkM Mm1 d t ∧ Mc1 (55 + 2 * s) 0 = nI 2 ∧ Mc1 (55 + 2 * s) 1 = nI 2 := by
  obtain ⟨k1, k2, k3⟩ := sh_kd s hs
  have hst : ∀ j, j < 12 → Mm 104 j = Mc 2 j := fun j hj => (hN.1.1.1 j hj).1
  obtain ⟨M2, y1, y2, y3, y4, y5, y6⟩ := isCooked_eq (t := t) (k := k) (q := 2) hk hT (Or.inl rfl)
  obtain ⟨N1, w1, w2⟩ := worthIn_eq hd hk hM
  have e0 : M2 (55 + 2 * s) 0 = nI 2 := by rw [y3 _ (by omega)]; exact h0
  have e1 : M2 (55 + 2 * s) 1 = nI 2 := by rw [y3 _ (by omega)]; exact h1
  have hN1 : InvN many txt M2 N1 := hN.sc y3.kc w2.km
  have hW : kW t k (Mm 104) = kW t k (Mc 2) := by unfold kW; rw [kCk_cg hk hst, kToll_cg hk hst]
  rw [hW] at w1
  have hM1 := hM.sm w2
  have hM2 : TkM (mu N1 117 (40 * s + k) (kW t k (Mc 2))) d t := hM1.keep (fun p hp => mun (by omega)) (by rw [mun (by omega)]) (by rw [mun (by omega)])
  obtain ⟨N2, u1, u2⟩ := isCookedM_eq hd hk hM2
  have n104 : ∀ j, j < 12 → mu N1 117 (40 * s + k) (kW t k (Mc 2)) 104 j = Mc 2 j := fun j hj => by rw [mun (by omega), w2.1 104 (by omega)]; exact hst j hj
  rw [kCk_cg hk n104] at u1
  have hN2 := (hN1.item (x := kW t k (Mc 2)) hs (show k < 40 by omega)).sc (KC.refl _) u2.km
  have pe := put_eq (x := kW t k (Mc 2)) hs (show 2 < 3 by omega) (show 2 ≤ 40 by omega) e0 e1 hk
  have cut2 : cutI 2 (kW t k (Mc 2)) = kW t k (Mc 2) := rfl
  rw [cut2] at pe
  refine ⟨_, N2, ?_, ?_, hN2, y2.item, hM2.sm u2, ?_, ?_⟩
  · rw [f_X8_film_l52, if_neg (show ¬ (2 : Int32) ≤ nI k by rw [show (2 : Int32) = nI 2 from rfl, nIle (by omega) (by omega)]; omega), y1]
    simp only [Option.bind_some, zI_0]
    unfold f_X8_film_b95 f_X8_film_b110
    unfold kW at pe
    cases hc : kCk t k (Mc 2) with
    | false =>
      rw [hc] at pe
      rw [bf, show (-1 : Int32) = (if false = true then kFed t k - kToll t k (Mc 2) else -1) from rfl, pe, k1]
      simp only [Option.bind_some, beq_self_eq_true, ck_true, zI_0]
      rw [if_pos True.intro, nIp]
      unfold kW
      rw [hc]
      rfl
    | true =>
      rw [hc] at pe
      obtain ⟨f1, f2⟩ := y5 (kCk_can hc)
      rw [bt, worth_eq, f1, f2]
      simp only [Option.bind_some]
      rw [show kFed t k - kToll t k (Mc 2) = (if true = true then kFed t k - kToll t k (Mc 2) else -1) from rfl, pe, k1]
      simp only [Option.bind_some, beq_self_eq_true, ck_true, zI_0]
      first | rw [bt, nIp] | rw [if_neg (by decide), nIp]
      unfold kW
      rw [hc]
      rfl
  · rw [f_X9_film_l31, if_neg (show ¬ (2 : Int32) ≤ nI k by rw [show (2 : Int32) = nI 2 from rfl, nIle (by omega) (by omega)]; omega), w1, show (40 : Int32) = nI 40 from rfl, pk_mul, nI_add, inb_nI (show 40 * s + k < 160 by omega) (by omega), nI_clamp (show 40 * s + k < 2 ^ 31 by omega)]
    simp only [Option.bind_some, ck_true]
    rw [u1]
    simp only [Option.bind_some, zI_0]
    unfold f_X9_film_b72
    cases hc : kCk t k (Mc 2) with
    | false => rw [bf, nIp]; rfl
    | true => rw [bt, nIp]; rfl
  · rw [mun (by omega)]; exact e0
  · rw [mun (by omega)]; exact e1
theorem film_op {Mc Mm : Mem} (h : Inv Mc Mm) (v1 v2 : Int32) : OpI (f_X8_film v1 v2) (f_X9_film v1 v2) Mc Mm := by
  obtain ⟨many, txt, hN⟩ := id h
  have hN : InvN many txt Mc Mm := hN
  obtain ⟨_, hm1, hm2, hm6, _⟩ := id hN.1
  unfold OpI f_X8_film f_X9_film
  rw [hasS, isS]
  simp only [Option.bind_some, zI_0]
  cases g1 : inR v1 4 with
  | false => rw [bf, bf]; exact ⟨_, _, _, rfl, rfl, h⟩
  | true =>
    rw [bt, bt, hasD hm1 hm6, isD hm2 hm6]
    simp only [Option.bind_some, zI_0]
    cases g2 : inR v2 many with
    | false => rw [bf, bf]; exact ⟨_, _, _, rfl, rfl, h⟩
    | true =>
      rw [bt, bt]
      obtain ⟨s, hs, rfl⟩ := inR_of g1 (by omega)
      obtain ⟨d1, hd1, rfl⟩ := inR_of g2 (by omega)
      obtain ⟨k1, k2, k3⟩ := sh_kd s hs
      rw [inb_nI hs (by omega), nI_clamp (show s < 2 ^ 31 by omega), k1]
      simp only [ck_true, beq_self_eq_true]
      obtain ⟨C, D, b1, b2, b3, b4, b5, b6, b7⟩ := layBoth hN hs (show 2 < 3 by omega) (show 2 ≤ 40 by omega)
      have ms : f_X9_sheet (nI s) 2 2 Mm = some (1, D) := by
        unfold f_X9_sheet
        rw [isS, inR_nI hs (by omega)]
        simp only [Option.bind_some, zI_0]
        rw [bt, show (-1 : Int64) = (-1 : Int32).toInt64 from rfl, show (2 : Int64) = (2 : Int32).toInt64 from rfl, in_eq]
        simp only [Option.bind_some]
        rw [if_neg (by decide), if_neg (by decide), if_pos (by decide)]
        exact b2
      rw [show (2 : Int32) = nI 2 from rfl, b1, show f_X9_sheet (nI s) (nI 2) (nI 2) Mm = _ from ms]
      simp only [Option.bind_some]
      obtain ⟨t, tm, tc, _⟩ := tkBoth b3.1 b3.2.2.1 hd1
      obtain ⟨M1, x1, x2, x3⟩ := tc C (KC.refl C)
      rw [x1]
      simp only [Option.bind_some]
      have i1 : InvN many txt M1 D := b3.sc x3.kc (KM.refl D)
      obtain ⟨g, hg⟩ : ∃ g, FU = g + 3 := ⟨FU - 3, by have := FU_ge; omega⟩
      rw [hg]
      obtain ⟨P, Q, p1, p2, p3, p4, p5, p6, p7⟩ := filmStep (k := 0) i1 hs (by omega) (by omega) x2 tm (by rw [x3 _ (by omega)]; exact b6) (by rw [x3 _ (by omega)]; exact b7) (g + 2) 0
      obtain ⟨P2, Q2, r1, r2, r3, r4, r5, r6, r7⟩ := filmStep (k := 1) p3 hs (by omega) (by omega) p4 p5 p6 p7 (g + 1) (0 + zI (kCk t 0 (M1 2)))
      rw [show f_X8_film_l52 (g + 3) (55 + 2 * s) 0 0 M1 = _ from p1, show f_X9_film_l31 (g + 3) (nI s) (nI d1) 0 0 D = _ from p2, r1, r2, f_X8_film_l52, f_X9_film_l31, if_pos (by decide), if_pos (by decide)]
      exact ⟨_, _, _, rfl, rfl, r3.i⟩
end
section
/-! MENUS' DIGITS; GOING ON WITH A MENU -/
def Dg (x i : Nat) : Nat := x / 10 ^ i % 10
def mOk (many x : Nat) : Prop := (∀ i, i < many → Dg x i ≤ 2) ∧ x / 10 ^ many = 0
def okA (many x : Nat) : Nat → Nat → Bool
  | 0, _ => true
  | m + 1, j => decide (Dg x (5 - j) ≤ if j < 6 - many then 0 else 2) && okA many x m (j + 1)
theorem okA_iff (many x : Nat) : ∀ m j, okA many x m j = true ↔ ∀ i, j ≤ i → i < j + m → Dg x (5 - i) ≤ if i < 6 - many then 0 else 2 := by
  intro m
  induction m with
  | zero => intro j; exact ⟨fun _ i h1 h2 => by omega, fun _ => rfl⟩
  | succ m ih =>
    intro j
    unfold okA
    rw [Bool.and_eq_true, ih (j + 1), decide_eq_true_eq]
    constructor
    · intro h i h1 h2
      by_cases e : i = j
      · subst e; exact h.1
      · exact h.2 i (by omega) (by omega)
    · intro h
      exact ⟨h j (by omega) (by omega), fun i h1 h2 => h i (by omega) (by omega)⟩
theorem okA_mOk {many x : Nat} (hm : many ≤ 6) (hx : x ≤ 999999) : okA many x 6 0 = true ↔ mOk many x := by
  rw [okA_iff]
  unfold mOk
  constructor
  · intro h
    refine ⟨fun i hi => ?_, ?_⟩
    · have := h (5 - i) (by omega) (by omega)
      rw [if_neg (by omega), show 5 - (5 - i) = i by omega] at this
      exact this
    · have g : ∀ i, many ≤ i → i < 6 → Dg x i = 0 := fun i h1 h2 => by
        have := h (5 - i) (by omega) (by omega)
        rw [if_pos (by omega), show 5 - (5 - i) = i by omega] at this
        omega
      have g0 := g 0
      have g1 := g 1
      have g2 := g 2
      have g3 := g 3
      have g4 := g 4
      have g5 := g 5
      unfold Dg at g0 g1 g2 g3 g4 g5
      match many, hm with
      | 0, _ => simp at *; omega
      | 1, _ => simp at *; omega
      | 2, _ => simp at *; omega
      | 3, _ => simp at *; omega
      | 4, _ => simp at *; omega
      | 5, _ => simp at *; omega
      | 6, _ => simp at *; omega
  · intro ⟨h1, h2⟩ i _ hi
    by_cases c : i < 6 - many
    · rw [if_pos c]
      have : Dg x (5 - i) = 0 := by
        unfold Dg
        have e : x / 10 ^ (5 - i) = x / 10 ^ many / 10 ^ (5 - i - many) := by
          rw [Nat.div_div_eq_div_mul, ← Nat.pow_add, show many + (5 - i - many) = 5 - i by omega]
        rw [e, h2]
        simp
      omega
    · rw [if_neg c]
      exact h1 (5 - i) (by omega)
theorem pw5 : ∀ p, p < 6 → stv 2000 p = nI (10 ^ (5 - p)) ∧ 0 < 10 ^ (5 - p) ∧ 10 ^ (5 - p) < 2 ^ 31 := by decide +kernel
theorem digC {x p : Nat} (hx : x ≤ 999999) (hp : p < 6) : jrem (nI x / stv 2000 p) 10 = nI (Dg x (5 - p)) := by
  obtain ⟨a, b, c⟩ := pw5 p hp
  rw [a, pk_div (by omega) b c, show (10 : Int32) = nI 10 from rfl, jrem_nI (Nat.lt_of_le_of_lt (Nat.div_le_self _ _) (by omega)) (by omega) (by omega)]
  rfl
theorem isMenuC_l {M : Mem} {many x : Nat} (hm1 : M 1 6 = nI many) (hm : many ≤ 6) (hx : x ≤ 999999) : ∀ m j fuel, j + m = 6 → m < fuel → f_X8_isMenu_l14 fuel (nI x) (nI j) M = some (zI (okA many x m j), M) := by
  intro m
  induction m with
  | zero =>
    intro j fuel hj hf
    obtain ⟨f, rfl⟩ : ∃ f, fuel = f + 1 := ⟨fuel - 1, by omega⟩
    rw [f_X8_isMenu_l14, if_pos (by rw [show (6 : Int32) = nI 6 from rfl, nIle (by omega) (by omega)]; omega)]
    rfl
  | succ m ih =>
    intro j fuel hj hf
    obtain ⟨f, rfl⟩ : ∃ f, fuel = f + 1 := ⟨fuel - 1, by omega⟩
    rw [f_X8_isMenu_l14, if_neg (by rw [show (6 : Int32) = nI 6 from rfl, nIle (by omega) (by omega)]; omega), inb_nI (show j < 6 by omega) (by omega), nI_clamp (show j < 2 ^ 31 by omega), pw_nz j (by omega), hm1, show (6 : Int32) = nI 6 from rfl, pk_sub hm, digC hx (by omega)]
    simp only [ck_true]
    have dl : Dg x (5 - j) < 10 := Nat.mod_lt _ (by omega)
    unfold f_X8_isMenu_b54 f_X8_isMenu_b67
    have go : ∀ c : Nat, c ≤ 2 → (if nI (Dg x (5 - j)) ≤ nI c then f_X8_isMenu_l14 f (nI x) (nI j + 1) M else some (0, M)) = some (zI (decide (Dg x (5 - j) ≤ c) && okA many x m (j + 1)), M) := by
      intro c hc
      by_cases e : Dg x (5 - j) ≤ c
      · rw [if_pos (nI_le e (by omega)), nIp, ih (j + 1) f (by omega) (by omega), decide_eq_true e]; rfl
      · rw [if_neg (nI_ge (by omega) (by omega)), decide_eq_false e]; rfl
    unfold okA
    by_cases c : j < 6 - many
    · rw [if_pos (nI_lt c (by omega)), if_pos rfl, if_pos c]
      exact go 0 (by omega)
    · rw [if_neg (nI_nlt (by omega) (by omega)), if_neg (by decide), if_neg c]
      exact go 2 (by omega)
theorem isMenuM_l (k : Int32 → Mem → Option (Int32 × Mem)) {many x : Nat} (hm : many ≤ 6) (hx : x < 2 ^ 31) (v1 : Int32) (hv : ¬ v1 < 0) : ∀ m c fuel (M : Mem), c + m = many → m < fuel →
    ∃ M1 : Mem, (∀ q, q ≠ 109 → M1 q = M q) ∧ (((∀ i, c ≤ i → i < many → Dg x i ≤ 2) ∧ f_X9_isMenu_l9 k fuel v1 (nI (x / 10 ^ c)) (nI (many - c) - 1) M = k (nI (x / 10 ^ many)) M1 ∧ (∀ i, c ≤ i → i < many → M1 109 (many - 1 - i) = nI (Dg x i)) ∧ ∀ j, many - c ≤ j → M1 109 j = M 109 j) ∨
      ((¬ ∀ i, c ≤ i → i < many → Dg x i ≤ 2) ∧ f_X9_isMenu_l9 k fuel v1 (nI (x / 10 ^ c)) (nI (many - c) - 1) M = some (0, M1))) := by
  intro m
  induction m with
  | zero =>
    intro c fuel M hc hf
    obtain ⟨f, rfl⟩ : ∃ f, fuel = f + 1 := ⟨fuel - 1, by omega⟩
    refine ⟨M, fun _ _ => rfl, Or.inl ⟨fun i h1 h2 => by omega, ?_, fun i h1 h2 => by omega, fun _ _ => rfl⟩⟩
    rw [f_X9_isMenu_l9, show many - c = 0 by omega, if_pos (by decide), show c = many by omega]
  | succ m ih =>
    intro c fuel M hc hf
    obtain ⟨f, rfl⟩ : ∃ f, fuel = f + 1 := ⟨fuel - 1, by omega⟩
    have hl : x / 10 ^ c < 2 ^ 31 := Nat.lt_of_le_of_lt (Nat.div_le_self _ _) hx
    have dl : Dg x c < 10 := Nat.mod_lt _ (by omega)
    rw [f_X9_isMenu_l9, nIm (by omega), if_neg (nI_pos (by omega)), inb_nI (show many - c - 1 < 6 by omega) (by omega), nI_clamp (show many - c - 1 < 2 ^ 31 by omega), if_neg hv, show (10 : Int32) = nI 10 from rfl, jrem_nI hl (by omega) (by omega), pk_div hl (by omega) (by omega), Nat.div_div_eq_div_mul, ← Nat.pow_succ]
    simp only [ck_true]
    show ∃ M1 : Mem, _ ∧ (_ ∧ (if nI (Dg x c) ≤ nI 2 then _ else some (0, mu M 109 (many - c - 1) (nI (Dg x c)))) = _ ∧ _ ∨ _ ∧ (if nI (Dg x c) ≤ nI 2 then _ else some (0, mu M 109 (many - c - 1) (nI (Dg x c)))) = _)
    by_cases e : Dg x c ≤ 2
    · rw [if_pos (nI_le e (by omega)), show nI (many - c - 1) + (-1) = nI (many - (c + 1)) - 1 by rw [Int32.sub_eq_add_neg, Nat.sub_sub]]
      obtain ⟨M1, a1, a2⟩ := ih (c + 1) f (mu M 109 (many - c - 1) (nI (Dg x c))) (by omega) (by omega)
      refine ⟨M1, fun q hq => (a1 q hq).trans (mun hq), ?_⟩
      rcases a2 with ⟨b1, b2, b3, b4⟩ | ⟨b1, b2⟩
      · refine Or.inl ⟨fun i h1 h2 => ?_, b2, fun i h1 h2 => ?_, fun j hj => ?_⟩
        · by_cases ei : i = c
          · rw [ei]; exact e
          · exact b1 i (by omega) h2
        · by_cases ei : i = c
          · rw [ei, show many - 1 - c = many - c - 1 by omega, b4 _ (by omega), mu_at]
          · exact b3 i (by omega) h2
        · rw [b4 j (by omega), mu_o (by omega)]
      · exact Or.inr ⟨fun h => b1 (fun i h1 h2 => h i (by omega) h2), b2⟩
    · rw [if_neg (nI_ge (by omega) (by omega))]
      exact ⟨_, fun q hq => mun hq, Or.inr ⟨fun h => e (h c (Nat.le_refl _) (by omega)), rfl⟩⟩
theorem isMenuBoth {Mc Mm : Mem} {many txt : Nat} (a : HouseI Mc Mm many txt) (v : Int32) :
    ∃ Mm1 : Mem, (∀ q, q ≠ 109 → Mm1 q = Mm q) ∧ ((f_X8_isMenu v Mc = some (0, Mc) ∧ f_X9_isMenu v Mm = some (0, Mm1)) ∨
      ∃ x, x ≤ 999999 ∧ v = nI x ∧ mOk many x ∧ f_X8_isMenu v Mc = some (1, Mc) ∧ f_X9_isMenu v Mm = some (1, Mm1) ∧ ∀ i, i < many → Mm1 109 (many - 1 - i) = nI (Dg x i)) := by
  obtain ⟨_, hm1, hm2, hm6, _⟩ := a
  have big : ∀ x, x < 2 ^ 31 → v = nI x → ∃ Mm1 : Mem, (∀ q, q ≠ 109 → Mm1 q = Mm q) ∧ ((¬ mOk many x ∧ f_X9_isMenu v Mm = some (0, Mm1)) ∨ (mOk many x ∧ f_X9_isMenu v Mm = some (1, Mm1) ∧ ∀ i, i < many → Mm1 109 (many - 1 - i) = nI (Dg x i))) := by
    intro x hx hv
    obtain ⟨M1, a1, a2⟩ := isMenuM_l f_X9_isMenu_b50 hm6 hx v (by rw [hv]; exact nI_pos hx) many 0 FU Mm (by omega) (by have := FU_ge; omega)
    have e : f_X9_isMenu v Mm = f_X9_isMenu_l9 f_X9_isMenu_b50 FU v (nI (x / 10 ^ 0)) (nI (many - 0) - 1) Mm := by
      unfold f_X9_isMenu
      rw [hm2, Nat.pow_zero, Nat.div_one, ← hv, Nat.sub_zero]
    rw [e]
    refine ⟨M1, a1, ?_⟩
    rcases a2 with ⟨b1, b2, b3, b4⟩ | ⟨b1, b2⟩
    · rw [b2]
      unfold f_X9_isMenu_b50
      have hl : x / 10 ^ many < 2 ^ 31 := Nat.lt_of_le_of_lt (Nat.div_le_self _ _) hx
      by_cases z : x / 10 ^ many = 0
      · rw [z, if_pos (show nI 0 = 0 from rfl)]
        exact Or.inr ⟨⟨fun i hi => b1 i (by omega) hi, z⟩, rfl, fun i hi => b3 i (by omega) hi⟩
      · rw [if_neg (nI_ne0 (by first | exact z | exact Nat.pos_of_ne_zero z) hl)]
        exact Or.inl ⟨fun h => z h.2, rfl⟩
    · exact Or.inl ⟨fun h => b1 (fun i _ hi => h.1 i hi), b2⟩
  by_cases c0 : v < 0
  · -- below none
    refine ⟨if many = 0 then Mm else mu Mm 109 (many - 1) (jrem v 10), fun q hq => by split; rfl; exact mun hq, Or.inl ⟨?_, ?_⟩⟩
    · unfold f_X8_isMenu; rw [if_pos c0]
    · unfold f_X9_isMenu
      obtain ⟨g, hg⟩ : ∃ g, FU = g + 1 := ⟨FU - 1, by have := FU_ge; omega⟩
      rw [hg, f_X9_isMenu_l9, hm2]
      by_cases cm : many = 0
      · subst cm
        rw [if_pos (by decide), if_pos rfl]
        unfold f_X9_isMenu_b50
        rw [if_neg (by intro hx; rw [hx] at c0; exact absurd c0 (by decide))]
      · rw [nIm (by omega), if_neg (nI_pos (by omega)), inb_nI (by omega) (by omega), if_pos c0, if_neg cm, nI_clamp (by omega)]
        rfl
  · obtain ⟨x, hx, hv⟩ := nI_of c0
    obtain ⟨Mm1, b1, b2⟩ := big x hx hv
    refine ⟨Mm1, b1, ?_⟩
    by_cases c9 : x ≤ 999999
    · have e : f_X8_isMenu v Mc = some (zI (okA many x 6 0), Mc) := by
        unfold f_X8_isMenu
        rw [if_neg c0, hv, if_pos (show nI x ≤ 999999 from nI_le (b := 999999) c9 (by omega))]
        exact isMenuC_l hm1 hm6 c9 6 0 FU (by omega) (by have := FU_ge; omega)
      rcases b2 with ⟨c1, c2⟩ | ⟨c1, c2, c3⟩
      · have : okA many x 6 0 = false := by
          cases h : okA many x 6 0 with
          | false => rfl
          | true => exact absurd ((okA_mOk hm6 c9).mp h) c1
        rw [this] at e
        exact Or.inl ⟨e, c2⟩
      · rw [(okA_mOk hm6 c9).mpr c1] at e
        exact Or.inr ⟨x, c9, hv, c1, e, c2, c3⟩
    · have e : f_X8_isMenu v Mc = some (0, Mc) := by
        unfold f_X8_isMenu
        rw [if_neg c0, hv, if_neg (show ¬ nI x ≤ 999999 by rw [show (999999 : Int32) = nI 999999 from rfl, nIle hx (by omega)]; exact c9)]
      rcases b2 with ⟨c1, c2⟩ | ⟨c1, c2, c3⟩
      · exact Or.inl ⟨e, c2⟩
      · exfalso
        have h2 := c1.2
        have h6 : 10 ^ many ≤ 10 ^ 6 := Nat.pow_le_pow_right (by omega) hm6
        have h7 : x < 10 ^ many := by
          rcases Nat.div_eq_zero_iff.mp h2 with y | y
          · exact absurd y (Nat.ne_of_gt (Nat.pow_pos (by omega)))
          · exact y
        exact c9 (Nat.le_of_lt_succ (Nat.lt_of_lt_of_le h7 h6))
/-! GOING ON -/
theorem goOnC {Mc0 M : Mem} {t : Tk} {d k : Nat} (hk : k < 2) (tc : ∀ Mc2 : Mem, KC Mc0 Mc2 → ∃ M1 : Mem, f_X0_takeUp (nI d) Mc2 = some M1 ∧ Took M1 t ∧ Sm Mc2 M1) (kc : KC Mc0 M) :
    ∃ M1 : Mem, f_X4_goOn (nI d) (nI k) M = some (zI (kCk t k (M 44)), M1) ∧ KC Mc0 M1 ∧ (kCk t k (M 44) = false → M1 43 = M 43 ∧ M1 44 = M 44) ∧
      (kCk t k (M 44) = true → M1 43 3 = M 43 3 + kFed t k ∧ M1 43 4 = M 43 4 + (if k = 0 then kFed t k else 0) ∧ M1 43 5 = M 43 5 + kToll t k (M 44) ∧ M1 43 6 = M 43 6 ∧ ∀ j, j < 12 → M1 44 j = kUse t k (M 44) j) := by
  obtain ⟨M1, x1, x2, x3⟩ := tc M kc
  have st1 : M1 44 = M 44 := x3 44 (by omega)
  obtain ⟨M2, y1, y2, y3, y4, y5, y6⟩ := isCooked_eq (t := t) (k := k) (q := 44) hk x2 (Or.inr (Or.inr (Or.inl rfl)))
  rw [st1] at y1 y4 y5 y6
  have kc2 : KC Mc0 M2 := (kc.tr x3.kc).tr y3.kc
  unfold f_X4_goOn
  rw [x1]
  simp only [Option.bind_some]
  rw [y1]
  simp only [Option.bind_some, zI_0]
  have m43 : M2 43 = M 43 := by rw [y3 43 (by omega), x3 43 (by omega)]
  have m44 : M2 44 = M 44 := by rw [y3 44 (by omega), st1]
  cases hc : kCk t k (M 44) with
  | false =>
    rw [bf]
    exact ⟨M2, rfl, kc2, fun _ => ⟨m43, m44⟩, fun h => by cases h⟩
  | true =>
    rw [bt]
    obtain ⟨M3, j1, j2, j3⟩ := useUp_eq (M := M2) (t := t) (k := k) (q := 44) hk (Or.inr (Or.inr (Or.inl rfl))) y2.2.2.2.2.1 (fun i hi => by rw [y6 i hi, m44])
    rw [m44] at j2
    rw [j1]
    simp only [Option.bind_some]
    obtain ⟨f1, f2⟩ := y5 (kCk_can hc)
    have g1 : M3 36 15 = kFed t k := by rw [j3 36 (by omega)]; exact f1
    have g2 : M3 36 14 = kToll t k (M 44) := by rw [j3 36 (by omega)]; exact f2
    have g3 : M3 43 = M 43 := by rw [j3 43 (by omega)]; exact m43
    unfold f_X4_goOn_b77
    have fin : ∀ z : Int32, z = (if k = 0 then kFed t k else 0) → ∃ M1 : Mem, some ((1 : Int32), (mu (mu (mu M3 43 3 ((M3 43 3) + (M3 36 15))) 43 4 (M3 43 4 + z)) 43 5 (((mu M3 43 3 ((M3 43 3) + (M3 36 15))) 43 5) + ((mu M3 43 3 ((M3 43 3) + (M3 36 15))) 36 14)))) = some (zI true, M1) ∧ KC Mc0 M1 ∧ (true = false → M1 43 = M 43 ∧ M1 44 = M 44) ∧
      (True → M1 43 3 = M 43 3 + kFed t k ∧ M1 43 4 = M 43 4 + (if k = 0 then kFed t k else 0) ∧ M1 43 5 = M 43 5 + kToll t k (M 44) ∧ M1 43 6 = M 43 6 ∧ ∀ j, j < 12 → M1 44 j = kUse t k (M 44) j) := by
      intro z hz
      refine ⟨_, rfl, fun q hq => ?_, (fun h => by cases h), fun _ => ⟨?_, ?_, ?_, ?_, fun j hj => ?_⟩⟩
      · rw [mun (by omega), mun (by omega), mun (by omega), j3 q (by omega)]; exact kc2 q hq
      · rw [mu_o (by omega), mu_o (by omega), mu_at, g3, g1]
      · rw [mu_o (by omega), mu_at, g3, hz]
      · rw [mu_at, mu_o (by omega), mun (by omega), g3, g2]
      · rw [mu_o (by omega), mu_o (by omega), mu_o (by omega), g3]
      · rw [mun (by omega), mun (by omega), mun (by omega)]; exact j2 j hj
    by_cases k0 : k = 0
    · subst k0
      rw [if_pos (show nI 0 = 0 from rfl), g1]
      have := fin (kFed t 0) (by rw [if_pos rfl])
      rw [g1] at this
      exact this
    · rw [if_neg (nI_ne0 (by omega) (by omega))]
      exact fin 0 (by rw [if_neg k0])
end
section
/-! PLAYING A MENU, both -/
def KM5 (Mm N : Mem) : Prop := (∀ q, q ≠ 100 → q ≠ 104 → N q = Mm q) ∧ ∀ j, (j < 13 ∨ 37 < j) → N 100 j = Mm 100 j
theorem KM5.tk {Mm N : Mem} {d : Nat} {t : Tk} (h : KM5 Mm N) (k : TkM Mm d t) : TkM N d t := k.keep (fun p hp => h.1 p (by omega) (by omega)) (h.2 4 (by omega)) (h.2 7 (by omega))
theorem KM5.sm {Mm N N1 : Mem} (h : KM5 Mm N) (k : SmM N N1) : KM5 Mm N1 := ⟨fun q a b => (k.1 q a).trans (h.1 q a b), fun j a => (k.2 j (by omega)).trans (h.2 j a)⟩
theorem KM5.mu {Mm N : Mem} (h : KM5 Mm N) {j : Nat} (hj : 13 ≤ j ∧ j ≤ 37) (x : Int32) : KM5 Mm (mu N 100 j x) := ⟨fun q a b => (mun a).trans (h.1 q a b), fun i a => (mu_o (by omega)).trans (h.2 i a)⟩
theorem TkM.mu {N : Mem} {d : Nat} {t : Tk} (k : TkM N d t) {j : Nat} (hj : 13 ≤ j ∧ j ≤ 37) (x : Int32) : TkM (mu N 100 j x) d t := k.keep (fun p hp => mun (by omega)) (mu_o (by omega)) (mu_o (by omega))
theorem kitC {M : Mem} {many x i : Nat} (hm1 : M 1 6 = nI many) (hm : many ≤ 6) (hx : x ≤ 999999) (hi : i < many) : f_X1_kitchenBy (nI x) (nI i) M = some (nI (Dg x (many - 1 - i)) - 1, M) := by
  unfold f_X1_kitchenBy
  rw [hm1, show (6 : Int32) = nI 6 from rfl, pk_sub hm, nI_add, inb_nI (show 6 - many + i < 6 by omega) (by omega), nI_clamp (by omega), pw_nz _ (by omega), digC hx (by omega), show 5 - (6 - many + i) = many - 1 - i by omega]
  rfl
/-- how both stand within a menu -/
def Ply (Mc0 Mm0 M N : Mem) : Prop := KC Mc0 M ∧ KM5 Mm0 N ∧ (∀ j, j < 12 → N 104 j = M 44 j ∧ B99 (M 44 j) 99) ∧ M 43 3 = N 100 30 ∧ M 43 5 = N 100 31 ∧ M 43 6 = -1
theorem playBoth {many txt x : Nat} {Mc0 Mm0 : Mem} (hN : InvN many txt Mc0 Mm0) (hx : x ≤ 999999) (hok : mOk many x) (h109 : ∀ i, i < many → Mm0 109 (many - 1 - i) = nI (Dg x i)) : ∀ m i fuel (M N : Mem), i + m = many → m + 1 < fuel → Ply Mc0 Mm0 M N →
    ∃ (M1 N1 : Mem) (r : Int32), f_X4_play_l6 fuel (nI x) (nI i) M = some M1 ∧ f_X9_cooksAll_l12 fuel (nI i) N = some (r, N1) ∧ KC Mc0 M1 ∧ KM5 Mm0 N1 ∧ M1 43 6 = r ∧ (r = -1 → Ply Mc0 Mm0 M1 N1) := by
  obtain ⟨_, hm1, hm2, hm6, _⟩ := id hN.1
  intro m
  induction m with
  | zero =>
    intro i fuel M N hi hf hP
    obtain ⟨f, rfl⟩ : ∃ f, fuel = f + 1 := ⟨fuel - 1, by omega⟩
    obtain ⟨p1, p2, p3, p4, p5, p6⟩ := id hP
    rw [f_X4_play_l6, f_X9_cooksAll_l12, p1 1 (by omega), p2.2 12 (by omega), hm1, hm2, if_pos (nI_le (by omega) (by omega)), if_pos (nI_le (by omega) (by omega))]
    exact ⟨M, N, -1, rfl, rfl, p1, p2, p6, fun _ => hP⟩
  | succ m ih =>
    intro i fuel M N hi hf hP
    obtain ⟨f, rfl⟩ : ∃ f, fuel = f + 1 := ⟨fuel - 1, by omega⟩
    obtain ⟨p1, p2, p3, p4, p5, p6⟩ := id hP
    have him : i < many := by omega
    have mM : M 1 6 = nI many := by rw [p1 1 (by omega)]; exact hm1
    have mN : N 100 12 = nI many := by rw [p2.2 12 (by omega)]; exact hm2
    have ch : N 109 i = nI (Dg x (many - 1 - i)) := by
      rw [p2.1 109 (by omega) (by omega)]
      have := h109 (many - 1 - i) (by omega)
      rwa [show many - 1 - (many - 1 - i) = i by omega] at this
    rw [f_X4_play_l6, f_X9_cooksAll_l12, mM, mN, if_neg (nI_ge him (by omega)), if_neg (nI_ge him (by omega)), if_pos p6, kitC mM hm6 hx him, inb_nI (show i < 6 by omega) (by omega), nI_clamp (show i < 2 ^ 31 by omega), ch]
    simp only [ck_true, Option.bind_some]
    have hdg := hok.1 (many - 1 - i) (by omega)
    generalize Dg x (many - 1 - i) = g at hdg
    unfold f_X4_play_b54 f_X9_cooksAll_b80
    by_cases g0 : g = 0
    · subst g0
      rw [if_pos (show nI 0 - 1 = -1 by decide), if_pos (show nI 0 - 1 < 0 by decide), nIp]
      exact ih (i + 1) f M N (by omega) (by omega) hP
    · obtain ⟨k, hk, rfl⟩ : ∃ k, k < 2 ∧ g = k + 1 := ⟨g - 1, by omega, by omega⟩
      rw [nIm (by omega), Nat.add_sub_cancel, if_neg (nI_n1 (by omega)), if_neg (show ¬ nI k < 0 from nI_pos (by omega))]
      obtain ⟨t, tm, tc, bb, hb⟩ := tkBoth hN.1 hN.2.2.1 him
      obtain ⟨M1, a1, a2, a3, a4⟩ := goOnC hk tc p1
      have tN := p2.tk tm
      obtain ⟨N1, b1, b2⟩ := isCookedM_eq (show i < 6 by omega) hk tN
      have hst : ∀ j, j < 12 → N 104 j = M 44 j := fun j hj => (p3 j hj).1
      rw [kCk_cg hk hst] at b1
      rw [a1, b1]
      simp only [Option.bind_some, zI_0]
      cases hc : kCk t k (M 44) with
      | false =>
        obtain ⟨c1, c2⟩ := a3 hc
        rw [bf, bf]
        obtain ⟨f2, rfl⟩ : ∃ f2, f = f2 + 1 := ⟨f - 1, by omega⟩
        refine ⟨mu M1 43 6 (nI i), N1, nI i, ?_, rfl, fun q hq => (mun (by omega)).trans (a2 q hq), p2.sm b2, mu_at, fun h => absurd h (nI_n1 (by omega))⟩
        rw [f_X4_play_l6, mu_at, if_neg (nI_n1 (by omega))]
        split <;> rfl
      | true =>
        obtain ⟨c1, c2, c3, c4, c5⟩ := a4 hc
        rw [bt, bt]
        have tN1 := tN.sm b2
        obtain ⟨N2, d1, d2⟩ := feedsOf_eq (show i < 6 by omega) hk tN1
        have tN2 := (tN1.sm d2).mu (j := 30) (by omega) (N1 100 30 + kFed t k)
        obtain ⟨N3, e1, e2⟩ := tollOf_eq (show i < 6 by omega) hk tN2
        have tN3 := (tN2.sm e2).mu (j := 31) (by omega) (N2 100 31 + kToll t k (mu N2 100 30 (N1 100 30 + kFed t k) 104))
        obtain ⟨N4, u1, u2, u3⟩ := uses_eq (show i < 6 by omega) hk tN3
        rw [d1]
        simp only [Option.bind_some]
        rw [e1]
        simp only [Option.bind_some]
        rw [u1]
        simp only [Option.bind_some]
        rw [nIp]
        have n2 : N2 104 = N 104 := by rw [d2.1 104 (by omega), b2.1 104 (by omega)]
        have n3 : N3 104 = N 104 := by rw [e2.1 104 (by omega), mun (by omega), n2]
        have k4 : KM5 Mm0 N4 := by
          have w := ((((p2.sm b2).sm d2).mu (j := 30) (by omega) (N1 100 30 + kFed t k)).sm e2).mu (j := 31) (by omega) (N2 100 31 + kToll t k (mu N2 100 30 (N1 100 30 + kFed t k) 104))
          exact ⟨fun q x y => (u3 q y).trans (w.1 q x y), fun j x => by rw [u3 100 (by omega)]; exact w.2 j x⟩
        refine ih (i + 1) f M1 N4 (by omega) (by omega) ⟨a2, k4, fun j hj => ?_, ?_, ?_, by rw [c4]; exact p6⟩
        · rw [u2 j hj, c5 j hj, mun (by omega), n3]
          exact ⟨kUse_cg hk hst j hj, kUse_B hb (fun j hj => (p3 j hj).2) hk (kCk_can hc) j hj⟩
        · rw [c1, u3 100 (by omega), mu_o (by omega), e2.2 30 (by omega), mu_at, b2.2 30 (by omega), p4]
        · rw [c3, u3 100 (by omega), mu_at, d2.2 31 (by omega), b2.2 31 (by omega), p5, mun (by omega), n2, kToll_cg hk hst]
theorem Ply.start {many txt : Nat} {Mc Mm : Mem} (hN : InvN many txt Mc Mm) : ∃ M : Mem, f_X4_begin Mc = some M ∧ KC Mc M ∧ Ply Mc Mm M (mu (mu Mm 100 30 0) 100 31 0) := by
  refine ⟨_, rfl, ?_, ?_, ⟨fun q x y => by rw [mun x, mun x], fun j x => by rw [mu_o (by omega), mu_o (by omega)]⟩, fun j hj => ?_, ?_, ?_, mu_at⟩
  · intro q hq; rw [mun (by omega), mun (by omega), mun (by omega), mun (by omega), mcp_o (by omega)]
  · intro q hq; rw [mun (by omega), mun (by omega), mun (by omega), mun (by omega), mcp_o (by omega)]
  · rw [mun (by omega), mun (by omega), mun (by omega), mun (by omega), mun (by omega), mun (by omega), mcp_in hj]
    exact hN.1.1.1 j hj
  · rw [mu_o (by omega), mu_o (by omega), mu_o (by omega), mu_at, mu_o (by omega), mu_at]
  · rw [mu_o (by omega), mu_at, mu_at]
/-- a whole menu, the reference's stores laid aside -/
theorem playAll {many txt x : Nat} {Mc Mm : Mem} (hN : InvN many txt Mc Mm) (hx : x ≤ 999999) (hok : mOk many x) (h109 : ∀ i, i < many → Mm 109 (many - 1 - i) = nI (Dg x i)) :
    ∃ (M1 N0 N1 : Mem) (r : Int32), f_X4_play (nI x) Mc = some M1 ∧ f_X9_laysAside Mm = some N0 ∧ f_X9_cooksAll N0 = some (r, N1) ∧ KC Mc M1 ∧ (∀ q, q ≠ 100 → q ≠ 104 → q ≠ 108 → N1 q = Mm q) ∧ (∀ j, (j < 13 ∨ 37 < j) → N1 100 j = Mm 100 j) ∧ (∀ j, j < 12 → N1 108 j = Mm 104 j) ∧ M1 43 6 = r ∧
      (r = -1 → (∀ j, j < 12 → N1 104 j = M1 44 j ∧ B99 (M1 44 j) 99) ∧ M1 43 3 = N1 100 30 ∧ M1 43 5 = N1 100 31) := by
  obtain ⟨N0, a1, a2, a3⟩ := aside_l (M := Mm)
  have hN0 : InvN many txt Mc N0 := hN.sc (KC.refl Mc) ⟨fun q _ _ h _ _ => a2 q h, fun j _ => by rw [a2 104 (by omega)], fun j _ => by rw [a2 100 (by omega)]⟩
  obtain ⟨M, b1, b2, b3⟩ := Ply.start hN0
  obtain ⟨M1, N1, r, c1, c2, c3, c4, c5, c6⟩ := playBoth hN0 hx hok (fun i hi => by rw [a2 109 (by omega)]; exact h109 i hi) many 0 FU M _ (by omega) (by have := FU_ge; have := hN.1.2.2.2.1; omega) b3
  refine ⟨M1, N0, N1, r, ?_, a1, c2, c3, fun q x y z => (c4.1 q x y).trans (a2 q z), fun j x => by rw [c4.2 j x, a2 100 (by omega)], fun j hj => by rw [c4.1 108 (by omega) (by omega)]; exact a3 j hj, c5, fun h => ?_⟩
  · unfold f_X4_play
    rw [b1]
    exact c1
  · obtain ⟨_, _, d3, d4, d5, _⟩ := c6 h
    exact ⟨d3, d4, d5⟩
theorem menu_op {Mc Mm : Mem} (h : Inv Mc Mm) (v1 v2 : Int32) : OpI (f_X8_menu v1 v2) (f_X9_menu v1 v2) Mc Mm := by
  obtain ⟨many, txt, hN⟩ := id h
  have hN : InvN many txt Mc Mm := hN
  unfold OpI f_X8_menu f_X9_menu
  obtain ⟨Mm1, m1, m2⟩ := isMenuBoth hN.1 v1
  have km1 : KM Mm Mm1 := ⟨fun q _ _ _ hq _ => m1 q hq, fun j _ => by rw [m1 104 (by omega)], fun j _ => by rw [m1 100 (by omega)]⟩
  rcases m2 with ⟨e1, e2⟩ | ⟨x, hx, rfl, hok, e1, e2, e3⟩
  · rw [e1, e2]
    simp only [Option.bind_some]
    rw [if_pos True.intro, if_pos True.intro]
    exact ⟨_, _, _, rfl, rfl, h.sc (KC.refl Mc) km1⟩
  · rw [e1, e2]
    simp only [Option.bind_some]
    rw [if_neg (show ¬ (1 : Int32) = 0 by decide), if_neg (show ¬ (1 : Int32) = 0 by decide), inC3 (b := 4) (n := 5) (by decide), show (4 : Int64) = (4 : Int32).toInt64 from rfl, inM (n := 5) (by decide)]
    simp only [Option.bind_some, zI_0]
    cases g1 : inR v2 5 with
    | false => rw [bf, ft]; exact ⟨_, _, _, rfl, rfl, h.sc (KC.refl Mc) km1⟩
    | true =>
      rw [bt, tt]
      obtain ⟨M1, N0, N1, r, a1, a2, a3, a4, a5, a6, a7, a8, a9⟩ := playAll (hN.sc (KC.refl Mc) km1) hx hok e3
      obtain ⟨N2, b1, b2, b3⟩ := laysBack_l (M := N1)
      rw [a1, a2]
      simp only [Option.bind_some]
      rw [a3]
      simp only [Option.bind_some]
      rw [b1]
      simp only [Option.bind_some]
      have km2 : KM Mm N2 := km1.tr ⟨fun q x y z u w => (b2 q y).trans (a5 q x y z), fun j hj => by rw [b3 j hj]; exact a7 j hj, fun j hj => by rw [b2 100 (by omega)]; exact a6 j hj⟩
      have n100 : N2 100 = N1 100 := b2 100 (by omega)
      have fin := h.sc a4 km2
      obtain ⟨y, hy, rfl⟩ := inR_of g1 (by omega)
      rw [a8, n100]
      unfold f_X8_menu_b44 f_X9_menu_b45
      have cs : y = 0 ∨ y = 1 ∨ y = 2 ∨ y = 3 ∨ y = 4 := by omega
      by_cases hr : r = -1
      · obtain ⟨f1, f2, f3⟩ := a9 hr
        simp only [if_pos hr]
        rcases cs with rfl | rfl | rfl | rfl | rfl
        · rw [if_pos (by decide), if_neg (by decide), if_pos (by decide), if_neg (by decide)]; exact ⟨_, _, _, rfl, rfl, fin⟩
        · rw [if_neg (by decide), if_pos (by decide), if_neg (by decide), if_neg (by decide), if_neg (by decide), if_pos (by decide), f2, f3]; exact ⟨_, _, _, rfl, rfl, fin⟩
        · rw [if_neg (by decide), if_neg (by decide), if_pos (by decide), if_neg (by decide), if_neg (by decide), if_neg (by decide), if_neg (by decide), if_pos (by decide), f2]; exact ⟨_, _, _, rfl, rfl, fin⟩
        · rw [if_neg (by decide), if_neg (by decide), if_neg (by decide), if_pos (by decide), if_neg (by decide), if_neg (by decide), if_neg (by decide), if_neg (by decide), if_neg (by decide), f3]; exact ⟨_, _, _, rfl, rfl, fin⟩
        · rw [if_neg (by decide), if_neg (by decide), if_neg (by decide), if_neg (by decide), if_neg (by decide), if_pos (by decide), if_pos (by decide), a8]; exact ⟨_, _, _, rfl, rfl, fin⟩
      · simp only [if_neg hr]
        rcases cs with rfl | rfl | rfl | rfl | rfl
        · rw [if_pos (by decide), if_pos (by decide), if_pos (by decide), if_neg (by decide)]; exact ⟨_, _, _, rfl, rfl, fin⟩
        · rw [if_neg (by decide), if_pos (by decide), if_pos (by decide), if_neg (by decide), if_neg (by decide)]; exact ⟨_, _, _, rfl, rfl, fin⟩
        · rw [if_neg (by decide), if_neg (by decide), if_pos (by decide), if_pos (by decide), if_neg (by decide), if_neg (by decide)]; exact ⟨_, _, _, rfl, rfl, fin⟩
        · rw [if_neg (by decide), if_neg (by decide), if_neg (by decide), if_pos (by decide), if_pos (by decide), if_neg (by decide), if_neg (by decide)]; exact ⟨_, _, _, rfl, rfl, fin⟩
        · rw [if_neg (by decide), if_neg (by decide), if_neg (by decide), if_neg (by decide), if_neg (by decide), if_pos (by decide), if_pos (by decide), a8]; exact ⟨_, _, _, rfl, rfl, fin⟩
end
section
/-! SERVE -/
theorem servLoop {many txt x : Nat} (kc : Mem → Option (Int32 × Mem)) (km : Mem → Option (Int32 × Mem)) (hx : x ≤ 999999) (hok : mOk many x) : ∀ m i fuel (M N : Mem), i + m = many → m < fuel → InvN many txt M N → (∀ i, i < many → N 109 (many - 1 - i) = nI (Dg x i)) →
    ∃ M1 N1 : Mem, f_X8_serve_l72 kc fuel (nI x) (nI i) M = kc M1 ∧ f_X9_serve_l57 km fuel (nI i) N = km N1 ∧ InvN many txt M1 N1 ∧ M1 43 = M 43 ∧ N1 100 = N 100 ∧ M1 1 = M 1 := by
  intro m
  induction m with
  | zero =>
    intro i fuel M N hi hf hN h109
    obtain ⟨f, rfl⟩ : ∃ f, fuel = f + 1 := ⟨fuel - 1, by omega⟩
    obtain ⟨_, hm1, hm2, hm6, _⟩ := id hN.1
    rw [f_X8_serve_l72, f_X9_serve_l57, hm1, hm2, if_pos (nI_le (by omega) (by omega)), if_pos (nI_le (by omega) (by omega))]
    exact ⟨M, N, rfl, rfl, hN, rfl, rfl, rfl⟩
  | succ m ih =>
    intro i fuel M N hi hf hN h109
    obtain ⟨f, rfl⟩ : ∃ f, fuel = f + 1 := ⟨fuel - 1, by omega⟩
    obtain ⟨_, hm1, hm2, hm6, _⟩ := id hN.1
    have him : i < many := by omega
    have ch : N 109 i = nI (Dg x (many - 1 - i)) := by
      have := h109 (many - 1 - i) (by omega)
      rwa [show many - 1 - (many - 1 - i) = i by omega] at this
    rw [f_X8_serve_l72, f_X9_serve_l57, hm1, hm2, if_neg (nI_ge him (by omega)), if_neg (nI_ge him (by omega)), kitC hm1 hm6 hx him, inb_nI (show i < 6 by omega) (by omega), nI_clamp (show i < 2 ^ 31 by omega), ch]
    simp only [ck_true, Option.bind_some]
    have hdg := hok.1 (many - 1 - i) (by omega)
    generalize Dg x (many - 1 - i) = g at hdg
    unfold f_X8_serve_b104 f_X9_serve_b79
    by_cases g0 : g = 0
    · subst g0
      rw [if_pos (show nI 0 - 1 = -1 by decide), if_pos (show nI 0 ≤ 0 by decide), nIp]
      exact ih (i + 1) f M N (by omega) (by omega) hN h109
    · rw [nIm (by omega), if_neg (nI_n1 (by omega)), if_neg (show ¬ nI g ≤ 0 by rw [show (0 : Int32) = nI 0 from rfl, nIle (by omega) (by omega)]; omega)]
      obtain ⟨y, hy, c1, c2⟩ := countBoth hN.1 him
      rw [c1, c2]
      simp only [Option.bind_some]
      rw [nIp]
      obtain ⟨M1, N1, e1, e2, e3, e4, e5, e6⟩ := ih (i + 1) f _ _ (by omega) (by omega) (hN.count him hy) (fun i hi => by rw [mun (by omega)]; exact h109 i hi)
      exact ⟨M1, N1, e1, e2, e3, e4.trans (mun (by omega)), e5.trans (mun (by omega)), e6.trans (mun (by omega))⟩
theorem serve_op {Mc Mm : Mem} (h : Inv Mc Mm) (v : Int32) : OpI (f_X8_serve v) (f_X9_serve v) Mc Mm := by
  obtain ⟨many, txt, hN⟩ := id h
  have hN : InvN many txt Mc Mm := hN
  unfold OpI f_X8_serve f_X9_serve
  obtain ⟨Mm1, m1, m2⟩ := isMenuBoth hN.1 v
  have km1 : KM Mm Mm1 := ⟨fun q _ _ _ hq _ => m1 q hq, fun j _ => by rw [m1 104 (by omega)], fun j _ => by rw [m1 100 (by omega)]⟩
  rcases m2 with ⟨e1, e2⟩ | ⟨x, hx, rfl, hok, e1, e2, e3⟩
  · rw [e1, e2]
    simp only [Option.bind_some]
    rw [if_pos True.intro, if_pos True.intro]
    exact ⟨_, _, _, rfl, rfl, h.sc (KC.refl Mc) km1⟩
  · rw [e1, e2]
    simp only [Option.bind_some]
    rw [if_neg (show ¬ (1 : Int32) = 0 by decide), if_neg (show ¬ (1 : Int32) = 0 by decide)]
    have hN1 := hN.sc (KC.refl Mc) km1
    obtain ⟨M1, N0, N1, r, a1, a2, a3, a4, a5, a6, a7, a8, a9⟩ := playAll hN1 hx hok e3
    obtain ⟨N2, b1, b2, b3⟩ := laysBack_l (M := N1)
    rw [a1, a2]
    simp only [Option.bind_some]
    rw [a3]
    simp only [Option.bind_some]
    have km2 : KM Mm N2 := km1.tr ⟨fun q x y z u w => (b2 q y).trans (a5 q x y z), fun j hj => by rw [b3 j hj]; exact a7 j hj, fun j hj => by rw [b2 100 (by omega)]; exact a6 j hj⟩
    have fin := h.sc a4 km2
    unfold f_X9_serve_b36
    rw [a8, b1]
    simp only [Option.bind_some]
    by_cases hr : r = -1
    · obtain ⟨f1, f2, f3⟩ := a9 hr
      simp only [if_pos hr]
      obtain ⟨_, hm1, hm2, hm6, ⟨hh, y, hy, hh2⟩, _⟩ := id hN1.1
      have c7 : M1 1 7 = nI y := by rw [a4 1 (by omega)]; exact hh2
      have d7 : N1 100 7 = nI y := by rw [a6 7 (by omega), hh]; exact hh2
      rw [c7, d7]
      by_cases c9 : y = 999
      · subst c9
        rw [if_neg (show ¬ nI 999 < 999 by decide), if_pos (show nI 999 = 999 from rfl)]
        exact ⟨_, _, _, rfl, rfl, fin⟩
      · rw [if_pos (show nI y < 999 from nI_lt (b := 999) (by omega) (by omega)), if_neg (show ¬ nI y = 999 by rw [show (999 : Int32) = nI 999 from rfl, nIeq (by omega) (by omega)]; exact c9)]
        have hX : InvN many txt M1 (fun q => if q = 104 then Mm1 104 else N1 q) := by
          refine hN1.sc a4 ⟨fun q x1 x2 x3 x4 x5 => ?_, fun j _ => ?_, fun j hj => ?_⟩
          · show (if q = 104 then Mm1 104 else N1 q) = Mm1 q
            rw [if_neg x2]; exact a5 q x1 x2 x3
          · show (if (104 : Nat) = 104 then Mm1 104 else N1 104) j = Mm1 104 j
            rw [if_pos rfl]
          · show (if (100 : Nat) = 104 then Mm1 104 else N1 100) j = Mm1 100 j
            rw [if_neg (by decide)]; exact a6 j hj
        have hY : InvN many txt (mcp M1 44 0 2 0 12) N1 := hX.store (fun q hq => mcp_o hq) (fun q hq => (if_neg hq).symm) (fun j hj => by rw [mcp_in hj]; exact f1 j hj)
        obtain ⟨P, Q, g1, g2, g3, g4, g5, g6⟩ := servLoop f_X8_serve_b110 f_X9_serve_b85 hx hok many 0 FU _ N1 (by omega) (by have := FU_ge; omega) hY (fun i hi => by rw [a5 109 (by omega) (by omega) (by omega)]; exact e3 i hi)
        rw [show f_X8_serve_l72 f_X8_serve_b110 FU (nI x) 0 (mcp M1 44 0 2 0 12) = _ from g1, show f_X9_serve_l57 f_X9_serve_b85 FU 0 N1 = _ from g2]
        unfold f_X8_serve_b110 f_X9_serve_b85
        have p7 : P 1 7 = nI y := by rw [g6, mcp_o (by omega)]; exact c7
        have q7 : Q 100 7 = nI y := by rw [g5]; exact d7
        rw [p7, q7, nIp, g4, g5, mcp_o (show 43 ≠ 2 by omega), f2, f3]
        obtain ⟨a, b, c, d, e⟩ := g3
        obtain ⟨hs0, km1', km2', km6, kh, kr⟩ := id a
        refine ⟨_, _, _, rfl, rfl, Inv.hs b c d e (fun q hq => mun (by omega)) (fun q q1 q2 q3 q4 q5 => mun q1) (fun j hj => by rw [mun (by omega)]) (fun j j1 j2 j3 => mu_o j2) (Nat.le_refl _) ⟨?_, ?_, ?_, km6, ⟨?_, ?_⟩, ?_⟩⟩
        · rw [mun (by omega), mun (by omega), mun (by omega), mun (by omega), mun (by omega), mun (by omega), mun (by omega), mun (by omega), mun (by omega), mun (by omega)]; exact hs0
        · rw [mu_o (by omega)]; exact km1'
        · rw [mu_o (by omega)]; exact km2'
        · rw [mu_at, mu_at]
        · rw [mu_at]; exact B99.nI (by omega)
        · rw [mu_o (by omega), mu_o (by omega)]; exact kr
    · simp only [if_neg hr]
      exact ⟨_, _, _, rfl, rfl, fin⟩
end
section
/-! DRAWN -/
theorem jush_nn (x : Int32) : ∃ n, n < 2 ^ 23 ∧ jushr x 9 = nI n := by
  unfold jushr
  have h : (9 : Int32).toUInt32 &&& Int32.toUInt32 31 = 9 := by decide
  rw [h]
  have hb : (x.toUInt32 >>> 9).toNat < 2 ^ 23 := by
    have := x.toUInt32.toNat_lt
    rw [UInt32.toNat_shiftRight, show UInt32.toNat 9 % 32 = 9 from rfl]
    simp only [Nat.shiftRight_eq_div_pow]
    omega
  refine ⟨(x.toUInt32 >>> 9).toNat, hb, ?_⟩
  generalize x.toUInt32 >>> 9 = u at hb
  apply Int32.toBitVec_inj.mp
  show u.toBitVec = BitVec.ofInt 32 (u.toNat : Int)
  rw [BitVec.ofInt_natCast]
  apply BitVec.eq_of_toNat_eq
  rw [BitVec.toNat_ofNat]
  show u.toNat = u.toNat % 2 ^ 32
  rw [Nat.mod_eq_of_lt u.toNat_lt]
theorem drawDg (x : Int32) : ∃ g, g < 3 ∧ jrem (jushr x 9) 3 = nI g := by
  obtain ⟨n, hn, e⟩ := jush_nn x
  refine ⟨n % 3, Nat.mod_lt _ (by omega), ?_⟩
  rw [e, show (3 : Int32) = nI 3 from rfl, jrem_nI (by omega) (by omega) (by omega)]
theorem fedToll (a b f t : Int32) : (a + f) - (b + t) = (a - b) + (f - t) := by
  rw [Int32.sub_eq_add_neg, Int32.sub_eq_add_neg, Int32.sub_eq_add_neg, Int32.neg_add, Int32.sub_eq_add_neg]
  ac_rfl
theorem drawLoop {many txt : Nat} {Mc0 Mm0 : Mem} (hN : InvN many txt Mc0 Mm0) : ∀ m i fuel (v : Int32) (M N : Mem), i + m = many → m < fuel → KC Mc0 M → KM5 Mm0 N → (∀ j, j < 12 → N 104 j = M 44 j) →
    ∃ M1 N1 : Mem, f_X4_draw_l8 f_X4_draw_b57 fuel v (nI i) M = some (M1 43 3 - M1 43 5, M1) ∧ f_X9_worthDrawn_l11 f_X9_worthDrawn_b90 fuel v (M 43 3 - M 43 5) (nI i) N = f_X9_worthDrawn_b90 (M1 43 3 - M1 43 5) N1 ∧ KC Mc0 M1 ∧ KM5 Mm0 N1 := by
  obtain ⟨_, hm1, hm2, hm6, _⟩ := id hN.1
  intro m
  induction m with
  | zero =>
    intro i fuel v M N hi hf p1 p2 p3
    obtain ⟨f, rfl⟩ : ∃ f, fuel = f + 1 := ⟨fuel - 1, by omega⟩
    rw [f_X4_draw_l8, f_X9_worthDrawn_l11, p1 1 (by omega), p2.2 12 (by omega), hm1, hm2, if_pos (nI_le (by omega) (by omega)), if_pos (nI_le (by omega) (by omega))]
    exact ⟨M, N, rfl, rfl, p1, p2⟩
  | succ m ih =>
    intro i fuel v M N hi hf p1 p2 p3
    obtain ⟨f, rfl⟩ : ∃ f, fuel = f + 1 := ⟨fuel - 1, by omega⟩
    have him : i < many := by omega
    have mM : M 1 6 = nI many := by rw [p1 1 (by omega)]; exact hm1
    have mN : N 100 12 = nI many := by rw [p2.2 12 (by omega)]; exact hm2
    rw [f_X4_draw_l8, f_X9_worthDrawn_l11, mM, mN, if_neg (nI_ge him (by omega)), if_neg (nI_ge him (by omega))]
    obtain ⟨g, hg, eg⟩ := drawDg (v * 1103515245 + 12345)
    rw [eg]
    unfold f_X4_draw_b51 f_X9_worthDrawn_b84
    by_cases g0 : g = 0
    · subst g0
      rw [if_pos (show nI 0 - 1 < 0 by decide), if_pos (show nI 0 - 1 < 0 by decide), nIp]
      exact ih (i + 1) f _ M N (by omega) (by omega) p1 p2 p3
    · obtain ⟨k, hk, rfl⟩ : ∃ k, k < 2 ∧ g = k + 1 := ⟨g - 1, by omega, by omega⟩
      rw [nIm (by omega), Nat.add_sub_cancel, if_neg (show ¬ nI k < 0 from nI_pos (by omega)), if_neg (show ¬ nI k < 0 from nI_pos (by omega))]
      obtain ⟨t, tm, tc, bb, hb⟩ := tkBoth hN.1 hN.2.2.1 him
      obtain ⟨M1, a1, a2, a3, a4⟩ := goOnC hk tc p1
      have tN := p2.tk tm
      obtain ⟨N1, b1, b2⟩ := isCookedM_eq (show i < 6 by omega) hk tN
      rw [kCk_cg hk p3] at b1
      rw [a1, b1]
      simp only [Option.bind_some, zI_0]
      rw [nIp]
      cases hc : kCk t k (M 44) with
      | false =>
        obtain ⟨c1, c2⟩ := a3 hc
        rw [bf, ← c1]
        exact ih (i + 1) f _ M1 N1 (by omega) (by omega) a2 (p2.sm b2) (fun j hj => by rw [c2, b2.1 104 (by omega)]; exact p3 j hj)
      | true =>
        obtain ⟨c1, c2, c3, c4, c5⟩ := a4 hc
        rw [bt]
        have tN1 := tN.sm b2
        obtain ⟨N2, d1, d2⟩ := feedsOf_eq (show i < 6 by omega) hk tN1
        have tN2 := tN1.sm d2
        obtain ⟨N3, e1, e2⟩ := tollOf_eq (show i < 6 by omega) hk tN2
        have tN3 := tN2.sm e2
        obtain ⟨N4, u1, u2, u3⟩ := uses_eq (show i < 6 by omega) hk tN3
        rw [d1]
        simp only [Option.bind_some]
        rw [e1]
        simp only [Option.bind_some]
        rw [u1]
        simp only [Option.bind_some]
        have n2 : N2 104 = N 104 := by rw [d2.1 104 (by omega), b2.1 104 (by omega)]
        have n3 : N3 104 = N 104 := by rw [e2.1 104 (by omega), n2]
        have k4 : KM5 Mm0 N4 := by
          have w := ((p2.sm b2).sm d2).sm e2
          exact ⟨fun q x y => (u3 q y).trans (w.1 q x y), fun j x => by rw [u3 100 (by omega)]; exact w.2 j x⟩
        have hv : M 43 3 - M 43 5 + (kFed t k - kToll t k (N2 104)) = M1 43 3 - M1 43 5 := by
          rw [c1, c3, n2, kToll_cg hk p3, fedToll]
        rw [hv]
        exact ih (i + 1) f _ M1 N4 (by omega) (by omega) a2 k4 (fun j hj => by rw [u2 j hj, c5 j hj, n3]; exact kUse_cg hk p3 j hj)
theorem drawBoth {Mc Mm : Mem} {many txt : Nat} (hN : InvN many txt Mc Mm) (v : Int32) : ∃ (r : Int32) (M1 N1 : Mem), f_X4_draw v Mc = some (r, M1) ∧ f_X9_worthDrawn v Mm = some (r, N1) ∧ InvN many txt M1 N1 := by
  obtain ⟨N0, a1, a2, a3⟩ := aside_l (M := Mm)
  have km0 : KM Mm N0 := ⟨fun q _ _ h _ _ => a2 q h, fun j _ => by rw [a2 104 (by omega)], fun j _ => by rw [a2 100 (by omega)]⟩
  have hN0 := hN.sc (KC.refl Mc) km0
  unfold f_X4_draw f_X9_worthDrawn
  rw [a1]
  have kb : KC Mc (mu (mu (mu (mu (mcp Mc 2 0 44 0 12) 43 3 0) 43 4 0) 43 5 0) 43 6 (-1)) := fun q hq => by rw [mun (by omega), mun (by omega), mun (by omega), mun (by omega), mcp_o (by omega)]
  have z3 : mu (mu (mu (mu (mcp Mc 2 0 44 0 12) 43 3 0) 43 4 0) 43 5 0) 43 6 (-1) 43 3 = 0 := by rw [mu_o (by omega), mu_o (by omega), mu_o (by omega), mu_at]
  have z5 : mu (mu (mu (mu (mcp Mc 2 0 44 0 12) 43 3 0) 43 4 0) 43 5 0) 43 6 (-1) 43 5 = 0 := by rw [mu_o (by omega), mu_at]
  have z44 : ∀ j, j < 12 → N0 104 j = mu (mu (mu (mu (mcp Mc 2 0 44 0 12) 43 3 0) 43 4 0) 43 5 0) 43 6 (-1) 44 j := fun j hj => by
    rw [mun (by omega), mun (by omega), mun (by omega), mun (by omega), mcp_in hj]
    exact (hN0.1.1.1 j hj).1
  have eb : f_X4_begin Mc = some (mu (mu (mu (mu (mcp Mc 2 0 44 0 12) 43 3 0) 43 4 0) 43 5 0) 43 6 (-1)) := rfl
  rw [eb]
  generalize mu (mu (mu (mu (mcp Mc 2 0 44 0 12) 43 3 0) 43 4 0) 43 5 0) 43 6 (-1) = M at kb z3 z5 z44
  obtain ⟨M1, N1, b1, b2, b3, b4⟩ := drawLoop hN0 many 0 FU v M N0 (by omega) (by have := FU_ge; have := hN.1.2.2.2.1; omega) kb ⟨fun _ _ _ => rfl, fun _ _ => rfl⟩ z44
  rw [z3, z5, show (0 : Int32) - 0 = 0 by decide] at b2
  simp only [Option.bind_some]
  rw [show f_X4_draw_l8 f_X4_draw_b57 FU v 0 M = _ from b1, show f_X9_worthDrawn_l11 f_X9_worthDrawn_b90 FU v 0 0 N0 = _ from b2]
  unfold f_X9_worthDrawn_b90
  obtain ⟨N2, c1, c2, c3⟩ := laysBack_l (M := N1)
  rw [c1]
  refine ⟨_, M1, N2, rfl, rfl, hN.sc b3 ⟨fun q x y z u w => ?_, fun j hj => ?_, fun j hj => ?_⟩⟩
  · rw [c2 q y, b4.1 q x y, a2 q z]
  · rw [c3 j hj, b4.1 108 (by omega) (by omega), a3 j hj]
  · rw [c2 100 (by omega), b4.2 j hj, a2 100 (by omega)]
theorem drawn_op {Mc Mm : Mem} (h : Inv Mc Mm) (v : Int32) : OpI (f_X8_drawn v) (f_X9_drawn v) Mc Mm := by
  obtain ⟨many, txt, hN⟩ := id h
  obtain ⟨r, M1, N1, a1, a2, a3⟩ := drawBoth hN v
  unfold OpI f_X8_drawn f_X9_drawn
  rw [a1, a2]
  exact ⟨r, M1, N1, rfl, rfl, a3.i⟩
end
section
/-! LOWEST TERMS, CHANCE -/
theorem lN_div {a d : Nat} (ha : a < 2 ^ 31) (hd : d < 2 ^ 31) : lN a / lN d = lN (a / d) := by
  have hq : a / d ≤ a := Nat.div_le_self a d
  apply Int64.toInt_inj.mp
  rw [Int64.toInt_div, lN_toInt ha, lN_toInt hd, lN_toInt (by omega), ← Int.ofNat_tdiv]
  generalize a / d = q at hq ⊢
  exact Int.bmod_eq_of_le (by omega) (by omega)
theorem jlrem_lN {a d : Nat} (ha : a < 2 ^ 31) (hd : d < 2 ^ 31) : jlrem (lN a) (lN d) = lN (a % d) := by
  unfold jlrem
  rw [lN_div ha hd, lN_mul, lN_sub (Nat.div_mul_le_self a d)]
  exact congrArg lN (by have := Nat.div_add_mod' a d; omega)
theorem gcd_step (x y : Nat) : Nat.gcd y (x % y) = Nat.gcd x y := by
  rw [Nat.gcd_comm x y, Nat.gcd_rec y x, Nat.gcd_comm]
theorem lowC {k : Int32 → Int32 → Int32 → Int32 → Mem → Option (Int64 × Mem)} (v0 v1 v2 : Int32) (M : Mem) : ∀ n x y c fuel, y < 2 ^ n → x < 2 ^ 31 → y < 2 ^ 31 → c + 2 * n + 1 ≤ 64 → 2 * n + 1 < fuel → f_X8_lowestTerms_l8 k fuel v0 v1 v2 (nI x) (nI y) (nI c) M = k v0 v1 v2 (nI (Nat.gcd x y)) M := by
  have zero : ∀ x c fuel, x < 2 ^ 31 → c ≤ 64 → 0 < fuel → f_X8_lowestTerms_l8 k fuel v0 v1 v2 (nI x) (nI 0) (nI c) M = k v0 v1 v2 (nI (Nat.gcd x 0)) M := by
    intro x c fuel hx hc hf
    obtain ⟨f, rfl⟩ : ∃ f, fuel = f + 1 := ⟨fuel - 1, by omega⟩
    rw [f_X8_lowestTerms_l8, Nat.gcd_zero_right, if_pos (show nI 0 = 0 from rfl)]
    split <;> rfl
  have one : ∀ x y c f, 0 < y → x < 2 ^ 31 → y < 2 ^ 31 → c < 64 → f_X8_lowestTerms_l8 k (f + 1) v0 v1 v2 (nI x) (nI y) (nI c) M = f_X8_lowestTerms_l8 k f v0 v1 v2 (nI y) (nI (x % y)) (nI (c + 1)) M := by
    intro x y c f h0 hx hy hc
    rw [f_X8_lowestTerms_l8, if_neg (by rw [show (64 : Int32) = nI 64 from rfl, nIle (by omega) (by omega)]; omega), if_neg (show ¬ nI y = 0 by rw [show (0 : Int32) = nI 0 from rfl, nIeq (by omega) (by omega)]; omega), show (!(nI y == 0)) = true by rw [show (nI y == 0) = false from beq_eq_false_iff_ne.mpr (by rw [show (0 : Int32) = nI 0 from rfl]; intro h; rw [nIeq (by omega) (by omega)] at h; omega)]; rfl, jrem_nI hx h0 hy, nIp]
    rfl
  intro n
  induction n with
  | zero =>
    intro x y c fuel hy hx hy2 hc hf
    have : y = 0 := by omega
    subst this
    exact zero x c fuel hx (by omega) (by omega)
  | succ n ih =>
    intro x y c fuel hy hx hy2 hc hf
    by_cases y0 : y = 0
    · subst y0; exact zero x c fuel hx (by omega) (by omega)
    obtain ⟨f, rfl⟩ : ∃ f, fuel = f + 1 := ⟨fuel - 1, by omega⟩
    have hr : x % y < y := Nat.mod_lt _ (by omega)
    rw [one x y c f (by omega) hx hy2 (by omega), ← gcd_step]
    by_cases r0 : x % y = 0
    · rw [r0]; exact zero y (c + 1) f hy2 (by omega) (by omega)
    obtain ⟨f2, rfl⟩ : ∃ f2, f = f2 + 1 := ⟨f - 1, by omega⟩
    have hr2 : y % (x % y) < x % y := Nat.mod_lt _ (by omega)
    have hd : y % (x % y) + x % y ≤ y := by
      have := Nat.div_add_mod y (x % y)
      have h1 : 1 ≤ y / (x % y) := Nat.div_pos (by omega) (by omega)
      have h2 : x % y ≤ (x % y) * (y / (x % y)) := Nat.le_mul_of_pos_right _ h1
      omega
    have hp : 2 ^ (n + 1) = 2 * 2 ^ n := by rw [Nat.pow_succ, Nat.mul_comm]
    rw [one y (x % y) (c + 1) f2 (by omega) hy2 (by omega) (by omega), ← gcd_step]
    exact ih (x % y) (y % (x % y)) (c + 1 + 1) f2 (by omega) (by omega) (by omega) (by omega) (by omega)
theorem lowM {k : Int64 → Int64 → Int32 → Int64 → Mem → Option (Int64 × Mem)} (w0 w2 : Int64) (v4 : Int32) (M : Mem) : ∀ n x y fuel, y ≤ n → x < 2 ^ 31 → y < 2 ^ 31 → n < fuel → f_X9_lowest_l6 k fuel w0 w2 v4 (lN x) (lN y) M = k w0 w2 v4 (lN (Nat.gcd x y)) M := by
  intro n
  induction n with
  | zero =>
    intro x y fuel hn hx hy hf
    obtain ⟨f, rfl⟩ : ∃ f, fuel = f + 1 := ⟨fuel - 1, by omega⟩
    have : y = 0 := by omega
    subst this
    rw [f_X9_lowest_l6, Nat.gcd_zero_right, if_pos (by decide)]
  | succ n ih =>
    intro x y fuel hn hx hy hf
    obtain ⟨f, rfl⟩ : ∃ f, fuel = f + 1 := ⟨fuel - 1, by omega⟩
    by_cases y0 : y = 0
    · subst y0; rw [f_X9_lowest_l6, Nat.gcd_zero_right, if_pos (by decide)]
    have hr : x % y < y := Nat.mod_lt _ (by omega)
    have ne : lN y ≠ 0 := fun h => y0 ((lN_eq (b := 0) hy (by omega)).mp h)
    rw [f_X9_lowest_l6, if_neg, show (!(lN y == 0)) = true by rw [beq_eq_false_iff_ne.mpr ne]; rfl, jlrem_lN hx hy]
    · simp only [ck_true]
      rw [ih y (x % y) f (by omega) hy (by omega) (by omega), gcd_step]
    · intro h
      apply ne
      unfold lg_cmp at h
      split at h
      · cases h
      · exact absurd h (by decide)
/-- a share in lowest terms -/
theorem lowBoth {a b : Nat} (ha : a ≤ 1000) (hb : 0 < b ∧ b ≤ 1000) {v : Nat} (hv : v < 2) (Mc Mm : Mem) : ∃ r : Int64, f_X8_lowestTerms (nI a) (nI b) (nI v) Mc = some (r, Mc) ∧ f_X9_lowest (lN a) (lN b) (nI v) Mm = some (r, Mm) := by
  have hg : 0 < Nat.gcd a b := Nat.gcd_pos_of_pos_right a hb.1
  have hg2 : Nat.gcd a b ≤ b := Nat.gcd_le_right a hb.1
  unfold f_X8_lowestTerms f_X9_lowest
  have c := lowC (k := f_X8_lowestTerms_b39) (nI a) (nI b) (nI v) Mc 10 a b 0 FU (by omega) (by omega) (by omega) (by omega) (by have := FU_ge; omega)
  have m := lowM (k := f_X9_lowest_b31) (lN a) (lN b) (nI v) Mm b a b FU (Nat.le_refl _) (by omega) (by omega) (by unfold FU; omega)
  rw [show f_X8_lowestTerms_l8 f_X8_lowestTerms_b39 FU (nI a) (nI b) (nI v) (nI a) (nI b) 0 Mc = _ from c, m]
  unfold f_X8_lowestTerms_b39 f_X9_lowest_b31
  have n0 : ∀ x : Nat, 0 < x → x < 2 ^ 31 → ¬ nI x = 0 := fun x h1 h2 => by rw [show (0 : Int32) = nI 0 from rfl, nIeq h2 (by omega)]; omega
  have l0 : (!(lN (Nat.gcd a b) == 0)) = true := by
    rw [beq_eq_false_iff_ne.mpr (fun h => by have := (lN_eq (b := 0) (show Nat.gcd a b < 2 ^ 31 by omega) (by omega)).mp h; omega)]; rfl
  have i0 : (!(nI (Nat.gcd a b) == 0)) = true := by
    rw [beq_eq_false_iff_ne.mpr (n0 _ hg (by omega))]; rfl
  rw [if_neg (n0 b hb.1 (by omega)), if_neg (n0 _ hg (by omega)), l0, i0]
  simp only [ck_true]
  by_cases hv0 : v = 0
  · subst hv0
    rw [if_pos (show nI 0 = 0 from rfl), if_pos (show nI 0 = 0 from rfl), pk_div (by omega) hg (by omega), nI_l (Nat.lt_of_le_of_lt (Nat.div_le_self _ _) (by omega)), lN_div (by omega) (by omega)]
    exact ⟨_, rfl, rfl⟩
  · rw [if_neg (n0 v (by omega) (by omega)), if_neg (n0 v (by omega) (by omega)), pk_div (by omega) hg (by omega), nI_l (Nat.lt_of_le_of_lt (Nat.div_le_self _ _) (by omega)), lN_div (by omega) (by omega)]
    exact ⟨_, rfl, rfl⟩
def OpL (fc fm : Mem → Option (Int64 × Mem)) (Mc Mm : Mem) : Prop := ∃ (r : Int64) (Mc1 Mm1 : Mem), fc Mc = some (r, Mc1) ∧ fm Mm = some (r, Mm1) ∧ Inv Mc1 Mm1
theorem chanceLoop {many txt n v4 : Nat} (hn : 0 < n ∧ n ≤ 20) (hv4 : v4 < 2) (v1 v3 : Int32) : ∀ m i fuel c (M N : Mem), i + m = n → c ≤ i → m < fuel → InvN many txt M N →
    ∃ (r : Int64) (M1 N1 : Mem), f_X8_chance_l46 f_X8_chance_b76 fuel v1 (nI n) v3 (nI v4) (nI c) (nI i) M = some (r, M1) ∧ f_X9_chance_l47 f_X9_chance_b81 fuel v1 (nI n) v3 (nI v4) (lN c) (nI i) N = some (r, N1) ∧ InvN many txt M1 N1 := by
  intro m
  induction m with
  | zero =>
    intro i fuel c M N hi hc hf hN
    obtain ⟨f, rfl⟩ : ∃ f, fuel = f + 1 := ⟨fuel - 1, by omega⟩
    rw [f_X8_chance_l46, f_X9_chance_l47, if_pos (nI_le (by omega) (by omega)), if_pos (nI_le (by omega) (by omega))]
    unfold f_X8_chance_b76 f_X9_chance_b81
    obtain ⟨r, e1, e2⟩ := lowBoth (a := c) (b := n) (by omega) (by omega) hv4 M N
    rw [e1, nI_l (show n < 2 ^ 31 by omega), e2]
    exact ⟨r, M, N, rfl, rfl, hN⟩
  | succ m ih =>
    intro i fuel c M N hi hc hf hN
    obtain ⟨f, rfl⟩ : ∃ f, fuel = f + 1 := ⟨fuel - 1, by omega⟩
    rw [f_X8_chance_l46, f_X9_chance_l47, if_neg (nI_ge (by omega) (by omega)), if_neg (nI_ge (by omega) (by omega))]
    obtain ⟨r, M1, N1, a1, a2, a3⟩ := drawBoth hN (v1 + nI i)
    rw [a1, a2]
    simp only [Option.bind_some]
    unfold f_X8_chance_b70 f_X9_chance_b72
    rw [nIp, nIp]
    by_cases hr : r < v3
    · rw [if_pos hr, if_pos hr, show lN c + 0 = lN c from lN_add c 0]
      exact ih (i + 1) f c M1 N1 (by omega) (by omega) (by omega) a3
    · rw [if_neg hr, if_neg hr, lN_1]
      exact ih (i + 1) f (c + 1) M1 N1 (by omega) (by omega) (by omega) a3
theorem chance_op {Mc Mm : Mem} (h : Inv Mc Mm) (v1 v2 v3 v4 : Int32) : OpL (f_X8_chance v1 v2 v3 v4) (f_X9_chance v1 v2 v3 v4) Mc Mm := by
  obtain ⟨many, txt, hN⟩ := id h
  have hN : InvN many txt Mc Mm := hN
  unfold OpL f_X8_chance f_X9_chance
  rw [show (1 : Int64) = (1 : Int32).toInt64 from rfl, show (20 : Int64) = (20 : Int32).toInt64 from rfl, show (-9999 : Int64) = (-9999 : Int32).toInt64 from rfl, show (9999 : Int64) = (9999 : Int32).toInt64 from rfl, in_eq]
  simp only [Option.bind_some, zI_0, in_eq, inM (n := 2) (show (1 : Int32).toInt = ((2 : Nat) : Int) - 1 by decide)]
  by_cases c1 : v2 < 1
  · rw [decide_eq_true c1, if_pos c1, if_pos (by rfl)]; exact ⟨_, _, _, rfl, rfl, h⟩
  rw [decide_eq_false c1, if_neg c1]
  by_cases c2 : (20 : Int32) < v2
  · rw [decide_eq_true c2, if_pos c2, if_pos (by rfl)]; exact ⟨_, _, _, rfl, rfl, h⟩
  rw [decide_eq_false c2, if_neg c2, if_neg (show ¬ ((!false && !false) = false) by decide)]
  by_cases c3 : v3 < -9999
  · rw [decide_eq_true c3, if_pos c3, if_pos (by rfl)]; exact ⟨_, _, _, rfl, rfl, h⟩
  rw [decide_eq_false c3, if_neg c3]
  by_cases c4 : (9999 : Int32) < v3
  · rw [decide_eq_true c4, if_pos c4, if_pos (by rfl)]; exact ⟨_, _, _, rfl, rfl, h⟩
  rw [decide_eq_false c4, if_neg c4, if_neg (show ¬ ((!false && !false) = false) by decide), inC3 (b := 1) (n := 2) (by decide)]
  cases g1 : inR v4 2 with
  | false => rw [bf, ft]; exact ⟨_, _, _, rfl, rfl, h⟩
  | true =>
    rw [bt, tt]
    obtain ⟨y, hy, rfl⟩ := inR_of g1 (by omega)
    have hv2 : inR v2 21 = true := by
      unfold inR
      rw [i_lt] at c1 c2
      have e1 : (1 : Int32).toInt = 1 := by decide
      have e2 : (20 : Int32).toInt = 20 := by decide
      exact decide_eq_true ⟨by omega, by omega⟩
    obtain ⟨n, hn, rfl⟩ := inR_of hv2 (by omega)
    have hn0 : 0 < n := by
      rw [show (1 : Int32) = nI 1 from rfl, nIlt (by omega) (by omega)] at c1; omega
    obtain ⟨r, M1, N1, a1, a2, a3⟩ := chanceLoop (many := many) (txt := txt) (n := n) (v4 := y) ⟨hn0, by omega⟩ hy v1 v3 n 0 FU 0 Mc Mm (by omega) (by omega) (by have := FU_ge; omega) hN
    exact ⟨r, M1, N1, a1, a2, a3.i⟩
end
section
/-! DISHES FROM A SHEET -/
def hr (v : Int32) (n z : Nat) : Bool := decide (0 ≤ v.toInt ∧ v.toInt + n ≤ z)
theorem hasRun_eq {s z n : Nat} (hs : s < 4) {M : Mem} (hz : z ≤ 40) (hn : n < 2147483648) (h1 : M (55 + 2 * s) 1 = nI z) (v : Int32) : f_X6_hasRun (55 + 2 * s) v (nI n) M = some (zI (hr v n z), M) := by
  unfold f_X6_hasRun
  rw [(sh_kd s hs).1, h1]
  simp only [beq_self_eq_true, ck_true]
  rw [if_neg (show ¬ nI n < 0 from nI_pos (by omega))]
  unfold hr
  by_cases c0 : v < 0
  · rw [if_pos c0]
    rw [i_lt, show (0 : Int32).toInt = 0 from rfl] at c0
    rw [decide_eq_false (by omega)]; rfl
  · rw [if_neg c0]
    rw [i_lt, show (0 : Int32).toInt = 0 from rfl] at c0
    by_cases c1 : nI z < v
    · rw [if_pos c1]
      rw [i_lt, i_nI (by omega)] at c1
      rw [decide_eq_false (by omega)]; rfl
    · rw [if_neg c1]
      rw [i_lt, i_nI (by omega)] at c1
      have e : (nI z - v).toInt = (z : Int) - v.toInt := by
        rw [Int32.toInt_sub, i_nI (by omega), Int.bmod_eq_of_le (by omega) (by omega)]
      by_cases c2 : nI z - v < nI n
      · rw [if_pos c2]
        rw [i_lt, e, i_nI (by omega)] at c2
        rw [decide_eq_false (by omega)]; rfl
      · rw [if_neg c2]
        rw [i_lt, e, i_nI (by omega)] at c2
        rw [decide_eq_true ⟨by omega, by omega⟩]; rfl
theorem dishFrC {v1 v2 v3 r : Int32} {M M1 : Mem} (h : f_X8_dish v1 v2 v3 M = some (r, M1)) : ∀ q, 8 ≤ q → M1 q = M q := by
  intro q hq
  unfold f_X8_dish f_X1_addDish at h
  repeat' split at h
  all_goals first
    | (have := Option.some.inj h; have := congrArg Prod.snd this; simp only at this; rw [← this])
    | (simp only [ck, Option.bind] at h
       split at h
       · cases h
       · rename_i o ho
         split at ho
         · have e := Option.some.inj ho
           have e2 := Option.some.inj h
           have e3 := congrArg Prod.snd e2
           rw [← e] at e3
           simp only at e3
           rw [← e3, mun (by omega), mun (by omega), mun (by omega), mun (by omega), mun (by omega)]
         · cases ho)
theorem dishFrM {v1 v2 v3 r : Int32} {M M1 : Mem} (h : f_X9_dish v1 v2 v3 M = some (r, M1)) : ∀ q, 108 ≤ q → M1 q = M q := by
  intro q hq
  unfold f_X9_dish at h
  rw [show (0 : Int64) = (0 : Int32).toInt64 from rfl, show (5 : Int64) = (5 : Int32).toInt64 from rfl, show (9 : Int64) = (9 : Int32).toInt64 from rfl, show (999999 : Int64) = (999999 : Int32).toInt64 from rfl] at h
  simp only [in_eq, Option.bind_some] at h
  repeat' split at h
  all_goals first
    | (have := Option.some.inj h; have := congrArg Prod.snd this; simp only at this; rw [← this])
    | (simp only [ck] at h
       repeat' split at h
       all_goals first
         | (have e := Option.some.inj h
            have e3 := congrArg Prod.snd e
            simp only at e3
            rw [← e3, mun (by omega), mun (by omega), mun (by omega), mun (by omega), mun (by omega)])
         | cases h)
theorem dishesLoop {s z n4 : Nat} (hs : s < 4) (hz : z ≤ 40) (hn4 : n4 ≤ 6) (v3 : Int32) : ∀ m i fuel c (M N : Mem), i + m = n4 → m < fuel → Inv M N → M (55 + 2 * s) 1 = nI z → N 116 s = nI z → (∀ j, j < z → M (55 + 2 * s + 1) j = N 117 (40 * s + j)) →
    ∃ (r : Int32) (M1 N1 : Mem), f_X8_dishes_l68 fuel v3 (nI n4) (55 + 2 * s) (nI c) (nI i) M = some (r, M1) ∧ f_X9_dishes_l75 fuel (nI s) v3 (nI n4) (nI c) (nI i) N = some (r, N1) ∧ Inv M1 N1 := by
  obtain ⟨k1, k2, k3⟩ := sh_kd s hs
  intro m
  induction m with
  | zero =>
    intro i fuel c M N hi hf hI h1 h2 h3
    obtain ⟨f, rfl⟩ : ∃ f, fuel = f + 1 := ⟨fuel - 1, by omega⟩
    rw [f_X8_dishes_l68, f_X9_dishes_l75, if_pos (nI_le (by omega) (by omega)), if_pos (nI_le (by omega) (by omega))]
    exact ⟨_, M, N, rfl, rfl, hI⟩
  | succ m ih =>
    intro i fuel c M N hi hf hI h1 h2 h3
    obtain ⟨f, rfl⟩ : ∃ f, fuel = f + 1 := ⟨fuel - 1, by omega⟩
    have e3 : (3 : Int32) * nI i = nI (3 * i) := by rw [show (3 : Int32) = nI 3 from rfl, pk_mul]
    have e33 : nI (3 * i) + 3 = nI (3 * i + 3) := by rw [show (3 : Int32) = nI 3 from rfl, nI_add]
    rw [f_X8_dishes_l68, f_X9_dishes_l75, if_neg (nI_ge (by omega) (by omega)), if_neg (nI_ge (by omega) (by omega)), e3, e33, hasRun_eq hs hz (by omega) h1, inb_nI hs (by omega), nI_clamp (show s < 2 ^ 31 by omega), h2, k1, k2, k3]
    rw [Option.bind_some, show ((5 : Nat) == 5) = true from rfl, show ((10 : Nat) == 10) = true from rfl]
    repeat rw [ck_true]
    cases hh : hr v3 (3 * i + 3) z with
    | false =>
      rw [if_pos (show zI false = 0 from rfl)]
      refine ⟨-12, M, N, rfl, ?_, hI⟩
      by_cases c0 : v3 < 0
      · rw [if_pos c0]
      · rw [if_neg c0, if_neg]
        unfold hr at hh
        have hh := of_decide_eq_false hh
        rw [i_lt, show (0 : Int32).toInt = 0 from rfl] at c0
        rw [i_le, Int32.toInt_sub, Int32.toInt_sub, i_nI (by omega), i_nI (by omega), show (3 : Int32).toInt = 3 from rfl, Int.bmod_eq_of_le (n := (z : Int) - ((3 * i : Nat) : Int)) (by omega) (by omega), Int.bmod_eq_of_le (by omega) (by omega)]
        omega
    | true =>
      rw [if_neg (show ¬ zI true = 0 by decide)]
      repeat rw [ck_true]
      unfold hr at hh
      have hh := of_decide_eq_true hh
      have hv : inR v3 41 = true := by unfold inR; exact decide_eq_true ⟨by omega, by omega⟩
      obtain ⟨a, ha, rfl⟩ := inR_of hv (by omega)
      rw [i_nI (by omega)] at hh
      have hle : nI a ≤ nI z - nI (3 * i) - 3 := by
        rw [show (3 : Int32) = nI 3 from rfl, pk_sub (by omega), pk_sub (by omega), nIle (by omega) (by omega)]; omega
      rw [if_neg (show ¬ nI a < 0 from nI_pos (by omega)), if_pos hle, nI_add, nIp, show nI (a + 3 * i) + 2 = nI (a + 3 * i + 2) by rw [show (2 : Int32) = nI 2 from rfl, nI_add], show (40 : Int32) * nI s + nI a + nI (3 * i) = nI (40 * s + (a + 3 * i)) by rw [show (40 : Int32) = nI 40 from rfl, pk_mul, nI_add, nI_add, Nat.add_assoc], show nI (40 * s + (a + 3 * i)) + 1 = nI (40 * s + (a + 3 * i + 1)) by rw [nIp, Nat.add_assoc], show nI (40 * s + (a + 3 * i)) + 2 = nI (40 * s + (a + 3 * i + 2)) by rw [show (2 : Int32) = nI 2 from rfl, nI_add, Nat.add_assoc]]
      rw [inb_nI (show a + 3 * i < 40 by omega) (by omega), inb_nI (show a + 3 * i + 1 < 40 by omega) (by omega), inb_nI (show a + 3 * i + 2 < 40 by omega) (by omega), inb_nI (show 40 * s + (a + 3 * i) < 160 by omega) (by omega), inb_nI (show 40 * s + (a + 3 * i + 1) < 160 by omega) (by omega), inb_nI (show 40 * s + (a + 3 * i + 2) < 160 by omega) (by omega)]
      rw [nI_clamp (show a + 3 * i < 2 ^ 31 by omega), nI_clamp (show a + 3 * i + 1 < 2 ^ 31 by omega), nI_clamp (show a + 3 * i + 2 < 2 ^ 31 by omega), nI_clamp (show 40 * s + (a + 3 * i) < 2 ^ 31 by omega), nI_clamp (show 40 * s + (a + 3 * i + 1) < 2 ^ 31 by omega), nI_clamp (show 40 * s + (a + 3 * i + 2) < 2 ^ 31 by omega), ← h3 (a + 3 * i) (by omega), ← h3 (a + 3 * i + 1) (by omega), ← h3 (a + 3 * i + 2) (by omega)]
      repeat rw [ck_true]
      obtain ⟨r, M1, N1, d1, d2, d3⟩ := dish_op hI (M (55 + 2 * s + 1) (a + 3 * i)) (M (55 + 2 * s + 1) (a + 3 * i + 1)) (M (55 + 2 * s + 1) (a + 3 * i + 2))
      have fc := dishFrC d1
      have fm := dishFrM d2
      rw [d1, d2, Option.bind_some, Option.bind_some]
      unfold f_X8_dishes_b139 f_X9_dishes_b158
      have g1 : M1 (55 + 2 * s) 1 = nI z := by rw [fc _ (by omega)]; exact h1
      have g2 : N1 116 s = nI z := by rw [fm _ (by omega)]; exact h2
      have g3 : ∀ j, j < z → M1 (55 + 2 * s + 1) j = N1 117 (40 * s + j) := fun j hj => by rw [fc _ (by omega), fm 117 (by omega)]; exact h3 j hj
      by_cases c0 : r < 0
      · rw [if_pos c0, if_pos c0, nIp, show nI c + 0 = nI c from nI_add c 0]
        exact ih (i + 1) f c M1 N1 (by omega) (by omega) d3 g1 g2 g3
      · rw [if_neg c0, if_neg c0, nIp, nIp]
        exact ih (i + 1) f (c + 1) M1 N1 (by omega) (by omega) d3 g1 g2 g3
theorem dishes_op {Mc Mm : Mem} (h : Inv Mc Mm) (v1 v2 v3 v4 : Int32) : OpI (f_X8_dishes v1 v2 v3 v4) (f_X9_dishes v1 v2 v3 v4) Mc Mm := by
  obtain ⟨many, txt, hN⟩ := id h
  have hN : InvN many txt Mc Mm := hN
  unfold OpI f_X8_dishes f_X9_dishes
  rw [hasS, isS, show (2 : Int64) = (2 : Int32).toInt64 from rfl, show (6 : Int64) = (6 : Int32).toInt64 from rfl]
  simp only [Option.bind_some, zI_0, inM (n := 3) (show (2 : Int32).toInt = ((3 : Nat) : Int) - 1 by decide), inM (n := 7) (show (6 : Int32).toInt = ((7 : Nat) : Int) - 1 by decide)]
  rw [inC2 (b := 2) (n := 3) (by decide), inC3 (b := 6) (n := 7) (by decide)]
  cases g1 : inR v1 4 with
  | false => rw [bf, bf]; exact ⟨_, _, _, rfl, rfl, h⟩
  | true =>
    rw [bt, bt]
    cases g2 : inR v2 3 with
    | false => rw [bf, ft]; exact ⟨_, _, _, rfl, rfl, h⟩
    | true =>
      rw [bt, tt]
      cases g3 : inR v4 7 with
      | false => rw [bf, ft]; exact ⟨_, _, _, rfl, rfl, h⟩
      | true =>
        rw [bt, tt]
        obtain ⟨s, hs, rfl⟩ := inR_of g1 (by omega)
        obtain ⟨k, hk, rfl⟩ := inR_of g2 (by omega)
        obtain ⟨n4, hn4, rfl⟩ := inR_of g3 (by omega)
        obtain ⟨k1, k2, k3⟩ := sh_kd s hs
        rw [inb_nI hs (by omega), nI_clamp (show s < 2 ^ 31 by omega), k1]
        simp only [ck_true, beq_self_eq_true]
        unfold f_X9_dishes_b57
        rw [inb_nI hs (by omega), nI_clamp (show s < 2 ^ 31 by omega)]
        simp only [ck_true]
        rcases hN.2.2.2.2 s hs with ⟨t1, t2⟩ | ⟨so, z, t1, t2, t3, t4, t5, t6, t7, t8⟩
        · rw [(miss_eq hs).1 t1, if_pos t2, if_pos t2]
          exact ⟨_, _, _, rfl, rfl, h⟩
        · have n114 : ¬ Mm 114 s = 0 := by rw [t7]; decide
          rw [(miss_eq hs).2 (by rw [t3]; exact nI_n1 (by omega)), if_neg n114, if_neg n114]
          simp only [Option.bind_some]
          rw [if_pos True.intro, t3, t4]
          by_cases c : so = k
          · subst c
            rw [if_pos rfl, if_pos rfl]
            obtain ⟨r, M1, N1, d1, d2, d3⟩ := dishesLoop hs t2 (show n4 ≤ 6 by omega) v3 n4 0 FU 0 Mc Mm (by omega) (by have := FU_ge; omega) h t5 t6 (fun j hj => by rw [← show 56 + 2 * s = 55 + 2 * s + 1 by omega]; exact t8 j hj)
            exact ⟨r, M1, N1, d1, d2, d3⟩
          · have ne : ¬ nI so = nI k := by rw [nIeq (by omega) (by omega)]; exact c
            rw [if_neg ne, if_neg ne]
            exact ⟨_, _, _, rfl, rfl, h⟩
end
section
/-! COPY -/
def cpos (bk : Bool) (n t : Nat) : Nat := if bk = true then n - 1 - t else t
theorem copyM_l {s1 s3 a b n : Nat} {bk : Bool} (h1 : s1 < 4) (h3 : s3 < 4) (ha : a + n ≤ 40) (hb : b + n ≤ 40) (M0 : Mem) (hc : ∀ u t, u < t → t < n → 40 * s1 + a + cpos bk n t ≠ 40 * s3 + b + cpos bk n u) : ∀ m t fuel (M : Mem), t + m = n → m < fuel → (∀ q, q ≠ 117 → M q = M0 q) → (∀ u, u < t → M 117 (40 * s3 + b + cpos bk n u) = M0 117 (40 * s1 + a + cpos bk n u)) → (∀ p, (∀ u, u < t → p ≠ 40 * s3 + b + cpos bk n u) → M 117 p = M0 117 p) →
    ∃ M1 : Mem, f_X9_copy_l121 fuel (nI s1) (nI a) (nI s3) (nI b) (nI n) (zI bk) (nI t) M = some (nI n, M1) ∧ (∀ q, q ≠ 117 → M1 q = M0 q) ∧ (∀ u, u < n → M1 117 (40 * s3 + b + cpos bk n u) = M0 117 (40 * s1 + a + cpos bk n u)) ∧ (∀ p, (∀ u, u < n → p ≠ 40 * s3 + b + cpos bk n u) → M1 117 p = M0 117 p) := by
  intro m
  induction m with
  | zero =>
    intro t fuel M hi hf i1 i2 i3
    obtain ⟨f, rfl⟩ : ∃ f, fuel = f + 1 := ⟨fuel - 1, by omega⟩
    have : t = n := by omega
    subst this
    rw [f_X9_copy_l121, if_pos (nI_le (Nat.le_refl _) (by omega))]
    exact ⟨M, rfl, i1, i2, i3⟩
  | succ m ih =>
    intro t fuel M hi hf i1 i2 i3
    obtain ⟨f, rfl⟩ : ∃ f, fuel = f + 1 := ⟨fuel - 1, by omega⟩
    have hp : cpos bk n t < n := by unfold cpos; split <;> omega
    have st : f_X9_copy_b145 (f_X9_copy_l121 f) (nI s1) (nI a) (nI s3) (nI b) (nI n) (zI bk) (nI t) (nI (cpos bk n t)) M = f_X9_copy_l121 f (nI s1) (nI a) (nI s3) (nI b) (nI n) (zI bk) (nI (t + 1)) (mu M 117 (40 * s3 + b + cpos bk n t) (M 117 (40 * s1 + a + cpos bk n t))) := by
      unfold f_X9_copy_b145
      rw [show (40 : Int32) = nI 40 from rfl, pk_mul, pk_mul, nI_add, nI_add, nI_add, nI_add, inb_nI (show 40 * s1 + a + cpos bk n t < 160 by omega) (by omega), inb_nI (show 40 * s3 + b + cpos bk n t < 160 by omega) (by omega), nI_clamp (show 40 * s1 + a + cpos bk n t < 2 ^ 31 by omega), nI_clamp (show 40 * s3 + b + cpos bk n t < 2 ^ 31 by omega), nIp]
      rfl
    have go : f_X9_copy_l121 (f + 1) (nI s1) (nI a) (nI s3) (nI b) (nI n) (zI bk) (nI t) M = f_X9_copy_b145 (f_X9_copy_l121 f) (nI s1) (nI a) (nI s3) (nI b) (nI n) (zI bk) (nI t) (nI (cpos bk n t)) M := by
      rw [f_X9_copy_l121, if_neg (nI_ge (by omega) (by omega))]
      cases bk with
      | false => rw [if_pos (show zI false = 0 from rfl)]; rfl
      | true =>
        rw [if_neg (show ¬ zI true = 0 by decide), nIm (by omega), pk_sub (by omega)]; rfl
    rw [go, st]
    have rd : M 117 (40 * s1 + a + cpos bk n t) = M0 117 (40 * s1 + a + cpos bk n t) := i3 _ (fun u hu => hc u t hu (by omega))
    have inj : ∀ u, u < t → cpos bk n u ≠ cpos bk n t := fun u hu => by unfold cpos; split <;> omega
    refine ih (t + 1) f _ (by omega) (by omega) (fun q hq => (mun hq).trans (i1 q hq)) (fun u hu => ?_) (fun p hp2 => ?_)
    · by_cases e : u = t
      · rw [e, mu_at, rd]
      · rw [mu_o (by have := inj u (by omega); omega)]; exact i2 u (by omega)
    · rw [mu_o (hp2 t (by omega))]
      exact i3 p (fun u hu => hp2 u (by omega))
end
section
/-! COPY, both -/
theorem cpos_lt {bk : Bool} {n t : Nat} (h : t < n) : cpos bk n t < n := by unfold cpos; split <;> omega
theorem cpos_on {bk : Bool} {n u : Nat} (h : u < n) : ∃ t, t < n ∧ cpos bk n t = u := by
  cases bk with
  | false => exact ⟨u, h, rfl⟩
  | true => exact ⟨n - 1 - u, by omega, by unfold cpos; rw [if_pos rfl]; omega⟩
theorem copyFin {many txt s1 s3 a b n z1 z3 so : Nat} {bk : Bool} {Mc Mm N : Mem} (hN : InvN many txt Mc Mm) (h1 : s1 < 4) (h3 : s3 < 4) (hz1 : z1 ≤ 40) (hz3 : z3 ≤ 40) (ha : a + n ≤ z1) (hb : b + n ≤ z3) (hso : so < 3)
    (t3 : Mc (55 + 2 * s3) 0 = nI so) (t4 : Mm 115 s3 = nI so) (t5 : Mc (55 + 2 * s3) 1 = nI z3) (t6 : Mm 116 s3 = nI z3) (t7 : Mm 114 s3 = 1) (t8 : ∀ i, i < z3 → Mc (56 + 2 * s3) i = Mm 117 (40 * s3 + i)) (u8 : ∀ i, i < z1 → Mc (56 + 2 * s1) i = Mm 117 (40 * s1 + i))
    (e2 : ∀ q, q ≠ 117 → N q = Mm q) (e3 : ∀ u, u < n → N 117 (40 * s3 + b + cpos bk n u) = Mm 117 (40 * s1 + a + cpos bk n u)) (e4 : ∀ p, (∀ u, u < n → p ≠ 40 * s3 + b + cpos bk n u) → N 117 p = Mm 117 p) :
    InvN many txt (mcp Mc (55 + 2 * s1 + 1) a (55 + 2 * s3 + 1) b n) N := by
  refine hN.sheet (fun q hq => mcp_o (by omega)) (fun q hq => e2 q (by omega)) (fun s hs => ?_)
  by_cases es : s = s3
  · subst es
    refine Or.inr ⟨so, z3, hso, hz3, ?_, ?_, ?_, ?_, ?_, fun i hi => ?_⟩
    · rw [mcp_o (by omega)]; exact t3
    · rw [e2 115 (by omega)]; exact t4
    · rw [mcp_o (by omega)]; exact t5
    · rw [e2 116 (by omega)]; exact t6
    · rw [e2 114 (by omega)]; exact t7
    · rw [show 56 + 2 * s = 55 + 2 * s + 1 by omega]
      unfold mcp va_cpy
      rw [if_pos rfl]
      by_cases c : b ≤ i ∧ i < b + n
      · rw [if_pos c]
        obtain ⟨t, ht, et⟩ := cpos_on (bk := bk) (n := n) (u := i - b) (by omega)
        have := e3 t ht
        rw [et, show 40 * s + b + (i - b) = 40 * s + i by omega] at this
        rw [this, show 55 + 2 * s1 + 1 = 56 + 2 * s1 by omega, u8 _ (by omega), Nat.add_assoc]
      · rw [if_neg c, e4 _ (fun u hu => by have := cpos_lt (bk := bk) hu; omega), show 55 + 2 * s + 1 = 56 + 2 * s by omega]
        exact t8 i hi
  · have := hN.2.2.2.2 s hs
    unfold ShI at this ⊢
    rw [mcp_o (show 55 + 2 * s ≠ 55 + 2 * s3 + 1 by omega), mcp_o (show 56 + 2 * s ≠ 55 + 2 * s3 + 1 by omega), e2 114 (by omega), e2 115 (by omega), e2 116 (by omega)]
    rcases this with t | ⟨so2, z2, x1, x2, x3, x4, x5, x6, x7, x8⟩
    · exact Or.inl t
    · exact Or.inr ⟨so2, z2, x1, x2, x3, x4, x5, x6, x7, fun i hi => by rw [e4 _ (fun u hu => by have := cpos_lt (bk := bk) hu; omega)]; exact x8 i hi⟩
end
section
/-! COPY, the call -/
theorem subZ {z n : Nat} (hz : z ≤ 40) (hn : n < 2 ^ 31) : (nI z - nI n).toInt = (z : Int) - n := by
  rw [Int32.toInt_sub, i_nI (by omega), i_nI hn, Int.bmod_eq_of_le (by omega) (by omega)]
theorem copy_op {Mc Mm : Mem} (h : Inv Mc Mm) (v1 v2 v3 v4 v5 : Int32) : OpI (f_X8_copy v1 v2 v3 v4 v5) (f_X9_copy v1 v2 v3 v4 v5) Mc Mm := by
  obtain ⟨many, txt, hN⟩ := id h
  have hN : InvN many txt Mc Mm := hN
  unfold OpI f_X8_copy f_X9_copy
  rw [hasS, isS, Option.bind_some, Option.bind_some]
  dsimp only
  cases g1 : inR v1 4 with
  | false => rw [if_pos (show zI false = 0 from rfl), if_pos (show zI false = 0 from rfl)]; exact ⟨_, _, _, rfl, rfl, h⟩
  | true =>
    rw [if_neg (show ¬ zI true = 0 by decide), if_neg (show ¬ zI true = 0 by decide), hasS, isS, Option.bind_some, Option.bind_some]
    dsimp only
    cases g2 : inR v3 4 with
    | false => rw [if_pos (show zI false = 0 from rfl), if_pos (show zI false = 0 from rfl)]; exact ⟨_, _, _, rfl, rfl, h⟩
    | true =>
      rw [if_neg (show ¬ zI true = 0 by decide), if_neg (show ¬ zI true = 0 by decide)]
      obtain ⟨s1, h1, rfl⟩ := inR_of g1 (by omega)
      obtain ⟨s3, h3, rfl⟩ := inR_of g2 (by omega)
      obtain ⟨k1, k2, k3⟩ := sh_kd s1 h1
      obtain ⟨l1, l2, l3⟩ := sh_kd s3 h3
      rw [inb_nI h1 (by omega), inb_nI h3 (by omega), nI_clamp (show s1 < 2 ^ 31 by omega), nI_clamp (show s3 < 2 ^ 31 by omega), k1, l1, k2, l2, k3, l3, show ((5 : Nat) == 5) = true from rfl, show ((10 : Nat) == 10) = true from rfl]
      repeat rw [ck_true]
      rcases hN.2.2.2.2 s1 h1 with ⟨t1, t2⟩ | ⟨so1, z1, p1, p2, p3, p4, p5, p6, p7, p8⟩
      · rw [(miss_eq h1).1 t1, if_pos t2, Option.bind_some, ck_true, if_neg (show ¬ (1 : Int32) = 0 by decide)]
        exact ⟨_, _, _, rfl, rfl, h⟩
      have n1 : ¬ Mm 114 s1 = 0 := by rw [p7]; decide
      rw [(miss_eq h1).2 (by rw [p3]; exact nI_n1 (by omega)), if_neg n1, Option.bind_some]
      dsimp only
      rw [ck_true, if_pos rfl]
      rcases hN.2.2.2.2 s3 h3 with ⟨t1, t2⟩ | ⟨so3, z3, q1, q2, q3, q4, q5, q6, q7, q8⟩
      · rw [(miss_eq h3).1 t1, if_pos t2, Option.bind_some]
        repeat rw [ck_true]
        rw [if_neg (show ¬ (1 : Int32) = 0 by decide)]
        exact ⟨_, _, _, rfl, rfl, h⟩
      have n3 : ¬ Mm 114 s3 = 0 := by rw [q7]; decide
      rw [(miss_eq h3).2 (by rw [q3]; exact nI_n1 (by omega)), if_neg n3, Option.bind_some]
      dsimp only
      repeat rw [ck_true]
      rw [if_pos rfl]
      by_cases cs : so1 = so3
      · subst cs
        rw [if_pos (show Mc (55 + 2 * s1) 0 = Mc (55 + 2 * s3) 0 by rw [p3, q3]), if_pos (show Mm 115 s1 = Mm 115 s3 by rw [p4, q4])]
        by_cases c5 : v5 < 0
        · rw [if_pos c5]
          have e : f_X6_hasRun (55 + 2 * s1) v2 v5 Mc = some (0, Mc) := by
            unfold f_X6_hasRun
            rw [if_pos c5]
            split <;> rfl
          rw [e, Option.bind_some]
          dsimp only
          rw [if_pos rfl]
          exact ⟨_, _, _, rfl, rfl, h⟩
        rw [if_neg c5]
        obtain ⟨n, hn, rfl⟩ := nI_of c5
        rw [hasRun_eq h1 p2 (by omega) p5, Option.bind_some]
        dsimp only
        have e0 : (0 : Int32).toInt = 0 := rfl
        have sz1 := subZ p2 hn
        have sz3 := subZ q2 hn
        cases r1 : hr v2 n z1 with
        | false =>
          rw [if_pos (show zI false = 0 from rfl)]
          refine ⟨-12, Mc, Mm, rfl, ?_, h⟩
          unfold hr at r1
          have r1 := of_decide_eq_false r1
          by_cases a0 : v2 < 0
          · rw [if_pos a0]
          · rw [if_neg a0]
            by_cases b0 : v4 < 0
            · rw [if_pos b0]
            · rw [if_neg b0, if_pos]
              rw [i_lt, e0] at a0
              rw [p6, i_lt, sz1]
              omega
        | true =>
          rw [if_neg (show ¬ zI true = 0 by decide), hasRun_eq h3 q2 (by omega) q5, Option.bind_some]
          dsimp only
          unfold hr at r1
          have r1 := of_decide_eq_true r1
          have a0 : ¬ v2 < 0 := by rw [i_lt, e0]; omega
          have a1 : ¬ Mm 116 s1 - nI n < v2 := by rw [p6, i_lt, sz1]; omega
          rw [if_neg a0, if_neg a1]
          cases r2 : hr v4 n z3 with
          | false =>
            rw [if_pos (show zI false = 0 from rfl)]
            refine ⟨-12, Mc, Mm, rfl, ?_, h⟩
            unfold hr at r2
            have r2 := of_decide_eq_false r2
            by_cases b0 : v4 < 0
            · rw [if_pos b0]
            · rw [if_neg b0, if_neg]
              rw [i_lt, e0] at b0
              rw [q6, i_le, sz3]
              omega
          | true =>
            rw [if_neg (show ¬ zI true = 0 by decide)]
            unfold hr at r2
            have r2 := of_decide_eq_true r2
            have b0 : ¬ v4 < 0 := by rw [i_lt, e0]; omega
            have b1 : v4 ≤ Mm 116 s3 - nI n := by rw [q6, i_le, sz3]; omega
            rw [if_neg b0, if_pos b1]
            obtain ⟨a, ha, rfl⟩ := nI_of a0
            obtain ⟨b, hb, rfl⟩ := nI_of b0
            rw [i_nI ha] at r1
            rw [i_nI hb] at r2
            have cp : cpk (nI a) 40 (nI b) 40 (nI n) = true := by
              unfold cpk
              rw [nI_clamp ha, nI_clamp hb, nI_clamp hn, decide_eq_true (nI_pos ha), decide_eq_true (nI_pos hb), decide_eq_true (nI_pos hn), decide_eq_true (show a + n ≤ 40 by omega), decide_eq_true (show b + n ≤ 40 by omega)]
              rfl
            rw [cp, nI_clamp ha, nI_clamp hb, nI_clamp hn]
            repeat rw [ck_true]
            have fin : ∀ bk : Bool, (∀ u t, u < t → t < n → 40 * s1 + a + cpos bk n t ≠ 40 * s3 + b + cpos bk n u) → ∃ (r : Int32) (Mc1 Mm1 : Mem), some (nI n, mcp Mc (55 + 2 * s1 + 1) a (55 + 2 * s3 + 1) b n) = some (r, Mc1) ∧ f_X9_copy_l121 FU (nI s1) (nI a) (nI s3) (nI b) (nI n) (zI bk) (nI 0) Mm = some (r, Mm1) ∧ Inv Mc1 Mm1 := by
              intro bk hc
              obtain ⟨N, e1, e2, e3, e4⟩ := copyM_l (bk := bk) h1 h3 (show a + n ≤ 40 by omega) (show b + n ≤ 40 by omega) Mm hc n 0 FU Mm (by omega) (by unfold FU; omega) (fun _ _ => rfl) (fun u hu => by omega) (fun _ _ => rfl)
              exact ⟨nI n, _, N, rfl, e1, (copyFin (bk := bk) hN h1 h3 p2 q2 (by omega) (by omega) q1 q3 q4 q5 q6 q7 q8 p8 e2 e3 e4).i⟩
            unfold f_X9_copy_b115 f_X9_copy_b116
            by_cases es : s1 = s3
            · subst es
              rw [if_pos rfl]
              by_cases ab : b ≤ a
              · rw [if_pos (nI_le ab (by omega))]
                exact fin false (fun u t hu ht => by unfold cpos; rw [if_neg (by decide), if_neg (by decide)]; omega)
              · rw [if_neg (nI_ge (by omega) (by omega))]
                exact fin true (fun u t hu ht => by unfold cpos; rw [if_pos rfl, if_pos rfl]; omega)
            · rw [if_neg (show ¬ nI s1 = nI s3 by rw [nIeq (by omega) (by omega)]; exact es)]
              exact fin false (fun u t hu ht => by unfold cpos; rw [if_neg (by decide), if_neg (by decide)]; omega)
      · have ne : ¬ nI so1 = nI so3 := by rw [nIeq (by omega) (by omega)]; exact cs
        rw [if_neg (show ¬ Mc (55 + 2 * s1) 0 = Mc (55 + 2 * s3) 0 by rw [p3, q3]; exact ne), if_neg (show ¬ Mm 115 s1 = Mm 115 s3 by rw [p4, q4]; exact ne)]
        exact ⟨_, _, _, rfl, rfl, h⟩
end
section
/-! ALL MENUS THAT STAND, in their order: the class's walk -/
/-- digits, how many dishes, how many are fed, of these in the first kitchen, tolls, side -/
abbrev Lf : Type := Nat × Nat × Int32 × Int32 × Int32 × Int32
def lvk (g : Nat → (Nat → Int32) → Nat → Nat → Int32 → Int32 → Int32 → Int32 → List Lf) (u : Tk) (d : Nat) (st : Nat → Int32) (x n : Nat) (f f0 t s : Int32) (k : Nat) : List Lf :=
  if kCk u k st = true then g (d + 1) (kUse u k st) (x * 10 + k + 1) (n + 1) (f + kFed u k) (if k = 0 then f0 + kFed u k else f0) (t + kToll u k st) (if k = 0 then s + 1 else s - 1) else []
def lvs (T : Nat → Tk) (bar : Nat) : Nat → Nat → (Nat → Int32) → Nat → Nat → Int32 → Int32 → Int32 → Int32 → List Lf
  | 0, _, _, x, n, f, f0, t, s => [(x, n, f, f0, t, s)]
  | m + 1, d, st, x, n, f, f0, t, s => lvs T bar m (d + 1) st (x * 10) n f f0 t s ++ (if d = bar then [] else lvk (lvs T bar m) (T d) d st x n f f0 t s 0 ++ lvk (lvs T bar m) (T d) d st x n f f0 t s 1)
def cA (c : Int32 × Int32) (l : Lf) : Int32 × Int32 := if l.2.2.1 - l.2.2.2.2.1 ≤ c.2 then c else (nI l.1, l.2.2.1 - l.2.2.2.2.1)
def cB (c : Int32 × Int32) (l : Lf) : Int32 × Int32 := if l.2.2.1 ≤ c.2 then c else (nI l.1, l.2.2.1)
def cC (c : Int32 × Int32 × Int32) (l : Lf) : Int32 × Int32 × Int32 := if c.2.2 < nI l.2.1 then (nI l.1, l.2.2.2.2.1, nI l.2.1) else if nI l.2.1 = c.2.2 then (if c.2.1 ≤ l.2.2.2.2.1 then c else (nI l.1, l.2.2.2.2.1, nI l.2.1)) else c
def CG (Mc0 M M1 : Mem) (d : Nat) (L : List Lf) : Prop := KC Mc0 M1 ∧ M1 45 3 = M 45 3 ∧ (∀ q, 47 ≤ q → q ≤ 47 + d → M1 q = M q) ∧ (M1 45 4, M1 45 5) = L.foldl cA (M 45 4, M 45 5) ∧ (M1 45 6, M1 45 7) = L.foldl cB (M 45 6, M 45 7) ∧ (M1 45 8, M1 45 9, M1 45 10) = L.foldl cC (M 45 8, M 45 9, M 45 10)
theorem CG.tr {Mc0 M M1 M2 : Mem} {d : Nat} {L L2 : List Lf} (h : CG Mc0 M M1 d L) (h2 : CG Mc0 M1 M2 d L2) : CG Mc0 M M2 d (L ++ L2) := by
  obtain ⟨a1, a2, a3, a4, a5, a6⟩ := h
  obtain ⟨b1, b2, b3, b4, b5, b6⟩ := h2
  refine ⟨b1, b2.trans a2, fun q x y => (b3 q x y).trans (a3 q x y), ?_, ?_, ?_⟩
  · rw [b4, a4, List.foldl_append]
  · rw [b5, a5, List.foldl_append]
  · rw [b6, a6, List.foldl_append]
theorem CG.pre {Mc0 M N N1 : Mem} {d e : Nat} {L : List Lf} (h : CG Mc0 N N1 e L) (he : d ≤ e) (h45 : N 45 = M 45) (hr : ∀ q, 47 ≤ q → q ≤ 47 + d → N q = M q) : CG Mc0 M N1 d L := by
  obtain ⟨a1, a2, a3, a4, a5, a6⟩ := h
  rw [h45] at a2 a4 a5 a6
  exact ⟨a1, a2, fun q x y => (a3 q x (by omega)).trans (hr q x y), a4, a5, a6⟩
theorem CG.nil {Mc0 M N : Mem} {d : Nat} (kc : KC Mc0 N) (h45 : N 45 = M 45) (hr : ∀ q, 47 ≤ q → q ≤ 47 + d → N q = M q) : CG Mc0 M N d [] := by
  refine ⟨kc, by rw [h45], hr, ?_, ?_, ?_⟩ <;> rw [h45] <;> rfl
theorem weigh_eq (M : Mem) (x n : Nat) (f f0 t s : Int32) : ∃ M1 : Mem, f_X3_weigh (nI x) f t (nI n) M = some M1 ∧ (∀ q, q ≠ 45 → M1 q = M q) ∧ M1 45 3 = M 45 3 ∧ (M1 45 4, M1 45 5) = cA (M 45 4, M 45 5) (x, n, f, f0, t, s) ∧ (M1 45 6, M1 45 7) = cB (M 45 6, M 45 7) (x, n, f, f0, t, s) ∧ (M1 45 8, M1 45 9, M1 45 10) = cC (M 45 8, M 45 9, M 45 10) (x, n, f, f0, t, s) := by
  have h1 : ∃ M1 : Mem, f_X3_weigh (nI x) f t (nI n) M = f_X3_weigh_b22 (nI x) f t (nI n) M1 ∧ (∀ q, q ≠ 45 → M1 q = M q) ∧ (∀ j, j ≠ 4 → j ≠ 5 → M1 45 j = M 45 j) ∧ (M1 45 4, M1 45 5) = cA (M 45 4, M 45 5) (x, n, f, f0, t, s) := by
    unfold f_X3_weigh cA
    by_cases c : f - t ≤ M 45 5
    · exact ⟨M, by rw [if_pos c], fun _ _ => rfl, fun _ _ _ => rfl, by rw [if_pos c]⟩
    · refine ⟨mu (mu M 45 4 (nI x)) 45 5 (f - t), by rw [if_neg c], fun q h => by rw [mun h, mun h], fun j a b => by rw [mu_o b, mu_o a], ?_⟩
      rw [if_neg c, mu_at, mu_o (by omega), mu_at]
  obtain ⟨M1, a1, a2, a3, a4⟩ := h1
  have h2 : ∃ M2 : Mem, f_X3_weigh_b22 (nI x) f t (nI n) M1 = f_X3_weigh_b40 (nI x) t (nI n) M2 ∧ (∀ q, q ≠ 45 → M2 q = M1 q) ∧ (∀ j, j ≠ 6 → j ≠ 7 → M2 45 j = M1 45 j) ∧ (M2 45 6, M2 45 7) = cB (M1 45 6, M1 45 7) (x, n, f, f0, t, s) := by
    unfold f_X3_weigh_b22 cB
    by_cases c : f ≤ M1 45 7
    · exact ⟨M1, by rw [if_pos c], fun _ _ => rfl, fun _ _ _ => rfl, by rw [if_pos c]⟩
    · refine ⟨mu (mu M1 45 6 (nI x)) 45 7 f, by rw [if_neg c], fun q h => by rw [mun h, mun h], fun j a b => by rw [mu_o b, mu_o a], ?_⟩
      rw [if_neg c, mu_at, mu_o (by omega), mu_at]
  obtain ⟨M2, b1, b2, b3, b4⟩ := h2
  have h3 : ∃ M3 : Mem, f_X3_weigh_b40 (nI x) t (nI n) M2 = some M3 ∧ (∀ q, q ≠ 45 → M3 q = M2 q) ∧ (∀ j, j ≠ 8 → j ≠ 9 → j ≠ 10 → M3 45 j = M2 45 j) ∧ (M3 45 8, M3 45 9, M3 45 10) = cC (M2 45 8, M2 45 9, M2 45 10) (x, n, f, f0, t, s) := by
    have st : (∀ q, q ≠ 45 → mu (mu (mu M2 45 8 (nI x)) 45 9 t) 45 10 (nI n) q = M2 q) ∧ (∀ j, j ≠ 8 → j ≠ 9 → j ≠ 10 → mu (mu (mu M2 45 8 (nI x)) 45 9 t) 45 10 (nI n) 45 j = M2 45 j) ∧ mu (mu (mu M2 45 8 (nI x)) 45 9 t) 45 10 (nI n) 45 8 = nI x ∧ mu (mu (mu M2 45 8 (nI x)) 45 9 t) 45 10 (nI n) 45 9 = t ∧ mu (mu (mu M2 45 8 (nI x)) 45 9 t) 45 10 (nI n) 45 10 = nI n :=
      ⟨fun q h => by rw [mun h, mun h, mun h], fun j a b c => by rw [mu_o c, mu_o b, mu_o a], by rw [mu_o (by omega), mu_o (by omega), mu_at], by rw [mu_o (by omega), mu_at], mu_at⟩
    obtain ⟨s1, s2, s3, s4, s5⟩ := st
    unfold f_X3_weigh_b40 f_X3_weigh_b66 cC
    by_cases c : M2 45 10 < nI n
    · refine ⟨_, by rw [if_pos c], s1, s2, ?_⟩
      rw [s3, s4, s5, if_pos c]
    · rw [if_neg c]
      by_cases c2 : nI n = M2 45 10
      · rw [if_pos c2]
        by_cases c3 : M2 45 9 ≤ t
        · refine ⟨M2, by rw [if_pos c3], fun _ _ => rfl, fun _ _ _ _ => rfl, ?_⟩
          rw [if_neg c, if_pos c2, if_pos c3]
        · refine ⟨_, by rw [if_neg c3], s1, s2, ?_⟩
          rw [s3, s4, s5, if_neg c, if_pos c2, if_neg c3]
      · refine ⟨M2, by rw [if_neg c2], fun _ _ => rfl, fun _ _ _ _ => rfl, ?_⟩
        rw [if_neg c, if_neg c2]
  obtain ⟨M3, c1, c2, c3, c4⟩ := h3
  refine ⟨M3, by rw [a1, b1, c1], fun q h => by rw [c2 q h, b2 q h, a2 q h], by rw [c3 3 (by omega) (by omega) (by omega), b3 3 (by omega) (by omega), a3 3 (by omega) (by omega)], ?_, ?_, ?_⟩
  · rw [c3 4 (by omega) (by omega) (by omega), c3 5 (by omega) (by omega) (by omega), b3 4 (by omega) (by omega), b3 5 (by omega) (by omega), a4]
  · rw [c3 6 (by omega) (by omega) (by omega), c3 7 (by omega) (by omega) (by omega), b4, a3 6 (by omega) (by omega), a3 7 (by omega) (by omega)]
  · rw [c4, b3 8 (by omega) (by omega), b3 9 (by omega) (by omega), b3 10 (by omega) (by omega), a3 8 (by omega) (by omega), a3 9 (by omega) (by omega), a3 10 (by omega) (by omega)]
theorem goC {Mc0 : Mem} {many bar : Nat} {T : Nat → Tk} (hm1 : Mc0 1 6 = nI many) (hm6 : many ≤ 6) (hT : ∀ d, d < many → ∀ Mc2 : Mem, KC Mc0 Mc2 → ∃ M1 : Mem, f_X0_takeUp (nI d) Mc2 = some M1 ∧ Took M1 (T d) ∧ Sm Mc2 M1) :
    ∀ m d fuel (M : Mem) (st : Nat → Int32) x n (f f0 t s : Int32), d + m = many → m < fuel → KC Mc0 M → (∀ e, e < 6 → (nI e = M 45 3 ↔ e = bar)) → (∀ j, j < 12 → M (47 + d) j = st j) →
    ∃ M1 : Mem, f_X3_goThrough fuel (nI d) (nI x) f t (nI n) M = some M1 ∧ CG Mc0 M M1 d (lvs T bar m d st x n f f0 t s) := by
  intro m
  induction m with
  | zero =>
    intro d fuel M st x n f f0 t s hd hf kc hb hs
    obtain ⟨g, rfl⟩ : ∃ g, fuel = g + 1 := ⟨fuel - 1, by omega⟩
    show ∃ M1 : Mem, f_X3_goThrough_b (f_X3_goThrough g) (nI d) (nI x) f t (nI n) M = some M1 ∧ _
    unfold f_X3_goThrough_b f_X3_goThrough_b17
    rw [kc 1 (by omega), hm1, if_pos (nI_le (by omega) (by omega))]
    obtain ⟨M1, a1, a2, a3, a4, a5, a6⟩ := weigh_eq M x n f f0 t s
    rw [a1]
    exact ⟨M1, rfl, fun q hq => (a2 q (by omega)).trans (kc q hq), a3, fun q _ _ => a2 q (by omega), a4, a5, a6⟩
  | succ m ih =>
    intro d fuel M st x n f f0 t s hd hf kc hb hs
    obtain ⟨g, rfl⟩ : ∃ g, fuel = g + 1 := ⟨fuel - 1, by omega⟩
    have hd6 : d < 6 := by omega
    have q0 : isSt (47 + d) := Or.inr (Or.inr (Or.inr ⟨by omega, by omega⟩))
    have q1 : isSt (47 + (d + 1)) := Or.inr (Or.inr (Or.inr ⟨by omega, by omega⟩))
    obtain ⟨k1, k2, k3, k4, k5⟩ := st_kd q0
    obtain ⟨l1, l2, l3, l4, l5⟩ := st_kd q1
    have b10 : ((10 : Nat) == 10) = true := rfl
    have bcp : cpk 0 12 0 12 12 = true := by decide
    show ∃ M1 : Mem, f_X3_goThrough_b (f_X3_goThrough g) (nI d) (nI x) f t (nI n) M = some M1 ∧ _
    unfold f_X3_goThrough_b
    rw [kc 1 (by omega), hm1, if_neg (nI_ge (by omega) (by omega)), if_pos (show nI d < 6 from nI_lt (b := 6) hd6 (by omega)), nIp, inb_nI (show d < 7 by omega) (by omega), inb_nI (show d + 1 < 7 by omega) (by omega), nI_clamp (show d < 2 ^ 31 by omega), nI_clamp (show d + 1 < 2 ^ 31 by omega), k1, l1, k2, l2, b10, bcp, show (10 : Int32) = nI 10 from rfl, pk_mul]
    repeat rw [ck_true]
    have kcm : KC Mc0 (mcp M (47 + d) 0 (47 + (d + 1)) 0 12) := fun q hq => (mcp_o (by omega)).trans (kc q hq)
    obtain ⟨o8, c1, c2⟩ := ih (d + 1) g (mcp M (47 + d) 0 (47 + (d + 1)) 0 12) st (x * 10) n f f0 t s (by omega) (by omega) kcm (fun e he => by rw [mcp_o (by omega)]; exact hb e he) (fun j hj => by rw [mcp_in hj]; exact hs j hj)
    rw [c1, Option.bind_some]
    have cg1 : CG Mc0 M o8 d (lvs T bar m (d + 1) st (x * 10) n f f0 t s) := c2.pre (by omega) (mcp_o (by omega)) (fun q h1 h2 => mcp_o (by omega))
    have o3 : o8 45 3 = M 45 3 := cg1.2.1
    rw [o3]
    by_cases db : d = bar
    · rw [if_pos ((hb d hd6).mpr db)]
      refine ⟨o8, rfl, ?_⟩
      unfold lvs
      rw [if_pos db, List.append_nil]
      exact cg1
    · rw [if_neg (fun h => db ((hb d hd6).mp h))]
      have one : ∀ k, k < 2 → ∀ (g2 : Nat) (N : Mem), KC Mc0 N → N 45 3 = M 45 3 → (∀ j, j < 12 → N (47 + d) j = st j) → ∃ N1 : Mem, f_X3_goThrough_l77 (f_X3_goThrough g) (g2 + 1) (nI d) (nI x) f t (nI n) (nI k) N = f_X3_goThrough_l77 (f_X3_goThrough g) g2 (nI d) (nI x) f t (nI n) (nI (k + 1)) N1 ∧ CG Mc0 N N1 d (lvk (lvs T bar m) (T d) d st x n f f0 t s k) := by
        intro k hk g2 N kn n3 ns
        rw [f_X3_goThrough_l77, if_neg (show ¬ (2 : Int32) ≤ nI k from nI_ge (b := 2) hk (by omega))]
        obtain ⟨N1, u1, u2, u3⟩ := hT d (by omega) N kn
        have r1 : N1 (47 + d) = N (47 + d) := u3 _ (by omega)
        obtain ⟨N2, y1, y2, y3, y4, y5, y6⟩ := isCooked_eq (t := T d) (k := k) (q := 47 + d) hk u2 q0
        rw [u1, Option.bind_some, inb_nI (show d < 7 by omega) (by omega), nI_clamp (show d < 2 ^ 31 by omega), ck_true, y1, Option.bind_some]
        rw [r1] at y4 y5 y6
        have kn2 : KC Mc0 N2 := (kn.tr u3.kc).tr y3.kc
        have n45 : N2 45 = N 45 := by rw [y3 45 (by omega), u3 45 (by omega)]
        have nrow : ∀ q, 47 ≤ q → N2 q = N q := fun q hq => by rw [y3 q (by omega), u3 q (by omega)]
        rw [r1, kCk_cg hk ns]
        dsimp only
        unfold f_X3_goThrough_b190 lvk
        rw [nIp]
        cases hc : kCk (T d) k st with
        | false =>
          rw [if_pos (show zI false = 0 from rfl), if_neg (by decide)]
          exact ⟨N2, rfl, CG.nil kn2 n45 (fun q h _ => nrow q h)⟩
        | true =>
          rw [if_neg (show ¬ zI true = 0 by decide), if_pos rfl, nIp, inb_nI (show d + 1 < 7 by omega) (by omega), nI_clamp (show d + 1 < 2 ^ 31 by omega), k1, l1, k2, l2, b10, bcp]
          repeat rw [ck_true]
          have hcN : kCk (T d) k (N (47 + d)) = true := by rw [kCk_cg hk ns]; exact hc
          obtain ⟨f1, f2⟩ := y5 (kCk_can hcN)
          generalize hN3 : mcp N2 (47 + d) 0 (47 + (d + 1)) 0 12 = N3
          have o : ∀ q, q ≠ 47 + (d + 1) → N3 q = N2 q := fun q h => by rw [← hN3]; exact mcp_o h
          have r3 : ∀ j, j < 12 → N3 (47 + (d + 1)) j = st j := fun j hj => by rw [← hN3, mcp_in hj, nrow _ (by omega)]; exact ns j hj
          obtain ⟨N4, j1, j2, j3⟩ := useUp_eq (M := N3) (t := T d) (k := k) (q := 47 + (d + 1)) hk q1 (fun i hi => by rw [o 38 (by omega)]; exact y2.2.2.2.2.1 i hi) (fun i hi => by
            rw [o 41 (by omega), y6 i hi]
            exact kCr_cg hk (fun j hj => (ns j hj).trans (r3 j hj).symm) hi)
          rw [j1, Option.bind_some]
          have e15 : N4 36 15 = kFed (T d) k := by rw [j3 36 (by omega), o 36 (by omega)]; exact f1
          have e14 : N4 36 14 = kToll (T d) k st := by rw [j3 36 (by omega), o 36 (by omega), f2, kToll_cg hk ns]
          rw [e15, e14, show (10 : Int32) = nI 10 from rfl, pk_mul, nI_add, nIp, nIp]
          have kn4 : KC Mc0 N4 := fun q hq => by rw [j3 q (by omega), o q (by omega)]; exact kn2 q hq
          have n445 : N4 45 = N 45 := by rw [j3 45 (by omega), o 45 (by omega), n45]
          obtain ⟨N5, w1, w2⟩ := ih (d + 1) g N4 (kUse (T d) k st) (x * 10 + k + 1) (n + 1) (f + kFed (T d) k) (if k = 0 then f0 + kFed (T d) k else f0) (t + kToll (T d) k st) (if k = 0 then s + 1 else s - 1) (by omega) (by omega) kn4 (fun e he => by rw [n445, n3]; exact hb e he) (fun j hj => by rw [j2 j hj]; exact kUse_cg hk r3 j hj)
          rw [w1, Option.bind_some]
          exact ⟨N5, rfl, w2.pre (by omega) n445 (fun q h1 h2 => by rw [j3 q (by omega), o q (by omega), nrow q h1])⟩
      have r8 : ∀ j, j < 12 → o8 (47 + d) j = st j := fun j hj => by rw [cg1.2.2.1 _ (by omega) (by omega)]; exact hs j hj
      obtain ⟨h, hh⟩ : ∃ h, FU = h + 1 + 1 + 1 := ⟨FU - 3, by have := FU_ge; omega⟩
      obtain ⟨P1, p1, p2⟩ := one 0 (by omega) (h + 1 + 1) o8 cg1.1 o3 r8
      obtain ⟨P2, s1, s2⟩ := one 1 (by omega) (h + 1) P1 p2.1 (p2.2.1.trans o3) (fun j hj => by rw [p2.2.2.1 _ (by omega) (by omega)]; exact r8 j hj)
      rw [hh, show (0 : Int32) = nI 0 from rfl, p1, s1, f_X3_goThrough_l77, if_pos (show (2 : Int32) ≤ nI (1 + 1) by decide)]
      refine ⟨P2, rfl, ?_⟩
      unfold lvs
      rw [if_neg db]
      exact cg1.tr (p2.tr s2)
end
section
/-! ALL MENUS THAT STAND: the reference's walk -/
def wv (b n : Nat) (f t : Int32) : Int32 := if b = 2 then nI (10000 * n) - t else f - t
def vv (b : Nat) (l : Lf) : Int32 := if b = 1 then l.2.2.1 else wv b l.2.1 l.2.2.1 l.2.2.2.2.1
abbrev Mst : Type := Int32 × Int32 × Int32 × Int32 × Int32
def mlay (b : Nat) (l : Lf) : Mst := (nI l.1, vv b l, l.2.2.1, l.2.2.2.1, l.2.2.2.2.2)
def mstep (b : Nat) (c : Mst) (l : Lf) : Mst := if c.1 = -1 then mlay b l else if vv b l ≤ c.2.1 then c else mlay b l
def mst (M : Mem) : Mst := (M 100 32, M 100 33, M 100 34, M 100 35, M 100 36)
def KM6 (Mm N : Mem) : Prop := (∀ q, q ≠ 100 → q ≠ 104 → q ≠ 110 → N q = Mm q) ∧ ∀ j, (j < 13 ∨ 37 < j) → N 100 j = Mm 100 j
theorem KM6.sm {Mm N N1 : Mem} (h : KM6 Mm N) (k : SmM N N1) : KM6 Mm N1 := ⟨fun q a b c => (k.1 q a).trans (h.1 q a b c), fun j a => (k.2 j (by omega)).trans (h.2 j a)⟩
theorem KM6.on {Mm N N1 : Mem} (h : KM6 Mm N) {p : Nat} (hp : p = 104 ∨ p = 110) (k : ∀ q, q ≠ p → N1 q = N q) : KM6 Mm N1 := ⟨fun q a b c => (k q (by omega)).trans (h.1 q a b c), fun j a => by rw [k 100 (by omega)]; exact h.2 j a⟩
def MG (Mm0 N N1 : Mem) (d b : Nat) (L : List Lf) : Prop := KM6 Mm0 N1 ∧ N1 100 37 = N 100 37 ∧ (∀ j, j < 12 → N1 104 j = N 104 j) ∧ (∀ i, i < 12 * d → N1 110 i = N 110 i) ∧ mst N1 = L.foldl (mstep b) (mst N)
theorem MG.tr {Mm0 N N1 N2 : Mem} {d b : Nat} {L L2 : List Lf} (h : MG Mm0 N N1 d b L) (h2 : MG Mm0 N1 N2 d b L2) : MG Mm0 N N2 d b (L ++ L2) := by
  obtain ⟨a1, a2, a3, a4, a5⟩ := h
  obtain ⟨b1, b2, b3, b4, b5⟩ := h2
  exact ⟨b1, b2.trans a2, fun j hj => (b3 j hj).trans (a3 j hj), fun i hi => (b4 i hi).trans (a4 i hi), by rw [b5, a5, List.foldl_append]⟩
theorem mst_sm {N N1 : Mem} (h : ∀ j, 32 ≤ j → j ≤ 36 → N1 100 j = N 100 j) : mst N1 = mst N := by
  unfold mst
  rw [h 32 (by omega) (by omega), h 33 (by omega) (by omega), h 34 (by omega) (by omega), h 35 (by omega) (by omega), h 36 (by omega) (by omega)]
section
variable (rc : Int32 → Int32 → Int32 → Int32 → Int32 → Int32 → Int32 → Mem → Option Mem)
theorem asideM_l (k : Int32 → Int32 → Int32 → Int32 → Int32 → Int32 → Int32 → Int32 → Int32 → Int32 → Mem → Option Mem) {d : Nat} (hd : d < 6) (v1 v3 v4 v5 v6 v7 v8 v9 v10 : Int32) : ∀ m i fuel (N : Mem), i + m = 12 → m < fuel →
    ∃ N1 : Mem, f_X9_menus_l137 rc k fuel v1 (nI d) v3 v4 v5 v6 v7 v8 v9 v10 (nI i) N = k v1 (nI d) v3 v4 v5 v6 v7 v8 v9 v10 N1 ∧ (∀ q, q ≠ 110 → N1 q = N q) ∧ (∀ j, i ≤ j → j < 12 → N1 110 (12 * d + j) = N 104 j) ∧ (∀ j, j < 12 * d + i → N1 110 j = N 110 j) := by
  intro m
  induction m with
  | zero =>
    intro i fuel N hi hf
    obtain ⟨g, rfl⟩ : ∃ g, fuel = g + 1 := ⟨fuel - 1, by omega⟩
    refine ⟨N, ?_, fun _ _ => rfl, fun j h1 h2 => by omega, fun _ _ => rfl⟩
    rw [f_X9_menus_l137, if_pos (show (12 : Int32) ≤ nI i from nI_le (a := 12) (by omega) (by omega))]
  | succ m ih =>
    intro i fuel N hi hf
    obtain ⟨g, rfl⟩ : ∃ g, fuel = g + 1 := ⟨fuel - 1, by omega⟩
    rw [f_X9_menus_l137, if_neg (show ¬ (12 : Int32) ≤ nI i from nI_ge (b := 12) (by omega) (by omega)), show (12 : Int32) = nI 12 from rfl, pk_mul, nI_add, inb_nI (show i < 12 by omega) (by omega), inb_nI (show 12 * d + i < 72 by omega) (by omega), nI_clamp (show i < 2 ^ 31 by omega), nI_clamp (show 12 * d + i < 2 ^ 31 by omega), nIp]
    repeat rw [ck_true]
    obtain ⟨N1, a1, a2, a3, a4⟩ := ih (i + 1) g (mu N 110 (12 * d + i) (N 104 i)) (by omega) (by omega)
    rw [a1]
    refine ⟨N1, rfl, fun q hq => (a2 q hq).trans (mun hq), fun j h1 h2 => ?_, fun j hj => ?_⟩
    · by_cases e : j = i
      · rw [e, a4 _ (by omega), mu_at]
      · rw [a3 j (by omega) h2, mun (by omega)]
    · rw [a4 j (by omega), mu_o (by omega)]
theorem backM_l (k : Int32 → Int32 → Int32 → Int32 → Int32 → Int32 → Int32 → Int32 → Mem → Option Mem) {d : Nat} (hd : d < 6) (v1 v3 v4 v5 v6 v7 v8 : Int32) : ∀ m i fuel (N : Mem), i + m = 12 → m < fuel →
    ∃ N1 : Mem, f_X9_menus_l257 rc k fuel v1 (nI d) v3 v4 v5 v6 v7 v8 (nI i) N = k v1 (nI d) v3 v4 v5 v6 v7 v8 N1 ∧ (∀ q, q ≠ 104 → N1 q = N q) ∧ (∀ j, i ≤ j → j < 12 → N1 104 j = N 110 (12 * d + j)) ∧ (∀ j, j < i → N1 104 j = N 104 j) := by
  intro m
  induction m with
  | zero =>
    intro i fuel N hi hf
    obtain ⟨g, rfl⟩ : ∃ g, fuel = g + 1 := ⟨fuel - 1, by omega⟩
    refine ⟨N, ?_, fun _ _ => rfl, fun j h1 h2 => by omega, fun _ _ => rfl⟩
    rw [f_X9_menus_l257, if_pos (show (12 : Int32) ≤ nI i from nI_le (a := 12) (by omega) (by omega))]
  | succ m ih =>
    intro i fuel N hi hf
    obtain ⟨g, rfl⟩ : ∃ g, fuel = g + 1 := ⟨fuel - 1, by omega⟩
    rw [f_X9_menus_l257, if_neg (show ¬ (12 : Int32) ≤ nI i from nI_ge (b := 12) (by omega) (by omega)), show (12 : Int32) = nI 12 from rfl, pk_mul, nI_add, inb_nI (show i < 12 by omega) (by omega), inb_nI (show 12 * d + i < 72 by omega) (by omega), nI_clamp (show i < 2 ^ 31 by omega), nI_clamp (show 12 * d + i < 2 ^ 31 by omega), nIp]
    repeat rw [ck_true]
    obtain ⟨N1, a1, a2, a3, a4⟩ := ih (i + 1) g (mu N 104 i (N 110 (12 * d + i))) (by omega) (by omega)
    rw [a1]
    refine ⟨N1, rfl, fun q hq => (a2 q hq).trans (mun hq), fun j h1 h2 => ?_, fun j hj => ?_⟩
    · by_cases e : j = i
      · rw [e, a4 _ (by omega), mu_at]
      · rw [a3 j (by omega) h2, mun (by omega)]
    · rw [a4 j (by omega), mu_o (by omega)]
theorem layM_eq {b : Nat} (N : Mem) (x n : Nat) (f f0 t s v : Int32) (hv : v = vv b (x, n, f, f0, t, s)) : ∃ N1 : Mem, f_X9_menus_b20 rc (nI x) f f0 s v N = some N1 ∧ (∀ q, q ≠ 100 → N1 q = N q) ∧ (∀ j, (j < 32 ∨ 36 < j) → N1 100 j = N 100 j) ∧ mst N1 = mstep b (mst N) (x, n, f, f0, t, s) := by
  subst hv
  unfold f_X9_menus_b20 f_X9_menus_b39
  have st : ∀ v : Int32, (∀ q, q ≠ 100 → mu (mu (mu (mu (mu N 100 32 (nI x)) 100 33 v) 100 34 f) 100 35 f0) 100 36 s q = N q) ∧ (∀ j, (j < 32 ∨ 36 < j) → mu (mu (mu (mu (mu N 100 32 (nI x)) 100 33 v) 100 34 f) 100 35 f0) 100 36 s 100 j = N 100 j) ∧ mst (mu (mu (mu (mu (mu N 100 32 (nI x)) 100 33 v) 100 34 f) 100 35 f0) 100 36 s) = (nI x, v, f, f0, s) := fun v =>
    ⟨fun q h => by rw [mun h, mun h, mun h, mun h, mun h], fun j h => by rw [mu_o (by omega), mu_o (by omega), mu_o (by omega), mu_o (by omega), mu_o (by omega)], by
      unfold mst
      rw [mu_at, mu_o (show 35 ≠ 36 by omega), mu_at, mu_o (show 34 ≠ 36 by omega), mu_o (show 34 ≠ 35 by omega), mu_at, mu_o (show 33 ≠ 36 by omega), mu_o (show 33 ≠ 35 by omega), mu_o (show 33 ≠ 34 by omega), mu_at, mu_o (show 32 ≠ 36 by omega), mu_o (show 32 ≠ 35 by omega), mu_o (show 32 ≠ 34 by omega), mu_o (show 32 ≠ 33 by omega), mu_at]⟩
  obtain ⟨s1, s2, s3⟩ := st (vv b (x, n, f, f0, t, s))
  unfold mstep
  by_cases c : N 100 32 = -1
  · refine ⟨_, by rw [if_pos c], s1, s2, ?_⟩
    rw [s3, if_pos (show (mst N).1 = -1 from c)]
    rfl
  · rw [if_neg c, if_neg (show ¬ (mst N).1 = -1 from c)]
    by_cases c2 : vv b (x, n, f, f0, t, s) ≤ N 100 33
    · refine ⟨N, by rw [if_pos c2], fun _ _ => rfl, fun _ _ => rfl, ?_⟩
      rw [if_pos (show vv b (x, n, f, f0, t, s) ≤ (mst N).2.1 from c2)]
    · refine ⟨_, by rw [if_neg c2], s1, s2, ?_⟩
      rw [s3, if_neg (show ¬ vv b (x, n, f, f0, t, s) ≤ (mst N).2.1 from c2)]
      rfl
end
theorem wv_2 (n : Nat) (f f' t u : Int32) : wv 2 n f t + 10000 - u = wv 2 (n + 1) f' (t + u) := by
  unfold wv
  rw [if_pos rfl, if_pos rfl, show 10000 * (n + 1) = 10000 * n + 10000 by omega, ← nI_add, show nI 10000 = (10000 : Int32) from rfl]
  generalize nI (10000 * n) = a
  rw [Int32.sub_eq_add_neg, Int32.sub_eq_add_neg, Int32.sub_eq_add_neg, Int32.neg_add, Int32.sub_eq_add_neg]
  ac_rfl
theorem wv_o {b : Nat} (hb : b ≠ 2) (n n' : Nat) (f g t u : Int32) : wv b n f t + g - u = wv b n' (f + g) (t + u) := by
  unfold wv
  rw [if_neg hb, if_neg hb, Int32.sub_eq_add_neg, Int32.sub_eq_add_neg, Int32.sub_eq_add_neg, Int32.neg_add, Int32.sub_eq_add_neg]
  ac_rfl
theorem goM {Mm0 : Mem} {many bar b : Nat} {T : Nat → Tk} (hb2 : b ≤ 2) (hm1 : Mm0 100 12 = nI many) (hm6 : many ≤ 6) (hT : ∀ d, d < many → ∀ N : Mem, KM6 Mm0 N → TkM N d (T d)) :
    ∀ m d fuel (N : Mem) (st : Nat → Int32) x n (f f0 t s : Int32), d + m = many → m < fuel → KM6 Mm0 N → (∀ e, e < 6 → (nI e = N 100 37 ↔ e = bar)) → (∀ j, j < 12 → N 104 j = st j) →
    ∃ N1 : Mem, f_X9_menus fuel (nI b) (nI d) (nI x) (wv b n f t) f f0 s N = some N1 ∧ MG Mm0 N N1 d b (lvs T bar m d st x n f f0 t s) := by
  intro m
  induction m with
  | zero =>
    intro d fuel N st x n f f0 t s hd hf kc hb hs
    obtain ⟨g, rfl⟩ : ∃ g, fuel = g + 1 := ⟨fuel - 1, by omega⟩
    show ∃ N1 : Mem, f_X9_menus_b (f_X9_menus g) (nI b) (nI d) (nI x) (wv b n f t) f f0 s N = some N1 ∧ _
    unfold f_X9_menus_b
    rw [kc.2 12 (by omega), hm1, if_pos (show nI d = nI many by rw [show d = many by omega])]
    have fin : ∀ v : Int32, v = vv b (x, n, f, f0, t, s) → ∃ N1 : Mem, f_X9_menus_b20 (f_X9_menus g) (nI x) f f0 s v N = some N1 ∧ MG Mm0 N N1 d b (lvs T bar 0 d st x n f f0 t s) := by
      intro v hv
      obtain ⟨N1, a1, a2, a3, a4⟩ := layM_eq (f_X9_menus g) N x n f f0 t s v hv
      exact ⟨N1, a1, ⟨fun q h1 h2 h3 => (a2 q h1).trans (kc.1 q h1 h2 h3), fun j hj => (a3 j (by omega)).trans (kc.2 j hj)⟩, a3 37 (by omega), fun j _ => by rw [a2 104 (by omega)], fun i _ => by rw [a2 110 (by omega)], a4⟩
    by_cases b1 : b = 1
    · rw [if_pos (show nI b = 1 by rw [b1]; rfl)]
      exact fin f (by unfold vv; rw [if_pos b1])
    · rw [if_neg (show ¬ nI b = 1 by rw [show (1 : Int32) = nI 1 from rfl, nIeq (by omega) (by omega)]; exact b1)]
      exact fin _ (by unfold vv; rw [if_neg b1])
  | succ m ih =>
    intro d fuel N st x n f f0 t s hd hf kc hb hs
    obtain ⟨g, rfl⟩ : ∃ g, fuel = g + 1 := ⟨fuel - 1, by omega⟩
    have hd6 : d < 6 := by omega
    show ∃ N1 : Mem, f_X9_menus_b (f_X9_menus g) (nI b) (nI d) (nI x) (wv b n f t) f f0 s N = some N1 ∧ _
    unfold f_X9_menus_b
    rw [kc.2 12 (by omega), hm1, if_neg (show ¬ nI d = nI many by rw [nIeq (by omega) (by omega)]; omega), nIp, show (10 : Int32) = nI 10 from rfl, pk_mul, Nat.mul_comm 10 x]
    obtain ⟨o2, c1, c2⟩ := ih (d + 1) g N st (x * 10) n f f0 t s (by omega) (by omega) kc hb hs
    rw [c1, Option.bind_some]
    have cg1 : MG Mm0 N o2 d b (lvs T bar m (d + 1) st (x * 10) n f f0 t s) := ⟨c2.1, c2.2.1, c2.2.2.1, fun i hi => c2.2.2.2.1 i (by omega), c2.2.2.2.2⟩
    have o3 : o2 100 37 = N 100 37 := cg1.2.1
    have r8 : ∀ j, j < 12 → o2 104 j = st j := fun j hj => (cg1.2.2.1 j hj).trans (hs j hj)
    obtain ⟨h, hh⟩ : ∃ h, FU = h + 1 + 1 + 1 := ⟨FU - 3, by have := FU_ge; omega⟩
    by_cases db : d = bar
    · rw [hh, f_X9_menus_l92, if_neg (show ¬ (2 : Int32) ≤ 0 by decide), if_pos (by rw [o3]; exact (hb d hd6).mpr db)]
      refine ⟨o2, rfl, ?_⟩
      unfold lvs
      rw [if_pos db, List.append_nil]
      exact cg1
    · have one : ∀ k, k < 2 → ∀ (g2 : Nat) (P : Mem), KM6 Mm0 P → P 100 37 = N 100 37 → (∀ j, j < 12 → P 104 j = st j) → ∃ N1 : Mem, f_X9_menus_l92 (f_X9_menus g) (g2 + 1) (nI b) (nI d) (nI x) (wv b n f t) f f0 s (nI k) P = f_X9_menus_l92 (f_X9_menus g) g2 (nI b) (nI d) (nI x) (wv b n f t) f f0 s (nI (k + 1)) N1 ∧ MG Mm0 P N1 d b (lvk (lvs T bar m) (T d) d st x n f f0 t s k) := by
        intro k hk g2 P kp p3 ps
        rw [f_X9_menus_l92, if_neg (show ¬ (2 : Int32) ≤ nI k from nI_ge (b := 2) hk (by omega)), if_neg (show ¬ nI d = P 100 37 by rw [p3]; exact fun h => db ((hb d hd6).mp h))]
        have tP := hT d (by omega) P kp
        obtain ⟨N1, y1, y2⟩ := isCookedM_eq hd6 hk tP
        rw [y1, Option.bind_some, kCk_cg hk ps]
        dsimp only
        unfold lvk
        cases hc : kCk (T d) k st with
        | false =>
          rw [if_pos (show zI false = 0 from rfl), if_neg (by decide)]
          unfold f_X9_menus_b289
          rw [nIp]
          exact ⟨N1, rfl, kp.sm y2, y2.2 37 (by omega), fun j _ => by rw [y2.1 104 (by omega)], fun i _ => by rw [y2.1 110 (by omega)], mst_sm (fun j _ _ => y2.2 j (by omega))⟩
        | true =>
          rw [if_neg (show ¬ zI true = 0 by decide), if_pos rfl]
          have t1 := tP.sm y2
          obtain ⟨N2, u1, u2⟩ := feedsOf_eq hd6 hk t1
          have t2 := t1.sm u2
          obtain ⟨N3, e1, e2⟩ := tollOf_eq hd6 hk t2
          have n2 : N2 104 = P 104 := by rw [u2.1 104 (by omega), y2.1 104 (by omega)]
          rw [u1, Option.bind_some]
          dsimp only
          rw [e1, Option.bind_some]
          dsimp only
          rw [n2, kToll_cg hk ps]
          obtain ⟨N4, l1, l2, l3, l4⟩ := asideM_l (f_X9_menus g) (f_X9_menus_b169 (f_X9_menus g) (f_X9_menus_l92 (f_X9_menus g) g2)) hd6 (nI b) (nI x) (wv b n f t) f f0 s (nI k) (kFed (T d) k) (kToll (T d) k st) 12 0 FU N3 (by omega) (by have := FU_ge; omega)
          rw [show (0 : Int32) = nI 0 from rfl, l1]
          have k3 : KM6 Mm0 N3 := ((kp.sm y2).sm u2).sm e2
          have k4 : KM6 Mm0 N4 := k3.on (Or.inr rfl) l2
          have n4 : N4 104 = P 104 := by rw [l2 104 (by omega), e2.1 104 (by omega), n2]
          obtain ⟨N5, v1, v2, v3⟩ := uses_eq hd6 hk (hT d (by omega) N4 k4)
          have k5 : KM6 Mm0 N5 := k4.on (Or.inl rfl) v3
          have n100 : ∀ j, 27 < j → N5 100 j = P 100 j := fun j hj => by rw [v3 100 (by omega), l2 100 (by omega), e2.2 j (by omega), u2.2 j (by omega), y2.2 j (by omega)]
          unfold f_X9_menus_b169
          rw [v1, Option.bind_some, nIp]
          have hdig : nI 10 * nI x + nI k + 1 = nI (x * 10 + k + 1) := by rw [pk_mul, nI_add, nIp, Nat.mul_comm]
          rw [show (10 : Int32) = nI 10 from rfl, hdig]
          have hw : (if nI b = 2 then f_X9_menus_b215 (f_X9_menus g) (f_X9_menus_l92 (f_X9_menus g) g2) (nI b) (nI d) (nI x) (wv b n f t) f f0 s (nI k) (kFed (T d) k) (nI b) (nI (d + 1)) (nI (x * 10 + k + 1)) ((wv b n f t + 10000) - kToll (T d) k st) N5 else f_X9_menus_b215 (f_X9_menus g) (f_X9_menus_l92 (f_X9_menus g) g2) (nI b) (nI d) (nI x) (wv b n f t) f f0 s (nI k) (kFed (T d) k) (nI b) (nI (d + 1)) (nI (x * 10 + k + 1)) ((wv b n f t + kFed (T d) k) - kToll (T d) k st) N5) = f_X9_menus_b215 (f_X9_menus g) (f_X9_menus_l92 (f_X9_menus g) g2) (nI b) (nI d) (nI x) (wv b n f t) f f0 s (nI k) (kFed (T d) k) (nI b) (nI (d + 1)) (nI (x * 10 + k + 1)) (wv b (n + 1) (f + kFed (T d) k) (t + kToll (T d) k st)) N5 := by
            by_cases b2 : b = 2
            · rw [if_pos (show nI b = 2 by rw [b2]; rfl), b2, wv_2 n f (f + kFed (T d) k)]
            · rw [if_neg (show ¬ nI b = 2 by rw [show (2 : Int32) = nI 2 from rfl, nIeq (by omega) (by omega)]; exact b2), wv_o b2 n (n + 1)]
          rw [hw]
          have h3 : f_X9_menus_b215 (f_X9_menus g) (f_X9_menus_l92 (f_X9_menus g) g2) (nI b) (nI d) (nI x) (wv b n f t) f f0 s (nI k) (kFed (T d) k) (nI b) (nI (d + 1)) (nI (x * 10 + k + 1)) (wv b (n + 1) (f + kFed (T d) k) (t + kToll (T d) k st)) N5 = f_X9_menus_b251 (f_X9_menus g) (f_X9_menus_l92 (f_X9_menus g) g2) (nI b) (nI d) (nI x) (wv b n f t) f f0 s (nI k) (nI b) (nI (d + 1)) (nI (x * 10 + k + 1)) (wv b (n + 1) (f + kFed (T d) k) (t + kToll (T d) k st)) (f + kFed (T d) k) (if k = 0 then f0 + kFed (T d) k else f0) (if k = 0 then s + 1 else s - 1) N5 := by
            unfold f_X9_menus_b215 f_X9_menus_b235
            by_cases k0 : k = 0
            · subst k0; rfl
            · rw [if_neg (nI_ne0 (by omega) (by omega)), if_neg (nI_ne0 (by omega) (by omega)), if_neg k0, if_neg k0]
          rw [h3]
          unfold f_X9_menus_b251
          obtain ⟨N6, w1, w2⟩ := ih (d + 1) g N5 (kUse (T d) k st) (x * 10 + k + 1) (n + 1) (f + kFed (T d) k) (if k = 0 then f0 + kFed (T d) k else f0) (t + kToll (T d) k st) (if k = 0 then s + 1 else s - 1) (by omega) (by omega) k5 (fun e he => by rw [n100 37 (by omega), p3]; exact hb e he) (fun j hj => by rw [v2 j hj, n4]; exact kUse_cg hk ps j hj)
          rw [w1, Option.bind_some]
          obtain ⟨N7, z1, z2, z3, z4⟩ := backM_l (f_X9_menus g) (f_X9_menus_b289 (f_X9_menus g) (f_X9_menus_l92 (f_X9_menus g) g2)) hd6 (nI b) (nI x) (wv b n f t) f f0 s (nI k) 12 0 FU N6 (by omega) (by have := FU_ge; omega)
          rw [show (0 : Int32) = nI 0 from rfl, z1]
          unfold f_X9_menus_b289
          rw [nIp]
          refine ⟨N7, rfl, w2.1.on (Or.inl rfl) z2, ?_, fun j hj => ?_, fun i hi => ?_, ?_⟩
          · rw [z2 100 (by omega), w2.2.1, n100 37 (by omega)]
          · rw [z3 j (by omega) hj, w2.2.2.2.1 _ (by omega), v3 110 (by omega), l3 j (by omega) hj, e2.1 104 (by omega), n2]
          · rw [z2 110 (by omega), w2.2.2.2.1 i (by omega), v3 110 (by omega), l4 i (by omega), e2.1 110 (by omega), u2.1 110 (by omega), y2.1 110 (by omega)]
          · rw [mst_sm (N := N6) (fun j _ _ => by rw [z2 100 (by omega)]), w2.2.2.2.2, mst_sm (N := P) (fun j h1 _ => n100 j (by omega))]
      obtain ⟨P1, p1, p2⟩ := one 0 (by omega) (h + 1 + 1) o2 cg1.1 o3 r8
      obtain ⟨P2, s1, s2⟩ := one 1 (by omega) (h + 1) P1 p2.1 (p2.2.1.trans o3) (fun j hj => (p2.2.2.1 j hj).trans (r8 j hj))
      rw [hh, show (0 : Int32) = nI 0 from rfl, p1, s1, f_X9_menus_l92, if_pos (show (2 : Int32) ≤ nI (1 + 1) by decide)]
      refine ⟨P2, rfl, ?_⟩
      unfold lvs
      rw [if_neg db]
      exact cg1.tr (p2.tr s2)
end
section
/-! WHAT THE MENUS THAT STAND ARE LIKE -/
theorem B99.add {x y : Int32} {a b : Nat} (h : B99 x a) (k : B99 y b) : B99 (x + y) (a + b) := by
  obtain ⟨i, hi, rfl⟩ := h
  obtain ⟨j, hj, rfl⟩ := k
  exact ⟨i + j, by omega, nI_add i j⟩
theorem B99.mono {x : Int32} {a b : Nat} (h : B99 x a) (hab : a ≤ b) : B99 x b := by
  obtain ⟨i, hi, rfl⟩ := h
  exact ⟨i, by omega, rfl⟩
theorem B99_bd (x : Int32) : B99 (bd x) 99 := by obtain ⟨n, hn, e⟩ := bd_of x; exact ⟨n, hn, e⟩
theorem B99_half (x : Int32) : B99 (bd x / 2) 49 := by
  obtain ⟨n, hn, e⟩ := bd_of x
  rw [e, half_bd hn]
  exact ⟨n / 2, by omega, rfl⟩
theorem fedK_B {kind : Int32} {k : Nat} {hour num x : Int32} (hn : B99 num 9) : B99 (fedK kind (bd x) k hour num) 99 := by
  unfold fedK
  split
  · exact B99_bd _
  · split
    · exact (B99_half x).mono (by omega)
    · split
      · split
        · exact hn.mono (by omega)
        · exact B99_bd _
      · split
        · split
          · exact (B99.add (B99_half x) ⟨10, Nat.le_refl 10, rfl⟩).mono (by omega)
          · exact (B99_half x).mono (by omega)
        · split
          · exact B99_bd _
          · exact B99_bd _
theorem tollK_B {kind p much num x : Int32} : B99 (tollK kind (bd x) p much num) 99 := by
  unfold tollK
  split
  · exact ⟨0, by omega, rfl⟩
  · split
    · exact B99_bd _
    · split
      · exact ⟨1, by omega, rfl⟩
      · split
        · split
          · exact ⟨0, by omega, rfl⟩
          · exact B99_bd _
        · split
          · exact ⟨9, by omega, rfl⟩
          · exact B99_bd _
theorem tollN_B (t : Tk) (k : Nat) (st : Nat → Int32) : ∀ p, B99 (tollN t k st p) (99 * p) := by
  intro p
  induction p with
  | zero => exact ⟨0, Nat.le_refl 0, rfl⟩
  | succ p ih =>
    unfold tollN
    split
    · exact ih.mono (by omega)
    · exact (ih.add tollK_B).mono (by omega)
theorem kToll_B (t : Tk) (k : Nat) (st : Nat → Int32) : B99 (kToll t k st) 594 := tollN_B t k st 6
theorem kFed_B {t : Tk} (h : B99 (tN t) 9) (k : Nat) : B99 (kFed t k) 99 := fedK_B h
/-- a menu that stands, dish by dish -/
def Pth (T : Nat → Tk) : Nat → Nat → (Nat → Int32) → Nat → Nat → Int32 → Int32 → Int32 → Int32 → Lf → Prop
  | 0, _, _, x, n, f, f0, t, s, l => l = (x, n, f, f0, t, s)
  | m + 1, d, st, x, n, f, f0, t, s, l => Pth T m (d + 1) st (x * 10) n f f0 t s l ∨ ∃ k, k < 2 ∧ kCk (T d) k st = true ∧ Pth T m (d + 1) (kUse (T d) k st) (x * 10 + k + 1) (n + 1) (f + kFed (T d) k) (if k = 0 then f0 + kFed (T d) k else f0) (t + kToll (T d) k st) (if k = 0 then s + 1 else s - 1) l
theorem mem_pth (T : Nat → Tk) (bar : Nat) : ∀ m d (st : Nat → Int32) x n (f f0 t s : Int32) (l : Lf), l ∈ lvs T bar m d st x n f f0 t s → Pth T m d st x n f f0 t s l := by
  intro m
  induction m with
  | zero => intro d st x n f f0 t s l h; exact List.mem_singleton.mp h
  | succ m ih =>
    intro d st x n f f0 t s l h
    unfold lvs at h
    have kk : ∀ k, k < 2 → l ∈ lvk (lvs T bar m) (T d) d st x n f f0 t s k → Pth T (m + 1) d st x n f f0 t s l := by
      intro k hk hm
      unfold lvk at hm
      by_cases hc : kCk (T d) k st = true
      · rw [if_pos hc] at hm
        exact Or.inr ⟨k, hk, hc, ih _ _ _ _ _ _ _ _ _ hm⟩
      · rw [if_neg hc] at hm
        exact absurd hm List.not_mem_nil
    rcases List.mem_append.mp h with h | h
    · exact Or.inl (ih _ _ _ _ _ _ _ _ _ h)
    · by_cases db : d = bar
      · rw [if_pos db] at h
        exact absurd h List.not_mem_nil
      · rw [if_neg db] at h
        rcases List.mem_append.mp h with h | h
        · exact kk 0 (by omega) h
        · exact kk 1 (by omega) h
theorem lvs_head (T : Nat → Tk) (bar : Nat) : ∀ m d (st : Nat → Int32) x n (f f0 t s : Int32), ∃ L, lvs T bar m d st x n f f0 t s = (x * 10 ^ m, n, f, f0, t, s) :: L := by
  intro m
  induction m with
  | zero => intro d st x n f f0 t s; exact ⟨[], by rw [lvs, Nat.pow_zero, Nat.mul_one]⟩
  | succ m ih =>
    intro d st x n f f0 t s
    obtain ⟨L, h⟩ := ih (d + 1) st (x * 10) n f f0 t s
    rw [lvs, h, Nat.mul_assoc, ← Nat.pow_succ']
    exact ⟨_, rfl⟩
/-- how many of the lowest m digits are not none -/
def nz : Nat → Nat → Nat
  | 0, _ => 0
  | m + 1, x => nz m x + if Dg x m = 0 then 0 else 1
theorem Dg_div (x m : Nat) : Dg x (m + 1) = Dg (x / 10) m := by
  unfold Dg
  rw [Nat.pow_succ', Nat.div_div_eq_div_mul]
theorem nz_low : ∀ m x, nz (m + 1) x = (if x % 10 = 0 then 0 else 1) + nz m (x / 10) := by
  intro m
  induction m with
  | zero => intro x; unfold nz nz Dg; simp
  | succ m ih =>
    intro x
    rw [nz, ih x, Dg_div, show nz (m + 1) (x / 10) = nz m (x / 10) + (if Dg (x / 10) m = 0 then 0 else 1) from rfl]
    omega
theorem nz_0 : ∀ m, nz m 0 = 0 := by
  intro m
  induction m with
  | zero => rfl
  | succ m ih => unfold nz; rw [ih]; unfold Dg; simp
theorem pth_dig (T : Nat → Tk) : ∀ m d (st : Nat → Int32) x n (f f0 t s : Int32) (l : Lf), Pth T m d st x n f f0 t s l → l.1 / 10 ^ m = x ∧ l.2.1 = n + nz m l.1 := by
  intro m
  induction m with
  | zero => intro d st x n f f0 t s l h; rw [show l = _ from h]; exact ⟨Nat.div_one x, rfl⟩
  | succ m ih =>
    intro d st x n f f0 t s l h
    rw [Nat.pow_succ, ← Nat.div_div_eq_div_mul]
    unfold nz
    rcases h with h | ⟨k, hk, hc, h⟩
    · obtain ⟨a, b⟩ := ih _ _ _ _ _ _ _ _ _ h
      unfold Dg
      rw [a, Nat.mul_mod_left, if_pos rfl]
      exact ⟨by omega, by omega⟩
    · obtain ⟨a, b⟩ := ih _ _ _ _ _ _ _ _ _ h
      unfold Dg
      rw [a, if_neg (by omega)]
      exact ⟨by omega, by omega⟩
theorem pth_B {many : Nat} {T : Nat → Tk} (hN : ∀ d, d < many → B99 (tN (T d)) 9) : ∀ m d (st : Nat → Int32) x n (f f0 t s : Int32) (l : Lf), d + m = many → Pth T m d st x n f f0 t s l → B99 f (99 * n) → B99 f0 (99 * n) → B99 t (594 * n) → B99 l.2.2.1 (99 * l.2.1) ∧ B99 l.2.2.2.1 (99 * l.2.1) ∧ B99 l.2.2.2.2.1 (594 * l.2.1) ∧ l.2.1 ≤ n + m := by
  intro m
  induction m with
  | zero => intro d st x n f f0 t s l _ h h1 h2 h3; rw [show l = _ from h]; exact ⟨h1, h2, h3, Nat.le_refl _⟩
  | succ m ih =>
    intro d st x n f f0 t s l hd h h1 h2 h3
    rcases h with h | ⟨k, hk, hc, h⟩
    · obtain ⟨a, b, c, e⟩ := ih _ _ _ _ _ _ _ _ _ (by omega) h h1 h2 h3
      exact ⟨a, b, c, by omega⟩
    · have hf := kFed_B (hN d (by omega)) k
      obtain ⟨a, b, c, e⟩ := ih _ _ _ _ _ _ _ _ _ (by omega) h ((h1.add hf).mono (by omega)) (by
        split
        · exact (h2.add hf).mono (by omega)
        · exact h2.mono (by omega)) ((h3.add (kToll_B (T d) k st)).mono (by omega))
      exact ⟨a, b, c, by omega⟩
theorem pth_side {T : Nat → Tk} {M : Mem} {many : Nat} (hm1 : M 1 6 = nI many) (hm6 : many ≤ 6) : ∀ m d fuel (st : Nat → Int32) x n (f f0 t s : Int32) (l : Lf), d + m = many → m < fuel → l.1 ≤ 999999 → Pth T m d st x n f f0 t s l → f_X8_sideOf_l4 fuel (nI l.1) s (nI d) M = some (l.2.2.2.2.2, M) := by
  intro m
  induction m with
  | zero =>
    intro d fuel st x n f f0 t s l hd hf hl h
    obtain ⟨g, rfl⟩ : ∃ g, fuel = g + 1 := ⟨fuel - 1, by omega⟩
    rw [f_X8_sideOf_l4, hm1, if_pos (nI_le (by omega) (by omega)), show l = _ from h]
  | succ m ih =>
    intro d fuel st x n f f0 t s l hd hf hl h
    obtain ⟨g, rfl⟩ : ∃ g, fuel = g + 1 := ⟨fuel - 1, by omega⟩
    rw [f_X8_sideOf_l4, hm1, if_neg (nI_ge (by omega) (by omega)), kitC hm1 hm6 hl (by omega), Option.bind_some, show many - 1 - d = m by omega]
    dsimp only
    unfold f_X8_sideOf_b43 f_X8_sideOf_b45
    rw [nIp]
    rcases h with h | ⟨k, hk, hc, h⟩
    · obtain ⟨a, b⟩ := pth_dig T _ _ _ _ _ _ _ _ _ _ h
      unfold Dg
      rw [a, Nat.mul_mod_left, if_pos (show nI 0 - 1 = -1 by decide)]
      exact ih (d + 1) g _ _ _ _ _ _ _ l (by omega) (by omega) hl h
    · obtain ⟨a, b⟩ := pth_dig T _ _ _ _ _ _ _ _ _ _ h
      unfold Dg
      rw [a, show (x * 10 + k + 1) % 10 = k + 1 by omega, nIm (by omega), Nat.add_sub_cancel, if_neg (nI_n1 (by omega))]
      have := ih (d + 1) g _ _ _ _ _ _ _ l (by omega) (by omega) hl h
      by_cases k0 : k = 0
      · subst k0
        rw [if_pos rfl] at this
        rw [if_pos (show nI 0 = 0 from rfl)]
        exact this
      · rw [if_neg k0] at this
        rw [if_neg (nI_ne0 (by omega) (by omega)), show s + (-1) = s - 1 by rw [Int32.sub_eq_add_neg]]
        exact this
theorem pth_play {T : Nat → Tk} {Mc0 : Mem} {many : Nat} (hm1 : Mc0 1 6 = nI many) (hm6 : many ≤ 6) (hT : ∀ d, d < many → ∀ Mc2 : Mem, KC Mc0 Mc2 → ∃ M1 : Mem, f_X0_takeUp (nI d) Mc2 = some M1 ∧ Took M1 (T d) ∧ Sm Mc2 M1) :
    ∀ m d fuel (M : Mem) (st : Nat → Int32) x n (f f0 t s : Int32) (l : Lf), d + m = many → m < fuel → l.1 ≤ 999999 → Pth T m d st x n f f0 t s l → KC Mc0 M → M 43 3 = f → M 43 4 = f0 → M 43 6 = -1 → (∀ j, j < 12 → M 44 j = st j) →
    ∃ M1 : Mem, f_X4_play_l6 fuel (nI l.1) (nI d) M = some M1 ∧ KC Mc0 M1 ∧ M1 43 3 = l.2.2.1 ∧ M1 43 4 = l.2.2.2.1 := by
  intro m
  induction m with
  | zero =>
    intro d fuel M st x n f f0 t s l hd hf hl h kc e3 e4 e6 hs
    obtain ⟨g, rfl⟩ : ∃ g, fuel = g + 1 := ⟨fuel - 1, by omega⟩
    rw [f_X4_play_l6, kc 1 (by omega), hm1, if_pos (nI_le (by omega) (by omega)), show l = _ from h]
    exact ⟨M, rfl, kc, e3, e4⟩
  | succ m ih =>
    intro d fuel M st x n f f0 t s l hd hf hl h kc e3 e4 e6 hs
    obtain ⟨g, rfl⟩ : ∃ g, fuel = g + 1 := ⟨fuel - 1, by omega⟩
    have mM : M 1 6 = nI many := by rw [kc 1 (by omega)]; exact hm1
    rw [f_X4_play_l6, mM, if_neg (nI_ge (by omega) (by omega)), if_pos e6, kitC mM hm6 hl (by omega), Option.bind_some, show many - 1 - d = m by omega]
    dsimp only
    unfold f_X4_play_b54
    rw [nIp]
    rcases h with h | ⟨k, hk, hc, h⟩
    · obtain ⟨a, b⟩ := pth_dig T _ _ _ _ _ _ _ _ _ _ h
      unfold Dg
      rw [a, Nat.mul_mod_left, if_pos (show nI 0 - 1 = -1 by decide)]
      exact ih (d + 1) g M _ _ _ _ _ _ _ l (by omega) (by omega) hl h kc e3 e4 e6 hs
    · obtain ⟨a, b⟩ := pth_dig T _ _ _ _ _ _ _ _ _ _ h
      unfold Dg
      rw [a, show (x * 10 + k + 1) % 10 = k + 1 by omega, nIm (by omega), Nat.add_sub_cancel, if_neg (nI_n1 (by omega))]
      obtain ⟨M1, a1, a2, a3, a4⟩ := goOnC hk (hT d (by omega)) kc
      have hcM : kCk (T d) k (M 44) = true := by rw [kCk_cg hk hs]; exact hc
      obtain ⟨c1, c2, c3, c4, c5⟩ := a4 hcM
      rw [a1, Option.bind_some, hcM]
      dsimp only
      rw [if_neg (show ¬ zI true = 0 by decide)]
      refine ih (d + 1) g M1 _ _ _ _ _ _ _ l (by omega) (by omega) hl h a2 (by rw [c1, e3]) ?_ (by rw [c4, e6]) (fun j hj => by rw [c5 j hj]; exact kUse_cg hk hs j hj)
      rw [c2, e4]
      by_cases k0 : k = 0
      · rw [if_pos k0, if_pos k0]
      · rw [if_neg k0, if_neg k0]; exact Int32.add_zero f0
theorem dishesM {M : Mem} : ∀ m x a fuel, x < 10 ^ m → m ≤ 9 → m < fuel → f_X9_dishesOf_l4 fuel (nI a) (nI x) M = some (nI (a + nz m x), M) := by
  intro m
  induction m with
  | zero =>
    intro x a fuel hx hm hf
    obtain ⟨g, rfl⟩ : ∃ g, fuel = g + 1 := ⟨fuel - 1, by omega⟩
    have : x = 0 := by omega
    subst this
    rw [f_X9_dishesOf_l4, if_pos (by decide)]
    rfl
  | succ m ih =>
    intro x a fuel hx hm hf
    obtain ⟨g, rfl⟩ : ∃ g, fuel = g + 1 := ⟨fuel - 1, by omega⟩
    have hp : 10 ^ (m + 1) ≤ 10 ^ 9 := Nat.pow_le_pow_right (by omega) hm
    by_cases x0 : x = 0
    · subst x0
      rw [f_X9_dishesOf_l4, if_pos (by decide), nz_0]
      rfl
    · rw [f_X9_dishesOf_l4, if_neg (show ¬ nI x ≤ 0 from nI_nle (by omega) (by omega)), show (10 : Int32) = nI 10 from rfl, jrem_nI (by omega) (by omega) (by omega)]
      unfold f_X9_dishesOf_b21
      rw [show (10 : Int32) = nI 10 from rfl, pk_div (by omega) (by omega) (by omega), nIp, nz_low]
      have hx2 : x / 10 < 10 ^ m := by rw [Nat.pow_succ] at hx; omega
      by_cases c : x % 10 = 0
      · rw [if_pos (show nI (x % 10) = 0 by rw [c]; rfl), if_pos c, show nI a + 0 = nI a from nI_add a 0, ih (x / 10) a g hx2 (by omega) (by omega), Nat.zero_add]
      · rw [if_neg (nI_ne0 (by omega) (by omega)), if_neg c, ih (x / 10) (a + 1) g hx2 (by omega) (by omega), Nat.add_assoc]
/-! WEIGHING, both -/
theorem fold_rel {α : Type} (g : α → Lf → α) (pr : Lf → α) (b : Nat) (P : Lf → Prop) (h1 : ∀ l, P l → l.1 < 2 ^ 31) (hg : ∀ l l2, P l → P l2 → g (pr l) l2 = if vv b l2 ≤ vv b l then pr l else pr l2) :
    ∀ (L : List Lf), (∀ l, l ∈ L → P l) → ∀ l, P l → ∃ l2, P l2 ∧ (l2 = l ∨ l2 ∈ L) ∧ L.foldl g (pr l) = pr l2 ∧ L.foldl (mstep b) (mlay b l) = mlay b l2 := by
  intro L
  induction L with
  | nil => intro _ l hl; exact ⟨l, hl, Or.inl rfl, rfl, rfl⟩
  | cons a L ih =>
    intro hP l hl
    have ha := hP a List.mem_cons_self
    have hs : mstep b (mlay b l) a = if vv b a ≤ vv b l then mlay b l else mlay b a := by
      unfold mstep
      rw [if_neg (show ¬ (mlay b l).1 = -1 from nI_n1 (h1 l hl))]
      rfl
    rw [List.foldl_cons, List.foldl_cons, hg l a hl ha, hs]
    by_cases c : vv b a ≤ vv b l
    · rw [if_pos c, if_pos c]
      obtain ⟨l2, p1, p2, p3, p4⟩ := ih (fun x hx => hP x (List.mem_cons_of_mem _ hx)) l hl
      exact ⟨l2, p1, p2.imp id (List.mem_cons_of_mem _), p3, p4⟩
    · rw [if_neg c, if_neg c]
      obtain ⟨l2, p1, p2, p3, p4⟩ := ih (fun x hx => hP x (List.mem_cons_of_mem _ hx)) a ha
      refine ⟨l2, p1, Or.inr ?_, p3, p4⟩
      rcases p2 with rfl | p2
      · exact List.mem_cons_self
      · exact List.mem_cons_of_mem _ p2
def GoodL (l : Lf) : Prop := l.1 ≤ 999999 ∧ l.2.1 ≤ 6 ∧ B99 l.2.2.1 (99 * l.2.1) ∧ B99 l.2.2.2.1 (99 * l.2.1) ∧ B99 l.2.2.2.2.1 (594 * l.2.1)
theorem fold_any {α : Type} (g : α → Lf → α) (pr : Lf → α) (b : Nat) (hg : ∀ l l2, GoodL l → GoodL l2 → g (pr l) l2 = if vv b l2 ≤ vv b l then pr l else pr l2) (h0 : g (pr (0, 0, 0, 0, 0, 0)) (0, 0, 0, 0, 0, 0) = pr (0, 0, 0, 0, 0, 0)) {L : List Lf} (hL : ∀ l, l ∈ L → GoodL l) (hh : ∃ L2, L = (0, 0, 0, 0, 0, 0) :: L2) {c : Mst} (hc : c.1 = -1) :
    ∃ l, l ∈ L ∧ L.foldl g (pr (0, 0, 0, 0, 0, 0)) = pr l ∧ L.foldl (mstep b) c = mlay b l := by
  obtain ⟨L2, rfl⟩ := hh
  obtain ⟨l2, p1, p2, p3, p4⟩ := fold_rel g pr b GoodL (fun l h => by have := h.1; omega) hg L2 (fun l h => hL l (List.mem_cons_of_mem _ h)) (0, 0, 0, 0, 0, 0) (hL _ List.mem_cons_self)
  refine ⟨l2, ?_, ?_, ?_⟩
  · rcases p2 with rfl | p2
    · exact List.mem_cons_self
    · exact List.mem_cons_of_mem _ p2
  · rw [List.foldl_cons, h0]; exact p3
  · rw [List.foldl_cons]
    unfold mstep
    rw [if_pos hc]
    exact p4
def prA (l : Lf) : Int32 × Int32 := (nI l.1, l.2.2.1 - l.2.2.2.2.1)
def prB (l : Lf) : Int32 × Int32 := (nI l.1, l.2.2.1)
def prC (l : Lf) : Int32 × Int32 × Int32 := (nI l.1, l.2.2.2.2.1, nI l.2.1)
theorem foldA {L : List Lf} (hL : ∀ l, l ∈ L → GoodL l) (hh : ∃ L2, L = (0, 0, 0, 0, 0, 0) :: L2) {c : Mst} (hc : c.1 = -1) : ∃ l, l ∈ L ∧ L.foldl cA (0, 0) = prA l ∧ L.foldl (mstep 0) c = mlay 0 l :=
  fold_any cA prA 0 (fun l l2 _ _ => rfl) rfl hL hh hc
theorem foldB {L : List Lf} (hL : ∀ l, l ∈ L → GoodL l) (hh : ∃ L2, L = (0, 0, 0, 0, 0, 0) :: L2) {c : Mst} (hc : c.1 = -1) : ∃ l, l ∈ L ∧ L.foldl cB (0, 0) = prB l ∧ L.foldl (mstep 1) c = mlay 1 l :=
  fold_any cB prB 1 (fun l l2 _ _ => rfl) rfl hL hh hc
theorem foldC {L : List Lf} (hL : ∀ l, l ∈ L → GoodL l) (hh : ∃ L2, L = (0, 0, 0, 0, 0, 0) :: L2) {c : Mst} (hc : c.1 = -1) : ∃ l, l ∈ L ∧ L.foldl cC (0, 0, 0) = prC l ∧ L.foldl (mstep 2) c = mlay 2 l := by
  refine fold_any cC prC 2 (fun l l2 h h2 => ?_) rfl hL hh hc
  obtain ⟨_, n1, _, _, i, hi, ei⟩ := h
  obtain ⟨_, n2, _, _, j, hj, ej⟩ := h2
  unfold cC prC vv wv
  dsimp only
  rw [if_neg (show ¬ (2 : Nat) = 1 by omega), if_neg (show ¬ (2 : Nat) = 1 by omega), if_pos rfl, if_pos rfl, ei, ej]
  have q1 : (nI l.2.1 < nI l2.2.1) = (l.2.1 < l2.2.1) := nIlt (by omega) (by omega)
  have q2 : (nI l2.2.1 = nI l.2.1) = (l2.2.1 = l.2.1) := nIeq (by omega) (by omega)
  have q3 : (nI i ≤ nI j) = (i ≤ j) := nIle (by omega) (by omega)
  have q4 : (nI (10000 * l2.2.1) - nI j ≤ nI (10000 * l.2.1) - nI i) = ((10000 * l2.2.1 : Nat) - (j : Int) ≤ (10000 * l.2.1 : Nat) - (i : Int)) := by
    rw [i_le, pk_sub_toInt (by omega) (by omega), pk_sub_toInt (by omega) (by omega)]
  by_cases c1 : l.2.1 < l2.2.1
  · rw [if_pos (by rw [q1]; exact c1), if_neg (by rw [q4]; omega)]
  · rw [if_neg (by rw [q1]; exact c1)]
    by_cases c2 : l2.2.1 = l.2.1
    · rw [if_pos (by rw [q2]; exact c2)]
      by_cases c3 : i ≤ j
      · rw [if_pos (by rw [q3]; exact c3), if_pos (by rw [q4]; omega)]
      · rw [if_neg (by rw [q3]; exact c3), if_neg (by rw [q4]; omega)]
    · rw [if_neg (by rw [q2]; exact c2), if_pos (by rw [q4]; omega)]
theorem lvs_good {many bar : Nat} {T : Nat → Tk} (hm6 : many ≤ 6) (hN : ∀ d, d < many → B99 (tN (T d)) 9) (st : Nat → Int32) : (∀ l, l ∈ lvs T bar many 0 st 0 0 0 0 0 0 → GoodL l ∧ Pth T many 0 st 0 0 0 0 0 0 l ∧ l.1 < 10 ^ many ∧ l.2.1 = nz many l.1) ∧ ∃ L2, lvs T bar many 0 st 0 0 0 0 0 0 = (0, 0, 0, 0, 0, 0) :: L2 := by
  refine ⟨fun l hl => ?_, ?_⟩
  · have hp := mem_pth T bar _ _ _ _ _ _ _ _ _ _ hl
    obtain ⟨a, b⟩ := pth_dig T _ _ _ _ _ _ _ _ _ _ hp
    have z : ∀ n, B99 (0 : Int32) n := fun n => ⟨0, Nat.zero_le n, rfl⟩
    obtain ⟨c1, c2, c3, c4⟩ := pth_B hN _ _ _ _ _ _ _ _ _ _ (by omega) hp (z _) (z _) (z _)
    have h6 : 10 ^ many ≤ 10 ^ 6 := Nat.pow_le_pow_right (by omega) hm6
    have hx : l.1 < 10 ^ many := by
      rcases Nat.div_eq_zero_iff.mp a with y | y
      · exact absurd y (Nat.ne_of_gt (Nat.pow_pos (by omega)))
      · exact y
    exact ⟨⟨by omega, by omega, c1, c2, c3⟩, hp, hx, by omega⟩
  · obtain ⟨L, h⟩ := lvs_head T bar many 0 st 0 0 0 0 0 0
    rw [Nat.zero_mul] at h
    exact ⟨L, h⟩
end
section
/-! BEST, LEAVE, BUY, SHARE -/
def Tgood (Mc Mm : Mem) (many : Nat) (T : Nat → Tk) : Prop := ∀ d, d < many → (∀ N : Mem, KM6 Mm N → TkM N d (T d)) ∧ (∀ Mc2 : Mem, KC Mc Mc2 → ∃ M1 : Mem, f_X0_takeUp (nI d) Mc2 = some M1 ∧ Took M1 (T d) ∧ Sm Mc2 M1) ∧ B99 (tN (T d)) 9
theorem getT {many txt : Nat} {Mc Mm : Mem} (hN : InvN many txt Mc Mm) : ∃ T : Nat → Tk, Tgood Mc Mm many T := by
  have hx : ∀ d : Nat, ∃ t : Tk, d < many → (∀ N : Mem, KM6 Mm N → TkM N d t) ∧ (∀ Mc2 : Mem, KC Mc Mc2 → ∃ M1 : Mem, f_X0_takeUp (nI d) Mc2 = some M1 ∧ Took M1 t ∧ Sm Mc2 M1) ∧ B99 (tN t) 9 := by
    intro d
    by_cases hd : d < many
    · obtain ⟨t, tm, tc, _⟩ := tkBoth hN.1 hN.2.2.1 hd
      exact ⟨t, fun _ => ⟨fun N k => tm.keep (fun p hp => k.1 p (by omega) (by omega) (by omega)) (k.2 4 (by omega)) (k.2 7 (by omega)), tc, tm.2.2.2.2.2.2.1⟩⟩
    · exact ⟨(0, 0, 0, fun _ => 0, fun _ => 0, 0, fun _ _ => 0), fun h => absurd h hd⟩
  exact Classical.skolem.mp hx
theorem DP_ge : 6 < DP := by decide
theorem seek53 {many bar : Nat} {Mc Mm : Mem} {T : Nat → Tk} (hT : Tgood Mc Mm many T) (hm1 : Mc 1 6 = nI many) (hm6 : many ≤ 6) {v : Int32} (hb : ∀ e, e < 6 → (nI e = v ↔ e = bar)) {M : Mem} (kc : KC Mc M) {st : Nat → Int32} (hs : ∀ j, j < 12 → M 47 j = st j) :
    ∃ M1 : Mem, f_X3_seek_b53 v M = some M1 ∧ KC Mc M1 ∧ (M1 45 4, M1 45 5) = (lvs T bar many 0 st 0 0 0 0 0 0).foldl cA (0, 0) ∧ (M1 45 6, M1 45 7) = (lvs T bar many 0 st 0 0 0 0 0 0).foldl cB (0, 0) ∧ (M1 45 8, M1 45 9, M1 45 10) = (lvs T bar many 0 st 0 0 0 0 0 0).foldl cC (0, 0, 0) := by
  unfold f_X3_seek_b53
  generalize hM0 : mu (mu (mu (mu (mu (mu (mu (mu M 45 3 v) 45 4 0) 45 5 0) 45 6 0) 45 7 0) 45 8 0) 45 9 0) 45 10 0 = M0
  have o : ∀ q, q ≠ 45 → M0 q = M q := fun q h => by rw [← hM0, mun h, mun h, mun h, mun h, mun h, mun h, mun h, mun h]
  have e3 : M0 45 3 = v := by rw [← hM0, mu_o (by omega), mu_o (by omega), mu_o (by omega), mu_o (by omega), mu_o (by omega), mu_o (by omega), mu_o (by omega), mu_at]
  have e4 : M0 45 4 = 0 := by rw [← hM0, mu_o (by omega), mu_o (by omega), mu_o (by omega), mu_o (by omega), mu_o (by omega), mu_o (by omega), mu_at]
  have e5 : M0 45 5 = 0 := by rw [← hM0, mu_o (by omega), mu_o (by omega), mu_o (by omega), mu_o (by omega), mu_o (by omega), mu_at]
  have e6 : M0 45 6 = 0 := by rw [← hM0, mu_o (by omega), mu_o (by omega), mu_o (by omega), mu_o (by omega), mu_at]
  have e7 : M0 45 7 = 0 := by rw [← hM0, mu_o (by omega), mu_o (by omega), mu_o (by omega), mu_at]
  have e8 : M0 45 8 = 0 := by rw [← hM0, mu_o (by omega), mu_o (by omega), mu_at]
  have e9 : M0 45 9 = 0 := by rw [← hM0, mu_o (by omega), mu_at]
  have e10 : M0 45 10 = 0 := by rw [← hM0, mu_at]
  obtain ⟨M1, a1, a2, a3, a4, a5, a6, a7⟩ := goC (bar := bar) hm1 hm6 (fun d hd => (hT d hd).2.1) many 0 DP M0 st 0 0 0 0 0 0 (by omega) (by have := DP_ge; omega) (fun q hq => (o q (by omega)).trans (kc q hq)) (fun e he => by rw [e3]; exact hb e he) (fun j hj => by rw [o (47 + 0) (by omega)]; exact hs j hj)
  rw [show f_X3_goThrough DP 0 0 0 0 0 M0 = some M1 from a1]
  rw [e4, e5] at a5
  rw [e6, e7] at a6
  rw [e8, e9, e10] at a7
  exact ⟨M1, rfl, a2, a5, a6, a7⟩
theorem wv_0 (b : Nat) : wv b 0 0 0 = 0 := by
  unfold wv
  split
  · rfl
  · rfl
theorem bestM {many bar b : Nat} {Mc Mm : Mem} {T : Nat → Tk} (hb2 : b ≤ 2) (hT : Tgood Mc Mm many T) (hm2 : Mm 100 12 = nI many) (hm6 : many ≤ 6) {v : Int32} (hb : ∀ e, e < 6 → (nI e = v ↔ e = bar)) {N : Mem} (kn : KM6 Mm N) {st : Nat → Int32} (hs : ∀ j, j < 12 → N 104 j = st j) :
    ∃ N1 : Mem, f_X9_bestOf (nI b) v N = some N1 ∧ KM6 Mm N1 ∧ (∀ j, j < 12 → N1 104 j = N 104 j) ∧ ∃ c : Mst, c.1 = -1 ∧ mst N1 = (lvs T bar many 0 st 0 0 0 0 0 0).foldl (mstep b) c := by
  unfold f_X9_bestOf
  generalize hN0 : mu (mu N 100 32 (-1)) 100 37 v = N0
  have o : ∀ q, q ≠ 100 → N0 q = N q := fun q h => by rw [← hN0, mun h, mun h]
  have e37 : N0 100 37 = v := by rw [← hN0, mu_at]
  have e32 : N0 100 32 = -1 := by rw [← hN0, mu_o (by omega), mu_at]
  have k0 : KM6 Mm N0 := ⟨fun q a b c => (o q a).trans (kn.1 q a b c), fun j hj => by rw [← hN0, mu_o (by omega), mu_o (by omega)]; exact kn.2 j hj⟩
  obtain ⟨N1, a1, a2, a3, a4, a5, a6⟩ := goM (bar := bar) hb2 hm2 hm6 (fun d hd => (hT d hd).1) many 0 DP N0 st 0 0 0 0 0 0 (by omega) (by have := DP_ge; omega) k0 (fun e he => by rw [e37]; exact hb e he) (fun j hj => by rw [o 104 (by omega)]; exact hs j hj)
  rw [wv_0] at a1
  rw [show f_X9_menus DP (nI b) 0 0 0 0 0 0 N0 = some N1 from a1]
  exact ⟨N1, rfl, a2, fun j hj => by rw [a4 j hj, o 104 (by omega)], mst N0, e32, a6⟩
theorem nobar : ∀ e, e < 6 → (nI e = -1 ↔ e = 99) := fun e he => ⟨fun h => absurd h (nI_n1 (by omega)), fun h => by omega⟩
theorem mst_of {N : Mem} {b : Nat} {l : Lf} (h : mst N = mlay b l) : N 100 32 = nI l.1 ∧ N 100 33 = vv b l ∧ N 100 34 = l.2.2.1 ∧ N 100 35 = l.2.2.2.1 ∧ N 100 36 = l.2.2.2.2.2 :=
  ⟨congrArg (fun c : Mst => c.1) h, congrArg (fun c : Mst => c.2.1) h, congrArg (fun c : Mst => c.2.2.1) h, congrArg (fun c : Mst => c.2.2.2.1) h, congrArg (fun c : Mst => c.2.2.2.2) h⟩
theorem KM6.km {Mm N : Mem} (h : KM6 Mm N) (hs : ∀ j, j < 12 → N 104 j = Mm 104 j) : KM Mm N := ⟨fun q a b _ _ c => h.1 q a b c, hs, h.2⟩
theorem KM6.refl (Mm : Mem) : KM6 Mm Mm := ⟨fun _ _ _ _ => rfl, fun _ _ => rfl⟩
theorem subself (a t : Int32) : a - (a - t) = t := by
  rw [Int32.sub_eq_add_neg, Int32.sub_eq_add_neg, Int32.neg_add, Int32.sub_eq_add_neg, Int32.neg_neg, ← Int32.add_assoc, Int32.add_right_neg, Int32.zero_add]
theorem seekm1 (v : Int32) (M : Mem) : f_X3_seek v (-1) M = f_X3_seek_b53 v (mcp M 2 0 47 0 12) := by
  unfold f_X3_seek
  rw [if_pos (show (-1 : Int32) < 0 by decide)]
theorem kc47 {Mc M : Mem} (kc : KC Mc M) : KC Mc (mcp M 2 0 47 0 12) := fun q hq => (mcp_o (by omega)).trans (kc q hq)
theorem best_op {Mc Mm : Mem} (h : Inv Mc Mm) (v1 : Int32) : OpI (f_X8_best v1) (f_X9_best v1) Mc Mm := by
  obtain ⟨many, txt, hN⟩ := id h
  have hN : InvN many txt Mc Mm := hN
  obtain ⟨hs0, hm1, hm2, hm6, _⟩ := id hN.1
  obtain ⟨T, hT⟩ := getT hN
  unfold OpI f_X8_best f_X9_best
  rw [inC3 (b := 7) (n := 8) (by decide), show (7 : Int64) = (7 : Int32).toInt64 from rfl, inM (n := 8) (by decide), Option.bind_some]
  dsimp only
  cases g1 : inR v1 8 with
  | false => rw [ft, if_pos (show zI false = 0 from rfl)]; exact ⟨_, _, _, rfl, rfl, h⟩
  | true =>
    rw [tt, if_neg (show ¬ zI true = 0 by decide), seekm1]
    obtain ⟨y, hy, rfl⟩ := inR_of g1 (by omega)
    obtain ⟨M1, a1, a2, a3, a4, a5⟩ := seek53 (bar := 99) hT hm1 hm6 nobar (kc47 (KC.refl Mc)) (st := Mc 2) (fun j hj => mcp_in hj)
    obtain ⟨gd, hd⟩ := lvs_good (bar := 99) hm6 (fun d hd => (hT d hd).2.2) (Mc 2)
    have gL : ∀ l, l ∈ lvs T 99 many 0 (Mc 2) 0 0 0 0 0 0 → GoodL l := fun l hl => (gd l hl).1
    have bM := fun b (hb2 : b ≤ 2) => bestM (bar := 99) hb2 hT hm2 hm6 nobar (KM6.refl Mm) (fun j hj => (hs0.1 j hj).1)
    rw [a1, Option.bind_some]
    have fin : ∀ N1 : Mem, KM6 Mm N1 → (∀ j, j < 12 → N1 104 j = Mm 104 j) → Inv M1 N1 := fun N1 k6 k7 => (hN.sc a2 (k6.km k7)).i
    have cs : y = 0 ∨ y = 1 ∨ y = 2 ∨ y = 3 ∨ y = 4 ∨ y = 5 ∨ y = 6 ∨ y = 7 := by omega
    unfold f_X9_best_b28
    have dm : ∀ (N1 : Mem) (x : Nat), x < 10 ^ many → f_X9_dishesOf (nI x) N1 = some (nI (nz many x), N1) := fun N1 x hx => by
      have := dishesM (M := N1) many x 0 FU hx (by omega) (by have := FU_ge; omega)
      rw [Nat.zero_add] at this
      exact this
    rcases cs with rfl | rfl | rfl | rfl | rfl | rfl | rfl | rfl
    · obtain ⟨N1, b1, b2, b3, c, c1, c2⟩ := bM 0 (by omega)
      obtain ⟨l, l1, l2, l3⟩ := foldA gL hd c1
      obtain ⟨m1, m2, m3, m4, m5⟩ := mst_of (c2.trans l3)
      rw [l2] at a3
      rw [if_pos (show nI 0 = 0 from rfl), if_pos (show nI 0 < 2 by decide)]
      unfold f_X9_best_b42
      rw [show f_X9_bestOf 0 (-1) Mm = some N1 from b1, Option.bind_some, if_neg (show ¬ 4 ≤ nI 0 by decide), if_pos (show jrem (nI 0) 2 = 0 by decide), m1, show M1 45 4 = nI l.1 from congrArg Prod.fst a3]
      exact ⟨_, _, _, rfl, rfl, fin N1 b2 b3⟩
    · obtain ⟨N1, b1, b2, b3, c, c1, c2⟩ := bM 0 (by omega)
      obtain ⟨l, l1, l2, l3⟩ := foldA gL hd c1
      obtain ⟨m1, m2, m3, m4, m5⟩ := mst_of (c2.trans l3)
      rw [l2] at a3
      rw [if_neg (show ¬ nI 1 = 0 by decide), if_pos (show nI 1 = 1 from rfl), if_pos (show nI 1 < 2 by decide)]
      unfold f_X9_best_b42
      rw [show f_X9_bestOf 0 (-1) Mm = some N1 from b1, Option.bind_some, if_neg (show ¬ 4 ≤ nI 1 by decide), if_neg (show ¬ jrem (nI 1) 2 = 0 by decide), m2, show M1 45 5 = vv 0 l from congrArg Prod.snd a3]
      exact ⟨_, _, _, rfl, rfl, fin N1 b2 b3⟩
    · obtain ⟨N1, b1, b2, b3, c, c1, c2⟩ := bM 1 (by omega)
      obtain ⟨l, l1, l2, l3⟩ := foldB gL hd c1
      obtain ⟨m1, m2, m3, m4, m5⟩ := mst_of (c2.trans l3)
      rw [l2] at a4
      rw [if_neg (show ¬ nI 2 = 0 by decide), if_neg (show ¬ nI 2 = 1 by decide), if_pos (show nI 2 = 2 from rfl), if_neg (show ¬ nI 2 < 2 by decide), if_neg (show ¬ nI 2 = 7 by decide), if_neg (show ¬ 4 ≤ nI 2 by decide)]
      unfold f_X9_best_b42
      rw [show f_X9_bestOf 1 (-1) Mm = some N1 from b1, Option.bind_some, if_neg (show ¬ 4 ≤ nI 2 by decide), if_pos (show jrem (nI 2) 2 = 0 by decide), m1, show M1 45 6 = nI l.1 from congrArg Prod.fst a4]
      exact ⟨_, _, _, rfl, rfl, fin N1 b2 b3⟩
    · obtain ⟨N1, b1, b2, b3, c, c1, c2⟩ := bM 1 (by omega)
      obtain ⟨l, l1, l2, l3⟩ := foldB gL hd c1
      obtain ⟨m1, m2, m3, m4, m5⟩ := mst_of (c2.trans l3)
      rw [l2] at a4
      rw [if_neg (show ¬ nI 3 = 0 by decide), if_neg (show ¬ nI 3 = 1 by decide), if_neg (show ¬ nI 3 = 2 by decide), if_pos (show nI 3 = 3 from rfl), if_neg (show ¬ nI 3 < 2 by decide), if_neg (show ¬ nI 3 = 7 by decide), if_neg (show ¬ 4 ≤ nI 3 by decide)]
      unfold f_X9_best_b42
      rw [show f_X9_bestOf 1 (-1) Mm = some N1 from b1, Option.bind_some, if_neg (show ¬ 4 ≤ nI 3 by decide), if_neg (show ¬ jrem (nI 3) 2 = 0 by decide), m2, show M1 45 7 = vv 1 l from congrArg Prod.snd a4]
      exact ⟨_, _, _, rfl, rfl, fin N1 b2 b3⟩
    · obtain ⟨N1, b1, b2, b3, c, c1, c2⟩ := bM 2 (by omega)
      obtain ⟨l, l1, l2, l3⟩ := foldC gL hd c1
      obtain ⟨m1, m2, m3, m4, m5⟩ := mst_of (c2.trans l3)
      rw [l2] at a5
      rw [if_neg (show ¬ nI 4 = 0 by decide), if_neg (show ¬ nI 4 = 1 by decide), if_neg (show ¬ nI 4 = 2 by decide), if_neg (show ¬ nI 4 = 3 by decide), if_pos (show nI 4 = 4 from rfl), if_neg (show ¬ nI 4 < 2 by decide), if_neg (show ¬ nI 4 = 7 by decide), if_pos (show 4 ≤ nI 4 by decide)]
      unfold f_X9_best_b42
      rw [show f_X9_bestOf 2 (-1) Mm = some N1 from b1, Option.bind_some, if_pos (show 4 ≤ nI 4 by decide), m1, dm N1 l.1 (gd l l1).2.2.1, Option.bind_some]
      dsimp only
      rw [if_pos (show nI 4 = 4 from rfl), m1, show M1 45 8 = nI l.1 from congrArg Prod.fst a5]
      exact ⟨_, _, _, rfl, rfl, fin N1 b2 b3⟩
    · obtain ⟨N1, b1, b2, b3, c, c1, c2⟩ := bM 2 (by omega)
      obtain ⟨l, l1, l2, l3⟩ := foldC gL hd c1
      obtain ⟨m1, m2, m3, m4, m5⟩ := mst_of (c2.trans l3)
      rw [l2] at a5
      rw [if_neg (show ¬ nI 5 = 0 by decide), if_neg (show ¬ nI 5 = 1 by decide), if_neg (show ¬ nI 5 = 2 by decide), if_neg (show ¬ nI 5 = 3 by decide), if_neg (show ¬ nI 5 = 4 by decide), if_pos (show nI 5 = 5 from rfl), if_neg (show ¬ nI 5 < 2 by decide), if_neg (show ¬ nI 5 = 7 by decide), if_pos (show 4 ≤ nI 5 by decide)]
      unfold f_X9_best_b42
      rw [show f_X9_bestOf 2 (-1) Mm = some N1 from b1, Option.bind_some, if_pos (show 4 ≤ nI 5 by decide), m1, dm N1 l.1 (gd l l1).2.2.1, Option.bind_some]
      dsimp only
      have ev : (10000 : Int32) * nI (nz many l.1) - N1 100 33 = l.2.2.2.2.1 := by
        rw [m2, ← (gd l l1).2.2.2, show (10000 : Int32) = nI 10000 from rfl, pk_mul]
        exact subself _ _
      rw [if_neg (show ¬ nI 5 = 4 by decide), if_pos (show nI 5 = 5 from rfl), ev, show M1 45 9 = l.2.2.2.2.1 from congrArg (fun c : Int32 × Int32 × Int32 => c.2.1) a5]
      exact ⟨_, _, _, rfl, rfl, fin N1 b2 b3⟩
    · obtain ⟨N1, b1, b2, b3, c, c1, c2⟩ := bM 2 (by omega)
      obtain ⟨l, l1, l2, l3⟩ := foldC gL hd c1
      obtain ⟨m1, m2, m3, m4, m5⟩ := mst_of (c2.trans l3)
      rw [l2] at a5
      rw [if_neg (show ¬ nI 6 = 0 by decide), if_neg (show ¬ nI 6 = 1 by decide), if_neg (show ¬ nI 6 = 2 by decide), if_neg (show ¬ nI 6 = 3 by decide), if_neg (show ¬ nI 6 = 4 by decide), if_neg (show ¬ nI 6 = 5 by decide), if_pos (show nI 6 = 6 from rfl), if_neg (show ¬ nI 6 < 2 by decide), if_neg (show ¬ nI 6 = 7 by decide), if_pos (show 4 ≤ nI 6 by decide)]
      unfold f_X9_best_b42
      rw [show f_X9_bestOf 2 (-1) Mm = some N1 from b1, Option.bind_some, if_pos (show 4 ≤ nI 6 by decide), m1, dm N1 l.1 (gd l l1).2.2.1, Option.bind_some]
      dsimp only
      rw [if_neg (show ¬ nI 6 = 4 by decide), if_neg (show ¬ nI 6 = 5 by decide), if_pos (show nI 6 = 6 from rfl), ← (gd l l1).2.2.2, show M1 45 10 = nI l.2.1 from congrArg (fun c : Int32 × Int32 × Int32 => c.2.2) a5]
      exact ⟨_, _, _, rfl, rfl, fin N1 b2 b3⟩
    · obtain ⟨N1, b1, b2, b3, c, c1, c2⟩ := bM 0 (by omega)
      obtain ⟨l, l1, l2, l3⟩ := foldA gL hd c1
      obtain ⟨m1, m2, m3, m4, m5⟩ := mst_of (c2.trans l3)
      rw [l2] at a3
      rw [if_neg (show ¬ nI 7 = 0 by decide), if_neg (show ¬ nI 7 = 1 by decide), if_neg (show ¬ nI 7 = 2 by decide), if_neg (show ¬ nI 7 = 3 by decide), if_neg (show ¬ nI 7 = 4 by decide), if_neg (show ¬ nI 7 = 5 by decide), if_neg (show ¬ nI 7 = 6 by decide), if_neg (show ¬ nI 7 < 2 by decide), if_pos (show nI 7 = 7 from rfl)]
      unfold f_X9_best_b42
      rw [show f_X9_bestOf 0 (-1) Mm = some N1 from b1, Option.bind_some, if_pos (show 4 ≤ nI 7 by decide), m1, dm N1 l.1 (gd l l1).2.2.1, Option.bind_some]
      dsimp only
      rw [if_neg (show ¬ nI 7 = 4 by decide), if_neg (show ¬ nI 7 = 5 by decide), if_neg (show ¬ nI 7 = 6 by decide), m5, show M1 45 4 = nI l.1 from congrArg Prod.fst a3]
      have sd := pth_side (M := M1) (by rw [a2 1 (by omega)]; exact hm1) hm6 many 0 FU (Mc 2) 0 0 0 0 0 0 l (by omega) (by have := FU_ge; omega) (gd l l1).1.1 (gd l l1).2.1
      unfold f_X8_sideOf
      rw [show (f_X8_sideOf_l4 FU) (nI l.1) 0 0 M1 = _ from sd, Option.bind_some]
      exact ⟨_, _, _, rfl, rfl, fin N1 b2 b3⟩
end
section
/-! LEAVE, BUY, SHARE -/
/-- the best menu's worth, both -/
theorem seekA {many bar : Nat} {Mc Mm : Mem} {T : Nat → Tk} (hT : Tgood Mc Mm many T) (hm1 : Mc 1 6 = nI many) (hm2 : Mm 100 12 = nI many) (hm6 : many ≤ 6) {v : Int32} (hb : ∀ e, e < 6 → (nI e = v ↔ e = bar)) {M N : Mem} (kc : KC Mc M) (kn : KM6 Mm N) {st : Nat → Int32} (hM : ∀ j, j < 12 → M 47 j = st j) (hN : ∀ j, j < 12 → N 104 j = st j) :
    ∃ (M1 N1 : Mem) (l : Lf), f_X3_seek_b53 v M = some M1 ∧ f_X9_bestOf 0 v N = some N1 ∧ KC Mc M1 ∧ KM6 Mm N1 ∧ (∀ j, j < 12 → N1 104 j = N 104 j) ∧ M1 45 4 = nI l.1 ∧ M1 45 5 = vv 0 l ∧ mst N1 = mlay 0 l ∧ GoodL l ∧ Pth T many 0 st 0 0 0 0 0 0 l := by
  obtain ⟨M1, a1, a2, a3, _, _⟩ := seek53 hT hm1 hm6 hb kc hM
  obtain ⟨N1, b1, b2, b3, c, c1, c2⟩ := bestM (b := 0) (by omega) hT hm2 hm6 hb kn hN
  obtain ⟨gd, hd⟩ := lvs_good (bar := bar) hm6 (fun d hd => (hT d hd).2.2) st
  obtain ⟨l, l1, l2, l3⟩ := foldA (fun l hl => (gd l hl).1) hd c1
  rw [l2] at a3
  exact ⟨M1, N1, l, a1, b1, a2, b2, b3, congrArg Prod.fst a3, congrArg Prod.snd a3, c2.trans l3, (gd l l1).1, (gd l l1).2.1⟩
theorem leaveLoop {many : Nat} {Mc Mm : Mem} {T : Nat → Tk} (hT : Tgood Mc Mm many T) (hm1 : Mc 1 6 = nI many) (hm2 : Mm 100 12 = nI many) (hm6 : many ≤ 6) (hs : ∀ j, j < 12 → Mm 104 j = Mc 2 j) (v1 : Int32) : ∀ m i fuel (v2 v3 : Int32) (M N : Mem), i + m = many → m < fuel → KC Mc M → KM6 Mm N → (∀ j, j < 12 → N 104 j = Mm 104 j) →
    ∃ (r : Int32) (M1 N1 : Mem), f_X8_leave_l19 f_X8_leave_b74 fuel v1 v2 v3 (nI i) M = some (r, M1) ∧ f_X9_leave_l21 f_X9_leave_b64 fuel v1 v2 v3 (nI i) N = some (r, N1) ∧ KC Mc M1 ∧ KM6 Mm N1 ∧ (∀ j, j < 12 → N1 104 j = Mm 104 j) := by
  intro m
  induction m with
  | zero =>
    intro i fuel v2 v3 M N hi hf kc kn ns
    obtain ⟨g, rfl⟩ : ∃ g, fuel = g + 1 := ⟨fuel - 1, by omega⟩
    rw [f_X8_leave_l19, f_X9_leave_l21, kc 1 (by omega), kn.2 12 (by omega), hm1, hm2, if_pos (nI_le (by omega) (by omega)), if_pos (nI_le (by omega) (by omega))]
    unfold f_X8_leave_b74 f_X9_leave_b64
    by_cases c : v1 = 0
    · rw [if_pos c, if_pos c]; exact ⟨_, _, _, rfl, rfl, kc, kn, ns⟩
    · rw [if_neg c, if_neg c]; exact ⟨_, _, _, rfl, rfl, kc, kn, ns⟩
  | succ m ih =>
    intro i fuel v2 v3 M N hi hf kc kn ns
    obtain ⟨g, rfl⟩ : ∃ g, fuel = g + 1 := ⟨fuel - 1, by omega⟩
    rw [f_X8_leave_l19, f_X9_leave_l21, kc 1 (by omega), kn.2 12 (by omega), hm1, hm2, if_neg (nI_ge (by omega) (by omega)), if_neg (nI_ge (by omega) (by omega)), seekm1]
    obtain ⟨M1, N1, l, a1, a2, a3, a4, a5, a6, a7, a8, _⟩ := seekA (bar := i) hT hm1 hm2 hm6 (v := nI i) (fun e he => by rw [nIeq (by omega) (by omega)]) (kc47 kc) kn (st := Mc 2) (fun j hj => by rw [mcp_in hj, kc 2 (by omega)]) (fun j hj => (ns j hj).trans (hs j hj))
    rw [a1, a2, Option.bind_some, Option.bind_some, (mst_of a8).2.1, a7]
    unfold f_X8_leave_b57 f_X8_leave_b68 f_X9_leave_b50 f_X9_leave_b58
    rw [(mst_of a8).2.1, a7, nIp]
    have ns1 : ∀ j, j < 12 → N1 104 j = Mm 104 j := fun j hj => (a5 j hj).trans (ns j hj)
    by_cases c1 : v2 = -1
    · rw [if_pos c1, if_pos c1]
      exact ih (i + 1) g _ _ M1 N1 (by omega) (by omega) a3 a4 ns1
    · rw [if_neg c1, if_neg c1]
      by_cases c2 : vv 0 l ≤ v3
      · rw [if_pos c2, if_pos c2]
        exact ih (i + 1) g _ _ M1 N1 (by omega) (by omega) a3 a4 ns1
      · rw [if_neg c2, if_neg c2]
        exact ih (i + 1) g _ _ M1 N1 (by omega) (by omega) a3 a4 ns1
theorem leave_op {Mc Mm : Mem} (h : Inv Mc Mm) (v1 : Int32) : OpI (f_X8_leave v1) (f_X9_leave v1) Mc Mm := by
  obtain ⟨many, txt, hN⟩ := id h
  have hN : InvN many txt Mc Mm := hN
  obtain ⟨hs0, hm1, hm2, hm6, _⟩ := id hN.1
  obtain ⟨T, hT⟩ := getT hN
  unfold OpI f_X8_leave f_X9_leave
  rw [inC3 (b := 1) (n := 2) (by decide), show (1 : Int64) = (1 : Int32).toInt64 from rfl, inM (n := 2) (by decide), Option.bind_some]
  dsimp only
  cases g1 : inR v1 2 with
  | false => rw [ft, if_pos (show zI false = 0 from rfl)]; exact ⟨_, _, _, rfl, rfl, h⟩
  | true =>
    rw [tt, if_neg (show ¬ zI true = 0 by decide)]
    obtain ⟨r, M1, N1, a1, a2, a3, a4, a5⟩ := leaveLoop hT hm1 hm2 hm6 (fun j hj => (hs0.1 j hj).1) v1 many 0 FU (-1) 0 Mc Mm (by omega) (by have := FU_ge; omega) (KC.refl Mc) (KM6.refl Mm) (fun _ _ => rfl)
    exact ⟨r, M1, N1, a1, a2, (hN.sc a3 (a4.km a5)).i⟩
theorem bd_min {n : Nat} (h : n ≤ 1000) : bd (nI n) = jmin 99 (nI n) := by
  unfold bd
  by_cases c : n < 99
  · have : jmin 99 (nI n) = nI n := by unfold jmin; rw [if_pos (show nI n < 99 from nI_lt (b := 99) c (by omega))]
    rw [this]
    unfold jmax
    by_cases z : n = 0
    · subst z; rfl
    · rw [if_pos (show (0 : Int32) < nI n from nI_lt (a := 0) (by omega) (by omega))]
  · have : jmin 99 (nI n) = 99 := by unfold jmin; rw [if_neg (show ¬ nI n < 99 from nI_nlt (b := 99) (by omega) (by omega))]
    rw [this]
    decide
theorem buyLoop {many k : Nat} {Mc Mm : Mem} {T : Nat → Tk} (hk : k < 2) (hT : Tgood Mc Mm many T) (hm1 : Mc 1 6 = nI many) (hm2 : Mm 100 12 = nI many) (hm6 : many ≤ 6) (hs : ∀ j, j < 12 → Mm 104 j = Mc 2 j ∧ B99 (Mc 2 j) 99) (v2 : Int32) : ∀ m i fuel (v3 v4 : Int32) (M N : Mem), i + m = 6 → m < fuel → KC Mc M → KM6 Mm N → (∀ j, j < 12 → N 104 j = Mm 104 j) →
    ∃ (r : Int32) (M1 N1 : Mem), f_X8_buy_l27 f_X8_buy_b84 fuel (nI k) v2 v3 v4 (nI i) M = some (r, M1) ∧ f_X9_buy_l29 f_X9_buy_b121 fuel (nI k) v2 v3 v4 (nI i) N = some (r, N1) ∧ KC Mc M1 ∧ KM6 Mm N1 ∧ (∀ j, j < 12 → N1 104 j = Mm 104 j) := by
  intro m
  induction m with
  | zero =>
    intro i fuel v3 v4 M N hi hf kc kn ns
    obtain ⟨g, rfl⟩ : ∃ g, fuel = g + 1 := ⟨fuel - 1, by omega⟩
    rw [f_X8_buy_l27, f_X9_buy_l29, if_pos (show (6 : Int32) ≤ nI i from nI_le (a := 6) (by omega) (by omega)), if_pos (show (6 : Int32) ≤ nI i from nI_le (a := 6) (by omega) (by omega))]
    unfold f_X8_buy_b84 f_X9_buy_b121
    by_cases c : v2 = 0
    · rw [if_pos c, if_pos c]; exact ⟨_, _, _, rfl, rfl, kc, kn, ns⟩
    · rw [if_neg c, if_neg c]; exact ⟨_, _, _, rfl, rfl, kc, kn, ns⟩
  | succ m ih =>
    intro i fuel v3 v4 M N hi hf kc kn ns
    obtain ⟨g, rfl⟩ : ∃ g, fuel = g + 1 := ⟨fuel - 1, by omega⟩
    have hp : 6 * k + i < 12 := by omega
    obtain ⟨s1, x, hx, ex⟩ := hs (6 * k + i) hp
    have nx : N 104 (6 * k + i) = nI x := by rw [ns _ hp, s1, ex]
    rw [f_X8_buy_l27, f_X9_buy_l29, if_neg (show ¬ (6 : Int32) ≤ nI i from nI_ge (b := 6) (by omega) (by omega)), if_neg (show ¬ (6 : Int32) ≤ nI i from nI_ge (b := 6) (by omega) (by omega)), show (6 : Int32) = nI 6 from rfl, pk_mul, pk_mul, Nat.mul_comm k 6, nI_add, inb_nI hp (by omega), nI_clamp (show 6 * k + i < 2 ^ 31 by omega), ck_true, nx, nIp, within_eq, Option.bind_some]
    dsimp only
    unfold f_X3_seek
    rw [if_neg (show ¬ nI (6 * k + i) < 0 from nI_pos (by omega)), if_neg (show ¬ (12 : Int32) ≤ nI (6 * k + i) from nI_ge (b := 12) hp (by omega)), inb_nI hp (by omega), nI_clamp (show 6 * k + i < 2 ^ 31 by omega), ck_true, mcp_in hp, kc 2 (by omega), ex, nIp, ← bd_min (show x + 1 ≤ 1000 by omega)]
    have kc1 : KC Mc (mu (mcp M 2 0 47 0 12) 47 (6 * k + i) (bd (nI (x + 1)))) := fun q hq => (mun (by omega)).trans (kc47 kc q hq)
    have kn1 : KM6 Mm (mu N 104 (6 * k + i) (bd (nI (x + 1)))) := kn.on (Or.inl rfl) (fun q hq => mun hq)
    obtain ⟨M1, N1, l, a1, a2, a3, a4, a5, a6, a7, a8, _⟩ := seekA (bar := 99) hT hm1 hm2 hm6 nobar kc1 kn1 (st := fun j => if j = 6 * k + i then bd (nI (x + 1)) else Mc 2 j) (fun j hj => by
      by_cases e : j = 6 * k + i
      · rw [e, mu_at, if_pos rfl]
      · rw [mu_o e, mcp_in hj, kc 2 (by omega), if_neg e]) (fun j hj => by
      by_cases e : j = 6 * k + i
      · rw [e, mu_at, if_pos rfl]
      · rw [mu_o e, ns j hj, (hs j hj).1, if_neg e])
    rw [a1, a2, Option.bind_some, Option.bind_some, (mst_of a8).2.1, a7]
    unfold f_X8_buy_b66 f_X8_buy_b78 f_X9_buy_b106 f_X9_buy_b115
    rw [mun (show 100 ≠ 104 by omega), (mst_of a8).2.1, a7, nIp]
    have kn2 : KM6 Mm (mu N1 104 (6 * k + i) (nI x)) := a4.on (Or.inl rfl) (fun q hq => mun hq)
    have ns1 : ∀ j, j < 12 → mu N1 104 (6 * k + i) (nI x) 104 j = Mm 104 j := fun j hj => by
      by_cases e : j = 6 * k + i
      · rw [e, mu_at, s1, ex]
      · rw [mu_o e, a5 j hj, mu_o e, ns j hj]
    by_cases c1 : v3 = -1
    · rw [if_pos c1, if_pos c1]
      exact ih (i + 1) g _ _ M1 _ (by omega) (by omega) a3 kn2 ns1
    · rw [if_neg c1, if_neg c1]
      by_cases c2 : vv 0 l ≤ v4
      · rw [if_pos c2, if_pos c2]
        exact ih (i + 1) g _ _ M1 _ (by omega) (by omega) a3 kn2 ns1
      · rw [if_neg c2, if_neg c2]
        exact ih (i + 1) g _ _ M1 _ (by omega) (by omega) a3 kn2 ns1
theorem buy_op {Mc Mm : Mem} (h : Inv Mc Mm) (v1 v2 : Int32) : OpI (f_X8_buy v1 v2) (f_X9_buy v1 v2) Mc Mm := by
  obtain ⟨many, txt, hN⟩ := id h
  have hN : InvN many txt Mc Mm := hN
  obtain ⟨hs0, hm1, hm2, hm6, _⟩ := id hN.1
  obtain ⟨T, hT⟩ := getT hN
  unfold OpI f_X8_buy f_X9_buy
  rw [hasK, isK, Option.bind_some, Option.bind_some]
  dsimp only
  cases g0 : inR v1 2 with
  | false => rw [if_pos (show zI false = 0 from rfl), if_pos (show zI false = 0 from rfl)]; exact ⟨_, _, _, rfl, rfl, h⟩
  | true =>
    rw [if_neg (show ¬ zI true = 0 by decide), if_neg (show ¬ zI true = 0 by decide), inC3 (b := 1) (n := 2) (by decide), show (1 : Int64) = (1 : Int32).toInt64 from rfl, inM (n := 2) (by decide), Option.bind_some]
    dsimp only
    cases g1 : inR v2 2 with
    | false => rw [ft, if_pos (show zI false = 0 from rfl)]; exact ⟨_, _, _, rfl, rfl, h⟩
    | true =>
      rw [tt, if_neg (show ¬ zI true = 0 by decide)]
      obtain ⟨k, hk, rfl⟩ := inR_of g0 (by omega)
      obtain ⟨r, M1, N1, a1, a2, a3, a4, a5⟩ := buyLoop hk hT hm1 hm2 hm6 hs0.1 v2 6 0 FU (-1) 0 Mc Mm (by omega) (by have := FU_ge; omega) (KC.refl Mc) (KM6.refl Mm) (fun _ _ => rfl)
      exact ⟨r, M1, N1, a1, a2, (hN.sc a3 (a4.km a5)).i⟩
theorem share_op {Mc Mm : Mem} (h : Inv Mc Mm) (v1 : Int32) : OpL (f_X8_share v1) (f_X9_share v1) Mc Mm := by
  obtain ⟨many, txt, hN⟩ := id h
  have hN : InvN many txt Mc Mm := hN
  obtain ⟨hs0, hm1, hm2, hm6, _⟩ := id hN.1
  obtain ⟨T, hT⟩ := getT hN
  unfold OpL f_X8_share f_X9_share
  rw [inC3 (b := 1) (n := 2) (by decide), show (1 : Int64) = (1 : Int32).toInt64 from rfl, inM (n := 2) (by decide), Option.bind_some]
  dsimp only
  cases g1 : inR v1 2 with
  | false => rw [ft, if_pos (show zI false = 0 from rfl)]; exact ⟨_, _, _, rfl, rfl, h⟩
  | true =>
    rw [tt, if_neg (show ¬ zI true = 0 by decide), seekm1]
    obtain ⟨y, hy, rfl⟩ := inR_of g1 (by omega)
    obtain ⟨M1, N1, l, a1, a2, a3, a4, a5, a6, a7, a8, gl, pl⟩ := seekA (bar := 99) hT hm1 hm2 hm6 nobar (kc47 (KC.refl Mc)) (KM6.refl Mm) (st := Mc 2) (fun j hj => mcp_in hj) (fun j hj => (hs0.1 j hj).1)
    obtain ⟨m1, m2, m3, m4, m5⟩ := mst_of a8
    rw [a1, a2, Option.bind_some, Option.bind_some, a6, m3, m4]
    unfold f_X4_play
    have eb : f_X4_begin M1 = some (mu (mu (mu (mu (mcp M1 2 0 44 0 12) 43 3 0) 43 4 0) 43 5 0) 43 6 (-1)) := rfl
    rw [eb, Option.bind_some]
    have z3 : mu (mu (mu (mu (mcp M1 2 0 44 0 12) 43 3 0) 43 4 0) 43 5 0) 43 6 (-1) 43 3 = 0 := by rw [mu_o (by omega), mu_o (by omega), mu_o (by omega), mu_at]
    have z4 : mu (mu (mu (mu (mcp M1 2 0 44 0 12) 43 3 0) 43 4 0) 43 5 0) 43 6 (-1) 43 4 = 0 := by rw [mu_o (by omega), mu_o (by omega), mu_at]
    have z6 : mu (mu (mu (mu (mcp M1 2 0 44 0 12) 43 3 0) 43 4 0) 43 5 0) 43 6 (-1) 43 6 = -1 := mu_at
    have z44 : ∀ j, j < 12 → mu (mu (mu (mu (mcp M1 2 0 44 0 12) 43 3 0) 43 4 0) 43 5 0) 43 6 (-1) 44 j = Mc 2 j := fun j hj => by
      rw [mun (by omega), mun (by omega), mun (by omega), mun (by omega), mcp_in hj, a3 2 (by omega)]
    have kb : KC Mc (mu (mu (mu (mu (mcp M1 2 0 44 0 12) 43 3 0) 43 4 0) 43 5 0) 43 6 (-1)) := fun q hq => by rw [mun (by omega), mun (by omega), mun (by omega), mun (by omega), mcp_o (by omega)]; exact a3 q hq
    generalize mu (mu (mu (mu (mcp M1 2 0 44 0 12) 43 3 0) 43 4 0) 43 5 0) 43 6 (-1) = M2 at z3 z4 z6 z44 kb
    obtain ⟨M3, c1, c2, c3, c4⟩ := pth_play (T := T) hm1 hm6 (fun d hd => (hT d hd).2.1) many 0 FU M2 (Mc 2) 0 0 0 0 0 0 l (by omega) (by have := FU_ge; omega) gl.1 pl kb z3 z4 z6 z44
    rw [show f_X4_play_l6 FU (nI l.1) 0 M2 = some M3 from c1, Option.bind_some, c3, c4]
    have fin : Inv M3 N1 := (hN.sc c2 (a4.km a5)).i
    obtain ⟨_, g6, ⟨f, hf, ef⟩, ⟨f0, hf0, ef0⟩, _⟩ := gl
    rw [ef, ef0]
    by_cases c0 : f = 0
    · subst c0
      rw [if_pos (show nI 0 = 0 from rfl)]
      unfold f_X8_lowestTerms
      obtain ⟨g, hg⟩ : ∃ g, FU = g + 1 := ⟨FU - 1, by have := FU_ge; omega⟩
      rw [hg, f_X8_lowestTerms_l8, if_neg (show ¬ (64 : Int32) ≤ 0 by decide), if_pos (show nI 0 = 0 from rfl)]
      unfold f_X8_lowestTerms_b39
      rw [if_pos (show nI 0 = 0 from rfl), Option.bind_some]
      exact ⟨_, _, _, rfl, rfl, fin⟩
    · rw [if_neg (nI_ne0 (by omega) (by omega)), nI_l (show f0 < 2 ^ 31 by omega), nI_l (show f < 2 ^ 31 by omega)]
      obtain ⟨r, e1, e2⟩ := lowBoth (a := f0) (b := f) (by omega) (by omega) hy M3 N1
      rw [e1, e2, Option.bind_some, Option.bind_some]
      exact ⟨_, _, _, rfl, rfl, fin⟩
end
section
/-! TELLS: what both suppose, and the first number that is not as told -/
def foV (t : Tk) (st : Nat → Int32) (a b : Int32) : Int32 := if a = kW t 0 st then (if b = kW t 1 st then -1 else 1) else 0
theorem foC {M : Mem} {t : Tk} {s : Nat} (hs : s < 4) (hT : Took M t) : ∃ M1 : Mem, f_X0_firstOtherwise (55 + 2 * s) 2 M = some (foV t (M 2) (M (56 + 2 * s) 0) (M (56 + 2 * s) 1), M1) ∧ Sm M M1 := by
  obtain ⟨k1, k2, k3⟩ := sh_kd s hs
  have one : ∀ k, k < 2 → ∀ (f : Nat) (P : Mem), Took P t → P 2 = M 2 → Sm M P → ∃ P1 : Mem, f_X0_firstOtherwise_l2 (f + 1) (55 + 2 * s) 2 (nI k) P = (if M (56 + 2 * s) k = kW t k (M 2) then f_X0_firstOtherwise_l2 f (55 + 2 * s) 2 (nI (k + 1)) P1 else some (nI k, P1)) ∧ Took P1 t ∧ P1 2 = M 2 ∧ Sm M P1 := by
    intro k hk f P hP p2 sm
    obtain ⟨M2, y1, y2, y3, y4, y5, y6⟩ := isCooked_eq (t := t) (k := k) (q := 2) hk hP (Or.inl rfl)
    rw [p2] at y1 y5
    have s2 : Sm M M2 := sm.trans y3
    refine ⟨M2, ?_, y2, by rw [y3 2 (by omega), p2], s2⟩
    rw [f_X0_firstOtherwise_l2, if_neg (show ¬ (2 : Int32) ≤ nI k from nI_ge (b := 2) hk (by omega)), y1, Option.bind_some]
    dsimp only
    unfold f_X0_firstOtherwise_b24 kW
    rw [k1, k2, k3, inb_nI (show k < 40 by omega) (by omega), nI_clamp (show k < 2 ^ 31 by omega), nIp, show ((5 : Nat) == 5) = true from rfl, show ((10 : Nat) == 10) = true from rfl]
    repeat rw [ck_true]
    have ei : M2 (55 + 2 * s + 1) k = M (56 + 2 * s) k := by rw [show 55 + 2 * s + 1 = 56 + 2 * s by omega, s2 _ (by omega)]
    cases hc : kCk t k (M 2) with
    | false =>
      rw [if_pos (show zI false = 0 from rfl), ft]
      by_cases c : M (56 + 2 * s) k = -1
      · rw [if_pos c, if_pos (ei.trans c)]
      · rw [if_neg c, if_neg (fun h => c (ei.symm.trans h))]
    | true =>
      obtain ⟨f1, f2⟩ := y5 (kCk_can hc)
      rw [if_neg (show ¬ zI true = 0 by decide), tt, worth_eq, Option.bind_some, f1, f2]
      dsimp only
      repeat rw [ck_true]
      by_cases c : M (56 + 2 * s) k = kFed t k - kToll t k (M 2)
      · rw [if_pos c, if_pos (ei.trans c)]
      · rw [if_neg c, if_neg (fun h => c (ei.symm.trans h))]
  obtain ⟨h, hh⟩ : ∃ h, FU = h + 1 + 1 + 1 := ⟨FU - 3, by have := FU_ge; omega⟩
  unfold f_X0_firstOtherwise foV
  obtain ⟨P1, a1, a2, a3, a4⟩ := one 0 (by omega) (h + 1 + 1) M hT rfl (Sm.refl M)
  rw [hh, show (0 : Int32) = nI 0 from rfl, a1]
  by_cases c0 : M (56 + 2 * s) 0 = kW t 0 (M 2)
  · rw [if_pos c0, if_pos c0]
    obtain ⟨P2, b1, b2, b3, b4⟩ := one 1 (by omega) (h + 1) P1 a2 a3 a4
    rw [b1]
    by_cases c1 : M (56 + 2 * s) 1 = kW t 1 (M 2)
    · rw [if_pos c1, if_pos c1, f_X0_firstOtherwise_l2, if_pos (show (2 : Int32) ≤ nI (1 + 1) by decide)]
      exact ⟨P2, rfl, b4⟩
    · rw [if_neg c1, if_neg c1]
      exact ⟨P2, rfl, b4⟩
  · rw [if_neg c0, if_neg c0]
    exact ⟨P1, rfl, a4⟩
theorem kW_cg {t : Tk} {k : Nat} {s1 s2 : Nat → Int32} (hk : k < 2) (h : ∀ j, j < 12 → s1 j = s2 j) : kW t k s1 = kW t k s2 := by unfold kW; rw [kCk_cg hk h, kToll_cg hk h]
theorem foM {N : Mem} {t : Tk} {s d : Nat} {st : Nat → Int32} (hs : s < 4) (hd : d < 6) (hT : TkM N d t) (hst : ∀ j, j < 12 → N 104 j = st j) : ∃ N1 : Mem, f_X9_firstOther (nI s) (nI d) N = some (foV t st (N 117 (40 * s)) (N 117 (40 * s + 1)), N1) ∧ SmM N N1 := by
  have one : ∀ k, k < 2 → ∀ (f : Nat) (P : Mem), TkM P d t → SmM N P → ∃ P1 : Mem, f_X9_firstOther_l2 (f + 1) (nI s) (nI d) (nI k) P = (if N 117 (40 * s + k) = kW t k st then f_X9_firstOther_l2 f (nI s) (nI d) (nI (k + 1)) P1 else some (nI k, P1)) ∧ TkM P1 d t ∧ SmM N P1 := by
    intro k hk f P hP sm
    obtain ⟨N1, w1, w2⟩ := worthIn_eq hd hk hP
    have s2 : SmM N N1 := sm.trans w2
    rw [show kW t k (P 104) = kW t k st from kW_cg hk (fun j hj => by rw [sm.1 104 (by omega)]; exact hst j hj)] at w1
    refine ⟨N1, ?_, hP.sm w2, s2⟩
    rw [f_X9_firstOther_l2, if_neg (show ¬ (2 : Int32) ≤ nI k from nI_ge (b := 2) hk (by omega)), w1, Option.bind_some, show (40 : Int32) = nI 40 from rfl, pk_mul, nI_add, inb_nI (show 40 * s + k < 160 by omega) (by omega), nI_clamp (show 40 * s + k < 2 ^ 31 by omega), ck_true, nIp]
    dsimp only
    have e7 : N1 117 = N 117 := s2.1 117 (by omega)
    by_cases c : N 117 (40 * s + k) = kW t k st
    · rw [if_pos c, if_pos (by rw [e7]; exact c.symm)]
    · rw [if_neg c, if_neg (fun h => c (by rw [← e7]; exact h.symm))]
  obtain ⟨h, hh⟩ : ∃ h, FU = h + 1 + 1 + 1 := ⟨FU - 3, by have := FU_ge; omega⟩
  unfold f_X9_firstOther foV
  obtain ⟨P1, a1, a2, a3⟩ := one 0 (by omega) (h + 1 + 1) N hT (SmM.refl N)
  rw [hh, show (0 : Int32) = nI 0 from rfl, a1, Nat.add_zero]
  by_cases c0 : N 117 (40 * s) = kW t 0 st
  · rw [if_pos c0, if_pos c0]
    obtain ⟨P2, b1, b2, b3⟩ := one 1 (by omega) (h + 1) P1 a2 a3
    rw [b1]
    by_cases c1 : N 117 (40 * s + 1) = kW t 1 st
    · rw [if_pos c1, if_pos c1, f_X9_firstOther_l2, if_pos (show (2 : Int32) ≤ nI (1 + 1) by decide)]
      exact ⟨P2, rfl, b3⟩
    · rw [if_neg c1, if_neg c1]
      exact ⟨P2, rfl, b3⟩
  · rw [if_neg c0, if_neg c0]
    exact ⟨P1, rfl, a3⟩
/-! one thing of what was taken up is another -/
def tk1 (t : Tk) (v : Nat) : Tk := (nI v, t.2)
def tk2 (t : Tk) (v : Nat) : Tk := (t.1, nI v, t.2.2)
def tk3 (t : Tk) (v : Nat) : Tk := (t.1, t.2.1, nI v, t.2.2.2)
def tk4 (t : Tk) (v : Nat) : Tk := (t.1, t.2.1, t.2.2.1, (fun i => if i = 0 then nI v else tP t i), t.2.2.2.2)
def tk5 (t : Tk) (ev : Nat → (Nat → Int32) → Int32) : Tk := (t.1, t.2.1, t.2.2.1, t.2.2.2.1, t.2.2.2.2.1, t.2.2.2.2.2.1, ev)
theorem sup1 {M : Mem} {t : Tk} (h : Took M t) (v : Nat) : Took (mu M 36 2 (nI v)) (tk1 t v) := by
  obtain ⟨a, b, c, d, e, f, q, q1, q2, q3, q4⟩ := h
  obtain ⟨x, hx, rfl⟩ := q1
  exact ⟨mu_at, (mu_o (by omega)).trans b, (mu_o (by omega)).trans c, fun i hi => by rw [mun (by omega)]; exact d i hi, fun i hi => by rw [mun (by omega)]; exact e i hi, (mu_o (by omega)).trans f, _, ⟨x, hx, rfl⟩, (mu_o (by omega)).trans q2, by rw [mun (by omega)]; exact q3, by rw [mun (show 16 + 3 * x + 1 ≠ 36 by omega), mun (show 16 + 3 * x + 2 ≠ 36 by omega)]; exact q4⟩
theorem sup2 {M : Mem} {t : Tk} (h : Took M t) (v : Nat) : Took (mu M 36 3 (nI v)) (tk2 t v) := by
  obtain ⟨a, b, c, d, e, f, q, q1, q2, q3, q4⟩ := h
  obtain ⟨x, hx, rfl⟩ := q1
  exact ⟨(mu_o (by omega)).trans a, mu_at, (mu_o (by omega)).trans c, fun i hi => by rw [mun (by omega)]; exact d i hi, fun i hi => by rw [mun (by omega)]; exact e i hi, (mu_o (by omega)).trans f, _, ⟨x, hx, rfl⟩, (mu_o (by omega)).trans q2, by rw [mun (by omega)]; exact q3, by rw [mun (show 16 + 3 * x + 1 ≠ 36 by omega), mun (show 16 + 3 * x + 2 ≠ 36 by omega)]; exact q4⟩
theorem sup3 {M : Mem} {t : Tk} (h : Took M t) (v : Nat) : Took (mu M 36 4 (nI v)) (tk3 t v) := by
  obtain ⟨a, b, c, d, e, f, q, q1, q2, q3, q4⟩ := h
  obtain ⟨x, hx, rfl⟩ := q1
  exact ⟨(mu_o (by omega)).trans a, (mu_o (by omega)).trans b, mu_at, fun i hi => by rw [mun (by omega)]; exact d i hi, fun i hi => by rw [mun (by omega)]; exact e i hi, (mu_o (by omega)).trans f, _, ⟨x, hx, rfl⟩, (mu_o (by omega)).trans q2, by rw [mun (by omega)]; exact q3, by rw [mun (show 16 + 3 * x + 1 ≠ 36 by omega), mun (show 16 + 3 * x + 2 ≠ 36 by omega)]; exact q4⟩
theorem sup4 {M : Mem} {t : Tk} (h : Took M t) (v : Nat) : Took (mu M 37 0 (nI v)) (tk4 t v) := by
  obtain ⟨a, b, c, d, e, f, q, q1, q2, q3, q4⟩ := h
  obtain ⟨x, hx, rfl⟩ := q1
  refine ⟨by rw [mun (by omega)]; exact a, by rw [mun (by omega)]; exact b, by rw [mun (by omega)]; exact c, fun i hi => ?_, fun i hi => by rw [mun (by omega)]; exact e i hi, by rw [mun (by omega)]; exact f, _, ⟨x, hx, rfl⟩, by rw [mun (by omega)]; exact q2, by rw [mun (by omega)]; exact q3, by rw [mun (show 16 + 3 * x + 1 ≠ 37 by omega), mun (show 16 + 3 * x + 2 ≠ 37 by omega)]; exact q4⟩
  show _ = if i = 0 then nI v else tP t i
  by_cases i0 : i = 0
  · rw [i0, mu_at, if_pos rfl]
  · rw [mu_o i0, if_neg i0]; exact d i hi
theorem sup5 {M : Mem} {t : Tk} (h : Took M t) {v : Nat} (hv : v < 6) (hw : WfT (M (16 + 3 * v + 2))) : Took (mu M 36 1 (nI (16 + 3 * v))) (tk5 t (evC M v)) := by
  obtain ⟨a, b, c, d, e, f, q, q1, q2, q3, q4⟩ := h
  refine ⟨(mu_o (by omega)).trans a, (mu_o (by omega)).trans b, (mu_o (by omega)).trans c, fun i hi => by rw [mun (by omega)]; exact d i hi, fun i hi => by rw [mun (by omega)]; exact e i hi, (mu_o (by omega)).trans f, _, ⟨v, hv, rfl⟩, mu_at, by rw [mun (by omega)]; exact hw, ?_⟩
  rw [mun (show 16 + 3 * v + 1 ≠ 36 by omega), mun (show 16 + 3 * v + 2 ≠ 36 by omega)]
  rfl
/-- the reference has changed nothing but its reader's cells and the number at (p, k) -/
def KQ (p k : Nat) (M N : Mem) : Prop := ∀ q j, (q ≠ p ∨ j ≠ k) → (q ≠ 100 ∨ j < 13 ∨ 27 < j) → N q j = M q j
theorem KQ.sm {p k : Nat} {M N N1 : Mem} (h : KQ p k M N) (s : SmM N N1) : KQ p k M N1 := fun q j a b => by
  by_cases c : q = 100
  · rw [c, s.2 j (by omega)]; exact h 100 j (by omega) (by omega)
  · rw [s.1 q c]; exact h q j a b
theorem KQ.lay {p k : Nat} {M N : Mem} (h : KQ p k M N) (x : Int32) : KQ p k M (mu N p k x) := fun q j a b => by
  by_cases c : q = p
  · rw [c, mu_o (by omega)]
    have := h q j a b
    rwa [c] at this
  · rw [mun c]; exact h q j a b
theorem KQ.back {p k : Nat} {M N : Mem} (h : KQ p k M N) (hp : p ≠ 100 ∨ k < 13) : KM M (mu N p k (M p k)) := by
  have e : ∀ q j, (q ≠ 100 ∨ j < 13 ∨ 27 < j) → mu N p k (M p k) q j = M q j := fun q j b => by
    by_cases c : q = p ∧ j = k
    · rw [c.1, c.2, mu_at]
    · exact (h.lay (M p k)) q j (by omega) b
  exact ⟨fun q a _ _ _ _ => funext (fun j => e q j (Or.inl a)), fun j _ => e 104 j (by omega), fun j hj => e 100 j (by omega)⟩
end
section
/-! TELLS: value by value, one up, the other down -/
section
variable {Mm N : Mem} {d : Nat} {t : Tk}
theorem layK1 (tm : TkM Mm d t) (e : KQ 106 d Mm N) {v : Nat} (hv : v < 6) (e0 : N 106 d = nI v) : TkM N d (tk1 t v) := by
  obtain ⟨a, b, c, e1, ⟨n, n1, n2, n3⟩, g, g2, i, r, r1, r2, r3⟩ := tm
  exact ⟨e0, (e 107 (3 * d) (by omega) (by omega)).trans b, (e 100 7 (by omega) (by omega)).trans c, fun i hi => (e 105 i (by omega) (by omega)).trans (e1 i hi), ⟨n, n1, (e 107 (3 * d + 1) (by omega) (by omega)).trans n2, n3⟩, ⟨v, hv, rfl⟩, g2, i, r, r1, (e 100 4 (by omega) (by omega)).trans r2, r3.keep (fun j _ => e 101 _ (by omega) (by omega)) (e 102 r (by omega) (by omega))⟩
theorem layK2 (tm : TkM Mm d t) (e : KQ 107 (3 * d) Mm N) {v : Nat} (hv : v ≤ 9) (e0 : N 107 (3 * d) = nI v) : TkM N d (tk2 t v) := by
  obtain ⟨a, b, c, e1, ⟨n, n1, n2, n3⟩, g, g2, i, r, r1, r2, r3⟩ := tm
  exact ⟨(e 106 d (by omega) (by omega)).trans a, e0, (e 100 7 (by omega) (by omega)).trans c, fun i hi => (e 105 i (by omega) (by omega)).trans (e1 i hi), ⟨n, n1, (e 107 (3 * d + 1) (by omega) (by omega)).trans n2, n3⟩, g, ⟨v, hv, rfl⟩, i, r, r1, (e 100 4 (by omega) (by omega)).trans r2, r3.keep (fun j _ => e 101 _ (by omega) (by omega)) (e 102 r (by omega) (by omega))⟩
theorem layK3 (tm : TkM Mm d t) (e : KQ 100 7 Mm N) {v : Nat} (e0 : N 100 7 = nI v) : TkM N d (tk3 t v) := by
  obtain ⟨a, b, c, e1, ⟨n, n1, n2, n3⟩, g, g2, i, r, r1, r2, r3⟩ := tm
  exact ⟨(e 106 d (by omega) (by omega)).trans a, (e 107 (3 * d) (by omega) (by omega)).trans b, e0, fun i hi => (e 105 i (by omega) (by omega)).trans (e1 i hi), ⟨n, n1, (e 107 (3 * d + 1) (by omega) (by omega)).trans n2, n3⟩, g, g2, i, r, r1, (e 100 4 (by omega) (by omega)).trans r2, r3.keep (fun j _ => e 101 _ (by omega) (by omega)) (e 102 r (by omega) (by omega))⟩
theorem layK4 (tm : TkM Mm d t) (e : KQ 105 0 Mm N) {v : Nat} (e0 : N 105 0 = nI v) : TkM N d (tk4 t v) := by
  obtain ⟨a, b, c, e1, ⟨n, n1, n2, n3⟩, g, g2, i, r, r1, r2, r3⟩ := tm
  refine ⟨(e 106 d (by omega) (by omega)).trans a, (e 107 (3 * d) (by omega) (by omega)).trans b, (e 100 7 (by omega) (by omega)).trans c, fun i hi => ?_, ⟨n, n1, (e 107 (3 * d + 1) (by omega) (by omega)).trans n2, n3⟩, g, g2, i, r, r1, (e 100 4 (by omega) (by omega)).trans r2, r3.keep (fun j _ => e 101 _ (by omega) (by omega)) (e 102 r (by omega) (by omega))⟩
  show _ = if i = 0 then nI v else tP t i
  by_cases i0 : i = 0
  · rw [i0, e0, if_pos rfl]
  · rw [if_neg i0]; exact (e 105 i (by omega) (by omega)).trans (e1 i hi)
theorem layK5 (tm : TkM Mm d t) (e : KQ 100 4 Mm N) {v : Nat} (hv : v < 6) (e0 : N 100 4 = nI v) {ev : Nat → (Nat → Int32) → Int32} (hE : EvC ev) (hx : TxM Mm v ev) : TkM N d (tk5 t ev) := by
  obtain ⟨a, b, c, e1, ⟨n, n1, n2, n3⟩, g, g2, i, r, r1, r2, r3⟩ := tm
  exact ⟨(e 106 d (by omega) (by omega)).trans a, (e 107 (3 * d) (by omega) (by omega)).trans b, (e 100 7 (by omega) (by omega)).trans c, fun i hi => (e 105 i (by omega) (by omega)).trans (e1 i hi), ⟨n, n1, (e 107 (3 * d + 1) (by omega) (by omega)).trans n2, n3⟩, g, g2, hE, v, hv, e0, hx.keep (fun j _ => e 101 _ (by omega) (by omega)) (e 102 v (by omega) (by omega))⟩
end
abbrev Gs : Type := Int32 × Int32 × Int32
def gst (h : Nat → Bool) (v : Nat) (c : Gs) : Gs := if h v = true then (c.1 ||| jshl 1 (nI v), c.2.1 + 1, if c.2.2 = -1 then nI v else c.2.2) else c
def rst (h : Nat → Bool) (v : Nat) (c : Gs) : Gs := if h v = true then (c.1 ||| (if 10 ≤ v then 0 else jshl 1 (nI v)), c.2.1 + 1, nI v) else c
def gup (h : Nat → Bool) : Nat → Gs
  | 0 => (0, 0, -1)
  | v + 1 => gst h v (gup h v)
def gdn (h : Nat → Bool) (n : Nat) : Nat → Gs
  | 0 => (0, 0, -1)
  | m + 1 => rst h (n - 1 - m) (gdn h n m)
theorem updn (h : Nat → Bool) (n : Nat) (hn : n < 2 ^ 31) : ∀ m i, i + m = n → (n ≤ 10 → (gup h i).1 ||| (gdn h n m).1 = (gup h n).1) ∧ (gup h i).2.1 + (gdn h n m).2.1 = (gup h n).2.1 ∧ (if (gup h i).2.2 = -1 then (gdn h n m).2.2 else (gup h i).2.2) = (gup h n).2.2 := by
  intro m
  induction m with
  | zero =>
    intro i hi
    rw [show i = n by omega]
    refine ⟨fun _ => Int32.or_zero, Int32.add_zero _, ?_⟩
    show (if (gup h n).2.2 = -1 then (-1 : Int32) else (gup h n).2.2) = _
    by_cases c : (gup h n).2.2 = -1
    · rw [if_pos c, c]
    · rw [if_neg c]
  | succ m ih =>
    intro i hi
    obtain ⟨a, b, c⟩ := ih (i + 1) (by omega)
    rw [show gup h (i + 1) = gst h i (gup h i) from rfl] at a b c
    rw [show gdn h n (m + 1) = rst h (n - 1 - m) (gdn h n m) from rfl, show n - 1 - m = i by omega]
    unfold gst at a b c
    unfold rst
    cases hh : h i with
    | false =>
      rw [hh, ft] at a b c
      rw [ft]
      exact ⟨a, b, c⟩
    | true =>
      rw [hh, tt] at a b c
      rw [tt]
      refine ⟨fun h10 => ?_, ?_, ?_⟩
      · rw [← a h10, if_neg (by omega)]
        show _ ||| (_ ||| _) = (_ ||| _) ||| _
        rw [Int32.or_assoc, Int32.or_comm (gdn h n m).1]
      · rw [← b]
        show _ + (_ + 1) = (_ + 1) + _
        rw [Int32.add_assoc, Int32.add_comm 1]
      · rw [← c]
        show (if (gup h i).2.2 = -1 then nI i else (gup h i).2.2) = if (if (gup h i).2.2 = -1 then nI i else (gup h i).2.2) = -1 then (gdn h n m).2.2 else (if (gup h i).2.2 = -1 then nI i else (gup h i).2.2)
        by_cases cc : (gup h i).2.2 = -1
        · simp only [if_pos cc]
          rw [if_neg (nI_n1 (by omega))]
        · simp only [if_neg cc]
def hitV (Tv : Nat → Tk) (st : Nat → Int32) (a b : Int32) (v : Nat) : Bool := decide (foV (Tv v) st a b = -1)
theorem guessC {Mc : Mem} {as n d s w : Nat} {Tv : Nat → Tk} (hs : s < 4) (has : as < 7) (hn : n ≤ 100) (hC : ∀ v, v < n → ∀ M : Mem, KC Mc M → ∃ M1 M2 : Mem, f_X0_takeUp (if as = 6 then nI v else nI d) M = some M1 ∧ f_X0_suppose (nI as) (nI v) M1 = some M2 ∧ Took M2 (Tv v) ∧ Sm M M2) :
    ∀ m i fuel (M : Mem), i + m = n → m < fuel → KC Mc M → ∃ M1 : Mem, f_X8_guess_l12 f_X8_guess_b105 fuel (nI as) (nI n) (nI w) (55 + 2 * s) (nI d) (gup (hitV Tv (Mc 2) (Mc (56 + 2 * s) 0) (Mc (56 + 2 * s) 1)) i).1 (gup (hitV Tv (Mc 2) (Mc (56 + 2 * s) 0) (Mc (56 + 2 * s) 1)) i).2.1 (gup (hitV Tv (Mc 2) (Mc (56 + 2 * s) 0) (Mc (56 + 2 * s) 1)) i).2.2 (nI i) M = f_X8_guess_b105 (nI w) (gup (hitV Tv (Mc 2) (Mc (56 + 2 * s) 0) (Mc (56 + 2 * s) 1)) n).1 (gup (hitV Tv (Mc 2) (Mc (56 + 2 * s) 0) (Mc (56 + 2 * s) 1)) n).2.1 (gup (hitV Tv (Mc 2) (Mc (56 + 2 * s) 0) (Mc (56 + 2 * s) 1)) n).2.2 M1 ∧ KC Mc M1 := by
  generalize hH : hitV Tv (Mc 2) (Mc (56 + 2 * s) 0) (Mc (56 + 2 * s) 1) = H
  intro m
  induction m with
  | zero =>
    intro i fuel M hi hf kc
    obtain ⟨g, rfl⟩ : ∃ g, fuel = g + 1 := ⟨fuel - 1, by omega⟩
    rw [f_X8_guess_l12, if_pos (nI_le (by omega) (by omega)), show i = n by omega]
    exact ⟨M, rfl, kc⟩
  | succ m ih =>
    intro i fuel M hi hf kc
    obtain ⟨g, rfl⟩ : ∃ g, fuel = g + 1 := ⟨fuel - 1, by omega⟩
    rw [f_X8_guess_l12, if_neg (nI_ge (by omega) (by omega))]
    obtain ⟨M1, M2, a1, a2, a3, a4⟩ := hC i (by omega) M kc
    have kc2 : KC Mc M2 := kc.tr a4.kc
    obtain ⟨M3, b1, b2⟩ := foC hs a3
    rw [kc2 2 (by omega), kc2 (56 + 2 * s) (by omega)] at b1
    have kc3 : KC Mc M3 := kc2.tr b2.kc
    have key : ∀ x : Int32, f_X0_takeUp x M = some M1 → ∃ M1' : Mem, f_X8_guess_b39 (f_X8_guess_l12 f_X8_guess_b105 g) f_X8_guess_b105 (nI as) (nI n) (nI w) (55 + 2 * s) (nI d) (gup H i).1 (gup H i).2.1 (gup H i).2.2 (nI i) x M = f_X8_guess_b105 (nI w) (gup H n).1 (gup H n).2.1 (gup H n).2.2 M1' ∧ KC Mc M1' := by
      intro x hx
      unfold f_X8_guess_b39 f_X8_guess_b97 f_X8_guess_b99
      rw [hx, Option.bind_some, a2, Option.bind_some, b1, Option.bind_some, nIp]
      dsimp only
      have nx := ih (i + 1) g M3 (by omega) (by omega) kc3
      rw [show gup H (i + 1) = gst H i (gup H i) from rfl] at nx
      have hi1 : H i = decide (foV (Tv i) (Mc 2) (Mc (56 + 2 * s) 0) (Mc (56 + 2 * s) 1) = -1) := by rw [← hH]; rfl
      unfold gst at nx
      by_cases c : foV (Tv i) (Mc 2) (Mc (56 + 2 * s) 0) (Mc (56 + 2 * s) 1) = -1
      · rw [hi1, decide_eq_true c, if_pos rfl] at nx
        rw [if_pos c]
        by_cases c2 : (gup H i).2.2 = -1
        · rw [if_pos c2]
          simp only [if_pos c2] at nx
          exact nx
        · rw [if_neg c2]
          simp only [if_neg c2] at nx
          exact nx
      · rw [hi1, decide_eq_false c, if_neg (by decide)] at nx
        rw [if_neg c]
        exact nx
    by_cases a6 : as = 6
    · rw [if_pos (show nI as = 6 by rw [a6]; rfl)]
      rw [if_pos a6] at a1
      exact key _ a1
    · rw [if_neg (show ¬ nI as = 6 by rw [show (6 : Int32) = nI 6 from rfl, nIeq (by omega) (by omega)]; exact a6)]
      rw [if_neg a6] at a1
      exact key _ a1
theorem guessM {n d s : Nat} {Tv : Nat → Tk} {so ofv was v3 : Int32} {st : Nat → Int32} {a b : Int32} (K : Mem → Prop) (hs : s < 4) (hd : d < 6) (hn : n ≤ 100) (hsm : ∀ N N1, K N → SmM N N1 → K N1) (h104 : ∀ N, K N → ∀ j, j < 12 → N 104 j = st j) (h117 : ∀ N, K N → N 117 (40 * s) = a ∧ N 117 (40 * s + 1) = b) (hL : ∀ v, v < n → ∀ N : Mem, K N → ∃ N1 : Mem, f_X9_lays so ofv (nI v) N = some N1 ∧ TkM N1 d (Tv v) ∧ K N1) :
    ∀ i m fuel (N : Mem), i + m = n → i < fuel → K N → ∃ N1 : Mem, f_X9_tells_l216 f_X9_tells_b274 fuel (nI s) (nI d) v3 so ofv was (gdn (hitV Tv st a b) n m).1 (gdn (hitV Tv st a b) n m).2.1 (gdn (hitV Tv st a b) n m).2.2 (nI i - 1) N = f_X9_tells_b274 v3 so ofv was (gdn (hitV Tv st a b) n n).1 (gdn (hitV Tv st a b) n n).2.1 (gdn (hitV Tv st a b) n n).2.2 N1 ∧ K N1 := by
  generalize hH : hitV Tv st a b = H
  intro i
  induction i with
  | zero =>
    intro m fuel N hi hf kn
    obtain ⟨g, rfl⟩ : ∃ g, fuel = g + 1 := ⟨fuel - 1, by omega⟩
    rw [f_X9_tells_l216, if_pos (show nI 0 - 1 < 0 by decide), show m = n by omega]
    exact ⟨N, rfl, kn⟩
  | succ i ih =>
    intro m fuel N hi hf kn
    obtain ⟨g, rfl⟩ : ∃ g, fuel = g + 1 := ⟨fuel - 1, by omega⟩
    rw [f_X9_tells_l216, nIm (by omega), Nat.add_sub_cancel, if_neg (show ¬ nI i < 0 from nI_pos (by omega))]
    obtain ⟨N1, a1, a2, a3⟩ := hL i (by omega) N kn
    obtain ⟨N2, b1, b2⟩ := foM hs hd a2 (h104 N1 a3)
    rw [(h117 N1 a3).1, (h117 N1 a3).2] at b1
    have k2 : K N2 := hsm _ _ a3 b2
    rw [a1, Option.bind_some, b1, Option.bind_some]
    dsimp only
    unfold f_X9_tells_b258 f_X9_tells_b268
    rw [show nI i + (-1) = nI i - 1 by rw [Int32.sub_eq_add_neg]]
    have nx := ih (m + 1) g N2 (by omega) (by omega) k2
    rw [show gdn H n (m + 1) = rst H (n - 1 - m) (gdn H n m) from rfl, show n - 1 - m = i by omega] at nx
    have hi1 : H i = decide (foV (Tv i) st a b = -1) := by rw [← hH]; rfl
    unfold rst at nx
    by_cases c : foV (Tv i) st a b = -1
    · rw [hi1, decide_eq_true c, if_pos rfl] at nx
      rw [if_pos c]
      by_cases c2 : 10 ≤ i
      · rw [if_pos (show (10 : Int32) ≤ nI i from nI_le (a := 10) c2 (by omega))]
        simp only [if_pos c2] at nx
        exact nx
      · rw [if_neg (show ¬ (10 : Int32) ≤ nI i from nI_ge (b := 10) (by omega) (by omega))]
        simp only [if_neg c2] at nx
        exact nx
    · rw [hi1, decide_eq_false c, if_neg (by decide)] at nx
      rw [if_neg c]
      exact nx
theorem likeM {Mm : Mem} {many s : Nat} {T : Nat → Tk} {st : Nat → Int32} {a b : Int32} (hs : s < 4) (hm2 : Mm 100 12 = nI many) (hm6 : many ≤ 6) (hst : ∀ j, j < 12 → Mm 104 j = st j) (ha : Mm 117 (40 * s) = a ∧ Mm 117 (40 * s + 1) = b) (hT : ∀ d, d < many → ∀ N : Mem, KM6 Mm N → TkM N d (T d)) :
    ∀ m i fuel (N : Mem), i + m = many → m < fuel → SmM Mm N → ∃ N1 : Mem, f_X9_likeSet_l4 fuel (nI s) (gup (hitV T st a b) i).1 (nI i) N = some ((gup (hitV T st a b) many).1, N1) ∧ SmM Mm N1 := by
  generalize hH : hitV T st a b = H
  intro m
  induction m with
  | zero =>
    intro i fuel N hi hf sm
    obtain ⟨g, rfl⟩ : ∃ g, fuel = g + 1 := ⟨fuel - 1, by omega⟩
    rw [f_X9_likeSet_l4, sm.2 12 (by omega), hm2, if_pos (nI_le (by omega) (by omega)), show i = many by omega]
    exact ⟨N, rfl, sm⟩
  | succ m ih =>
    intro i fuel N hi hf sm
    obtain ⟨g, rfl⟩ : ∃ g, fuel = g + 1 := ⟨fuel - 1, by omega⟩
    rw [f_X9_likeSet_l4, sm.2 12 (by omega), hm2, if_neg (nI_ge (by omega) (by omega))]
    have k6 : KM6 Mm N := (KM6.refl Mm).sm sm
    obtain ⟨N2, b1, b2⟩ := foM (st := st) hs (show i < 6 by omega) (hT i (by omega) N k6) (fun j hj => by rw [sm.1 104 (by omega)]; exact hst j hj)
    rw [sm.1 117 (by omega), ha.1, ha.2] at b1
    rw [b1, Option.bind_some]
    dsimp only
    unfold f_X9_likeSet_b28
    rw [nIp]
    have nx := ih (i + 1) g N2 (by omega) (by omega) (sm.trans b2)
    rw [show gup H (i + 1) = gst H i (gup H i) from rfl] at nx
    have hi1 : H i = decide (foV (T i) st a b = -1) := by rw [← hH]; rfl
    unfold gst at nx
    by_cases c : foV (T i) st a b = -1
    · rw [hi1, decide_eq_true c, if_pos rfl] at nx
      rw [if_pos c]
      exact nx
    · rw [hi1, decide_eq_false c, if_neg (by decide)] at nx
      rw [if_neg c, show (gup H i).1 ||| jshl 0 (nI i) = (gup H i).1 by
        unfold jshl
        rw [Int32.zero_shiftLeft, Int32.or_zero]]
      exact nx
end
section
/-! TELLS, the call -/
theorem gB {Mc Mm : Mem} {many txt d s n as w p k : Nat} {Tv : Nat → Tk} {so ofv : Int32} (hN : InvN many txt Mc Mm) (hs : s < 4) (hd : d < many) (has : as < 7) (hn : n ≤ 100) (hi : Mm 117 (40 * s) = Mc (56 + 2 * s) 0 ∧ Mm 117 (40 * s + 1) = Mc (56 + 2 * s) 1) (hp : p ≠ 100 ∨ k < 13) (hp1 : p ≠ 104) (hp2 : p ≠ 117)
    (hC : ∀ v, v < n → ∀ M : Mem, KC Mc M → ∃ M1 M2 : Mem, f_X0_takeUp (if as = 6 then nI v else nI d) M = some M1 ∧ f_X0_suppose (nI as) (nI v) M1 = some M2 ∧ Took M2 (Tv v) ∧ Sm M M2)
    (hL : ∀ v, v < n → ∀ N : Mem, KQ p k Mm N → ∃ N1 : Mem, f_X9_lays so ofv (nI v) N = some N1 ∧ TkM N1 d (Tv v) ∧ KQ p k Mm N1) (hB : ∀ N : Mem, f_X9_lays so ofv (Mm p k) N = some (mu N p k (Mm p k))) (v3 : Int32) :
    ∃ (U R : Gs) (M1 N1 : Mem), f_X8_guess (nI as) (nI n) (nI w) (55 + 2 * s) (nI d) Mc = f_X8_guess_b105 (nI w) U.1 U.2.1 U.2.2 M1 ∧ (n ≤ 10 → R.1 = U.1) ∧ R.2.1 = U.2.1 ∧ R.2.2 = U.2.2 ∧
      f_X9_tells_b201 (nI s) (nI d) v3 so ofv (Mm p k) (nI n - 1) Mm = (if v3 = 3 then some (R.2.1, N1) else (if v3 = 5 then some (R.2.1, N1) else (if v3 = 4 then some (R.2.2, N1) else (if v3 = 6 then some (R.2.2, N1) else some (R.1, N1))))) ∧ Inv M1 N1 := by
  obtain ⟨hs0, hm1, hm2, hm6, _⟩ := id hN.1
  obtain ⟨M1, a1, a2⟩ := guessC (w := w) hs has hn hC n 0 FU Mc (by omega) (by unfold FU; omega) (KC.refl Mc)
  have k0 : KQ p k Mm Mm := fun _ _ _ _ => rfl
  obtain ⟨N1, b1, b2⟩ := guessM (was := Mm p k) (v3 := v3) (st := Mc 2) (a := Mc (56 + 2 * s) 0) (b := Mc (56 + 2 * s) 1) (KQ p k Mm) hs (show d < 6 by omega) hn (fun N N1 h1 h2 => h1.sm h2) (fun N h1 j hj => by rw [h1 104 j (by omega) (by omega)]; exact (hs0.1 j hj).1) (fun N h1 => ⟨(h1 117 _ (by omega) (by omega)).trans hi.1, (h1 117 _ (by omega) (by omega)).trans hi.2⟩) hL n 0 FU Mm (by omega) (by unfold FU; omega) k0
  obtain ⟨e1, e2, e3⟩ := updn (hitV Tv (Mc 2) (Mc (56 + 2 * s) 0) (Mc (56 + 2 * s) 1)) n (by omega) n 0 (by omega)
  refine ⟨_, gdn (hitV Tv (Mc 2) (Mc (56 + 2 * s) 0) (Mc (56 + 2 * s) 1)) n n, M1, mu N1 p k (Mm p k), a1, fun h10 => ?_, ?_, ?_, ?_, (hN.sc a2 (b2.back hp)).i⟩
  · rw [← e1 h10]
    exact (Int32.zero_or).symm
  · rw [← e2]
    exact (Int32.zero_add _).symm
  · rw [← e3]
    exact (if_pos rfl).symm
  · unfold f_X9_tells_b201
    rw [show f_X9_tells_l216 f_X9_tells_b274 FU (nI s) (nI d) v3 so ofv (Mm p k) 0 0 (-1) (nI n - 1) Mm = _ from b1]
    unfold f_X9_tells_b274
    rw [hB N1, Option.bind_some]
theorem isDn {Mm : Mem} {many d : Nat} (hm2 : Mm 100 12 = nI many) (hm6 : many ≤ 6) (hd : d < many) : f_X9_isDish (nI d) Mm = some (1, Mm) := by
  rw [isD hm2 hm6, inR_nI hd (by omega)]
  rfl
theorem told_in {Mm : Mem} {k : Nat} (hk : k < 9) : f_X9_in (nI k).toInt64 0 8 Mm = some (1, Mm) := by
  rw [show (8 : Int64) = (8 : Int32).toInt64 from rfl, inM (n := 9) (by decide), inR_nI hk (by omega)]
  rfl
theorem toldM5 {Mm : Mem} {many d : Nat} (hm2 : Mm 100 12 = nI many) (hm6 : many ≤ 6) (hd : d < many) : f_X9_told (nI d) 5 Mm = some (Mm 106 d, Mm) := by
  unfold f_X9_told f_X9_isOf
  rw [show f_X9_in (5 : Int32).toInt64 0 8 Mm = some (1, Mm) from told_in (k := 5) (by omega), Option.bind_some, if_neg (show ¬ (1 : Int32) = 0 by decide), if_neg (show ¬ (5 : Int32) = 0 by decide), if_neg (show ¬ (5 : Int32) = 1 by decide), if_neg (show ¬ (5 : Int32) = 2 by decide), if_neg (show ¬ (5 : Int32) = 8 by decide), isDn hm2 hm6 hd, Option.bind_some]
  dsimp only
  rw [show zb 1 = true from rfl, ck_true, Option.bind_some]
  dsimp only
  rw [if_neg (show ¬ (1 : Int32) = 0 by decide), if_pos (show (3 : Int32) ≤ 5 by decide), if_neg (show ¬ (6 : Int32) ≤ 5 by decide), if_pos (show (5 : Int32) ≤ 5 by decide), inb_nI (show d < 6 by omega) (by omega), nI_clamp (show d < 2 ^ 31 by omega), ck_true]
theorem ix3 {d : Nat} (hd : d < 6) : ((3 : Int32) * nI d) + 3 - 3 = nI (3 * d) := by
  rw [show (3 : Int32) = nI 3 from rfl, pk_mul, nI_add, pk_sub (by omega), Nat.add_sub_cancel]
theorem toldM3 {Mm : Mem} {many d : Nat} (hm2 : Mm 100 12 = nI many) (hm6 : many ≤ 6) (hd : d < many) : f_X9_told (nI d) 3 Mm = some (Mm 107 (3 * d), Mm) := by
  unfold f_X9_told f_X9_isOf
  rw [show f_X9_in (3 : Int32).toInt64 0 8 Mm = some (1, Mm) from told_in (k := 3) (by omega), Option.bind_some, if_neg (show ¬ (1 : Int32) = 0 by decide), if_neg (show ¬ (3 : Int32) = 0 by decide), if_neg (show ¬ (3 : Int32) = 1 by decide), if_neg (show ¬ (3 : Int32) = 2 by decide), if_neg (show ¬ (3 : Int32) = 8 by decide), isDn hm2 hm6 hd, Option.bind_some]
  dsimp only
  rw [show zb 1 = true from rfl, ck_true, Option.bind_some]
  dsimp only
  rw [if_neg (show ¬ (1 : Int32) = 0 by decide), if_pos (show (3 : Int32) ≤ 3 by decide), if_neg (show ¬ (6 : Int32) ≤ 3 by decide), if_neg (show ¬ (5 : Int32) ≤ 3 by decide), ix3 (by omega), inb_nI (show 3 * d < 18 by omega) (by omega), nI_clamp (show 3 * d < 2 ^ 31 by omega), ck_true]
theorem toldM0 {Mm : Mem} (v : Int32) : f_X9_told v 0 Mm = some (Mm 100 7, Mm) := by
  unfold f_X9_told f_X9_isOf
  rw [show f_X9_in (0 : Int32).toInt64 0 8 Mm = some (1, Mm) from told_in (k := 0) (by omega), Option.bind_some, if_neg (show ¬ (1 : Int32) = 0 by decide), if_pos rfl, Option.bind_some]
  dsimp only
  rw [if_neg (show ¬ (1 : Int32) = 0 by decide), if_neg (show ¬ (3 : Int32) ≤ 0 by decide), if_pos rfl]
theorem toldM2 {Mm : Mem} : f_X9_told 0 2 Mm = some (Mm 105 0, Mm) := by
  unfold f_X9_told f_X9_isOf f_X9_isOf_b50
  rw [show f_X9_in (2 : Int32).toInt64 0 8 Mm = some (1, Mm) from told_in (k := 2) (by omega), Option.bind_some, if_neg (show ¬ (1 : Int32) = 0 by decide), if_neg (show ¬ (2 : Int32) = 0 by decide), if_neg (show ¬ (2 : Int32) = 1 by decide), if_pos rfl, isK, show inR 0 2 = true by decide, Option.bind_some]
  dsimp only
  rw [show zb (zI true) = true from rfl, ck_true, Option.bind_some]
  dsimp only
  rw [if_neg (show ¬ zI true = 0 by decide), if_neg (show ¬ (3 : Int32) ≤ 2 by decide), if_neg (show ¬ (2 : Int32) = 0 by decide), if_neg (show ¬ (2 : Int32) = 1 by decide), show inb 0 2 = true by decide, show (0 : Int32).toNatClampNeg = 0 by decide, ck_true]
theorem lays5 {d : Nat} (hd : d < 6) (v : Int32) (N : Mem) : f_X9_lays 5 (nI d) v N = some (mu N 106 d v) := by
  unfold f_X9_lays
  rw [if_neg (show ¬ (5 : Int32) = 0 by decide), if_neg (show ¬ (5 : Int32) = 1 by decide), if_neg (show ¬ (5 : Int32) = 2 by decide), if_pos (show (5 : Int32) ≤ 5 by decide), if_pos rfl, inb_nI hd (by omega), nI_clamp (show d < 2 ^ 31 by omega), ck_true]
theorem lays3 {d : Nat} (hd : d < 6) (v : Int32) (N : Mem) : f_X9_lays 3 (nI d) v N = some (mu N 107 (3 * d) v) := by
  unfold f_X9_lays
  rw [if_neg (show ¬ (3 : Int32) = 0 by decide), if_neg (show ¬ (3 : Int32) = 1 by decide), if_neg (show ¬ (3 : Int32) = 2 by decide), if_neg (show ¬ (5 : Int32) ≤ 3 by decide), ix3 hd, inb_nI (show 3 * d < 18 by omega) (by omega), nI_clamp (show 3 * d < 2 ^ 31 by omega), ck_true]
theorem lays0 (x v : Int32) (N : Mem) : f_X9_lays 0 x v N = some (mu N 100 7 v) := by
  unfold f_X9_lays
  rw [if_pos rfl]
theorem lays2 (v : Int32) (N : Mem) : f_X9_lays 2 0 v N = some (mu N 105 0 v) := by
  unfold f_X9_lays
  rw [if_neg (show ¬ (2 : Int32) = 0 by decide), if_neg (show ¬ (2 : Int32) = 1 by decide), if_pos rfl, show inb 0 2 = true by decide, show (0 : Int32).toNatClampNeg = 0 by decide, ck_true]
theorem lays6 (x v : Int32) (N : Mem) : f_X9_lays 6 x v N = some (mu N 100 4 v) := by
  unfold f_X9_lays
  rw [if_neg (show ¬ (6 : Int32) = 0 by decide), if_neg (show ¬ (6 : Int32) = 1 by decide), if_neg (show ¬ (6 : Int32) = 2 by decide), if_pos (show (5 : Int32) ≤ 6 by decide), if_neg (show ¬ (6 : Int32) = 5 by decide)]
theorem tells_op {Mc Mm : Mem} (h : Inv Mc Mm) (v1 v2 v3 : Int32) : OpI (f_X8_tells v1 v2 v3) (f_X9_tells v1 v2 v3) Mc Mm := by
  obtain ⟨many, txt, hN⟩ := id h
  have hN : InvN many txt Mc Mm := hN
  obtain ⟨hs0, hm1, hm2, hm6, _⟩ := id hN.1
  obtain ⟨tx6, tx1, tx2, tx3⟩ := id hN.2.2.1
  unfold OpI f_X8_tells f_X9_tells
  rw [hasS, isS, Option.bind_some, Option.bind_some]
  dsimp only
  cases g1 : inR v1 4 with
  | false => rw [if_pos (show zI false = 0 from rfl), if_pos (show zI false = 0 from rfl)]; exact ⟨_, _, _, rfl, rfl, h⟩
  | true =>
    rw [if_neg (show ¬ zI true = 0 by decide), if_neg (show ¬ zI true = 0 by decide), hasD hm1 hm6, isD hm2 hm6, Option.bind_some, Option.bind_some]
    dsimp only
    cases g2 : inR v2 many with
    | false => rw [if_pos (show zI false = 0 from rfl), if_pos (show zI false = 0 from rfl)]; exact ⟨_, _, _, rfl, rfl, h⟩
    | true =>
      rw [if_neg (show ¬ zI true = 0 by decide), if_neg (show ¬ zI true = 0 by decide), inC3 (b := 8) (n := 9) (by decide), show (8 : Int64) = (8 : Int32).toInt64 from rfl, inM (n := 9) (by decide), Option.bind_some]
      dsimp only
      cases g3 : inR v3 9 with
      | false => rw [ft, if_pos (show zI false = 0 from rfl)]; exact ⟨_, _, _, rfl, rfl, h⟩
      | true =>
        rw [tt, if_neg (show ¬ zI true = 0 by decide)]
        obtain ⟨s, hs, rfl⟩ := inR_of g1 (by omega)
        obtain ⟨d, hd, rfl⟩ := inR_of g2 (by omega)
        obtain ⟨y, hy, rfl⟩ := inR_of g3 (by omega)
        obtain ⟨k1, k2, k3⟩ := sh_kd s hs
        rw [inb_nI hs (by omega), nI_clamp (show s < 2 ^ 31 by omega), k1, show ((5 : Nat) == 5) = true from rfl]
        repeat rw [ck_true]
        rcases hN.2.2.2.2 s hs with ⟨t1, t2⟩ | ⟨so, z, p1, p2, p3, p4, p5, p6, p7, p8⟩
        · rw [(miss_eq hs).1 t1, Option.bind_some, ck_true, if_neg (show ¬ (1 : Int32) = 0 by decide), if_pos t2]
          exact ⟨_, _, _, rfl, rfl, h⟩
        rw [(miss_eq hs).2 (by rw [p3]; exact nI_n1 (by omega)), Option.bind_some, ck_true, if_pos rfl, if_neg (show ¬ Mm 114 s = 0 by rw [p7]; decide)]
        dsimp only
        by_cases z2 : z = 2
        · subst z2
          rw [if_pos (show Mc (55 + 2 * s) 1 = 2 from p5), if_pos (show Mm 116 s = 2 from p6)]
          have hi : Mm 117 (40 * s) = Mc (56 + 2 * s) 0 ∧ Mm 117 (40 * s + 1) = Mc (56 + 2 * s) 1 := ⟨(p8 0 (by omega)).symm, (p8 1 (by omega)).symm⟩
          obtain ⟨t, tm, tc, _⟩ := tkBoth hN.1 hN.2.2.1 hd
          have hd6 : d < 6 := by omega
          have cs : y = 0 ∨ y = 1 ∨ y = 2 ∨ y = 3 ∨ y = 4 ∨ y = 5 ∨ y = 6 ∨ y = 7 ∨ y = 8 := by omega
          rcases cs with rfl | rfl | rfl | rfl | rfl | rfl | rfl | rfl | rfl
          · rw [if_neg (show ¬ nI 0 = 1 by decide), if_neg (show ¬ nI 0 = 2 by decide), if_neg (show ¬ nI 0 = 3 by decide), if_neg (show ¬ nI 0 = 4 by decide), if_neg (show ¬ nI 0 = 5 by decide), if_neg (show ¬ nI 0 = 6 by decide), if_neg (show ¬ nI 0 = 7 by decide), if_neg (show ¬ nI 0 = 8 by decide), if_pos (show nI 0 = 0 from rfl)]
            unfold f_X9_tells_b65
            rw [if_pos (show nI 0 = 0 from rfl)]
            obtain ⟨M1, x1, x2, x3⟩ := tc Mc (KC.refl Mc)
            obtain ⟨M2, c1, c2⟩ := foC hs x2
            rw [x3 2 (by omega), x3 (56 + 2 * s) (by omega)] at c1
            obtain ⟨N1, e1, e2⟩ := foM (st := Mc 2) hs hd6 tm (fun j hj => (hs0.1 j hj).1)
            rw [hi.1, hi.2] at e1
            rw [x1, Option.bind_some, c1, Option.bind_some, e1, Option.bind_some]
            exact ⟨_, _, _, rfl, rfl, (hN.sc (x3.kc.tr c2.kc) e2.km).i⟩
          · obtain ⟨U, R, M1, N1, r1, r2, r3, r4, r5, r6⟩ := gB (n := 6) (as := 1) (w := 0) (p := 106) (k := d) (so := 5) (ofv := nI d) (Tv := tk1 t) hN hs hd (by omega) (by omega) hi (by omega) (by omega) (by omega)
              (fun v hv M kc => by
                obtain ⟨M1, x1, x2, x3⟩ := tc M kc
                exact ⟨M1, mu M1 36 2 (nI v), by rw [if_neg (by omega)]; exact x1, rfl, sup1 x2 v, fun q hq => (mun (by omega)).trans (x3 q hq)⟩)
              (fun v hv N kn => ⟨_, lays5 hd6 _ N, layK1 tm (kn.lay _) hv mu_at, kn.lay _⟩) (fun N => lays5 hd6 _ N) (nI 1)
            rw [if_pos (show nI 1 = 1 from rfl), show f_X8_guess 1 6 0 (55 + 2 * s) (nI d) Mc = _ from r1, if_neg (show ¬ nI 1 = 0 by decide), if_neg (show ¬ nI 1 = 8 by decide), if_pos (show nI 1 = 1 from rfl)]
            unfold f_X9_tells_b123 f_X9_tells_b136 f_X9_tells_b160
            rw [if_neg (show ¬ (5 : Int32) = 2 by decide), if_neg (show ¬ (5 : Int32) = 6 by decide), toldM5 hm2 hm6 hd, Option.bind_some]
            dsimp only
            rw [if_neg (show ¬ (5 : Int32) = 6 by decide), if_pos (show (5 : Int32) = 5 from rfl), show f_X9_tells_b201 (nI s) (nI d) (nI 1) 5 (nI d) (Mm 106 d) 5 Mm = _ from r5, r2 (by omega)]
            unfold f_X8_guess_b105
            rw [if_pos (show nI 0 = 0 from rfl), Option.bind_some]
            exact ⟨_, _, _, rfl, rfl, r6⟩
          · obtain ⟨U, R, M1, N1, r1, r2, r3, r4, r5, r6⟩ := gB (n := 10) (as := 2) (w := 0) (p := 107) (k := 3 * d) (so := 3) (ofv := nI d) (Tv := tk2 t) hN hs hd (by omega) (by omega) hi (by omega) (by omega) (by omega)
              (fun v hv M kc => by
                obtain ⟨M1, x1, x2, x3⟩ := tc M kc
                exact ⟨M1, mu M1 36 3 (nI v), by rw [if_neg (by omega)]; exact x1, rfl, sup2 x2 v, fun q hq => (mun (by omega)).trans (x3 q hq)⟩)
              (fun v hv N kn => ⟨_, lays3 hd6 _ N, layK2 tm (kn.lay _) (by omega) mu_at, kn.lay _⟩) (fun N => lays3 hd6 _ N) (nI 2)
            rw [if_neg (show ¬ nI 2 = 1 by decide), if_pos (show nI 2 = 2 from rfl), show f_X8_guess 2 10 0 (55 + 2 * s) (nI d) Mc = _ from r1, if_neg (show ¬ nI 2 = 0 by decide), if_neg (show ¬ nI 2 = 8 by decide), if_neg (show ¬ nI 2 = 1 by decide), if_pos (show nI 2 = 2 from rfl)]
            unfold f_X9_tells_b123 f_X9_tells_b136 f_X9_tells_b160
            rw [if_neg (show ¬ (3 : Int32) = 2 by decide), if_neg (show ¬ (3 : Int32) = 6 by decide), toldM3 hm2 hm6 hd, Option.bind_some]
            dsimp only
            rw [if_neg (show ¬ (3 : Int32) = 6 by decide), if_neg (show ¬ (3 : Int32) = 5 by decide), if_pos (show (3 : Int32) = 3 from rfl), show f_X9_tells_b201 (nI s) (nI d) (nI 2) 3 (nI d) (Mm 107 (3 * d)) 9 Mm = _ from r5, r2 (by omega)]
            unfold f_X8_guess_b105
            rw [if_pos (show nI 0 = 0 from rfl), Option.bind_some]
            exact ⟨_, _, _, rfl, rfl, r6⟩
          · obtain ⟨U, R, M1, N1, r1, r2, r3, r4, r5, r6⟩ := gB (n := 100) (as := 3) (w := 1) (p := 100) (k := 7) (so := 0) (ofv := nI d) (Tv := tk3 t) hN hs hd (by omega) (by omega) hi (by omega) (by omega) (by omega)
              (fun v hv M kc => by
                obtain ⟨M1, x1, x2, x3⟩ := tc M kc
                exact ⟨M1, mu M1 36 4 (nI v), by rw [if_neg (by omega)]; exact x1, rfl, sup3 x2 v, fun q hq => (mun (by omega)).trans (x3 q hq)⟩)
              (fun v hv N kn => ⟨_, lays0 _ _ N, layK3 tm (kn.lay _) mu_at, kn.lay _⟩) (fun N => lays0 _ _ N) (nI 3)
            rw [if_neg (show ¬ nI 3 = 1 by decide), if_neg (show ¬ nI 3 = 2 by decide), if_pos (show nI 3 = 3 from rfl), show f_X8_guess 3 100 1 (55 + 2 * s) (nI d) Mc = _ from r1, if_neg (show ¬ nI 3 = 0 by decide), if_neg (show ¬ nI 3 = 8 by decide), if_neg (show ¬ nI 3 = 1 by decide), if_neg (show ¬ nI 3 = 2 by decide), if_neg (show ¬ 5 ≤ nI 3 by decide)]
            unfold f_X9_tells_b123 f_X9_tells_b136 f_X9_tells_b160
            rw [if_neg (show ¬ (0 : Int32) = 2 by decide), if_neg (show ¬ (0 : Int32) = 6 by decide), toldM0, Option.bind_some]
            dsimp only
            rw [if_neg (show ¬ (0 : Int32) = 6 by decide), if_neg (show ¬ (0 : Int32) = 5 by decide), if_neg (show ¬ (0 : Int32) = 3 by decide), show f_X9_tells_b201 (nI s) (nI d) (nI 3) 0 (nI d) (Mm 100 7) 99 Mm = _ from r5, r3]
            unfold f_X8_guess_b105
            rw [if_neg (show ¬ nI 1 = 0 by decide), if_pos (show nI 1 = 1 from rfl), Option.bind_some, if_pos (show nI 3 = 3 from rfl)]
            exact ⟨_, _, _, rfl, rfl, r6⟩
          · obtain ⟨U, R, M1, N1, r1, r2, r3, r4, r5, r6⟩ := gB (n := 100) (as := 3) (w := 2) (p := 100) (k := 7) (so := 0) (ofv := nI d) (Tv := tk3 t) hN hs hd (by omega) (by omega) hi (by omega) (by omega) (by omega)
              (fun v hv M kc => by
                obtain ⟨M1, x1, x2, x3⟩ := tc M kc
                exact ⟨M1, mu M1 36 4 (nI v), by rw [if_neg (by omega)]; exact x1, rfl, sup3 x2 v, fun q hq => (mun (by omega)).trans (x3 q hq)⟩)
              (fun v hv N kn => ⟨_, lays0 _ _ N, layK3 tm (kn.lay _) mu_at, kn.lay _⟩) (fun N => lays0 _ _ N) (nI 4)
            rw [if_neg (show ¬ nI 4 = 1 by decide), if_neg (show ¬ nI 4 = 2 by decide), if_neg (show ¬ nI 4 = 3 by decide), if_pos (show nI 4 = 4 from rfl), show f_X8_guess 3 100 2 (55 + 2 * s) (nI d) Mc = _ from r1, if_neg (show ¬ nI 4 = 0 by decide), if_neg (show ¬ nI 4 = 8 by decide), if_neg (show ¬ nI 4 = 1 by decide), if_neg (show ¬ nI 4 = 2 by decide), if_neg (show ¬ 5 ≤ nI 4 by decide)]
            unfold f_X9_tells_b123 f_X9_tells_b136 f_X9_tells_b160
            rw [if_neg (show ¬ (0 : Int32) = 2 by decide), if_neg (show ¬ (0 : Int32) = 6 by decide), toldM0, Option.bind_some]
            dsimp only
            rw [if_neg (show ¬ (0 : Int32) = 6 by decide), if_neg (show ¬ (0 : Int32) = 5 by decide), if_neg (show ¬ (0 : Int32) = 3 by decide), show f_X9_tells_b201 (nI s) (nI d) (nI 4) 0 (nI d) (Mm 100 7) 99 Mm = _ from r5, r4]
            unfold f_X8_guess_b105
            rw [if_neg (show ¬ nI 2 = 0 by decide), if_neg (show ¬ nI 2 = 1 by decide), Option.bind_some, if_neg (show ¬ nI 4 = 3 by decide), if_neg (show ¬ nI 4 = 5 by decide), if_pos (show nI 4 = 4 from rfl)]
            exact ⟨_, _, _, rfl, rfl, r6⟩
          · obtain ⟨U, R, M1, N1, r1, r2, r3, r4, r5, r6⟩ := gB (n := 100) (as := 4) (w := 1) (p := 105) (k := 0) (so := 2) (ofv := 0) (Tv := tk4 t) hN hs hd (by omega) (by omega) hi (by omega) (by omega) (by omega)
              (fun v hv M kc => by
                obtain ⟨M1, x1, x2, x3⟩ := tc M kc
                exact ⟨M1, mu M1 37 0 (nI v), by rw [if_neg (by omega)]; exact x1, rfl, sup4 x2 v, fun q hq => (mun (by omega)).trans (x3 q hq)⟩)
              (fun v hv N kn => ⟨_, lays2 _ N, layK4 tm (kn.lay _) mu_at, kn.lay _⟩) (fun N => lays2 _ N) (nI 5)
            rw [if_neg (show ¬ nI 5 = 1 by decide), if_neg (show ¬ nI 5 = 2 by decide), if_neg (show ¬ nI 5 = 3 by decide), if_neg (show ¬ nI 5 = 4 by decide), if_pos (show nI 5 = 5 from rfl), show f_X8_guess 4 100 1 (55 + 2 * s) (nI d) Mc = _ from r1, if_neg (show ¬ nI 5 = 0 by decide), if_neg (show ¬ nI 5 = 8 by decide), if_neg (show ¬ nI 5 = 1 by decide), if_neg (show ¬ nI 5 = 2 by decide), if_pos (show 5 ≤ nI 5 by decide), if_neg (show ¬ 7 ≤ nI 5 by decide)]
            unfold f_X9_tells_b123 f_X9_tells_b136 f_X9_tells_b160
            rw [if_pos (show (2 : Int32) = 2 from rfl), if_neg (show ¬ (2 : Int32) = 6 by decide), toldM2, Option.bind_some]
            dsimp only
            rw [if_neg (show ¬ (2 : Int32) = 6 by decide), if_neg (show ¬ (2 : Int32) = 5 by decide), if_neg (show ¬ (2 : Int32) = 3 by decide), show f_X9_tells_b201 (nI s) (nI d) (nI 5) 2 0 (Mm 105 0) 99 Mm = _ from r5, r3]
            unfold f_X8_guess_b105
            rw [if_neg (show ¬ nI 1 = 0 by decide), if_pos (show nI 1 = 1 from rfl), Option.bind_some, if_neg (show ¬ nI 5 = 3 by decide), if_pos (show nI 5 = 5 from rfl)]
            exact ⟨_, _, _, rfl, rfl, r6⟩
          · obtain ⟨U, R, M1, N1, r1, r2, r3, r4, r5, r6⟩ := gB (n := 100) (as := 4) (w := 2) (p := 105) (k := 0) (so := 2) (ofv := 0) (Tv := tk4 t) hN hs hd (by omega) (by omega) hi (by omega) (by omega) (by omega)
              (fun v hv M kc => by
                obtain ⟨M1, x1, x2, x3⟩ := tc M kc
                exact ⟨M1, mu M1 37 0 (nI v), by rw [if_neg (by omega)]; exact x1, rfl, sup4 x2 v, fun q hq => (mun (by omega)).trans (x3 q hq)⟩)
              (fun v hv N kn => ⟨_, lays2 _ N, layK4 tm (kn.lay _) mu_at, kn.lay _⟩) (fun N => lays2 _ N) (nI 6)
            rw [if_neg (show ¬ nI 6 = 1 by decide), if_neg (show ¬ nI 6 = 2 by decide), if_neg (show ¬ nI 6 = 3 by decide), if_neg (show ¬ nI 6 = 4 by decide), if_neg (show ¬ nI 6 = 5 by decide), if_pos (show nI 6 = 6 from rfl), show f_X8_guess 4 100 2 (55 + 2 * s) (nI d) Mc = _ from r1, if_neg (show ¬ nI 6 = 0 by decide), if_neg (show ¬ nI 6 = 8 by decide), if_neg (show ¬ nI 6 = 1 by decide), if_neg (show ¬ nI 6 = 2 by decide), if_pos (show 5 ≤ nI 6 by decide), if_neg (show ¬ 7 ≤ nI 6 by decide)]
            unfold f_X9_tells_b123 f_X9_tells_b136 f_X9_tells_b160
            rw [if_pos (show (2 : Int32) = 2 from rfl), if_neg (show ¬ (2 : Int32) = 6 by decide), toldM2, Option.bind_some]
            dsimp only
            rw [if_neg (show ¬ (2 : Int32) = 6 by decide), if_neg (show ¬ (2 : Int32) = 5 by decide), if_neg (show ¬ (2 : Int32) = 3 by decide), show f_X9_tells_b201 (nI s) (nI d) (nI 6) 2 0 (Mm 105 0) 99 Mm = _ from r5, r4]
            unfold f_X8_guess_b105
            rw [if_neg (show ¬ nI 2 = 0 by decide), if_neg (show ¬ nI 2 = 1 by decide), Option.bind_some, if_neg (show ¬ nI 6 = 3 by decide), if_neg (show ¬ nI 6 = 5 by decide), if_neg (show ¬ nI 6 = 4 by decide), if_pos (show nI 6 = 6 from rfl)]
            exact ⟨_, _, _, rfl, rfl, r6⟩
          · obtain ⟨U, R, M1, N1, r1, r2, r3, r4, r5, r6⟩ := gB (n := txt) (as := 5) (w := 0) (p := 100) (k := 4) (so := 6) (ofv := nI d) (Tv := fun v => tk5 t (evC Mc v)) hN hs hd (by omega) (by omega) hi (by omega) (by omega) (by omega)
              (fun v hv M kc => by
                obtain ⟨M1, x1, x2, x3⟩ := tc M kc
                have e1 : M1 (16 + 3 * v + 1) = Mc (16 + 3 * v + 1) := (x3 _ (by omega)).trans (kc _ (by omega))
                have e2 : M1 (16 + 3 * v + 2) = Mc (16 + 3 * v + 2) := (x3 _ (by omega)).trans (kc _ (by omega))
                have ee : evC M1 v = evC Mc v := by unfold evC; rw [e1, e2]
                have sp := sup5 (v := v) x2 (by omega) (by rw [e2]; exact (tx3 v hv).1)
                rw [ee] at sp
                refine ⟨M1, mu M1 36 1 (nI (16 + 3 * v)), by rw [if_neg (by omega)]; exact x1, ?_, sp, fun q hq => (mun (by omega)).trans (x3 q hq)⟩
                unfold f_X0_suppose
                rw [if_neg (show ¬ nI 5 = 1 by decide), if_neg (show ¬ nI 5 = 2 by decide), if_neg (show ¬ nI 5 = 3 by decide), if_neg (show ¬ nI 5 = 4 by decide), if_pos (show nI 5 = 5 from rfl), ruleBy_eq (by omega)]
                rfl)
              (fun v hv N kn => ⟨_, lays6 _ _ N, layK5 tm (kn.lay _) (by omega) mu_at (fun s e1 e2 he => evT_congr he) (tx3 v hv).2, kn.lay _⟩) (fun N => lays6 _ _ N) (nI 7)
            rw [if_neg (show ¬ nI 7 = 1 by decide), if_neg (show ¬ nI 7 = 2 by decide), if_neg (show ¬ nI 7 = 3 by decide), if_neg (show ¬ nI 7 = 4 by decide), if_neg (show ¬ nI 7 = 5 by decide), if_neg (show ¬ nI 7 = 6 by decide), if_pos (show nI 7 = 7 from rfl), tx1, show f_X8_guess 5 (nI txt) 0 (55 + 2 * s) (nI d) Mc = _ from r1, if_neg (show ¬ nI 7 = 0 by decide), if_neg (show ¬ nI 7 = 8 by decide), if_neg (show ¬ nI 7 = 1 by decide), if_neg (show ¬ nI 7 = 2 by decide), if_pos (show 5 ≤ nI 7 by decide), if_pos (show 7 ≤ nI 7 by decide)]
            unfold f_X9_tells_b123 f_X9_tells_b136 f_X9_tells_b160
            rw [if_neg (show ¬ (6 : Int32) = 2 by decide), if_pos (show (6 : Int32) = 6 from rfl), if_pos (show (6 : Int32) = 6 from rfl), tx2, r5, r2 (by omega)]
            unfold f_X8_guess_b105
            rw [if_pos (show nI 0 = 0 from rfl), Option.bind_some]
            exact ⟨_, _, _, rfl, rfl, r6⟩
          · obtain ⟨T, hT⟩ := getT hN
            obtain ⟨M1, r1, r2⟩ := guessC (Mc := Mc) (as := 6) (n := many) (w := 0) (d := d) (Tv := T) hs (by omega) (by omega)
              (fun v hv M kc => by
                obtain ⟨M1, x1, x2, x3⟩ := (hT v hv).2.1 M kc
                exact ⟨M1, M1, by rw [if_pos rfl]; exact x1, rfl, x2, x3⟩) many 0 FU Mc (by omega) (by have := FU_ge; omega) (KC.refl Mc)
            obtain ⟨N1, e1, e2⟩ := likeM (T := T) (st := Mc 2) hs hm2 hm6 (fun j hj => (hs0.1 j hj).1) hi (fun d hd => (hT d hd).1) many 0 FU Mm (by omega) (by have := FU_ge; omega) (SmM.refl Mm)
            rw [if_neg (show ¬ nI 8 = 1 by decide), if_neg (show ¬ nI 8 = 2 by decide), if_neg (show ¬ nI 8 = 3 by decide), if_neg (show ¬ nI 8 = 4 by decide), if_neg (show ¬ nI 8 = 5 by decide), if_neg (show ¬ nI 8 = 6 by decide), if_neg (show ¬ nI 8 = 7 by decide), if_pos (show nI 8 = 8 from rfl), if_neg (show ¬ nI 8 = 0 by decide), if_pos (show nI 8 = 8 from rfl), hm1]
            unfold f_X9_tells_b65 f_X8_guess f_X9_likeSet
            rw [if_neg (show ¬ nI 8 = 0 by decide), show (f_X8_guess_l12 f_X8_guess_b105 FU) 6 (nI many) 0 (55 + 2 * s) (nI d) 0 0 (-1) 0 Mc = _ from r1, show (f_X9_likeSet_l4 FU) (nI s) 0 0 Mm = _ from e1, Option.bind_some]
            unfold f_X8_guess_b105
            rw [if_pos (show nI 0 = 0 from rfl), Option.bind_some]
            exact ⟨_, _, _, rfl, rfl, (hN.sc r2 e2.km).i⟩
        · have ne : ¬ nI z = 2 := by rw [show (2 : Int32) = nI 2 from rfl, nIeq (by omega) (by omega)]; exact z2
          rw [if_neg (show ¬ Mc (55 + 2 * s) 1 = 2 by rw [p5]; exact ne), if_neg (show ¬ Mm 116 s = 2 by rw [p6]; exact ne)]
          exact ⟨_, _, _, rfl, rfl, h⟩
end
