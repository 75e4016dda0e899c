/-! PURE: the class -/
def f_X8_isPlace (v0 : Int32) (M : Mem) : Option (Int32 × Mem) :=
  (if v0 < 0 then some (0, M) else (if 2 ≤ (v0 / 10) then some (0, M) else (if 6 ≤ (jrem v0 10) then some (0, M) else some (1, M))))

def f_X8_placeOf (v0 : Int32) (M : Mem) : Option (Int32 × Mem) :=
  some ((((v0 / 10) * 6) + (jrem v0 10)), M)

def f_X8_isKitchen (v0 : Int32) (M : Mem) : Option (Int32 × Mem) :=
  (if v0 < 0 then some (0, M) else (if 2 ≤ v0 then some (0, M) else some (1, M)))

def f_X1_storeOf_l4 : Nat → Int32 → Int32 → Int32 → Mem → Option (Int32 × Mem)
  | 0, _, _, _, _ => none
  | n + 1, v1, v2, v3, M => (if 6 ≤ v3 then some (v2, M) else ck (inb ((v1 * 6) + v3) 12) ((f_X1_storeOf_l4 n) v1 (v2 + (M 2 (((v1 * 6) + v3)).toNatClampNeg)) (v3 + 1) M))
def f_X1_storeOf (v1 : Int32) (M : Mem) : Option (Int32 × Mem) :=
  (f_X1_storeOf_l4 FU) v1 0 0 M

def f_X8_toldOfKitchen (v1 : Int32) (v2 : Int32) (M : Mem) : Option (Int32 × Mem) :=
  (if v2 = 2 then ck (inb v1 2) (some ((M 3 (v1).toNatClampNeg), M)) else (f_X1_storeOf v1 M).bind fun o2 => some (o2.1, o2.2))

def f_X1_hasDish (v1 : Int32) (M : Mem) : Option (Int32 × Mem) :=
  (if v1 < 0 then some (0, M) else (if (M 1 6) ≤ v1 then some (0, M) else some (1, M)))

def f_X1_needsOf (v1 : Int32) (v2 : Int32) (M : Mem) : Option (Int32 × Mem) :=
  ck (inb v1 6) (ck (inb v2 6) (ck (!((stv 2000 (v2).toNatClampNeg) == 0)) (some ((jrem ((M 6 (v1).toNatClampNeg) / (stv 2000 (v2).toNatClampNeg)) 10), M))))

def f_X1_needsTogether_l4 : Nat → Int32 → Int32 → Int32 → Mem → Option (Int32 × Mem)
  | 0, _, _, _, _ => none
  | n + 1, v1, v2, v3, M => (if 6 ≤ v3 then some (v2, M) else (f_X1_needsOf v1 v3 M).bind fun o2 => (f_X1_needsTogether_l4 n) v1 (v2 + o2.1) (v3 + 1) o2.2)
def f_X1_needsTogether (v1 : Int32) (M : Mem) : Option (Int32 × Mem) :=
  (f_X1_needsTogether_l4 FU) v1 0 0 M

def f_X8_toldOfDish (v1 : Int32) (v2 : Int32) (M : Mem) : Option (Int32 × Mem) :=
  (if v2 = 3 then ck (inb v1 6) (some ((M 5 (v1).toNatClampNeg), M)) else (if v2 = 4 then ck (inb v1 6) (some ((M 6 (v1).toNatClampNeg), M)) else (if v2 = 5 then ck (inb v1 6) (some ((M 4 (v1).toNatClampNeg), M)) else (if v2 = 6 then ck (inb v1 6) (some ((M 7 (v1).toNatClampNeg), M)) else (if v2 = 7 then (f_X1_needsTogether v1 M).bind fun o10 => some (o10.1, o10.2) else some ((-1000), M))))))

def f_X8_told_b54 (v1 : Int32) (v2 : Int32) (M : Mem) : Option (Int32 × Mem) :=
  (f_X8_isKitchen v1 M).bind fun o16 => (if o16.1 = 0 then some ((-1000), o16.2) else (f_X8_toldOfKitchen v1 v2 o16.2).bind fun o19 => some (o19.1, o19.2))
def f_X8_told (v1 : Int32) (v2 : Int32) (M : Mem) : Option (Int32 × Mem) :=
  (if v2 = 0 then some ((M 1 7), M) else (if v2 = 1 then (f_X8_isPlace v1 M).bind fun o10 => (if o10.1 = 0 then some ((-1000), o10.2) else (f_X8_placeOf v1 o10.2).bind fun o13 => ck (inb o13.1 12) (some ((o13.2 2 (o13.1).toNatClampNeg), o13.2))) else (if v2 = 2 then f_X8_told_b54 v1 v2 M else (if v2 = 8 then f_X8_told_b54 v1 v2 M else (f_X1_hasDish v1 M).bind fun o5 => (if o5.1 = 0 then some ((-1000), o5.2) else (f_X8_toldOfDish v1 v2 o5.2).bind fun o8 => some (o8.1, o8.2))))))

def f_X8_mostOf (v0 : Int32) (M : Mem) : Option (Int32 × Mem) :=
  (if v0 = 0 then some (999, M) else (if v0 = 1 then some (99, M) else (if v0 = 2 then some (99, M) else (if v0 = 3 then some (9, M) else some (999999, M)))))

def f_X8_set (v1 : Int32) (v2 : Int32) (v3 : Int32) (M : Mem) : Option (Int32 × Mem) :=
  (f_X8_told v2 v1 M).bind fun o1 => (if v1 < 0 then some ((-1000), o1.2) else (if 4 < v1 then some ((-1000), o1.2) else (if o1.1 = (-1000) then some ((-1000), o1.2) else (if v3 < 0 then some ((-1000), o1.2) else (f_X8_mostOf v1 o1.2).bind fun o7 => (if v3 ≤ o7.1 then (if v1 = 0 then some (o1.1, (mu o7.2 1 7 v3)) else (if v1 = 1 then (f_X8_placeOf v2 o7.2).bind fun o12 => ck (inb o12.1 12) (some (o1.1, (mu o12.2 2 (o12.1).toNatClampNeg v3))) else (if v1 = 2 then ck (inb v2 2) (some (o1.1, (mu o7.2 3 (v2).toNatClampNeg v3))) else (if v1 = 3 then ck (inb v2 6) (some (o1.1, (mu o7.2 5 (v2).toNatClampNeg v3))) else ck (inb v2 6) (some (o1.1, (mu o7.2 6 (v2).toNatClampNeg v3))))))) else some ((-1000), o7.2))))))

def f_X1_addDish (v1 : Int32) (v2 : Int32) (v3 : Int32) (M : Mem) : Option (Int32 × Mem) :=
  (if (M 1 6) < 6 then ck (inb (M 1 6) 6) (some ((((M 1 6) + 1) - 1), (mu (mu (mu (mu (mu M 4 ((M 1 6)).toNatClampNeg v1) 5 ((M 1 6)).toNatClampNeg v2) 6 ((M 1 6)).toNatClampNeg v3) 7 ((M 1 6)).toNatClampNeg 0) 1 6 ((M 1 6) + 1)))) else some ((-4), M))

def f_X8_dish (v1 : Int32) (v2 : Int32) (v3 : Int32) (M : Mem) : Option (Int32 × Mem) :=
  (if v1 < 0 then some ((-2), M) else (if 6 ≤ v1 then some ((-2), M) else (if v2 < 0 then some ((-2), M) else (if 9 < v2 then some ((-2), M) else (if v3 < 0 then some ((-2), M) else (if v3 ≤ 999999 then (f_X1_addDish v1 v2 v3 M).bind fun o7 => some (o7.1, o7.2) else some ((-2), M)))))))

def f_X0_ruleBy (v1 : Int32) (M : Mem) : Option Mem :=
  (if v1 < 0 then some M else (if 6 ≤ v1 then some M else ck (inb v1 6) (ck (decide ((16 + 3 * (v1).toNatClampNeg) < 63)) (some (mu M 36 1 (Int32.ofNat (16 + 3 * (v1).toNatClampNeg)))))))

def f_X0_takeUp_l30 (k53 : Int32 → Mem → Option Mem) : Nat → Int32 → Int32 → Mem → Option Mem
  | 0, _, _, _ => none
  | n + 1, v2, v3, M => (if 2 ≤ v3 then k53 v2 M else ck (inb v3 2) ((f_X0_takeUp_l30 k53 n) v2 (v3 + 1) (mu M 37 (v3).toNatClampNeg (M 3 (v3).toNatClampNeg))))
def f_X0_takeUp_l55 (k79 : Int32 → Mem → Option Mem) : Nat → Int32 → Int32 → Mem → Option Mem
  | 0, _, _, _ => none
  | n + 1, v2, v3, M => (if 6 ≤ v3 then k79 v2 M else (f_X1_needsOf v2 v3 M).bind fun o5 => ck (inb v3 6) ((f_X0_takeUp_l55 k79 n) v2 (v3 + 1) (mu o5.2 38 (v3).toNatClampNeg o5.1)))
def f_X0_takeUp_b79 (v2 : Int32) (M : Mem) : Option Mem :=
  (f_X1_needsTogether v2 M).bind fun o8 => (f_X0_ruleBy (o8.2 1 8) (mu o8.2 36 7 o8.1)).bind fun o10 => some o10
def f_X0_takeUp_b53 (v2 : Int32) (M : Mem) : Option Mem :=
  (f_X0_takeUp_l55 f_X0_takeUp_b79 FU) v2 0 M
def f_X0_takeUp (v2 : Int32) (M : Mem) : Option Mem :=
  ck (inb v2 6) ((f_X0_takeUp_l30 f_X0_takeUp_b53 FU) v2 0 (mu (mu (mu M 36 2 (M 4 (v2).toNatClampNeg)) 36 3 (M 5 (v2).toNatClampNeg)) 36 4 (M 1 7)))

def f_X0_cross_b104 (r : Nat → Int32 → Int32 → Int32 → Mem → Option Mem) (q2 : Nat) (v3 : Int32) (v4 : Int32) (v5 : Int32) (s1 : Int32) (M : Mem) : Option Mem :=
  ck (zb s1) (r q2 v3 v4 (v5 + 1) (mu M 36 12 s1))
def f_X0_cross_b103 (r : Nat → Int32 → Int32 → Int32 → Mem → Option Mem) (q2 : Nat) (v3 : Int32) (v4 : Int32) (v5 : Int32) (M : Mem) : Option Mem :=
  (f_X0_cross_b104 r) q2 v3 v4 v5 0 M
def f_X0_cross_l26 : Nat → Nat → Int32 → Int32 → Int32 → Mem → Option Mem
  | 0, _, _, _, _, _ => none
  | n + 1, q2, v3, v4, v5, M => (if 6 ≤ v5 then some M else ck (inb v5 6) (ck (kd q2 == 10) (ck (inb (v3 + v5) (ln q2)) ((if (M 36 12) = 0 then (f_X0_cross_b103 (f_X0_cross_l26 n)) q2 v3 v4 v5 (mu (mu M 41 (v5).toNatClampNeg (jmax 0 ((M 38 (v5).toNatClampNeg) - (M q2 ((v3 + v5)).toNatClampNeg)))) 36 13 ((M 36 13) + (jmax 0 ((M 38 (v5).toNatClampNeg) - (M q2 ((v3 + v5)).toNatClampNeg))))) else ck (inb (v4 + v5) (ln q2)) ((if ((mu (mu M 41 (v5).toNatClampNeg (jmax 0 ((M 38 (v5).toNatClampNeg) - (M q2 ((v3 + v5)).toNatClampNeg)))) 36 13 ((M 36 13) + (jmax 0 ((M 38 (v5).toNatClampNeg) - (M q2 ((v3 + v5)).toNatClampNeg))))) q2 ((v4 + v5)).toNatClampNeg) < (jmax 0 ((M 38 (v5).toNatClampNeg) - (M q2 ((v3 + v5)).toNatClampNeg))) then (f_X0_cross_b103 (f_X0_cross_l26 n)) q2 v3 v4 v5 (mu (mu M 41 (v5).toNatClampNeg (jmax 0 ((M 38 (v5).toNatClampNeg) - (M q2 ((v3 + v5)).toNatClampNeg)))) 36 13 ((M 36 13) + (jmax 0 ((M 38 (v5).toNatClampNeg) - (M q2 ((v3 + v5)).toNatClampNeg))))) else (f_X0_cross_b104 (f_X0_cross_l26 n)) q2 v3 v4 v5 1 (mu (mu M 41 (v5).toNatClampNeg (jmax 0 ((M 38 (v5).toNatClampNeg) - (M q2 ((v3 + v5)).toNatClampNeg)))) 36 13 ((M 36 13) + (jmax 0 ((M 38 (v5).toNatClampNeg) - (M q2 ((v3 + v5)).toNatClampNeg))))))))))))
def f_X0_cross (v1 : Int32) (q2 : Nat) (M : Mem) : Option Mem :=
  (f_X0_cross_l26 FU) q2 (v1 * 6) ((1 - v1) * 6) 0 (mu (mu M 36 12 1) 36 13 0)

def f_X7_joined (v0 : Int32) (v1 : Int32) (v2 : Int32) (M : Mem) : Option (Int32 × Mem) :=
  (if v0 = (-13) then some ((v1 - v2), M) else (if v0 = (-12) then some ((v1 + v2), M) else (if v0 = (-11) then (if v1 = v2 then some (1, M) else some (0, M)) else (if v0 = (-10) then (if v2 ≤ v1 then some (0, M) else some (1, M)) else (if v0 = (-9) then some ((v1 * v2), M) else (if v0 = (-8) then (if v1 = 0 then some (0, M) else (if v2 = 0 then some (0, M) else some (1, M))) else (if v0 = (-7) then (if v1 = 0 then (if v2 = 0 then some (0, M) else some (1, M)) else some (1, M)) else some ((v1 * v2), M))))))))

def f_X7_value_b171 (r : Nat → Int32 → Int32 → Int32 → Mem → Option (Int32 × Mem)) (k177 : Int32 → Mem → Option (Int32 × Mem)) (q0 : Nat) (v1 : Int32) (v4 : Int32) (v5 : Int32) (M : Mem) : Option (Int32 × Mem) :=
  r q0 v1 v4 (v5 + 1) M
def f_X7_value_b74 (r : Nat → Int32 → Int32 → Int32 → Mem → Option (Int32 × Mem)) (k177 : Int32 → Mem → Option (Int32 × Mem)) (q0 : Nat) (v1 : Int32) (v4 : Int32) (v5 : Int32) (s1 : Int32) (s2 : Int32) (M : Mem) : Option (Int32 × Mem) :=
  ck (inb s1 160) ((f_X7_value_b171 r k177) q0 v1 (v4 + 1) v5 (mu M 40 (s1).toNatClampNeg s2))
def f_X7_value_b137 (r : Nat → Int32 → Int32 → Int32 → Mem → Option (Int32 × Mem)) (k177 : Int32 → Mem → Option (Int32 × Mem)) (q0 : Nat) (v1 : Int32) (v4 : Int32) (v5 : Int32) (s1 : Int32) (s2 : Int32) (M : Mem) : Option (Int32 × Mem) :=
  ck (inb s1 160) ((f_X7_value_b171 r k177) q0 v1 v4 v5 (mu M 40 (s1).toNatClampNeg s2))
def f_X7_value_b95 (r : Nat → Int32 → Int32 → Int32 → Mem → Option (Int32 × Mem)) (k177 : Int32 → Mem → Option (Int32 × Mem)) (q0 : Nat) (v1 : Int32) (v4 : Int32) (v5 : Int32) (v6 : Int32) (M : Mem) : Option (Int32 × Mem) :=
  (if v4 < 1 then (f_X7_value_b171 r k177) q0 v1 v4 v5 M else ck (inb (v4 - 1) 160) ((if v6 = (-15) then (f_X7_value_b137 r k177) q0 v1 v4 v5 (v4 - 1) (-(M 40 ((v4 - 1)).toNatClampNeg)) M else (if (M 40 ((v4 - 1)).toNatClampNeg) = 0 then (f_X7_value_b137 r k177) q0 v1 v4 v5 (v4 - 1) 1 M else (f_X7_value_b137 r k177) q0 v1 v4 v5 (v4 - 1) 0 M))))
def f_X7_value_l21 (k177 : Int32 → Mem → Option (Int32 × Mem)) : Nat → Nat → Int32 → Int32 → Int32 → Mem → Option (Int32 × Mem)
  | 0, _, _, _, _, _ => none
  | n + 1, q0, v1, v4, v5, M => ck (kd q0 == 6) (ck (kd (q0 + 2) == 30) (ck (inb v1 (ln (q0 + 2))) ((if (M (q0 + 2) (v1).toNatClampNeg) ≤ v5 then k177 v4 M else ck (kd (q0 + 1) == 30) (ck (inb v5 (ln (q0 + 1))) ((if (M (q0 + 1) (v5).toNatClampNeg) < (-6) then (if (M (q0 + 1) (v5).toNatClampNeg) = (-9) then (f_X7_value_b95 (f_X7_value_l21 k177 n) k177) q0 v1 v4 v5 (M (q0 + 1) (v5).toNatClampNeg) M else (if (M (q0 + 1) (v5).toNatClampNeg) = (-15) then (f_X7_value_b95 (f_X7_value_l21 k177 n) k177) q0 v1 v4 v5 (M (q0 + 1) (v5).toNatClampNeg) M else (if v4 < 2 then (f_X7_value_b171 (f_X7_value_l21 k177 n) k177) q0 v1 v4 v5 M else ck (inb ((v4 + (-1)) - 1) 160) (ck (inb (v4 + (-1)) 160) ((f_X7_joined (M (q0 + 1) (v5).toNatClampNeg) (M 40 (((v4 + (-1)) - 1)).toNatClampNeg) (M 40 ((v4 + (-1))).toNatClampNeg) M).bind fun o17 => (f_X7_value_b171 (f_X7_value_l21 k177 n) k177) q0 v1 (v4 + (-1)) v5 (mu o17.2 40 (((v4 + (-1)) - 1)).toNatClampNeg o17.1)))))) else (if 160 ≤ v4 then (f_X7_value_b171 (f_X7_value_l21 k177 n) k177) q0 v1 v4 v5 M else (if (M (q0 + 1) (v5).toNatClampNeg) < 0 then ck (inb ((-1) - (M (q0 + 1) (v5).toNatClampNeg)) 6) ((f_X7_value_b74 (f_X7_value_l21 k177 n) k177) q0 v1 v4 v5 v4 (M 39 (((-1) - (M (q0 + 1) (v5).toNatClampNeg))).toNatClampNeg) M) else (f_X7_value_b74 (f_X7_value_l21 k177 n) k177) q0 v1 v4 v5 v4 (M (q0 + 1) (v5).toNatClampNeg) M)))))))))
def f_X7_value_b177 (v4 : Int32) (M : Mem) : Option (Int32 × Mem) :=
  (if v4 ≤ 0 then some (0, M) else ck (inb (v4 - 1) 160) (some ((M 40 ((v4 - 1)).toNatClampNeg), M)))
def f_X7_value_b19 (q0 : Nat) (v1 : Int32) (v4 : Int32) (s0 : Int32) (M : Mem) : Option (Int32 × Mem) :=
  (f_X7_value_l21 f_X7_value_b177 FU) q0 v1 v4 s0 M
def f_X7_value (q0 : Nat) (v1 : Int32) (M : Mem) : Option (Int32 × Mem) :=
  (if v1 = 0 then f_X7_value_b19 q0 v1 0 0 M else ck (kd q0 == 6) (ck (kd (q0 + 2) == 30) (ck (inb (v1 - 1) (ln (q0 + 2))) (f_X7_value_b19 q0 v1 0 (M (q0 + 2) ((v1 - 1)).toNatClampNeg) M))))

def f_X0_ask (v1 : Int32) (v2 : Int32) (v3 : Int32) (v4 : Int32) (M : Mem) : Option (Int32 × Mem) :=
  ck (inb v4 2) ((f_X7_value ((M 36 1)).toNatClampNeg v1 (mu (mu (mu (mu (mu (mu M 39 0 v2) 39 1 v3) 39 2 v4) 39 3 (M 36 4)) 39 4 (M 36 3)) 39 5 (M 37 (v4).toNatClampNeg))).bind fun o2 => ck (kd ((M 36 1)).toNatClampNeg == 6) (some (o2.1, o2.2)))

def f_X2_bounded (v0 : Int32) (M : Mem) : Option (Int32 × Mem) :=
  some ((jmax 0 (jmin 99 v0)), M)

def f_X2_fed (v0 : Int32) (v1 : Int32) (v2 : Int32) (v3 : Int32) (v4 : Int32) (M : Mem) : Option (Int32 × Mem) :=
  (if v0 = 1 then (f_X2_bounded (v1 * 2) M).bind fun o2 => some (o2.1, o2.2) else (if v0 = 2 then some ((v1 / 2), M) else (if v0 = 3 then (if v2 = 1 then some (v4, M) else (f_X2_bounded (v1 * 2) M).bind fun o7 => some (o7.1, o7.2)) else (if v0 = 4 then (if (jrem v3 4) = 0 then some (((v1 / 2) + 10), M) else some ((v1 / 2), M)) else (if v0 = 5 then (f_X2_bounded (v1 + v4) M).bind fun o12 => some (o12.1, o12.2) else some (v1, M))))))

def f_X2_toll (v0 : Int32) (v1 : Int32) (v2 : Int32) (v3 : Int32) (v4 : Int32) (M : Mem) : Option (Int32 × Mem) :=
  (if v0 = 1 then some (0, M) else (if v0 = 2 then (f_X2_bounded (v1 * v3) M).bind fun o3 => some (o3.1, o3.2) else (if v0 = 3 then some (1, M) else (if v0 = 4 then (if v2 = (jrem v4 6) then some (0, M) else (f_X2_bounded (v1 * v3) M).bind fun o8 => some (o8.1, o8.2)) else (if v0 = 5 then some (9, M) else some (v1, M))))))

def f_X2_signs_b62 (v2 : Int32) (M : Mem) : Option (Int32 × Mem) :=
  (if v2 = 0 then some (0, M) else some (1, M))
def f_X2_signs (v0 : Int32) (v1 : Int32) (v2 : Int32) (v3 : Int32) (M : Mem) : Option (Int32 × Mem) :=
  (if v0 = 1 then some (1, M) else (if v0 = 2 then (if v1 = 0 then some (0, M) else (if v3 = 0 then some (0, M) else some (1, M))) else (if v0 = 3 then some (1, M) else (if v0 = 4 then (if v1 = 0 then f_X2_signs_b62 v2 M else (if v3 = 0 then f_X2_signs_b62 v2 M else some (1, M))) else (if v0 = 5 then (if v1 = 0 then (if v2 = 0 then some (0, M) else some (1, M)) else some (1, M)) else ck (zb v1) (some (v1, M)))))))

def f_X0_judge_b91 (r : Int32 → Int32 → Mem → Option Mem) (k97 : Int32 → Mem → Option Mem) (v1 : Int32) (v2 : Int32) (M : Mem) : Option Mem :=
  r v1 (v2 + 1) M
def f_X0_judge_l41 (k97 : Int32 → Mem → Option Mem) : Nat → Int32 → Int32 → Mem → Option Mem
  | 0, _, _, _ => none
  | n + 1, v1, v2, M => (if 6 ≤ v2 then k97 v1 M else ck (inb v2 6) ((if (M 41 (v2).toNatClampNeg) ≤ 0 then (f_X0_judge_b91 (f_X0_judge_l41 k97 n) k97) v1 v2 M else (f_X0_ask 1 v2 (M 41 (v2).toNatClampNeg) v1 M).bind fun o10 => (f_X2_bounded o10.1 o10.2).bind fun o12 => (f_X2_toll (M 36 2) o12.1 v2 (M 41 (v2).toNatClampNeg) (o12.2 36 3) o12.2).bind fun o14 => (f_X0_judge_b91 (f_X0_judge_l41 k97 n) k97) v1 v2 (mu o14.2 36 14 ((M 36 14) + o14.1)))))
def f_X0_judge_b160 (r : Int32 → Int32 → Mem → Option Mem) (v1 : Int32) (v2 : Int32) (s1 : Int32) (s2 : Int32) (s3 : Int32) (s4 : Int32) (s5 : Int32) (M : Mem) : Option Mem :=
  (f_X2_signs s2 s3 s4 s5 M).bind fun o23 => ck (inb s1 2) (ck (zb o23.1) (r v1 (v2 + 1) (mu o23.2 42 (s1).toNatClampNeg o23.1)))
def f_X0_judge_b142 (r : Int32 → Int32 → Mem → Option Mem) (v1 : Int32) (v2 : Int32) (s1 : Int32) (s2 : Int32) (s3 : Int32) (s4 : Int32) (M : Mem) : Option Mem :=
  ck (inb v2 2) ((if (M 37 (v2).toNatClampNeg) ≤ (M 36 14) then (f_X0_judge_b160 r) v1 v2 s1 s2 s3 s4 0 M else (f_X0_judge_b160 r) v1 v2 s1 s2 s3 s4 1 M))
def f_X0_judge_b132 (r : Int32 → Int32 → Mem → Option Mem) (v1 : Int32) (v2 : Int32) (s1 : Int32) (s2 : Int32) (s3 : Int32) (M : Mem) : Option Mem :=
  (if v2 = v1 then (f_X0_judge_b142 r) v1 v2 s1 s2 s3 1 M else (f_X0_judge_b142 r) v1 v2 s1 s2 s3 0 M)
def f_X0_judge_l99 : Nat → Int32 → Int32 → Mem → Option Mem
  | 0, _, _, _ => none
  | n + 1, v1, v2, M => (if 2 ≤ v2 then some M else (f_X0_ask 2 0 (M 36 14) v2 M).bind fun o17 => (if o17.1 = 0 then (f_X0_judge_b132 (f_X0_judge_l99 n)) v1 v2 v2 (M 36 2) 0 o17.2 else (f_X0_judge_b132 (f_X0_judge_l99 n)) v1 v2 v2 (M 36 2) 1 o17.2))
def f_X0_judge_b97 (v1 : Int32) (M : Mem) : Option Mem :=
  (f_X0_judge_l99 FU) v1 0 M
def f_X0_judge (v1 : Int32) (M : Mem) : Option Mem :=
  (f_X0_ask 0 0 (M 36 7) v1 M).bind fun o1 => (f_X2_bounded o1.1 o1.2).bind fun o3 => (f_X2_fed (M 36 2) o3.1 v1 (o3.2 36 4) (o3.2 36 3) o3.2).bind fun o5 => (f_X0_judge_l41 f_X0_judge_b97 FU) v1 0 (mu (mu o5.2 36 15 o5.1) 36 14 0)

def f_X0_worth (M : Mem) : Option (Int32 × Mem) :=
  some (((M 36 15) - (M 36 14)), M)

def f_X8_asks (v1 : Int32) (v2 : Int32) (v3 : Int32) (M : Mem) : Option (Int32 × Mem) :=
  (f_X1_hasDish v1 M).bind fun o1 => (if o1.1 = 0 then some ((-1000), o1.2) else (f_X8_isKitchen v2 o1.2).bind fun o4 => (if o4.1 = 0 then some ((-1000), o4.2) else (f_X0_takeUp v1 o4.2).bind fun o7 => (f_X0_cross v2 2 o7).bind fun o9 => (f_X0_judge v2 o9).bind fun o11 => (if v3 = 0 then (if (o11 36 12) = 0 then some (0, o11) else some (1, o11)) else (if v3 = 1 then some ((o11 36 13), o11) else (if v3 = 2 then some ((o11 36 14), o11) else (if v3 = 3 then (if (o11 42 0) = 0 then some (0, o11) else some (1, o11)) else (if v3 = 4 then (if (o11 42 1) = 0 then some (0, o11) else some (1, o11)) else (if v3 = 5 then some ((o11 36 15), o11) else (if v3 = 6 then (f_X0_worth o11).bind fun o23 => some (o23.1, o23.2) else some ((-1000), o11))))))))))

def f_X5_append (v1 : Int32) (M : Mem) : Option (Int32 × Mem) :=
  (if (M 34 1) < 160 then ck (inb (M 34 1) 160) (some (1, (mu (mu M 35 ((M 34 1)).toNatClampNeg v1) 34 1 ((M 34 1) + 1)))) else some (0, M))

def f_X8_feed (v1 : Int32) (M : Mem) : Option (Int32 × Mem) :=
  (if v1 < 0 then some ((-2), M) else (if v1 ≤ 255 then (f_X5_append v1 M).bind fun o3 => (if o3.1 = 0 then some ((-4), o3.2) else some ((o3.2 34 1), o3.2)) else some ((-2), M)))

def f_X7_clear (q0 : Nat) (M : Mem) : Option Mem :=
  ck (kd q0 == 6) (some (mu M q0 2 0))

def f_X5_isLetter (v0 : Int32) (M : Mem) : Option (Int32 × Mem) :=
  (if v0 < 97 then some (0, M) else (if 122 < v0 then some (0, M) else some (1, M)))

def f_X5_isWord_l20 : Nat → Nat → Int32 → Mem → Option (Int32 × Mem)
  | 0, _, _, _ => none
  | n + 1, q1, v2, M => ck (isStr q1) ((if (slen q1) ≤ v2 then some (1, M) else ck (inb ((M 34 4) + v2) 160) (ck (inb v2 (slenN q1)) ((if (M 35 (((M 34 4) + v2)).toNatClampNeg) = (schar q1 (v2).toNatClampNeg) then (f_X5_isWord_l20 n) q1 (v2 + 1) M else some (0, M))))))
def f_X5_isWord (q1 : Nat) (M : Mem) : Option (Int32 × Mem) :=
  ck (isStr q1) ((if ((M 34 2) - (M 34 4)) = (slen q1) then (f_X5_isWord_l20 FU) q1 0 M else some (0, M)))

def f_X7_nameCode (v0 : Int32) (M : Mem) : Option (Int32 × Mem) :=
  some (((-1) - v0), M)

def f_X5_advanceWord_l0 (k39 : Mem → Option Mem) : Nat → Mem → Option Mem
  | 0, _ => none
  | n + 1, M => (if (M 34 1) ≤ (M 34 2) then k39 M else ck (inb (M 34 2) 160) ((f_X5_isLetter (M 35 ((M 34 2)).toNatClampNeg) M).bind fun o3 => (if o3.1 = 0 then k39 o3.2 else (f_X5_advanceWord_l0 k39 n) (mu o3.2 34 2 ((o3.2 34 2) + 1)))))
def f_X5_advanceWord_b39 (M : Mem) : Option Mem :=
  (f_X5_isWord 1000 (mu M 34 3 259)).bind fun o6 => (if o6.1 = 0 then (f_X5_isWord 1001 o6.2).bind fun o9 => (if o9.1 = 0 then (f_X5_isWord 1002 o9.2).bind fun o12 => (if o12.1 = 0 then (f_X5_isWord 1003 o12.2).bind fun o15 => (if o15.1 = 0 then (f_X5_isWord 1004 o15.2).bind fun o18 => (if o18.1 = 0 then (f_X5_isWord 1005 o18.2).bind fun o21 => (if o21.1 = 0 then (f_X5_isWord 1006 o21.2).bind fun o24 => (if o24.1 = 0 then (f_X5_isWord 1007 o24.2).bind fun o27 => (if o27.1 = 0 then (f_X5_isWord 1008 o27.2).bind fun o30 => (if o30.1 = 0 then (f_X5_isWord 1009 o30.2).bind fun o33 => (if o33.1 = 0 then (f_X5_isWord 1010 o33.2).bind fun o36 => (if o36.1 = 0 then (f_X5_isWord 1011 o36.2).bind fun o39 => (if o39.1 = 0 then some (mu o39.2 34 3 257) else some (mu o39.2 34 3 265)) else some (mu o36.2 34 3 264)) else some (mu o33.2 34 3 263)) else some (mu o30.2 34 3 262)) else some (mu o27.2 34 3 261)) else some (mu o24.2 34 3 260)) else (f_X7_nameCode 5 o21.2).bind fun o42 => some (mu o42.2 34 5 o42.1)) else (f_X7_nameCode 4 o18.2).bind fun o44 => some (mu o44.2 34 5 o44.1)) else (f_X7_nameCode 3 o15.2).bind fun o46 => some (mu o46.2 34 5 o46.1)) else (f_X7_nameCode 2 o12.2).bind fun o48 => some (mu o48.2 34 5 o48.1)) else (f_X7_nameCode 1 o9.2).bind fun o50 => some (mu o50.2 34 5 o50.1)) else (f_X7_nameCode 0 o6.2).bind fun o52 => some (mu o52.2 34 5 o52.1))
def f_X5_advanceWord (M : Mem) : Option Mem :=
  (f_X5_advanceWord_l0 f_X5_advanceWord_b39 FU) M

def f_X5_isDigit (v0 : Int32) (M : Mem) : Option (Int32 × Mem) :=
  (if v0 < 48 then some (0, M) else (if 57 < v0 then some (0, M) else some (1, M)))

def f_X5_advanceNumber_b68 (r : Mem → Option Mem) (k81 : Mem → Option Mem) (M : Mem) : Option Mem :=
  r (mu M 34 2 ((M 34 2) + 1))
def f_X5_advanceNumber_l5 (k81 : Mem → Option Mem) : Nat → Mem → Option Mem
  | 0, _ => none
  | n + 1, M => (if (M 34 1) ≤ (M 34 2) then k81 M else ck (inb (M 34 2) 160) ((f_X5_isDigit (M 35 ((M 34 2)).toNatClampNeg) M).bind fun o3 => (if o3.1 = 0 then k81 o3.2 else (if 4 ≤ ((o3.2 34 2) - (o3.2 34 4)) then (f_X5_advanceNumber_b68 (f_X5_advanceNumber_l5 k81 n) k81) o3.2 else ck (inb (o3.2 34 2) 160) ((f_X5_advanceNumber_b68 (f_X5_advanceNumber_l5 k81 n) k81) (mu o3.2 34 5 ((((o3.2 34 5) * 10) + (o3.2 35 ((o3.2 34 2)).toNatClampNeg)) - 48)))))))
def f_X5_advanceNumber_b81 (M : Mem) : Option Mem :=
  (if ((M 34 2) - (M 34 4)) ≤ 4 then some (mu M 34 3 258) else some (mu M 34 3 257))
def f_X5_advanceNumber (M : Mem) : Option Mem :=
  (f_X5_advanceNumber_l5 f_X5_advanceNumber_b81 FU) (mu M 34 5 0)

def f_X5_isSign (v0 : Int32) (M : Mem) : Option (Int32 × Mem) :=
  (if v0 = 40 then some (1, M) else (if v0 = 41 then some (1, M) else (if v0 = 59 then some (1, M) else (if v0 = 43 then some (1, M) else (if v0 = 45 then some (1, M) else (if v0 = 42 then some (1, M) else (if v0 = 60 then some (1, M) else (if v0 = 61 then some (1, M) else some (0, M)))))))))

def f_X5_advance_b39 (r : Mem → Option Mem) (k52 : Mem → Option Mem) (M : Mem) : Option Mem :=
  r (mu M 34 2 ((M 34 2) + 1))
def f_X5_advance_l0 (k52 : Mem → Option Mem) : Nat → Mem → Option Mem
  | 0, _ => none
  | n + 1, M => (if (M 34 1) ≤ (M 34 2) then k52 M else ck (inb (M 34 2) 160) ((if (M 35 ((M 34 2)).toNatClampNeg) = 32 then (f_X5_advance_b39 (f_X5_advance_l0 k52 n) k52) M else (if (M 35 ((M 34 2)).toNatClampNeg) = 10 then (f_X5_advance_b39 (f_X5_advance_l0 k52 n) k52) M else k52 M))))
def f_X5_advance_b156 (s1 : Int32) (M : Mem) : Option Mem :=
  some (mu (mu M 34 3 s1) 34 2 ((M 34 2) + 1))
def f_X5_advance_b52 (M : Mem) : Option Mem :=
  (if (M 34 2) < (M 34 1) then ck (inb (M 34 2) 160) ((f_X5_isLetter (M 35 ((M 34 2)).toNatClampNeg) (mu M 34 4 (M 34 2))).bind fun o7 => (if o7.1 = 0 then ck (inb (o7.2 34 2) 160) ((f_X5_isDigit (o7.2 35 ((o7.2 34 2)).toNatClampNeg) o7.2).bind fun o11 => (if o11.1 = 0 then ck (inb (o11.2 34 2) 160) ((f_X5_isSign (o11.2 35 ((o11.2 34 2)).toNatClampNeg) o11.2).bind fun o15 => (if o15.1 = 0 then f_X5_advance_b156 257 o15.2 else ck (inb (o15.2 34 2) 160) (f_X5_advance_b156 (o15.2 35 ((o15.2 34 2)).toNatClampNeg) o15.2))) else (f_X5_advanceNumber o11.2).bind fun o19 => some o19)) else (f_X5_advanceWord o7.2).bind fun o21 => some o21)) else some (mu (mu M 34 4 (M 34 2)) 34 3 256))
def f_X5_advance (M : Mem) : Option Mem :=
  (f_X5_advance_l0 f_X5_advance_b52 FU) M

def f_X5_fail (M : Mem) : Option Mem :=
  (if (M 34 6) = (-1) then some (mu (mu M 34 6 (M 34 4)) 34 3 257) else some (mu M 34 3 257))

def f_X5_expect (v1 : Int32) (M : Mem) : Option Mem :=
  (if (M 34 3) = v1 then (f_X5_advance M).bind fun o4 => some o4 else (f_X5_fail M).bind fun o2 => some o2)

def f_X7_append (q0 : Nat) (v1 : Int32) (M : Mem) : Option Mem :=
  ck (kd q0 == 6) ((if 160 ≤ (M q0 2) then some M else ck (kd (q0 + 1) == 30) (ck (inb (M q0 2) (ln (q0 + 1))) (some (mu (mu M (q0 + 1) ((M q0 2)).toNatClampNeg v1) q0 2 ((M q0 2) + 1))))))

def f_X5_readEither_l8 (rc_X5_readEither : Nat → Int32 → Mem → Option Mem) (rc_X5_readBoth : Nat → Int32 → Mem → Option Mem) (rc_X5_readNot : Nat → Int32 → Mem → Option Mem) (rc_X5_readSum : Nat → Int32 → Mem → Option Mem) (rc_X5_readTerm : Nat → Int32 → Mem → Option Mem) (rc_X5_readOne : Nat → Int32 → Mem → Option Mem) : Nat → Nat → Int32 → Int32 → Mem → Option Mem
  | 0, _, _, _, _ => none
  | n + 1, q1, v2, v3, M => (if 160 ≤ v3 then some M else (if (M 34 3) = 263 then (f_X5_advance M).bind fun o5 => (rc_X5_readBoth q1 v2 o5).bind fun o7 => (f_X7_append q1 (-7) o7).bind fun o9 => ck (kd q1 == 6) ((f_X5_readEither_l8 rc_X5_readEither rc_X5_readBoth rc_X5_readNot rc_X5_readSum rc_X5_readTerm rc_X5_readOne n) q1 v2 (v3 + 1) o9) else some M))
def f_X5_readEither_b (rc_X5_readEither : Nat → Int32 → Mem → Option Mem) (rc_X5_readBoth : Nat → Int32 → Mem → Option Mem) (rc_X5_readNot : Nat → Int32 → Mem → Option Mem) (rc_X5_readSum : Nat → Int32 → Mem → Option Mem) (rc_X5_readTerm : Nat → Int32 → Mem → Option Mem) (rc_X5_readOne : Nat → Int32 → Mem → Option Mem) (q1 : Nat) (v2 : Int32) (M : Mem) : Option Mem :=
  (rc_X5_readBoth q1 v2 M).bind fun o1 => (f_X5_readEither_l8 rc_X5_readEither rc_X5_readBoth rc_X5_readNot rc_X5_readSum rc_X5_readTerm rc_X5_readOne FU) q1 v2 0 o1
def f_X5_readBoth_l8 (rc_X5_readEither : Nat → Int32 → Mem → Option Mem) (rc_X5_readBoth : Nat → Int32 → Mem → Option Mem) (rc_X5_readNot : Nat → Int32 → Mem → Option Mem) (rc_X5_readSum : Nat → Int32 → Mem → Option Mem) (rc_X5_readTerm : Nat → Int32 → Mem → Option Mem) (rc_X5_readOne : Nat → Int32 → Mem → Option Mem) : Nat → Nat → Int32 → Int32 → Mem → Option Mem
  | 0, _, _, _, _ => none
  | n + 1, q1, v2, v3, M => (if 160 ≤ v3 then some M else (if (M 34 3) = 264 then (f_X5_advance M).bind fun o5 => (rc_X5_readNot q1 v2 o5).bind fun o7 => (f_X7_append q1 (-8) o7).bind fun o9 => ck (kd q1 == 6) ((f_X5_readBoth_l8 rc_X5_readEither rc_X5_readBoth rc_X5_readNot rc_X5_readSum rc_X5_readTerm rc_X5_readOne n) q1 v2 (v3 + 1) o9) else some M))
def f_X5_readBoth_b (rc_X5_readEither : Nat → Int32 → Mem → Option Mem) (rc_X5_readBoth : Nat → Int32 → Mem → Option Mem) (rc_X5_readNot : Nat → Int32 → Mem → Option Mem) (rc_X5_readSum : Nat → Int32 → Mem → Option Mem) (rc_X5_readTerm : Nat → Int32 → Mem → Option Mem) (rc_X5_readOne : Nat → Int32 → Mem → Option Mem) (q1 : Nat) (v2 : Int32) (M : Mem) : Option Mem :=
  (rc_X5_readNot q1 v2 M).bind fun o1 => (f_X5_readBoth_l8 rc_X5_readEither rc_X5_readBoth rc_X5_readNot rc_X5_readSum rc_X5_readTerm rc_X5_readOne FU) q1 v2 0 o1
def f_X5_readNot_b79 (rc_X5_readEither : Nat → Int32 → Mem → Option Mem) (rc_X5_readBoth : Nat → Int32 → Mem → Option Mem) (rc_X5_readNot : Nat → Int32 → Mem → Option Mem) (rc_X5_readSum : Nat → Int32 → Mem → Option Mem) (rc_X5_readTerm : Nat → Int32 → Mem → Option Mem) (rc_X5_readOne : Nat → Int32 → Mem → Option Mem) (q1 : Nat) (v2 : Int32) (s0 : Int32) (M : Mem) : Option Mem :=
  (f_X5_advance M).bind fun o17 => (rc_X5_readSum q1 v2 o17).bind fun o19 => (f_X7_append q1 s0 o19).bind fun o21 => ck (kd q1 == 6) (some o21)
def f_X5_readNot_b63 (rc_X5_readEither : Nat → Int32 → Mem → Option Mem) (rc_X5_readBoth : Nat → Int32 → Mem → Option Mem) (rc_X5_readNot : Nat → Int32 → Mem → Option Mem) (rc_X5_readSum : Nat → Int32 → Mem → Option Mem) (rc_X5_readTerm : Nat → Int32 → Mem → Option Mem) (rc_X5_readOne : Nat → Int32 → Mem → Option Mem) (q1 : Nat) (v2 : Int32) (M : Mem) : Option Mem :=
  (if (M 34 3) = 60 then (f_X5_readNot_b79 rc_X5_readEither rc_X5_readBoth rc_X5_readNot rc_X5_readSum rc_X5_readTerm rc_X5_readOne) q1 v2 (-10) M else (f_X5_readNot_b79 rc_X5_readEither rc_X5_readBoth rc_X5_readNot rc_X5_readSum rc_X5_readTerm rc_X5_readOne) q1 v2 (-11) M)
def f_X5_readNot_b (rc_X5_readEither : Nat → Int32 → Mem → Option Mem) (rc_X5_readBoth : Nat → Int32 → Mem → Option Mem) (rc_X5_readNot : Nat → Int32 → Mem → Option Mem) (rc_X5_readSum : Nat → Int32 → Mem → Option Mem) (rc_X5_readTerm : Nat → Int32 → Mem → Option Mem) (rc_X5_readOne : Nat → Int32 → Mem → Option Mem) (q1 : Nat) (v2 : Int32) (M : Mem) : Option Mem :=
  (if (M 34 3) = 265 then (if v2 < 5 then (f_X5_advance M).bind fun o7 => (rc_X5_readNot q1 (v2 + 1) o7).bind fun o9 => (f_X7_append q1 (-9) o9).bind fun o11 => ck (kd q1 == 6) (some o11) else (f_X5_fail M).bind fun o14 => some o14) else (rc_X5_readSum q1 v2 M).bind fun o2 => (if (o2 34 3) = 60 then (f_X5_readNot_b63 rc_X5_readEither rc_X5_readBoth rc_X5_readNot rc_X5_readSum rc_X5_readTerm rc_X5_readOne) q1 v2 o2 else (if (o2 34 3) = 61 then (f_X5_readNot_b63 rc_X5_readEither rc_X5_readBoth rc_X5_readNot rc_X5_readSum rc_X5_readTerm rc_X5_readOne) q1 v2 o2 else some o2)))
def f_X5_readSum_b49 (rc_X5_readEither : Nat → Int32 → Mem → Option Mem) (rc_X5_readBoth : Nat → Int32 → Mem → Option Mem) (rc_X5_readNot : Nat → Int32 → Mem → Option Mem) (rc_X5_readSum : Nat → Int32 → Mem → Option Mem) (rc_X5_readTerm : Nat → Int32 → Mem → Option Mem) (rc_X5_readOne : Nat → Int32 → Mem → Option Mem) (r : Nat → Int32 → Int32 → Mem → Option Mem) (q1 : Nat) (v2 : Int32) (v3 : Int32) (s0 : Int32) (M : Mem) : Option Mem :=
  (f_X5_advance M).bind fun o7 => (rc_X5_readTerm q1 v2 o7).bind fun o9 => (f_X7_append q1 s0 o9).bind fun o11 => ck (kd q1 == 6) (r q1 v2 (v3 + 1) o11)
def f_X5_readSum_b33 (rc_X5_readEither : Nat → Int32 → Mem → Option Mem) (rc_X5_readBoth : Nat → Int32 → Mem → Option Mem) (rc_X5_readNot : Nat → Int32 → Mem → Option Mem) (rc_X5_readSum : Nat → Int32 → Mem → Option Mem) (rc_X5_readTerm : Nat → Int32 → Mem → Option Mem) (rc_X5_readOne : Nat → Int32 → Mem → Option Mem) (r : Nat → Int32 → Int32 → Mem → Option Mem) (q1 : Nat) (v2 : Int32) (v3 : Int32) (M : Mem) : Option Mem :=
  (if (M 34 3) = 43 then (f_X5_readSum_b49 rc_X5_readEither rc_X5_readBoth rc_X5_readNot rc_X5_readSum rc_X5_readTerm rc_X5_readOne r) q1 v2 v3 (-12) M else (f_X5_readSum_b49 rc_X5_readEither rc_X5_readBoth rc_X5_readNot rc_X5_readSum rc_X5_readTerm rc_X5_readOne r) q1 v2 v3 (-13) M)
def f_X5_readSum_l8 (rc_X5_readEither : Nat → Int32 → Mem → Option Mem) (rc_X5_readBoth : Nat → Int32 → Mem → Option Mem) (rc_X5_readNot : Nat → Int32 → Mem → Option Mem) (rc_X5_readSum : Nat → Int32 → Mem → Option Mem) (rc_X5_readTerm : Nat → Int32 → Mem → Option Mem) (rc_X5_readOne : Nat → Int32 → Mem → Option Mem) : Nat → Nat → Int32 → Int32 → Mem → Option Mem
  | 0, _, _, _, _ => none
  | n + 1, q1, v2, v3, M => (if 160 ≤ v3 then some M else (if (M 34 3) = 43 then (f_X5_readSum_b33 rc_X5_readEither rc_X5_readBoth rc_X5_readNot rc_X5_readSum rc_X5_readTerm rc_X5_readOne (f_X5_readSum_l8 rc_X5_readEither rc_X5_readBoth rc_X5_readNot rc_X5_readSum rc_X5_readTerm rc_X5_readOne n)) q1 v2 v3 M else (if (M 34 3) = 45 then (f_X5_readSum_b33 rc_X5_readEither rc_X5_readBoth rc_X5_readNot rc_X5_readSum rc_X5_readTerm rc_X5_readOne (f_X5_readSum_l8 rc_X5_readEither rc_X5_readBoth rc_X5_readNot rc_X5_readSum rc_X5_readTerm rc_X5_readOne n)) q1 v2 v3 M else some M)))
def f_X5_readSum_b (rc_X5_readEither : Nat → Int32 → Mem → Option Mem) (rc_X5_readBoth : Nat → Int32 → Mem → Option Mem) (rc_X5_readNot : Nat → Int32 → Mem → Option Mem) (rc_X5_readSum : Nat → Int32 → Mem → Option Mem) (rc_X5_readTerm : Nat → Int32 → Mem → Option Mem) (rc_X5_readOne : Nat → Int32 → Mem → Option Mem) (q1 : Nat) (v2 : Int32) (M : Mem) : Option Mem :=
  (rc_X5_readTerm q1 v2 M).bind fun o1 => (f_X5_readSum_l8 rc_X5_readEither rc_X5_readBoth rc_X5_readNot rc_X5_readSum rc_X5_readTerm rc_X5_readOne FU) q1 v2 0 o1
def f_X5_readTerm_l8 (rc_X5_readEither : Nat → Int32 → Mem → Option Mem) (rc_X5_readBoth : Nat → Int32 → Mem → Option Mem) (rc_X5_readNot : Nat → Int32 → Mem → Option Mem) (rc_X5_readSum : Nat → Int32 → Mem → Option Mem) (rc_X5_readTerm : Nat → Int32 → Mem → Option Mem) (rc_X5_readOne : Nat → Int32 → Mem → Option Mem) : Nat → Nat → Int32 → Int32 → Mem → Option Mem
  | 0, _, _, _, _ => none
  | n + 1, q1, v2, v3, M => (if 160 ≤ v3 then some M else (if (M 34 3) = 42 then (f_X5_advance M).bind fun o5 => (rc_X5_readOne q1 v2 o5).bind fun o7 => (f_X7_append q1 (-14) o7).bind fun o9 => ck (kd q1 == 6) ((f_X5_readTerm_l8 rc_X5_readEither rc_X5_readBoth rc_X5_readNot rc_X5_readSum rc_X5_readTerm rc_X5_readOne n) q1 v2 (v3 + 1) o9) else some M))
def f_X5_readTerm_b (rc_X5_readEither : Nat → Int32 → Mem → Option Mem) (rc_X5_readBoth : Nat → Int32 → Mem → Option Mem) (rc_X5_readNot : Nat → Int32 → Mem → Option Mem) (rc_X5_readSum : Nat → Int32 → Mem → Option Mem) (rc_X5_readTerm : Nat → Int32 → Mem → Option Mem) (rc_X5_readOne : Nat → Int32 → Mem → Option Mem) (q1 : Nat) (v2 : Int32) (M : Mem) : Option Mem :=
  (rc_X5_readOne q1 v2 M).bind fun o1 => (f_X5_readTerm_l8 rc_X5_readEither rc_X5_readBoth rc_X5_readNot rc_X5_readSum rc_X5_readTerm rc_X5_readOne FU) q1 v2 0 o1
def f_X5_readOne_b20 (rc_X5_readEither : Nat → Int32 → Mem → Option Mem) (rc_X5_readBoth : Nat → Int32 → Mem → Option Mem) (rc_X5_readNot : Nat → Int32 → Mem → Option Mem) (rc_X5_readSum : Nat → Int32 → Mem → Option Mem) (rc_X5_readTerm : Nat → Int32 → Mem → Option Mem) (rc_X5_readOne : Nat → Int32 → Mem → Option Mem) (q1 : Nat) (M : Mem) : Option Mem :=
  (f_X7_append q1 (M 34 5) M).bind fun o5 => ck (kd q1 == 6) ((f_X5_advance o5).bind fun o8 => some o8)
def f_X5_readOne_b66 (rc_X5_readEither : Nat → Int32 → Mem → Option Mem) (rc_X5_readBoth : Nat → Int32 → Mem → Option Mem) (rc_X5_readNot : Nat → Int32 → Mem → Option Mem) (rc_X5_readSum : Nat → Int32 → Mem → Option Mem) (rc_X5_readTerm : Nat → Int32 → Mem → Option Mem) (rc_X5_readOne : Nat → Int32 → Mem → Option Mem) (M : Mem) : Option Mem :=
  (f_X5_fail M).bind fun o13 => some o13
def f_X5_readOne_b85 (rc_X5_readEither : Nat → Int32 → Mem → Option Mem) (rc_X5_readBoth : Nat → Int32 → Mem → Option Mem) (rc_X5_readNot : Nat → Int32 → Mem → Option Mem) (rc_X5_readSum : Nat → Int32 → Mem → Option Mem) (rc_X5_readTerm : Nat → Int32 → Mem → Option Mem) (rc_X5_readOne : Nat → Int32 → Mem → Option Mem) (q1 : Nat) (v2 : Int32) (s0 : Int32) (M : Mem) : Option Mem :=
  (f_X5_advance M).bind fun o15 => (if s0 = 0 then (rc_X5_readEither q1 (v2 + 1) o15).bind fun o18 => (f_X5_expect 41 o18).bind fun o20 => some o20 else (rc_X5_readOne q1 (v2 + 1) o15).bind fun o22 => (f_X7_append q1 (-15) o22).bind fun o24 => ck (kd q1 == 6) (some o24))
def f_X5_readOne_b56 (rc_X5_readEither : Nat → Int32 → Mem → Option Mem) (rc_X5_readBoth : Nat → Int32 → Mem → Option Mem) (rc_X5_readNot : Nat → Int32 → Mem → Option Mem) (rc_X5_readSum : Nat → Int32 → Mem → Option Mem) (rc_X5_readTerm : Nat → Int32 → Mem → Option Mem) (rc_X5_readOne : Nat → Int32 → Mem → Option Mem) (q1 : Nat) (v2 : Int32) (s0 : Int32) (M : Mem) : Option Mem :=
  (if s0 = 0 then (f_X5_readOne_b66 rc_X5_readEither rc_X5_readBoth rc_X5_readNot rc_X5_readSum rc_X5_readTerm rc_X5_readOne) M else (if v2 < 5 then (if (M 34 3) = 45 then (f_X5_readOne_b85 rc_X5_readEither rc_X5_readBoth rc_X5_readNot rc_X5_readSum rc_X5_readTerm rc_X5_readOne) q1 v2 1 M else (f_X5_readOne_b85 rc_X5_readEither rc_X5_readBoth rc_X5_readNot rc_X5_readSum rc_X5_readTerm rc_X5_readOne) q1 v2 0 M) else (f_X5_readOne_b66 rc_X5_readEither rc_X5_readBoth rc_X5_readNot rc_X5_readSum rc_X5_readTerm rc_X5_readOne) M))
def f_X5_readOne_b51 (rc_X5_readEither : Nat → Int32 → Mem → Option Mem) (rc_X5_readBoth : Nat → Int32 → Mem → Option Mem) (rc_X5_readNot : Nat → Int32 → Mem → Option Mem) (rc_X5_readSum : Nat → Int32 → Mem → Option Mem) (rc_X5_readTerm : Nat → Int32 → Mem → Option Mem) (rc_X5_readOne : Nat → Int32 → Mem → Option Mem) (q1 : Nat) (v2 : Int32) (M : Mem) : Option Mem :=
  (f_X5_readOne_b56 rc_X5_readEither rc_X5_readBoth rc_X5_readNot rc_X5_readSum rc_X5_readTerm rc_X5_readOne) q1 v2 1 M
def f_X5_readOne_b (rc_X5_readEither : Nat → Int32 → Mem → Option Mem) (rc_X5_readBoth : Nat → Int32 → Mem → Option Mem) (rc_X5_readNot : Nat → Int32 → Mem → Option Mem) (rc_X5_readSum : Nat → Int32 → Mem → Option Mem) (rc_X5_readTerm : Nat → Int32 → Mem → Option Mem) (rc_X5_readOne : Nat → Int32 → Mem → Option Mem) (q1 : Nat) (v2 : Int32) (M : Mem) : Option Mem :=
  (if (M 34 3) = 258 then (f_X5_readOne_b20 rc_X5_readEither rc_X5_readBoth rc_X5_readNot rc_X5_readSum rc_X5_readTerm rc_X5_readOne) q1 M else (if (M 34 3) = 259 then (f_X5_readOne_b20 rc_X5_readEither rc_X5_readBoth rc_X5_readNot rc_X5_readSum rc_X5_readTerm rc_X5_readOne) q1 M else (if (M 34 3) = 45 then (f_X5_readOne_b51 rc_X5_readEither rc_X5_readBoth rc_X5_readNot rc_X5_readSum rc_X5_readTerm rc_X5_readOne) q1 v2 M else (if (M 34 3) = 40 then (f_X5_readOne_b51 rc_X5_readEither rc_X5_readBoth rc_X5_readNot rc_X5_readSum rc_X5_readTerm rc_X5_readOne) q1 v2 M else (f_X5_readOne_b56 rc_X5_readEither rc_X5_readBoth rc_X5_readNot rc_X5_readSum rc_X5_readTerm rc_X5_readOne) q1 v2 0 M))))
def G_X5_readEither : Nat → (Nat → Int32 → Mem → Option Mem) × (Nat → Int32 → Mem → Option Mem) × (Nat → Int32 → Mem → Option Mem) × (Nat → Int32 → Mem → Option Mem) × (Nat → Int32 → Mem → Option Mem) × (Nat → Int32 → Mem → Option Mem)
  | 0 => (fun _ _ _ => none, fun _ _ _ => none, fun _ _ _ => none, fun _ _ _ => none, fun _ _ _ => none, fun _ _ _ => none)
  | d + 1 => let g := G_X5_readEither d; (f_X5_readEither_b g.1 g.2.1 g.2.2.1 g.2.2.2.1 g.2.2.2.2.1 g.2.2.2.2.2, f_X5_readBoth_b g.1 g.2.1 g.2.2.1 g.2.2.2.1 g.2.2.2.2.1 g.2.2.2.2.2, f_X5_readNot_b g.1 g.2.1 g.2.2.1 g.2.2.2.1 g.2.2.2.2.1 g.2.2.2.2.2, f_X5_readSum_b g.1 g.2.1 g.2.2.1 g.2.2.2.1 g.2.2.2.2.1 g.2.2.2.2.2, f_X5_readTerm_b g.1 g.2.1 g.2.2.1 g.2.2.2.1 g.2.2.2.2.1 g.2.2.2.2.2, f_X5_readOne_b g.1 g.2.1 g.2.2.1 g.2.2.2.1 g.2.2.2.2.1 g.2.2.2.2.2)
def f_X5_readEither (d : Nat) : Nat → Int32 → Mem → Option Mem := (G_X5_readEither d).1
def f_X5_readBoth (d : Nat) : Nat → Int32 → Mem → Option Mem := (G_X5_readEither d).2.1
def f_X5_readNot (d : Nat) : Nat → Int32 → Mem → Option Mem := (G_X5_readEither d).2.2.1
def f_X5_readSum (d : Nat) : Nat → Int32 → Mem → Option Mem := (G_X5_readEither d).2.2.2.1
def f_X5_readTerm (d : Nat) : Nat → Int32 → Mem → Option Mem := (G_X5_readEither d).2.2.2.2.1
def f_X5_readOne (d : Nat) : Nat → Int32 → Mem → Option Mem := (G_X5_readEither d).2.2.2.2.2

def f_X7_endSection (q0 : Nat) (v1 : Int32) (M : Mem) : Option Mem :=
  ck (kd q0 == 6) (ck (kd (q0 + 2) == 30) (ck (inb v1 (ln (q0 + 2))) (some (mu M (q0 + 2) (v1).toNatClampNeg (M q0 2)))))

def f_X5_readInto_l20 (k57 : Mem → Option (Int32 × Mem)) : Nat → Nat → Int32 → Mem → Option (Int32 × Mem)
  | 0, _, _, _ => none
  | n + 1, q1, v2, M => (if 3 ≤ v2 then k57 M else (f_X5_expect (260 + v2) M).bind fun o7 => (f_X5_readEither DP q1 0 o7).bind fun o9 => (f_X5_expect 59 o9).bind fun o11 => (f_X7_endSection q1 v2 o11).bind fun o13 => ck (kd q1 == 6) ((f_X5_readInto_l20 k57 n) q1 (v2 + 1) o13))
def f_X5_readInto_b71 (M : Mem) : Option (Int32 × Mem) :=
  some ((M 34 6), (mu M 34 1 0))
def f_X5_readInto_b57 (M : Mem) : Option (Int32 × Mem) :=
  (if (M 34 3) = 256 then f_X5_readInto_b71 M else (f_X5_fail M).bind fun o17 => f_X5_readInto_b71 o17)
def f_X5_readInto (q1 : Nat) (M : Mem) : Option (Int32 × Mem) :=
  (f_X7_clear q1 M).bind fun o1 => ck (kd q1 == 6) ((f_X5_advance (mu (mu o1 34 2 0) 34 6 (-1))).bind fun o4 => (f_X5_readInto_l20 f_X5_readInto_b57 FU) q1 0 o4)

def f_X8_text (M : Mem) : Option (Int32 × Mem) :=
  (if (M 0 4) < 6 then ck (inb (M 0 4) 6) ((f_X5_readInto (16 + 3 * ((M 0 4)).toNatClampNeg) M).bind fun o3 => (if o3.1 = (-1) then some ((((o3.2 0 4) + 1) - 1), (mu o3.2 0 4 ((o3.2 0 4) + 1))) else some (((-100) - o3.1), o3.2))) else some ((-4), M))

def f_X8_force (v1 : Int32) (M : Mem) : Option (Int32 × Mem) :=
  (if v1 < 0 then some ((-2), M) else (if v1 < (M 0 4) then some ((M 1 8), (mu M 1 8 v1)) else some ((-2), M)))

def f_X0_isCooked (v1 : Int32) (q2 : Nat) (M : Mem) : Option (Int32 × Mem) :=
  (f_X0_cross v1 q2 M).bind fun o1 => (if (o1 36 12) = 0 then some (0, o1) else (f_X0_judge v1 o1).bind fun o4 => (if (o4 42 0) = 0 then some (0, o4) else (if (o4 42 1) = 0 then some (0, o4) else some (1, o4))))

def f_X0_useUp_l16 : Nat → Nat → Int32 → Int32 → Int32 → Mem → Option Mem
  | 0, _, _, _, _, _ => none
  | n + 1, q2, v3, v4, v5, M => (if 6 ≤ v5 then some M else ck (kd q2 == 10) (ck (inb (v3 + v5) (ln q2)) (ck (inb v5 6) (ck (inb (v4 + v5) (ln q2)) ((f_X0_useUp_l16 n) q2 v3 v4 (v5 + 1) (mu (mu M q2 ((v3 + v5)).toNatClampNeg ((M q2 ((v3 + v5)).toNatClampNeg) - ((M 38 (v5).toNatClampNeg) - (M 41 (v5).toNatClampNeg)))) q2 ((v4 + v5)).toNatClampNeg (((mu M q2 ((v3 + v5)).toNatClampNeg ((M q2 ((v3 + v5)).toNatClampNeg) - ((M 38 (v5).toNatClampNeg) - (M 41 (v5).toNatClampNeg)))) q2 ((v4 + v5)).toNatClampNeg) - ((mu M q2 ((v3 + v5)).toNatClampNeg ((M q2 ((v3 + v5)).toNatClampNeg) - ((M 38 (v5).toNatClampNeg) - (M 41 (v5).toNatClampNeg)))) 41 (v5).toNatClampNeg))))))))
def f_X0_useUp (v1 : Int32) (q2 : Nat) (M : Mem) : Option Mem :=
  (f_X0_useUp_l16 FU) q2 (v1 * 6) ((1 - v1) * 6) 0 M

def f_X1_countCooked (v1 : Int32) (M : Mem) : Option Mem :=
  ck (inb v1 6) (some (mu M 7 (v1).toNatClampNeg (jmin 999 ((M 7 (v1).toNatClampNeg) + 1))))

def f_X8_cook (v1 : Int32) (v2 : Int32) (M : Mem) : Option (Int32 × Mem) :=
  (f_X1_hasDish v1 M).bind fun o1 => (if o1.1 = 0 then some ((-1000), o1.2) else (f_X8_isKitchen v2 o1.2).bind fun o4 => (if o4.1 = 0 then some ((-1000), o4.2) else (f_X0_takeUp v1 o4.2).bind fun o7 => (f_X0_isCooked v2 2 o7).bind fun o9 => (if o9.1 = 0 then (if (o9.2 36 12) = 0 then some ((-1001), o9.2) else some ((-1002), o9.2)) else (f_X0_useUp v2 2 o9.2).bind fun o12 => (f_X1_countCooked v1 o12).bind fun o14 => (f_X0_worth o14).bind fun o16 => some (o16.1, o16.2))))

def f_X8_isMenu_b67 (r : Int32 → Int32 → Mem → Option (Int32 × Mem)) (v1 : Int32) (v2 : Int32) (s0 : Int32) (s1 : Int32) (M : Mem) : Option (Int32 × Mem) :=
  (if s0 ≤ s1 then r v1 (v2 + 1) M else some (0, M))
def f_X8_isMenu_b54 (r : Int32 → Int32 → Mem → Option (Int32 × Mem)) (v1 : Int32) (v2 : Int32) (v3 : Int32) (s0 : Int32) (M : Mem) : Option (Int32 × Mem) :=
  (if s0 = 0 then (f_X8_isMenu_b67 r) v1 v2 v3 0 M else (f_X8_isMenu_b67 r) v1 v2 v3 2 M)
def f_X8_isMenu_l14 : Nat → Int32 → Int32 → Mem → Option (Int32 × Mem)
  | 0, _, _, _ => none
  | n + 1, v1, v2, M => (if 6 ≤ v2 then some (1, M) else ck (inb v2 6) (ck (!((stv 2000 (v2).toNatClampNeg) == 0)) ((if v2 < (6 - (M 1 6)) then (f_X8_isMenu_b54 (f_X8_isMenu_l14 n)) v1 v2 (jrem (v1 / (stv 2000 (v2).toNatClampNeg)) 10) 0 M else (f_X8_isMenu_b54 (f_X8_isMenu_l14 n)) v1 v2 (jrem (v1 / (stv 2000 (v2).toNatClampNeg)) 10) 1 M))))
def f_X8_isMenu (v1 : Int32) (M : Mem) : Option (Int32 × Mem) :=
  (if v1 < 0 then some (0, M) else (if v1 ≤ 999999 then (f_X8_isMenu_l14 FU) v1 0 M else some (0, M)))

def f_X4_begin (M : Mem) : Option Mem :=
  some (mu (mu (mu (mu (mcp M 2 0 44 0 12) 43 3 0) 43 4 0) 43 5 0) 43 6 (-1))

def f_X1_kitchenBy (v1 : Int32) (v2 : Int32) (M : Mem) : Option (Int32 × Mem) :=
  ck (inb ((6 - (M 1 6)) + v2) 6) (ck (!((stv 2000 (((6 - (M 1 6)) + v2)).toNatClampNeg) == 0)) (some (((jrem (v1 / (stv 2000 (((6 - (M 1 6)) + v2)).toNatClampNeg)) 10) - 1), M)))

def f_X4_goOn_b77 (s1 : Int32) (s2 : Int32) (M : Mem) : Option (Int32 × Mem) :=
  some (1, (mu (mu M 43 4 (s1 + s2)) 43 5 ((M 43 5) + (M 36 14))))
def f_X4_goOn (v1 : Int32) (v2 : Int32) (M : Mem) : Option (Int32 × Mem) :=
  (f_X0_takeUp v1 M).bind fun o1 => (f_X0_isCooked v2 44 o1).bind fun o3 => (if o3.1 = 0 then some (0, o3.2) else (f_X0_useUp v2 44 o3.2).bind fun o6 => (if v2 = 0 then f_X4_goOn_b77 (o6 43 4) (o6 36 15) (mu o6 43 3 ((o6 43 3) + (o6 36 15))) else f_X4_goOn_b77 (o6 43 4) 0 (mu o6 43 3 ((o6 43 3) + (o6 36 15)))))

def f_X4_play_b54 (r : Int32 → Int32 → Mem → Option Mem) (v1 : Int32) (v2 : Int32) (M : Mem) : Option Mem :=
  r v1 (v2 + 1) M
def f_X4_play_l6 : Nat → Int32 → Int32 → Mem → Option Mem
  | 0, _, _, _ => none
  | n + 1, v1, v2, M => (if (M 1 6) ≤ v2 then some M else (if (M 43 6) = (-1) then (f_X1_kitchenBy v1 v2 M).bind fun o5 => (if o5.1 = (-1) then (f_X4_play_b54 (f_X4_play_l6 n)) v1 v2 o5.2 else (f_X4_goOn v2 o5.1 o5.2).bind fun o8 => (if o8.1 = 0 then (f_X4_play_b54 (f_X4_play_l6 n)) v1 v2 (mu o8.2 43 6 v2) else (f_X4_play_b54 (f_X4_play_l6 n)) v1 v2 o8.2)) else some M))
def f_X4_play (v1 : Int32) (M : Mem) : Option Mem :=
  (f_X4_begin M).bind fun o1 => (f_X4_play_l6 FU) v1 0 o1

def f_X8_menu_b44 (v2 : Int32) (s0 : Int32) (M : Mem) : Option (Int32 × Mem) :=
  (if v2 = 0 then (if s0 = 0 then some (0, M) else some (1, M)) else (if v2 = 1 then (if s0 = 0 then some ((-100000), M) else some (((M 43 3) - (M 43 5)), M)) else (if v2 = 2 then (if s0 = 0 then some ((-100000), M) else some ((M 43 3), M)) else (if v2 = 3 then (if s0 = 0 then some ((-100000), M) else some ((M 43 5), M)) else some ((M 43 6), M)))))
def f_X8_menu (v1 : Int32) (v2 : Int32) (M : Mem) : Option (Int32 × Mem) :=
  (f_X8_isMenu v1 M).bind fun o1 => (if o1.1 = 0 then some ((-2), o1.2) else (if v2 < 0 then some ((-2), o1.2) else (if v2 ≤ 4 then (f_X4_play v1 o1.2).bind fun o6 => (if (o6 43 6) = (-1) then f_X8_menu_b44 v2 1 o6 else f_X8_menu_b44 v2 0 o6) else some ((-2), o1.2))))

def f_X8_serve_b104 (r : Int32 → Int32 → Mem → Option (Int32 × Mem)) (k110 : Mem → Option (Int32 × Mem)) (v1 : Int32) (v2 : Int32) (M : Mem) : Option (Int32 × Mem) :=
  r v1 (v2 + 1) M
def f_X8_serve_l72 (k110 : Mem → Option (Int32 × Mem)) : Nat → Int32 → Int32 → Mem → Option (Int32 × Mem)
  | 0, _, _, _ => none
  | n + 1, v1, v2, M => (if (M 1 6) ≤ v2 then k110 M else (f_X1_kitchenBy v1 v2 M).bind fun o9 => (if o9.1 = (-1) then (f_X8_serve_b104 (f_X8_serve_l72 k110 n) k110) v1 v2 o9.2 else (f_X1_countCooked v2 o9.2).bind fun o12 => (f_X8_serve_b104 (f_X8_serve_l72 k110 n) k110) v1 v2 o12))
def f_X8_serve_b110 (M : Mem) : Option (Int32 × Mem) :=
  some (((M 43 3) - (M 43 5)), (mu M 1 7 ((M 1 7) + 1)))
def f_X8_serve (v1 : Int32) (M : Mem) : Option (Int32 × Mem) :=
  (f_X8_isMenu v1 M).bind fun o1 => (if o1.1 = 0 then some ((-100001), o1.2) else (f_X4_play v1 o1.2).bind fun o4 => (if (o4 43 6) = (-1) then (if (o4 1 7) < 999 then (f_X8_serve_l72 f_X8_serve_b110 FU) v1 0 (mcp o4 44 0 2 0 12) else some ((-100003), o4)) else some ((-100002), o4)))

def f_X3_weigh_b66 (v1 : Int32) (v3 : Int32) (v4 : Int32) (M : Mem) : Option Mem :=
  some (mu (mu (mu M 45 8 v1) 45 9 v3) 45 10 v4)
def f_X3_weigh_b40 (v1 : Int32) (v3 : Int32) (v4 : Int32) (M : Mem) : Option Mem :=
  (if (M 45 10) < v4 then f_X3_weigh_b66 v1 v3 v4 M else (if v4 = (M 45 10) then (if (M 45 9) ≤ v3 then some M else f_X3_weigh_b66 v1 v3 v4 M) else some M))
def f_X3_weigh_b22 (v1 : Int32) (v2 : Int32) (v3 : Int32) (v4 : Int32) (M : Mem) : Option Mem :=
  (if v2 ≤ (M 45 7) then f_X3_weigh_b40 v1 v3 v4 M else f_X3_weigh_b40 v1 v3 v4 (mu (mu M 45 6 v1) 45 7 v2))
def f_X3_weigh (v1 : Int32) (v2 : Int32) (v3 : Int32) (v4 : Int32) (M : Mem) : Option Mem :=
  (if (v2 - v3) ≤ (M 45 5) then f_X3_weigh_b22 v1 v2 v3 v4 M else f_X3_weigh_b22 v1 v2 v3 v4 (mu (mu M 45 4 v1) 45 5 (v2 - v3)))

def f_X3_goThrough_b17 (rc_X3_goThrough : Int32 → Int32 → Int32 → Int32 → Int32 → Mem → Option Mem) (v2 : Int32) (v3 : Int32) (v4 : Int32) (v5 : Int32) (M : Mem) : Option Mem :=
  (f_X3_weigh v2 v3 v4 v5 M).bind fun o11 => some o11
def f_X3_goThrough_b190 (rc_X3_goThrough : Int32 → Int32 → Int32 → Int32 → Int32 → Mem → Option Mem) (r : Int32 → Int32 → Int32 → Int32 → Int32 → Int32 → Mem → Option Mem) (v1 : Int32) (v2 : Int32) (v3 : Int32) (v4 : Int32) (v5 : Int32) (v6 : Int32) (M : Mem) : Option Mem :=
  r v1 v2 v3 v4 v5 (v6 + 1) M
def f_X3_goThrough_l77 (rc_X3_goThrough : Int32 → Int32 → Int32 → Int32 → Int32 → Mem → Option Mem) : Nat → Int32 → Int32 → Int32 → Int32 → Int32 → Int32 → Mem → Option Mem
  | 0, _, _, _, _, _, _, _ => none
  | n + 1, v1, v2, v3, v4, v5, v6, M => (if 2 ≤ v6 then some M else (f_X0_takeUp v1 M).bind fun o14 => ck (inb v1 7) ((f_X0_isCooked v6 (47 + (v1).toNatClampNeg) o14).bind fun o17 => (if o17.1 = 0 then (f_X3_goThrough_b190 rc_X3_goThrough (f_X3_goThrough_l77 rc_X3_goThrough n)) v1 v2 v3 v4 v5 v6 o17.2 else ck (inb (v1 + 1) 7) (ck (kd (47 + (v1).toNatClampNeg) == 10) (ck (kd (47 + ((v1 + 1)).toNatClampNeg) == 10) (ck (cpk 0 (ln (47 + (v1).toNatClampNeg)) 0 (ln (47 + ((v1 + 1)).toNatClampNeg)) 12) ((f_X0_useUp v6 (47 + ((v1 + 1)).toNatClampNeg) (mcp o17.2 (47 + (v1).toNatClampNeg) 0 (47 + ((v1 + 1)).toNatClampNeg) 0 12)).bind fun o24 => (rc_X3_goThrough (v1 + 1) (((v2 * 10) + v6) + 1) (v3 + (o24 36 15)) (v4 + (o24 36 14)) (v5 + 1) o24).bind fun o26 => (f_X3_goThrough_b190 rc_X3_goThrough (f_X3_goThrough_l77 rc_X3_goThrough n)) v1 v2 v3 v4 v5 v6 o26)))))))
def f_X3_goThrough_b (rc_X3_goThrough : Int32 → Int32 → Int32 → Int32 → Int32 → Mem → Option Mem) (v1 : Int32) (v2 : Int32) (v3 : Int32) (v4 : Int32) (v5 : Int32) (M : Mem) : Option Mem :=
  (if (M 1 6) ≤ v1 then (f_X3_goThrough_b17 rc_X3_goThrough) v2 v3 v4 v5 M else (if v1 < 6 then ck (inb v1 7) (ck (inb (v1 + 1) 7) (ck (kd (47 + (v1).toNatClampNeg) == 10) (ck (kd (47 + ((v1 + 1)).toNatClampNeg) == 10) (ck (cpk 0 (ln (47 + (v1).toNatClampNeg)) 0 (ln (47 + ((v1 + 1)).toNatClampNeg)) 12) ((rc_X3_goThrough (v1 + 1) (v2 * 10) v3 v4 v5 (mcp M (47 + (v1).toNatClampNeg) 0 (47 + ((v1 + 1)).toNatClampNeg) 0 12)).bind fun o8 => (if v1 = (o8 45 3) then some o8 else (f_X3_goThrough_l77 rc_X3_goThrough FU) v1 v2 v3 v4 v5 0 o8)))))) else (f_X3_goThrough_b17 rc_X3_goThrough) v2 v3 v4 v5 M))
def f_X3_goThrough : Nat → Int32 → Int32 → Int32 → Int32 → Int32 → Mem → Option Mem
  | 0 => fun _ _ _ _ _ _ => none
  | d + 1 => f_X3_goThrough_b (f_X3_goThrough d)

def f_X3_seek_b53 (v1 : Int32) (M : Mem) : Option Mem :=
  (f_X3_goThrough DP 0 0 0 0 0 (mu (mu (mu (mu (mu (mu (mu (mu M 45 3 v1) 45 4 0) 45 5 0) 45 6 0) 45 7 0) 45 8 0) 45 9 0) 45 10 0)).bind fun o4 => some o4
def f_X3_seek (v1 : Int32) (v2 : Int32) (M : Mem) : Option Mem :=
  (if v2 < 0 then f_X3_seek_b53 v1 (mcp M 2 0 47 0 12) else (if 12 ≤ v2 then f_X3_seek_b53 v1 (mcp M 2 0 47 0 12) else ck (inb v2 12) (f_X3_seek_b53 v1 (mu (mcp M 2 0 47 0 12) 47 (v2).toNatClampNeg (jmin 99 (((mcp M 2 0 47 0 12) 47 (v2).toNatClampNeg) + 1))))))

def f_X8_sideOf_b45 (r : Int32 → Int32 → Int32 → Mem → Option (Int32 × Mem)) (v1 : Int32) (v2 : Int32) (v3 : Int32) (M : Mem) : Option (Int32 × Mem) :=
  r v1 v2 (v3 + 1) M
def f_X8_sideOf_b43 (r : Int32 → Int32 → Int32 → Mem → Option (Int32 × Mem)) (v1 : Int32) (v3 : Int32) (s0 : Int32) (s1 : Int32) (M : Mem) : Option (Int32 × Mem) :=
  (f_X8_sideOf_b45 r) v1 (s0 + s1) v3 M
def f_X8_sideOf_l4 : Nat → Int32 → Int32 → Int32 → Mem → Option (Int32 × Mem)
  | 0, _, _, _, _ => none
  | n + 1, v1, v2, v3, M => (if (M 1 6) ≤ v3 then some (v2, M) else (f_X1_kitchenBy v1 v3 M).bind fun o2 => (if o2.1 = (-1) then (f_X8_sideOf_b45 (f_X8_sideOf_l4 n)) v1 v2 v3 o2.2 else (if o2.1 = 0 then (f_X8_sideOf_b43 (f_X8_sideOf_l4 n)) v1 v3 v2 1 o2.2 else (f_X8_sideOf_b43 (f_X8_sideOf_l4 n)) v1 v3 v2 (-1) o2.2)))
def f_X8_sideOf (v1 : Int32) (M : Mem) : Option (Int32 × Mem) :=
  (f_X8_sideOf_l4 FU) v1 0 0 M

def f_X8_best (v1 : Int32) (M : Mem) : Option (Int32 × Mem) :=
  (if v1 < 0 then some ((-100000), M) else (if v1 ≤ 7 then (f_X3_seek (-1) (-1) M).bind fun o3 => (if v1 = 0 then some ((o3 45 4), o3) else (if v1 = 1 then some ((o3 45 5), o3) else (if v1 = 2 then some ((o3 45 6), o3) else (if v1 = 3 then some ((o3 45 7), o3) else (if v1 = 4 then some ((o3 45 8), o3) else (if v1 = 5 then some ((o3 45 9), o3) else (if v1 = 6 then some ((o3 45 10), o3) else (f_X8_sideOf (o3 45 4) o3).bind fun o12 => some (o12.1, o12.2)))))))) else some ((-100000), M)))

def f_X8_leave_b68 (r : Int32 → Int32 → Int32 → Int32 → Mem → Option (Int32 × Mem)) (k74 : Int32 → Int32 → Int32 → Mem → Option (Int32 × Mem)) (v1 : Int32) (v2 : Int32) (v3 : Int32) (v4 : Int32) (M : Mem) : Option (Int32 × Mem) :=
  r v1 v2 v3 (v4 + 1) M
def f_X8_leave_b57 (r : Int32 → Int32 → Int32 → Int32 → Mem → Option (Int32 × Mem)) (k74 : Int32 → Int32 → Int32 → Mem → Option (Int32 × Mem)) (v1 : Int32) (v4 : Int32) (M : Mem) : Option (Int32 × Mem) :=
  (f_X8_leave_b68 r k74) v1 v4 (M 45 5) v4 M
def f_X8_leave_l19 (k74 : Int32 → Int32 → Int32 → Mem → Option (Int32 × Mem)) : Nat → Int32 → Int32 → Int32 → Int32 → Mem → Option (Int32 × Mem)
  | 0, _, _, _, _, _ => none
  | n + 1, v1, v2, v3, v4, M => (if (M 1 6) ≤ v4 then k74 v1 v2 v3 M else (f_X3_seek v4 (-1) M).bind fun o4 => (if v2 = (-1) then (f_X8_leave_b57 (f_X8_leave_l19 k74 n) k74) v1 v4 o4 else (if (o4 45 5) ≤ v3 then (f_X8_leave_b68 (f_X8_leave_l19 k74 n) k74) v1 v2 v3 v4 o4 else (f_X8_leave_b57 (f_X8_leave_l19 k74 n) k74) v1 v4 o4)))
def f_X8_leave_b74 (v1 : Int32) (v2 : Int32) (v3 : Int32) (M : Mem) : Option (Int32 × Mem) :=
  (if v1 = 0 then some (v2, M) else some (v3, M))
def f_X8_leave (v1 : Int32) (M : Mem) : Option (Int32 × Mem) :=
  (if v1 < 0 then some ((-100000), M) else (if v1 ≤ 1 then (f_X8_leave_l19 f_X8_leave_b74 FU) v1 (-1) 0 0 M else some ((-100000), M)))

def f_X8_buy_b78 (r : Int32 → Int32 → Int32 → Int32 → Int32 → Mem → Option (Int32 × Mem)) (k84 : Int32 → Int32 → Int32 → Mem → Option (Int32 × Mem)) (v1 : Int32) (v2 : Int32) (v3 : Int32) (v4 : Int32) (v5 : Int32) (M : Mem) : Option (Int32 × Mem) :=
  r v1 v2 v3 v4 (v5 + 1) M
def f_X8_buy_b66 (r : Int32 → Int32 → Int32 → Int32 → Int32 → Mem → Option (Int32 × Mem)) (k84 : Int32 → Int32 → Int32 → Mem → Option (Int32 × Mem)) (v1 : Int32) (v2 : Int32) (v5 : Int32) (M : Mem) : Option (Int32 × Mem) :=
  (f_X8_buy_b78 r k84) v1 v2 v5 (M 45 5) v5 M
def f_X8_buy_l27 (k84 : Int32 → Int32 → Int32 → Mem → Option (Int32 × Mem)) : Nat → Int32 → Int32 → Int32 → Int32 → Int32 → Mem → Option (Int32 × Mem)
  | 0, _, _, _, _, _, _ => none
  | n + 1, v1, v2, v3, v4, v5, M => (if 6 ≤ v5 then k84 v2 v3 v4 M else (f_X3_seek (-1) ((v1 * 6) + v5) M).bind fun o7 => (if v3 = (-1) then (f_X8_buy_b66 (f_X8_buy_l27 k84 n) k84) v1 v2 v5 o7 else (if (o7 45 5) ≤ v4 then (f_X8_buy_b78 (f_X8_buy_l27 k84 n) k84) v1 v2 v3 v4 v5 o7 else (f_X8_buy_b66 (f_X8_buy_l27 k84 n) k84) v1 v2 v5 o7)))
def f_X8_buy_b84 (v2 : Int32) (v3 : Int32) (v4 : Int32) (M : Mem) : Option (Int32 × Mem) :=
  (if v2 = 0 then some (v3, M) else some (v4, M))
def f_X8_buy (v1 : Int32) (v2 : Int32) (M : Mem) : Option (Int32 × Mem) :=
  (f_X8_isKitchen v1 M).bind fun o1 => (if o1.1 = 0 then some ((-100000), o1.2) else (if v2 < 0 then some ((-100000), o1.2) else (if v2 ≤ 1 then (f_X8_buy_l27 f_X8_buy_b84 FU) v1 v2 (-1) 0 0 o1.2 else some ((-100000), o1.2))))

def f_X8_lowestTerms_l8 (k39 : Int32 → Int32 → Int32 → Int32 → Mem → Option (Int64 × Mem)) : Nat → Int32 → Int32 → Int32 → Int32 → Int32 → Int32 → Mem → Option (Int64 × Mem)
  | 0, _, _, _, _, _, _, _ => none
  | n + 1, v0, v1, v2, v3, v4, v5, M => (if 64 ≤ v5 then k39 v0 v1 v2 v3 M else (if v4 = 0 then k39 v0 v1 v2 v3 M else ck (!(v4 == 0)) ((f_X8_lowestTerms_l8 k39 n) v0 v1 v2 v4 (jrem v3 v4) (v5 + 1) M)))
def f_X8_lowestTerms_b39 (v0 : Int32) (v1 : Int32) (v2 : Int32) (v3 : Int32) (M : Mem) : Option (Int64 × Mem) :=
  (if v1 = 0 then some ((-4611686018427387904), M) else (if v3 = 0 then some ((-4611686018427387904), M) else (if v2 = 0 then ck (!(v3 == 0)) (some ((((v0 / v3) : Int32).toInt64), M)) else ck (!(v3 == 0)) (some ((((v1 / v3) : Int32).toInt64), M)))))
def f_X8_lowestTerms (v0 : Int32) (v1 : Int32) (v2 : Int32) (M : Mem) : Option (Int64 × Mem) :=
  (f_X8_lowestTerms_l8 f_X8_lowestTerms_b39 FU) v0 v1 v2 v0 v1 0 M

def f_X8_share (v1 : Int32) (M : Mem) : Option (Int64 × Mem) :=
  (if v1 < 0 then some ((-4611686018427387904), M) else (if v1 ≤ 1 then (f_X3_seek (-1) (-1) M).bind fun o3 => (f_X4_play (o3 45 4) o3).bind fun o5 => (f_X8_lowestTerms (o5 43 4) (o5 43 3) v1 o5).bind fun o7 => some (o7.1, o7.2) else some ((-4611686018427387904), M)))

def f_X8_isSheet (v0 : Int32) (M : Mem) : Option (Int32 × Mem) :=
  (if v0 < 0 then some (0, M) else (if 4 ≤ v0 then some (0, M) else some (1, M)))

def f_X6_isMissing (q0 : Nat) (M : Mem) : Option (Int32 × Mem) :=
  ck (kd q0 == 5) ((if (M q0 0) = (-1) then some (1, M) else some (0, M)))

def f_X0_suppose (v1 : Int32) (v2 : Int32) (M : Mem) : Option Mem :=
  (if v1 = 1 then some (mu M 36 2 v2) else (if v1 = 2 then some (mu M 36 3 v2) else (if v1 = 3 then some (mu M 36 4 v2) else (if v1 = 4 then some (mu M 37 0 v2) else (if v1 = 5 then (f_X0_ruleBy v2 M).bind fun o6 => some o6 else some M)))))

def f_X0_firstOtherwise_b24 (r : Nat → Nat → Int32 → Mem → Option (Int32 × Mem)) (q1 : Nat) (q2 : Nat) (v3 : Int32) (s0 : Int32) (M : Mem) : Option (Int32 × Mem) :=
  ck (kd q1 == 5) (ck (kd (q1 + 1) == 10) (ck (inb v3 (ln (q1 + 1))) ((if (M (q1 + 1) (v3).toNatClampNeg) = s0 then r q1 q2 (v3 + 1) M else some (v3, M)))))
def f_X0_firstOtherwise_l2 : Nat → Nat → Nat → Int32 → Mem → Option (Int32 × Mem)
  | 0, _, _, _, _ => none
  | n + 1, q1, q2, v3, M => (if 2 ≤ v3 then some ((-1), M) else (f_X0_isCooked v3 q2 M).bind fun o2 => (if o2.1 = 0 then (f_X0_firstOtherwise_b24 (f_X0_firstOtherwise_l2 n)) q1 q2 v3 (-1) o2.2 else (f_X0_worth o2.2).bind fun o5 => (f_X0_firstOtherwise_b24 (f_X0_firstOtherwise_l2 n)) q1 q2 v3 o5.1 o5.2))
def f_X0_firstOtherwise (q1 : Nat) (q2 : Nat) (M : Mem) : Option (Int32 × Mem) :=
  (f_X0_firstOtherwise_l2 FU) q1 q2 0 M

def f_X8_guess_b99 (r : Int32 → Int32 → Int32 → Nat → Int32 → Int32 → Int32 → Int32 → Int32 → Mem → Option (Int32 × Mem)) (k105 : Int32 → Int32 → Int32 → Int32 → Mem → Option (Int32 × Mem)) (v1 : Int32) (v2 : Int32) (v3 : Int32) (q4 : Nat) (v5 : Int32) (v6 : Int32) (v7 : Int32) (v8 : Int32) (v9 : Int32) (M : Mem) : Option (Int32 × Mem) :=
  r v1 v2 v3 q4 v5 v6 v7 v8 (v9 + 1) M
def f_X8_guess_b97 (r : Int32 → Int32 → Int32 → Nat → Int32 → Int32 → Int32 → Int32 → Int32 → Mem → Option (Int32 × Mem)) (k105 : Int32 → Int32 → Int32 → Int32 → Mem → Option (Int32 × Mem)) (v1 : Int32) (v2 : Int32) (v3 : Int32) (q4 : Nat) (v5 : Int32) (v6 : Int32) (v7 : Int32) (v9 : Int32) (s0 : Int32) (M : Mem) : Option (Int32 × Mem) :=
  (f_X8_guess_b99 r k105) v1 v2 v3 q4 v5 v6 v7 s0 v9 M
def f_X8_guess_b39 (r : Int32 → Int32 → Int32 → Nat → Int32 → Int32 → Int32 → Int32 → Int32 → Mem → Option (Int32 × Mem)) (k105 : Int32 → Int32 → Int32 → Int32 → Mem → Option (Int32 × Mem)) (v1 : Int32) (v2 : Int32) (v3 : Int32) (q4 : Nat) (v5 : Int32) (v6 : Int32) (v7 : Int32) (v8 : Int32) (v9 : Int32) (s2 : Int32) (M : Mem) : Option (Int32 × Mem) :=
  (f_X0_takeUp s2 M).bind fun o3 => (f_X0_suppose v1 v9 o3).bind fun o5 => (f_X0_firstOtherwise q4 2 o5).bind fun o7 => (if o7.1 = (-1) then (if v8 = (-1) then (f_X8_guess_b97 r k105) v1 v2 v3 q4 v5 (v6 ||| (jshl 1 v9)) (v7 + 1) v9 v9 o7.2 else (f_X8_guess_b97 r k105) v1 v2 v3 q4 v5 (v6 ||| (jshl 1 v9)) (v7 + 1) v9 v8 o7.2) else (f_X8_guess_b99 r k105) v1 v2 v3 q4 v5 v6 v7 v8 v9 o7.2)
def f_X8_guess_l12 (k105 : Int32 → Int32 → Int32 → Int32 → Mem → Option (Int32 × Mem)) : Nat → Int32 → Int32 → Int32 → Nat → Int32 → Int32 → Int32 → Int32 → Int32 → Mem → Option (Int32 × Mem)
  | 0, _, _, _, _, _, _, _, _, _, _ => none
  | n + 1, v1, v2, v3, q4, v5, v6, v7, v8, v9, M => (if v2 ≤ v9 then k105 v3 v6 v7 v8 M else (if v1 = 6 then (f_X8_guess_b39 (f_X8_guess_l12 k105 n) k105) v1 v2 v3 q4 v5 v6 v7 v8 v9 v9 M else (f_X8_guess_b39 (f_X8_guess_l12 k105 n) k105) v1 v2 v3 q4 v5 v6 v7 v8 v9 v5 M))
def f_X8_guess_b105 (v3 : Int32) (v6 : Int32) (v7 : Int32) (v8 : Int32) (M : Mem) : Option (Int32 × Mem) :=
  (if v3 = 0 then some (v6, M) else (if v3 = 1 then some (v7, M) else some (v8, M)))
def f_X8_guess (v1 : Int32) (v2 : Int32) (v3 : Int32) (q4 : Nat) (v5 : Int32) (M : Mem) : Option (Int32 × Mem) :=
  (f_X8_guess_l12 f_X8_guess_b105 FU) v1 v2 v3 q4 v5 0 0 (-1) 0 M

def f_X8_tells (v1 : Int32) (v2 : Int32) (v3 : Int32) (M : Mem) : Option (Int32 × Mem) :=
  (f_X8_isSheet v1 M).bind fun o1 => (if o1.1 = 0 then some ((-2), o1.2) else (f_X1_hasDish v2 o1.2).bind fun o4 => (if o4.1 = 0 then some ((-2), o4.2) else (if v3 < 0 then some ((-2), o4.2) else (if v3 ≤ 8 then ck (inb v1 4) ((f_X6_isMissing (55 + 2 * (v1).toNatClampNeg) o4.2).bind fun o10 => ck (kd (55 + 2 * (v1).toNatClampNeg) == 5) ((if o10.1 = 0 then (if (o10.2 (55 + 2 * (v1).toNatClampNeg) 1) = 2 then (if v3 = 1 then (f_X8_guess 1 6 0 (55 + 2 * (v1).toNatClampNeg) v2 o10.2).bind fun o16 => some (o16.1, o16.2) else (if v3 = 2 then (f_X8_guess 2 10 0 (55 + 2 * (v1).toNatClampNeg) v2 o10.2).bind fun o19 => some (o19.1, o19.2) else (if v3 = 3 then (f_X8_guess 3 100 1 (55 + 2 * (v1).toNatClampNeg) v2 o10.2).bind fun o22 => some (o22.1, o22.2) else (if v3 = 4 then (f_X8_guess 3 100 2 (55 + 2 * (v1).toNatClampNeg) v2 o10.2).bind fun o25 => some (o25.1, o25.2) else (if v3 = 5 then (f_X8_guess 4 100 1 (55 + 2 * (v1).toNatClampNeg) v2 o10.2).bind fun o28 => some (o28.1, o28.2) else (if v3 = 6 then (f_X8_guess 4 100 2 (55 + 2 * (v1).toNatClampNeg) v2 o10.2).bind fun o31 => some (o31.1, o31.2) else (if v3 = 7 then (f_X8_guess 5 (o10.2 0 4) 0 (55 + 2 * (v1).toNatClampNeg) v2 o10.2).bind fun o34 => some (o34.1, o34.2) else (if v3 = 8 then (f_X8_guess 6 (o10.2 1 6) 0 (55 + 2 * (v1).toNatClampNeg) v2 o10.2).bind fun o37 => some (o37.1, o37.2) else (f_X0_takeUp v2 o10.2).bind fun o39 => (f_X0_firstOtherwise (55 + 2 * (v1).toNatClampNeg) 2 o39).bind fun o41 => some (o41.1, o41.2))))))))) else some ((-2), o10.2)) else some ((-11), o10.2)))) else some ((-2), o4.2)))))

def f_X6_become_l12 : Nat → Nat → Int32 → Mem → Option Mem
  | 0, _, _, _ => none
  | n + 1, q0, v3, M => (if 40 ≤ v3 then some M else ck (kd q0 == 5) (ck (kd (q0 + 1) == 10) (ck (inb v3 (ln (q0 + 1))) ((f_X6_become_l12 n) q0 (v3 + 1) (mu M (q0 + 1) (v3).toNatClampNeg 0)))))
def f_X6_become (q0 : Nat) (v1 : Int32) (v2 : Int32) (M : Mem) : Option Mem :=
  ck (kd q0 == 5) ((f_X6_become_l12 FU) q0 0 (mu (mu M q0 0 v1) q0 1 v2))

def f_X6_hasItem (q0 : Nat) (v1 : Int32) (M : Mem) : Option (Int32 × Mem) :=
  (if v1 < 0 then some (0, M) else ck (kd q0 == 5) ((if (M q0 1) ≤ v1 then some (0, M) else some (1, M))))

def f_X6_put (q0 : Nat) (v1 : Int32) (v2 : Int32) (M : Mem) : Option Mem :=
  (f_X6_hasItem q0 v1 M).bind fun o1 => ck (kd q0 == 5) ((if o1.1 = 0 then some o1.2 else (if (o1.2 q0 0) = 0 then ck (kd (q0 + 1) == 10) (ck (inb v1 (ln (q0 + 1))) (some (mu o1.2 (q0 + 1) (v1).toNatClampNeg ((v2).toInt8.toInt32)))) else (if (o1.2 q0 0) = 1 then ck (kd (q0 + 1) == 10) (ck (inb v1 (ln (q0 + 1))) (some (mu o1.2 (q0 + 1) (v1).toNatClampNeg ((v2).toInt16.toInt32)))) else ck (kd (q0 + 1) == 10) (ck (inb v1 (ln (q0 + 1))) (some (mu o1.2 (q0 + 1) (v1).toNatClampNeg v2)))))))

def f_X8_film_b110 (r : Nat → Int32 → Int32 → Mem → Option (Int32 × Mem)) (q3 : Nat) (v5 : Int32) (s0 : Int32) (s1 : Int32) (M : Mem) : Option (Int32 × Mem) :=
  r q3 (s0 + s1) (v5 + 1) M
def f_X8_film_b95 (r : Nat → Int32 → Int32 → Mem → Option (Int32 × Mem)) (q3 : Nat) (v4 : Int32) (v5 : Int32) (v6 : Int32) (s0 : Nat) (s1 : Int32) (s2 : Int32) (M : Mem) : Option (Int32 × Mem) :=
  (f_X6_put s0 s1 s2 M).bind fun o19 => ck (kd s0 == 5) ((if v6 = 0 then (f_X8_film_b110 r) q3 v5 v4 0 o19 else (f_X8_film_b110 r) q3 v5 v4 1 o19))
def f_X8_film_l52 : Nat → Nat → Int32 → Int32 → Mem → Option (Int32 × Mem)
  | 0, _, _, _, _ => none
  | n + 1, q3, v4, v5, M => (if 2 ≤ v5 then some (v4, M) else (f_X0_isCooked v5 2 M).bind fun o14 => (if o14.1 = 0 then (f_X8_film_b95 (f_X8_film_l52 n)) q3 v4 v5 o14.1 q3 v5 (-1) o14.2 else (f_X0_worth o14.2).bind fun o17 => (f_X8_film_b95 (f_X8_film_l52 n)) q3 v4 v5 o14.1 q3 v5 o17.1 o17.2))
def f_X8_film (v1 : Int32) (v2 : Int32) (M : Mem) : Option (Int32 × Mem) :=
  (f_X8_isSheet v1 M).bind fun o1 => (if o1.1 = 0 then some ((-2), o1.2) else (f_X1_hasDish v2 o1.2).bind fun o4 => (if o4.1 = 0 then some ((-2), o4.2) else ck (inb v1 4) ((f_X6_become (55 + 2 * (v1).toNatClampNeg) 2 2 o4.2).bind fun o8 => ck (kd (55 + 2 * (v1).toNatClampNeg) == 5) ((f_X0_takeUp v2 o8).bind fun o11 => (f_X8_film_l52 FU) (55 + 2 * (v1).toNatClampNeg) 0 0 o11))))

def f_X4_draw_b51 (r : Int32 → Int32 → Mem → Option (Int32 × Mem)) (k57 : Mem → Option (Int32 × Mem)) (v2 : Int32) (v3 : Int32) (M : Mem) : Option (Int32 × Mem) :=
  r v2 (v3 + 1) M
def f_X4_draw_l8 (k57 : Mem → Option (Int32 × Mem)) : Nat → Int32 → Int32 → Mem → Option (Int32 × Mem)
  | 0, _, _, _ => none
  | n + 1, v2, v3, M => (if (M 1 6) ≤ v3 then k57 M else (if ((jrem (jushr ((v2 * 1103515245) + 12345) 9) 3) - 1) < 0 then (f_X4_draw_b51 (f_X4_draw_l8 k57 n) k57) ((v2 * 1103515245) + 12345) v3 M else (f_X4_goOn v3 ((jrem (jushr ((v2 * 1103515245) + 12345) 9) 3) - 1) M).bind fun o5 => (f_X4_draw_b51 (f_X4_draw_l8 k57 n) k57) ((v2 * 1103515245) + 12345) v3 o5.2))
def f_X4_draw_b57 (M : Mem) : Option (Int32 × Mem) :=
  some (((M 43 3) - (M 43 5)), M)
def f_X4_draw (v1 : Int32) (M : Mem) : Option (Int32 × Mem) :=
  (f_X4_begin M).bind fun o1 => (f_X4_draw_l8 f_X4_draw_b57 FU) v1 0 o1

def f_X8_drawn (v1 : Int32) (M : Mem) : Option (Int32 × Mem) :=
  (f_X4_draw v1 M).bind fun o1 => some (o1.1, o1.2)

def f_X8_chance_b70 (r : Int32 → Int32 → Int32 → Int32 → Int32 → Int32 → Mem → Option (Int64 × Mem)) (k76 : Int32 → Int32 → Int32 → Mem → Option (Int64 × Mem)) (v1 : Int32) (v2 : Int32) (v3 : Int32) (v4 : Int32) (v5 : Int32) (v6 : Int32) (M : Mem) : Option (Int64 × Mem) :=
  r v1 v2 v3 v4 v5 (v6 + 1) M
def f_X8_chance_l46 (k76 : Int32 → Int32 → Int32 → Mem → Option (Int64 × Mem)) : Nat → Int32 → Int32 → Int32 → Int32 → Int32 → Int32 → Mem → Option (Int64 × Mem)
  | 0, _, _, _, _, _, _, _ => none
  | n + 1, v1, v2, v3, v4, v5, v6, M => (if v2 ≤ v6 then k76 v2 v4 v5 M else (f_X4_draw (v1 + v6) M).bind fun o8 => (if o8.1 < v3 then (f_X8_chance_b70 (f_X8_chance_l46 k76 n) k76) v1 v2 v3 v4 v5 v6 o8.2 else (f_X8_chance_b70 (f_X8_chance_l46 k76 n) k76) v1 v2 v3 v4 (v5 + 1) v6 o8.2))
def f_X8_chance_b76 (v2 : Int32) (v4 : Int32) (v5 : Int32) (M : Mem) : Option (Int64 × Mem) :=
  (f_X8_lowestTerms v5 v2 v4 M).bind fun o11 => some (o11.1, o11.2)
def f_X8_chance (v1 : Int32) (v2 : Int32) (v3 : Int32) (v4 : Int32) (M : Mem) : Option (Int64 × Mem) :=
  (if v2 < 1 then some ((-4611686018427387904), M) else (if 20 < v2 then some ((-4611686018427387904), M) else (if v3 < (-9999) then some ((-4611686018427387904), M) else (if 9999 < v3 then some ((-4611686018427387904), M) else (if v4 < 0 then some ((-4611686018427387904), M) else (if v4 ≤ 1 then (f_X8_chance_l46 f_X8_chance_b76 FU) v1 v2 v3 v4 0 0 M else some ((-4611686018427387904), M)))))))

def f_X1_become_1 (M : Mem) : Option Mem :=
  some (mu (mu (mu (mcp (mcp (mcp (mcp (mcp (mcp M 9 0 2 0 12) 10 0 3 0 2) 11 0 4 0 6) 12 0 5 0 6) 13 0 6 0 6) 14 0 7 0 6) 1 6 (M 8 6)) 1 7 (M 8 7)) 1 8 (M 8 8))

def f_X1_become_8 (M : Mem) : Option Mem :=
  some (mu (mu (mu (mcp (mcp (mcp (mcp (mcp (mcp M 2 0 9 0 12) 3 0 10 0 2) 4 0 11 0 6) 5 0 12 0 6) 6 0 13 0 6) 7 0 14 0 6) 8 6 (M 1 6)) 8 7 (M 1 7)) 8 8 (M 1 8))

def f_X8_image (M : Mem) : Option (Int32 × Mem) :=
  (f_X1_become_8 M).bind fun o1 => some ((o1 1 6), (mu o1 0 2 1))

def f_X8_back (M : Mem) : Option (Int32 × Mem) :=
  (if (M 0 2) = 0 then some ((-3), M) else (f_X1_become_1 M).bind fun o2 => some ((o2 1 6), o2))

def f_X8_count (v1 : Int32) (M : Mem) : Option (Int32 × Mem) :=
  (if v1 = 0 then some ((M 1 6), M) else (if v1 = 1 then (f_X1_storeOf 0 M).bind fun o3 => (f_X1_storeOf 1 o3.2).bind fun o5 => some ((o3.1 + o5.1), o5.2) else (if v1 = 2 then some ((M 1 7), M) else (if v1 = 3 then some ((M 0 4), M) else (if v1 = 4 then some ((M 34 1), M) else (if v1 = 5 then some ((M 1 8), M) else some ((-2), M)))))))

def f_X8_sheet (v1 : Int32) (v2 : Int32) (v3 : Int32) (M : Mem) : Option (Int32 × Mem) :=
  (f_X8_isSheet v1 M).bind fun o1 => (if o1.1 = 0 then some ((-2), o1.2) else (if v2 < (-1) then some ((-2), o1.2) else (if v2 ≤ 2 then (if v2 = (-1) then ck (inb v1 4) ((f_X6_become (55 + 2 * (v1).toNatClampNeg) (-1) 0 o1.2).bind fun o14 => ck (kd (55 + 2 * (v1).toNatClampNeg) == 5) (some (1, o14))) else (if v3 ≤ 40 then (if 0 ≤ v3 then ck (inb v1 4) ((f_X6_become (55 + 2 * (v1).toNatClampNeg) v2 v3 o1.2).bind fun o10 => ck (kd (55 + 2 * (v1).toNatClampNeg) == 5) (some (1, o10))) else some ((-14), o1.2)) else some ((-2), o1.2))) else some ((-2), o1.2))))

def f_X8_cell (v1 : Int32) (v2 : Int32) (v3 : Int32) (M : Mem) : Option (Int32 × Mem) :=
  (f_X8_isSheet v1 M).bind fun o1 => (if o1.1 = 0 then some ((-2), o1.2) else ck (inb v1 4) ((f_X6_isMissing (55 + 2 * (v1).toNatClampNeg) o1.2).bind fun o5 => ck (kd (55 + 2 * (v1).toNatClampNeg) == 5) ((if o5.1 = 0 then (f_X6_hasItem (55 + 2 * (v1).toNatClampNeg) v2 o5.2).bind fun o9 => (if o9.1 = 0 then some ((-12), o9.2) else (f_X6_put (55 + 2 * (v1).toNatClampNeg) v2 v3 o9.2).bind fun o12 => some (1, o12)) else some ((-11), o5.2)))))

def f_X6_hasRun (q0 : Nat) (v1 : Int32) (v2 : Int32) (M : Mem) : Option (Int32 × Mem) :=
  (if v1 < 0 then some (0, M) else (if v2 < 0 then some (0, M) else ck (kd q0 == 5) ((if (M q0 1) < v1 then some (0, M) else (if ((M q0 1) - v1) < v2 then some (0, M) else some (1, M))))))

def f_X8_copy (v1 : Int32) (v2 : Int32) (v3 : Int32) (v4 : Int32) (v5 : Int32) (M : Mem) : Option (Int32 × Mem) :=
  (f_X8_isSheet v1 M).bind fun o1 => (if o1.1 = 0 then some ((-2), o1.2) else (f_X8_isSheet v3 o1.2).bind fun o4 => (if o4.1 = 0 then some ((-2), o4.2) else ck (inb v1 4) (ck (inb v3 4) ((f_X6_isMissing (55 + 2 * (v1).toNatClampNeg) o4.2).bind fun o9 => ck (kd (55 + 2 * (v1).toNatClampNeg) == 5) ((if o9.1 = 0 then (f_X6_isMissing (55 + 2 * (v3).toNatClampNeg) o9.2).bind fun o13 => ck (kd (55 + 2 * (v3).toNatClampNeg) == 5) ((if o13.1 = 0 then (if (o13.2 (55 + 2 * (v1).toNatClampNeg) 0) = (o13.2 (55 + 2 * (v3).toNatClampNeg) 0) then (f_X6_hasRun (55 + 2 * (v1).toNatClampNeg) v2 v5 o13.2).bind fun o18 => (if o18.1 = 0 then some ((-12), o18.2) else (f_X6_hasRun (55 + 2 * (v3).toNatClampNeg) v4 v5 o18.2).bind fun o21 => (if o21.1 = 0 then some ((-12), o21.2) else ck (kd ((55 + 2 * (v1).toNatClampNeg) + 1) == 10) (ck (kd ((55 + 2 * (v3).toNatClampNeg) + 1) == 10) (ck (cpk v2 (ln ((55 + 2 * (v1).toNatClampNeg) + 1)) v4 (ln ((55 + 2 * (v3).toNatClampNeg) + 1)) v5) (some (v5, (mcp o21.2 ((55 + 2 * (v1).toNatClampNeg) + 1) (v2).toNatClampNeg ((55 + 2 * (v3).toNatClampNeg) + 1) (v4).toNatClampNeg (v5).toNatClampNeg))))))) else some ((-13), o13.2)) else some ((-11), o13.2))) else some ((-11), o9.2)))))))

def f_X8_dishes_b139 (r : Int32 → Int32 → Nat → Int32 → Int32 → Mem → Option (Int32 × Mem)) (v3 : Int32) (v4 : Int32) (q5 : Nat) (v6 : Int32) (v7 : Int32) (M : Mem) : Option (Int32 × Mem) :=
  r v3 v4 q5 v6 (v7 + 1) M
def f_X8_dishes_l68 : Nat → Int32 → Int32 → Nat → Int32 → Int32 → Mem → Option (Int32 × Mem)
  | 0, _, _, _, _, _, _ => none
  | n + 1, v3, v4, q5, v6, v7, M => (if v4 ≤ v7 then some (v6, M) else (f_X6_hasRun q5 v3 ((3 * v7) + 3) M).bind fun o15 => ck (kd q5 == 5) ((if o15.1 = 0 then some ((-12), o15.2) else ck (kd (q5 + 1) == 10) (ck (inb (v3 + (3 * v7)) (ln (q5 + 1))) (ck (inb ((v3 + (3 * v7)) + 1) (ln (q5 + 1))) (ck (inb ((v3 + (3 * v7)) + 2) (ln (q5 + 1))) ((f_X8_dish (o15.2 (q5 + 1) ((v3 + (3 * v7))).toNatClampNeg) (o15.2 (q5 + 1) (((v3 + (3 * v7)) + 1)).toNatClampNeg) (o15.2 (q5 + 1) (((v3 + (3 * v7)) + 2)).toNatClampNeg) o15.2).bind fun o23 => (if o23.1 < 0 then (f_X8_dishes_b139 (f_X8_dishes_l68 n)) v3 v4 q5 v6 v7 o23.2 else (f_X8_dishes_b139 (f_X8_dishes_l68 n)) v3 v4 q5 (v6 + 1) v7 o23.2))))))))
def f_X8_dishes (v1 : Int32) (v2 : Int32) (v3 : Int32) (v4 : Int32) (M : Mem) : Option (Int32 × Mem) :=
  (f_X8_isSheet v1 M).bind fun o1 => (if o1.1 = 0 then some ((-2), o1.2) else (if v2 < 0 then some ((-2), o1.2) else (if 2 < v2 then some ((-2), o1.2) else (if v4 < 0 then some ((-2), o1.2) else (if v4 ≤ 6 then ck (inb v1 4) ((f_X6_isMissing (55 + 2 * (v1).toNatClampNeg) o1.2).bind fun o9 => ck (kd (55 + 2 * (v1).toNatClampNeg) == 5) ((if o9.1 = 0 then (if (o9.2 (55 + 2 * (v1).toNatClampNeg) 0) = v2 then (f_X8_dishes_l68 FU) v3 v4 (55 + 2 * (v1).toNatClampNeg) 0 0 o9.2 else some ((-13), o9.2)) else some ((-11), o9.2)))) else some ((-2), o1.2))))))

def f_X2_isUnder_l4 : Nat → Int32 → Int32 → Int32 → Mem → Option (Int32 × Mem)
  | 0, _, _, _, _ => none
  | n + 1, v1, v2, v3, M => (if 6 ≤ v3 then some (0, M) else (if v2 < 0 then some (0, M) else (if 6 ≤ v2 then some (0, M) else (if v2 = v1 then some (1, M) else ck (inb v2 6) ((f_X2_isUnder_l4 n) v1 (stv 2001 (v2).toNatClampNeg) (v3 + 1) M)))))
def f_X2_isUnder (v0 : Int32) (v1 : Int32) (M : Mem) : Option (Int32 × Mem) :=
  (f_X2_isUnder_l4 FU) v1 v0 0 M

def f_X8_taken (v1 : Int32) (v2 : Int32) (M : Mem) : Option (Int32 × Mem) :=
  (if v2 < 0 then some ((-2), M) else (if v2 < 6 then (f_X1_hasDish v1 M).bind fun o3 => (if o3.1 = 0 then some ((-11), o3.2) else ck (inb v1 6) ((f_X2_isUnder (o3.2 4 (v1).toNatClampNeg) v2 o3.2).bind fun o7 => (if o7.1 = 0 then some ((-13), o7.2) else some ((o7.2 5 (v1).toNatClampNeg), o7.2)))) else some ((-2), M)))
