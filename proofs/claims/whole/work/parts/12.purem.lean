/-! PURE: the reference -/
def f_X9_in (w0 : Int64) (w2 : Int64) (w4 : Int64) (M : Mem) : Option (Int32 × Mem) :=
  (if (lg_cmp w0 w2) < 0 then some (0, M) else (if 0 < (lg_cmp w0 w4) then some (0, M) else some (1, M)))

def f_X9_within (v0 : Int32) (v1 : Int32) (v2 : Int32) (M : Mem) : Option (Int32 × Mem) :=
  (if v1 ≤ v0 then (if v0 ≤ v2 then some (v0, M) else some (v2, M)) else some (v1, M))

def f_X9_spell (v1 : Int32) (v2 : Int32) (v3 : Int32) (v4 : Int32) (v5 : Int32) (v6 : Int32) (v7 : Int32) (v8 : Int32) (v9 : Int32) (M : Mem) : Option Mem :=
  ck (inb v1 960) (ck (inb (v1 + 1) 960) (ck (inb (v1 + 2) 960) (ck (inb (v1 + 3) 960) (ck (inb (v1 + 4) 960) (ck (inb (v1 + 5) 960) (ck (inb (v1 + 6) 960) (ck (inb (v1 + 7) 960) (some (mu (mu (mu (mu (mu (mu (mu (mu M 101 (v1).toNatClampNeg v2) 101 ((v1 + 1)).toNatClampNeg v3) 101 ((v1 + 2)).toNatClampNeg v4) 101 ((v1 + 3)).toNatClampNeg v5) 101 ((v1 + 4)).toNatClampNeg v6) 101 ((v1 + 5)).toNatClampNeg v7) 101 ((v1 + 6)).toNatClampNeg v8) 101 ((v1 + 7)).toNatClampNeg v9)))))))))

def f_X9_isDish (v1 : Int32) (M : Mem) : Option (Int32 × Mem) :=
  (f_X9_in ((v1 : Int32).toInt64) 0 ((((M 100 12) - 1) : Int32).toInt64) M).bind fun o1 => ck (zb o1.1) (some (o1.1, o1.2))

def f_X9_isKitchen (v0 : Int32) (M : Mem) : Option (Int32 × Mem) :=
  (f_X9_in ((v0 : Int32).toInt64) 0 1 M).bind fun o1 => ck (zb o1.1) (some (o1.1, o1.2))

def f_X9_isPart (v0 : Int32) (M : Mem) : Option (Int32 × Mem) :=
  (f_X9_in ((v0 : Int32).toInt64) 0 5 M).bind fun o1 => ck (zb o1.1) (some (o1.1, o1.2))

def f_X9_isOf_b50 (v2 : Int32) (M : Mem) : Option (Int32 × Mem) :=
  (f_X9_isKitchen v2 M).bind fun o14 => ck (zb o14.1) (some (o14.1, o14.2))
def f_X9_isOf (v1 : Int32) (v2 : Int32) (M : Mem) : Option (Int32 × Mem) :=
  (if v1 = 0 then some (1, M) else (if v1 = 1 then (f_X9_in ((v2 : Int32).toInt64) 0 15 M).bind fun o8 => (if o8.1 = 0 then some (0, o8.2) else (f_X9_isPart (jrem v2 10) o8.2).bind fun o11 => (if o11.1 = 0 then some (0, o11.2) else some (1, o11.2))) else (if v1 = 2 then f_X9_isOf_b50 v2 M else (if v1 = 8 then f_X9_isOf_b50 v2 M else (f_X9_isDish v2 M).bind fun o5 => ck (zb o5.1) (some (o5.1, o5.2))))))

def f_X9_mostOf (v0 : Int32) (M : Mem) : Option (Int32 × Mem) :=
  (if v0 = 0 then some (999, M) else (if v0 = 3 then some (9, M) else (if v0 = 4 then some (999999, M) else some (99, M))))

def f_X9_needsOf_l14 : Nat → Int32 → Int32 → Int32 → Mem → Option (Int32 × Mem)
  | 0, _, _, _, _ => none
  | n + 1, v2, v3, v4, M => (if v4 ≤ v2 then some ((jrem v3 10), M) else (f_X9_needsOf_l14 n) v2 (v3 / 10) (v4 + (-1)) M)
def f_X9_needsOf (v1 : Int32) (v2 : Int32) (M : Mem) : Option (Int32 × Mem) :=
  ck (inb ((3 * v1) + 1) 18) ((f_X9_needsOf_l14 FU) v2 (M 107 (((3 * v1) + 1)).toNatClampNeg) 5 M)

def f_X9_needsAll_l4 : Nat → Int32 → Int32 → Int32 → Mem → Option (Int32 × Mem)
  | 0, _, _, _, _ => none
  | n + 1, v1, v2, v3, M => (if 6 ≤ v3 then some (v2, M) else (f_X9_needsOf v1 v3 M).bind fun o2 => (f_X9_needsAll_l4 n) v1 (v2 + o2.1) (v3 + 1) o2.2)
def f_X9_needsAll (v1 : Int32) (M : Mem) : Option (Int32 × Mem) :=
  (f_X9_needsAll_l4 FU) v1 0 0 M

def f_X9_storeOf_l4 : Nat → Int32 → Int32 → Int32 → Mem → Option (Int32 × Mem)
  | 0, _, _, _, _ => none
  | n + 1, v1, v2, v3, M => (if 6 ≤ v3 then some (v2, M) else ck (inb ((6 * v1) + v3) 12) ((f_X9_storeOf_l4 n) v1 (v2 + (M 104 (((6 * v1) + v3)).toNatClampNeg)) (v3 + 1) M))
def f_X9_storeOf (v1 : Int32) (M : Mem) : Option (Int32 × Mem) :=
  (f_X9_storeOf_l4 FU) v1 0 0 M

def f_X9_told (v1 : Int32) (v2 : Int32) (M : Mem) : Option (Int32 × Mem) :=
  (f_X9_in ((v2 : Int32).toInt64) 0 8 M).bind fun o1 => (if o1.1 = 0 then some ((-1000), o1.2) else (f_X9_isOf v2 v1 o1.2).bind fun o4 => (if o4.1 = 0 then some ((-1000), o4.2) else (if 3 ≤ v2 then (if 6 ≤ v2 then (if v2 = 6 then ck (inb ((3 * v1) + 2) 18) (some ((o4.2 107 (((3 * v1) + 2)).toNatClampNeg), o4.2)) else (if v2 = 7 then (f_X9_needsAll v1 o4.2).bind fun o13 => some (o13.1, o13.2) else (f_X9_storeOf v1 o4.2).bind fun o11 => some (o11.1, o11.2))) else (if 5 ≤ v2 then ck (inb v1 6) (some ((o4.2 106 (v1).toNatClampNeg), o4.2)) else ck (inb (((3 * v1) + v2) - 3) 18) (some ((o4.2 107 ((((3 * v1) + v2) - 3)).toNatClampNeg), o4.2)))) else (if v2 = 0 then some ((o4.2 100 7), o4.2) else (if v2 = 1 then ck (inb ((6 * (v1 / 10)) + (jrem v1 10)) 12) (some ((o4.2 104 (((6 * (v1 / 10)) + (jrem v1 10))).toNatClampNeg), o4.2)) else ck (inb v1 2) (some ((o4.2 105 (v1).toNatClampNeg), o4.2)))))))

def f_X9_lays (v1 : Int32) (v2 : Int32) (v3 : Int32) (M : Mem) : Option Mem :=
  (if v1 = 0 then some (mu M 100 7 v3) else (if v1 = 1 then ck (inb ((6 * (v2 / 10)) + (jrem v2 10)) 12) (some (mu M 104 (((6 * (v2 / 10)) + (jrem v2 10))).toNatClampNeg v3)) else (if v1 = 2 then ck (inb v2 2) (some (mu M 105 (v2).toNatClampNeg v3)) else (if 5 ≤ v1 then (if v1 = 5 then ck (inb v2 6) (some (mu M 106 (v2).toNatClampNeg v3)) else some (mu M 100 4 v3)) else ck (inb (((3 * v2) + v1) - 3) 18) (some (mu M 107 ((((3 * v2) + v1) - 3)).toNatClampNeg v3))))))

def f_X9_set (v1 : Int32) (v2 : Int32) (v3 : Int32) (M : Mem) : Option (Int32 × Mem) :=
  (f_X9_in ((v1 : Int32).toInt64) 0 4 M).bind fun o1 => (if o1.1 = 0 then some ((-1000), o1.2) else (f_X9_isOf v1 v2 o1.2).bind fun o4 => (if o4.1 = 0 then some ((-1000), o4.2) else (f_X9_mostOf v1 o4.2).bind fun o7 => (f_X9_in ((v3 : Int32).toInt64) 0 ((o7.1 : Int32).toInt64) o7.2).bind fun o9 => (if o9.1 = 0 then some ((-1000), o9.2) else (f_X9_told v2 v1 o9.2).bind fun o12 => (f_X9_lays v1 v2 v3 o12.2).bind fun o14 => some (o12.1, o14))))

def f_X9_dish (v1 : Int32) (v2 : Int32) (v3 : Int32) (M : Mem) : Option (Int32 × Mem) :=
  (f_X9_in ((v1 : Int32).toInt64) 0 5 M).bind fun o1 => (if o1.1 = 0 then some ((-2), o1.2) else (f_X9_in ((v2 : Int32).toInt64) 0 9 o1.2).bind fun o4 => (if o4.1 = 0 then some ((-2), o4.2) else (f_X9_in ((v3 : Int32).toInt64) 0 999999 o4.2).bind fun o7 => (if o7.1 = 0 then some ((-2), o7.2) else (if (o7.2 100 12) = 6 then some ((-4), o7.2) else ck (inb (o7.2 100 12) 6) (ck (inb (3 * (o7.2 100 12)) 18) (ck (inb ((3 * (o7.2 100 12)) + 1) 18) (ck (inb ((3 * (o7.2 100 12)) + 2) 18) (some ((((o7.2 100 12) + 1) - 1), (mu (mu (mu (mu (mu o7.2 106 ((o7.2 100 12)).toNatClampNeg v1) 107 ((3 * (o7.2 100 12))).toNatClampNeg v2) 107 (((3 * (o7.2 100 12)) + 1)).toNatClampNeg v3) 107 (((3 * (o7.2 100 12)) + 2)).toNatClampNeg 0) 100 12 ((o7.2 100 12) + 1)))))))))))

def f_X9_feed (v1 : Int32) (M : Mem) : Option (Int32 × Mem) :=
  (f_X9_in ((v1 : Int32).toInt64) 0 255 M).bind fun o1 => (if o1.1 = 0 then some ((-2), o1.2) else (if (o1.2 100 6) = 160 then some ((-4), o1.2) else ck (inb (o1.2 100 6) 160) (some (((o1.2 100 6) + 1), (mu (mu o1.2 103 ((o1.2 100 6)).toNatClampNeg v1) 100 6 ((o1.2 100 6) + 1))))))

def f_X9_byteAt (v1 : Int32) (M : Mem) : Option (Int32 × Mem) :=
  (if (M 100 20) ≤ v1 then some ((-1), M) else ck (inb ((M 100 19) + v1) 960) (some ((M 101 (((M 100 19) + v1)).toNatClampNeg), M)))

def f_X9_next_b26 (r : Mem → Option Mem) (k39 : Mem → Option Mem) (M : Mem) : Option Mem :=
  r (mu M 100 21 ((M 100 21) + 1))
def f_X9_next_l0 (k39 : Mem → Option Mem) : Nat → Mem → Option Mem
  | 0, _ => none
  | n + 1, M => (f_X9_byteAt (M 100 21) M).bind fun o1 => (if o1.1 = 32 then (f_X9_next_b26 (f_X9_next_l0 k39 n) k39) o1.2 else (f_X9_byteAt (o1.2 100 21) o1.2).bind fun o4 => (if o4.1 = 10 then (f_X9_next_b26 (f_X9_next_l0 k39 n) k39) o4.2 else k39 o4.2))
def f_X9_next_l100 : Nat → Mem → Option Mem
  | 0, _ => none
  | n + 1, M => (f_X9_byteAt (M 100 21) M).bind fun o25 => (f_X9_in ((o25.1 : Int32).toInt64) 97 122 o25.2).bind fun o27 => (if o27.1 = 0 then some o27.2 else (f_X9_next_l100 n) (mu o27.2 100 21 ((o27.2 100 21) + 1)))
def f_X9_next_b216 (r : Int32 → Mem → Option Mem) (k235 : Int32 → Mem → Option Mem) (v2 : Int32) (s1 : Int64) (M : Mem) : Option Mem :=
  ck (((s1).toInt32).toInt64 == s1) (r (v2 + 1) (mu (mu M 100 24 (s1).toInt32) 100 21 ((M 100 21) + 1)))
def f_X9_next_l160 (k235 : Int32 → Mem → Option Mem) : Nat → Int32 → Mem → Option Mem
  | 0, _, _ => none
  | n + 1, v2, M => (f_X9_byteAt (M 100 21) M).bind fun o30 => (f_X9_in ((o30.1 : Int32).toInt64) 48 57 o30.2).bind fun o32 => (if o32.1 = 0 then k235 v2 o32.2 else (if 4 ≤ v2 then (f_X9_next_b216 (f_X9_next_l160 k235 n) k235) v2 ((o32.2 100 24)).toInt64 o32.2 else (f_X9_byteAt (o32.2 100 21) o32.2).bind fun o36 => (f_X9_next_b216 (f_X9_next_l160 k235 n) k235) v2 (((10 * ((o32.2 100 24)).toInt64) + ((o36.1 : Int32).toInt64)) - 48) o36.2))
def f_X9_next_b235 (v2 : Int32) (M : Mem) : Option Mem :=
  (if v2 ≤ 4 then some (mu M 100 22 2) else some (mu M 100 22 4))
def f_X9_next_b300 (v1 : Int32) (M : Mem) : Option Mem :=
  ck (((((v1 : Int32).toInt64)).toInt32).toInt64 == ((v1 : Int32).toInt64)) (some (mu (mu (mu M 100 22 3) 100 24 (((v1 : Int32).toInt64)).toInt32) 100 21 ((M 100 21) + 1)))
def f_X9_next_b39 (M : Mem) : Option Mem :=
  (f_X9_byteAt (M 100 21) (mu M 100 23 (M 100 21))).bind fun o7 => (if 0 ≤ o7.1 then (f_X9_in ((o7.1 : Int32).toInt64) 97 122 (mu o7.2 100 22 4)).bind fun o10 => (if o10.1 = 0 then (f_X9_in ((o7.1 : Int32).toInt64) 48 57 o10.2).bind fun o13 => (if o13.1 = 0 then (if o7.1 = 40 then f_X9_next_b300 o7.1 o13.2 else (if o7.1 = 41 then f_X9_next_b300 o7.1 o13.2 else (if o7.1 = 59 then f_X9_next_b300 o7.1 o13.2 else (if o7.1 = 43 then f_X9_next_b300 o7.1 o13.2 else (if o7.1 = 45 then f_X9_next_b300 o7.1 o13.2 else (if o7.1 = 42 then f_X9_next_b300 o7.1 o13.2 else (if o7.1 = 60 then f_X9_next_b300 o7.1 o13.2 else (if o7.1 = 61 then f_X9_next_b300 o7.1 o13.2 else some o13.2)))))))) else ck (((0).toInt32).toInt64 == 0) ((f_X9_next_l160 f_X9_next_b235 FU) 0 (mu (mu o13.2 100 22 2) 100 24 (0).toInt32))) else (f_X9_next_l100 FU) (mu o10.2 100 22 1)) else some (mu (mu (mu o7.2 100 22 4) 100 22 0) 100 23 (o7.2 100 20)))
def f_X9_next (M : Mem) : Option Mem :=
  (f_X9_next_l0 f_X9_next_b39 FU) M

def f_X9_fail (M : Mem) : Option Mem :=
  (if (M 100 26) = 0 then some (mu (mu M 100 26 1) 100 27 (M 100 23)) else some M)

def f_X9_isLetter (v1 : Int32) (v2 : Int32) (M : Mem) : Option (Int32 × Mem) :=
  (if (M 100 21) ≤ ((M 100 23) + v1) then (if v2 = 0 then some (1, M) else some (0, M)) else (f_X9_byteAt ((M 100 23) + v1) M).bind fun o3 => (if o3.1 = v2 then some (1, o3.2) else some (0, o3.2)))

def f_X9_isWord (v1 : Int32) (v2 : Int32) (v3 : Int32) (v4 : Int32) (v5 : Int32) (v6 : Int32) (v7 : Int32) (v8 : Int32) (M : Mem) : Option (Int32 × Mem) :=
  (if (M 100 26) = 0 then (if (M 100 22) = 1 then (if ((M 100 23) + 8) < (M 100 21) then some (0, M) else (f_X9_isLetter 0 v1 M).bind fun o4 => (if o4.1 = 0 then some (0, o4.2) else (f_X9_isLetter 1 v2 o4.2).bind fun o7 => (if o7.1 = 0 then some (0, o7.2) else (f_X9_isLetter 2 v3 o7.2).bind fun o10 => (if o10.1 = 0 then some (0, o10.2) else (f_X9_isLetter 3 v4 o10.2).bind fun o13 => (if o13.1 = 0 then some (0, o13.2) else (f_X9_isLetter 4 v5 o13.2).bind fun o16 => (if o16.1 = 0 then some (0, o16.2) else (f_X9_isLetter 5 v6 o16.2).bind fun o19 => (if o19.1 = 0 then some (0, o19.2) else (f_X9_isLetter 6 v7 o19.2).bind fun o22 => (if o22.1 = 0 then some (0, o22.2) else (f_X9_isLetter 7 v8 o22.2).bind fun o25 => (if o25.1 = 0 then some (0, o25.2) else some (1, o25.2)))))))))) else some (0, M)) else some (0, M))

def f_X9_isSign (v1 : Int32) (M : Mem) : Option (Int32 × Mem) :=
  (if (M 100 26) = 0 then (if (M 100 22) = 3 then (if (lg_cmp ((M 100 24)).toInt64 ((v1 : Int32).toInt64)) = 0 then some (1, M) else some (0, M)) else some (0, M)) else some (0, M))

def f_X9_opens (M : Mem) : Option (Int32 × Mem) :=
  (if (M 100 25) = 5 then (f_X9_fail M).bind fun o4 => some (0, o4) else (f_X9_next (mu M 100 25 ((M 100 25) + 1))).bind fun o2 => some (1, o2))

def f_X9_name (M : Mem) : Option (Int32 × Mem) :=
  (f_X9_isWord 112 97 114 116 0 0 0 0 M).bind fun o1 => (if o1.1 = 0 then (f_X9_isWord 109 117 99 104 0 0 0 0 o1.2).bind fun o4 => (if o4.1 = 0 then (f_X9_isWord 107 105 116 99 104 101 110 0 o4.2).bind fun o7 => (if o7.1 = 0 then (f_X9_isWord 104 111 117 114 0 0 0 0 o7.2).bind fun o10 => (if o10.1 = 0 then (f_X9_isWord 110 117 109 98 101 114 0 0 o10.2).bind fun o13 => (if o13.1 = 0 then (f_X9_isWord 112 114 105 100 101 0 0 0 o13.2).bind fun o16 => (if o16.1 = 0 then (f_X9_fail o16.2).bind fun o19 => some (0, o19) else some ((o16.2 100 18), o16.2)) else some ((o13.2 100 17), o13.2)) else some ((o10.2 100 16), o10.2)) else some ((o7.2 100 15), o7.2)) else some ((o4.2 100 14), o4.2)) else some ((o1.2 100 13), o1.2))

def f_X9_either_b44 (rc_X9_either : Mem → Option (Int32 × Mem)) (rc_X9_both : Mem → Option (Int32 × Mem)) (rc_X9_not : Mem → Option (Int32 × Mem)) (rc_X9_added : Mem → Option (Int32 × Mem)) (rc_X9_term : Mem → Option (Int32 × Mem)) (rc_X9_atom : Mem → Option (Int32 × Mem)) (r : Int32 → Mem → Option (Int32 × Mem)) (s0 : Int32) (M : Mem) : Option (Int32 × Mem) :=
  r s0 M
def f_X9_either_b39 (rc_X9_either : Mem → Option (Int32 × Mem)) (rc_X9_both : Mem → Option (Int32 × Mem)) (rc_X9_not : Mem → Option (Int32 × Mem)) (rc_X9_added : Mem → Option (Int32 × Mem)) (rc_X9_term : Mem → Option (Int32 × Mem)) (rc_X9_atom : Mem → Option (Int32 × Mem)) (r : Int32 → Mem → Option (Int32 × Mem)) (M : Mem) : Option (Int32 × Mem) :=
  (f_X9_either_b44 rc_X9_either rc_X9_both rc_X9_not rc_X9_added rc_X9_term rc_X9_atom r) 1 M
def f_X9_either_l5 (rc_X9_either : Mem → Option (Int32 × Mem)) (rc_X9_both : Mem → Option (Int32 × Mem)) (rc_X9_not : Mem → Option (Int32 × Mem)) (rc_X9_added : Mem → Option (Int32 × Mem)) (rc_X9_term : Mem → Option (Int32 × Mem)) (rc_X9_atom : Mem → Option (Int32 × Mem)) : Nat → Int32 → Mem → Option (Int32 × Mem)
  | 0, _, _ => none
  | n + 1, v1, M => (f_X9_isWord 111 114 0 0 0 0 0 0 M).bind fun o3 => (if o3.1 = 0 then some (v1, o3.2) else (f_X9_next o3.2).bind fun o6 => (rc_X9_both o6).bind fun o8 => (if v1 = 0 then (if o8.1 = 0 then (f_X9_either_b44 rc_X9_either rc_X9_both rc_X9_not rc_X9_added rc_X9_term rc_X9_atom (f_X9_either_l5 rc_X9_either rc_X9_both rc_X9_not rc_X9_added rc_X9_term rc_X9_atom n)) 0 o8.2 else (f_X9_either_b39 rc_X9_either rc_X9_both rc_X9_not rc_X9_added rc_X9_term rc_X9_atom (f_X9_either_l5 rc_X9_either rc_X9_both rc_X9_not rc_X9_added rc_X9_term rc_X9_atom n)) o8.2) else (f_X9_either_b39 rc_X9_either rc_X9_both rc_X9_not rc_X9_added rc_X9_term rc_X9_atom (f_X9_either_l5 rc_X9_either rc_X9_both rc_X9_not rc_X9_added rc_X9_term rc_X9_atom n)) o8.2))
def f_X9_either_b (rc_X9_either : Mem → Option (Int32 × Mem)) (rc_X9_both : Mem → Option (Int32 × Mem)) (rc_X9_not : Mem → Option (Int32 × Mem)) (rc_X9_added : Mem → Option (Int32 × Mem)) (rc_X9_term : Mem → Option (Int32 × Mem)) (rc_X9_atom : Mem → Option (Int32 × Mem)) (M : Mem) : Option (Int32 × Mem) :=
  (rc_X9_both M).bind fun o1 => (f_X9_either_l5 rc_X9_either rc_X9_both rc_X9_not rc_X9_added rc_X9_term rc_X9_atom FU) o1.1 o1.2
def f_X9_both_b45 (rc_X9_either : Mem → Option (Int32 × Mem)) (rc_X9_both : Mem → Option (Int32 × Mem)) (rc_X9_not : Mem → Option (Int32 × Mem)) (rc_X9_added : Mem → Option (Int32 × Mem)) (rc_X9_term : Mem → Option (Int32 × Mem)) (rc_X9_atom : Mem → Option (Int32 × Mem)) (r : Int32 → Mem → Option (Int32 × Mem)) (s0 : Int32) (M : Mem) : Option (Int32 × Mem) :=
  r s0 M
def f_X9_both_b44 (rc_X9_either : Mem → Option (Int32 × Mem)) (rc_X9_both : Mem → Option (Int32 × Mem)) (rc_X9_not : Mem → Option (Int32 × Mem)) (rc_X9_added : Mem → Option (Int32 × Mem)) (rc_X9_term : Mem → Option (Int32 × Mem)) (rc_X9_atom : Mem → Option (Int32 × Mem)) (r : Int32 → Mem → Option (Int32 × Mem)) (M : Mem) : Option (Int32 × Mem) :=
  (f_X9_both_b45 rc_X9_either rc_X9_both rc_X9_not rc_X9_added rc_X9_term rc_X9_atom r) 0 M
def f_X9_both_l5 (rc_X9_either : Mem → Option (Int32 × Mem)) (rc_X9_both : Mem → Option (Int32 × Mem)) (rc_X9_not : Mem → Option (Int32 × Mem)) (rc_X9_added : Mem → Option (Int32 × Mem)) (rc_X9_term : Mem → Option (Int32 × Mem)) (rc_X9_atom : Mem → Option (Int32 × Mem)) : Nat → Int32 → Mem → Option (Int32 × Mem)
  | 0, _, _ => none
  | n + 1, v1, M => (f_X9_isWord 97 110 100 0 0 0 0 0 M).bind fun o3 => (if o3.1 = 0 then some (v1, o3.2) else (f_X9_next o3.2).bind fun o6 => (rc_X9_not o6).bind fun o8 => (if v1 = 0 then (f_X9_both_b44 rc_X9_either rc_X9_both rc_X9_not rc_X9_added rc_X9_term rc_X9_atom (f_X9_both_l5 rc_X9_either rc_X9_both rc_X9_not rc_X9_added rc_X9_term rc_X9_atom n)) o8.2 else (if o8.1 = 0 then (f_X9_both_b44 rc_X9_either rc_X9_both rc_X9_not rc_X9_added rc_X9_term rc_X9_atom (f_X9_both_l5 rc_X9_either rc_X9_both rc_X9_not rc_X9_added rc_X9_term rc_X9_atom n)) o8.2 else (f_X9_both_b45 rc_X9_either rc_X9_both rc_X9_not rc_X9_added rc_X9_term rc_X9_atom (f_X9_both_l5 rc_X9_either rc_X9_both rc_X9_not rc_X9_added rc_X9_term rc_X9_atom n)) 1 o8.2)))
def f_X9_both_b (rc_X9_either : Mem → Option (Int32 × Mem)) (rc_X9_both : Mem → Option (Int32 × Mem)) (rc_X9_not : Mem → Option (Int32 × Mem)) (rc_X9_added : Mem → Option (Int32 × Mem)) (rc_X9_term : Mem → Option (Int32 × Mem)) (rc_X9_atom : Mem → Option (Int32 × Mem)) (M : Mem) : Option (Int32 × Mem) :=
  (rc_X9_not M).bind fun o1 => (f_X9_both_l5 rc_X9_either rc_X9_both rc_X9_not rc_X9_added rc_X9_term rc_X9_atom FU) o1.1 o1.2
def f_X9_not_b93 (rc_X9_either : Mem → Option (Int32 × Mem)) (rc_X9_both : Mem → Option (Int32 × Mem)) (rc_X9_not : Mem → Option (Int32 × Mem)) (rc_X9_added : Mem → Option (Int32 × Mem)) (rc_X9_term : Mem → Option (Int32 × Mem)) (rc_X9_atom : Mem → Option (Int32 × Mem)) (v1 : Int32) (s0 : Int32) (M : Mem) : Option (Int32 × Mem) :=
  (f_X9_next M).bind fun o19 => (rc_X9_added o19).bind fun o21 => (if s0 = 0 then (if v1 = o21.1 then some (1, o21.2) else some (0, o21.2)) else (if o21.1 ≤ v1 then some (0, o21.2) else some (1, o21.2)))
def f_X9_not_b77 (rc_X9_either : Mem → Option (Int32 × Mem)) (rc_X9_both : Mem → Option (Int32 × Mem)) (rc_X9_not : Mem → Option (Int32 × Mem)) (rc_X9_added : Mem → Option (Int32 × Mem)) (rc_X9_term : Mem → Option (Int32 × Mem)) (rc_X9_atom : Mem → Option (Int32 × Mem)) (v1 : Int32) (M : Mem) : Option (Int32 × Mem) :=
  (if (lg_cmp ((M 100 24)).toInt64 60) = 0 then (f_X9_not_b93 rc_X9_either rc_X9_both rc_X9_not rc_X9_added rc_X9_term rc_X9_atom) v1 1 M else (f_X9_not_b93 rc_X9_either rc_X9_both rc_X9_not rc_X9_added rc_X9_term rc_X9_atom) v1 0 M)
def f_X9_not_b (rc_X9_either : Mem → Option (Int32 × Mem)) (rc_X9_both : Mem → Option (Int32 × Mem)) (rc_X9_not : Mem → Option (Int32 × Mem)) (rc_X9_added : Mem → Option (Int32 × Mem)) (rc_X9_term : Mem → Option (Int32 × Mem)) (rc_X9_atom : Mem → Option (Int32 × Mem)) (M : Mem) : Option (Int32 × Mem) :=
  (f_X9_isWord 110 111 116 0 0 0 0 0 M).bind fun o1 => (if o1.1 = 0 then (rc_X9_added o1.2).bind fun o4 => (f_X9_isSign 60 o4.2).bind fun o6 => (if o6.1 = 0 then (f_X9_isSign 61 o6.2).bind fun o9 => (if o9.1 = 0 then some (o4.1, o9.2) else (f_X9_not_b77 rc_X9_either rc_X9_both rc_X9_not rc_X9_added rc_X9_term rc_X9_atom) o4.1 o9.2) else (f_X9_not_b77 rc_X9_either rc_X9_both rc_X9_not rc_X9_added rc_X9_term rc_X9_atom) o4.1 o6.2) else (f_X9_opens o1.2).bind fun o12 => (if o12.1 = 0 then some (0, o12.2) else (rc_X9_not o12.2).bind fun o15 => (if o15.1 = 0 then some (1, (mu o15.2 100 25 ((o15.2 100 25) - 1))) else some (0, (mu o15.2 100 25 ((o15.2 100 25) - 1))))))
def f_X9_added_b62 (rc_X9_either : Mem → Option (Int32 × Mem)) (rc_X9_both : Mem → Option (Int32 × Mem)) (rc_X9_not : Mem → Option (Int32 × Mem)) (rc_X9_added : Mem → Option (Int32 × Mem)) (rc_X9_term : Mem → Option (Int32 × Mem)) (rc_X9_atom : Mem → Option (Int32 × Mem)) (r : Int32 → Mem → Option (Int32 × Mem)) (s0 : Int32) (M : Mem) : Option (Int32 × Mem) :=
  r s0 M
def f_X9_added_b39 (rc_X9_either : Mem → Option (Int32 × Mem)) (rc_X9_both : Mem → Option (Int32 × Mem)) (rc_X9_not : Mem → Option (Int32 × Mem)) (rc_X9_added : Mem → Option (Int32 × Mem)) (rc_X9_term : Mem → Option (Int32 × Mem)) (rc_X9_atom : Mem → Option (Int32 × Mem)) (r : Int32 → Mem → Option (Int32 × Mem)) (v1 : Int32) (s0 : Int32) (M : Mem) : Option (Int32 × Mem) :=
  (f_X9_next M).bind fun o10 => (rc_X9_term o10).bind fun o12 => (if s0 = 0 then (f_X9_added_b62 rc_X9_either rc_X9_both rc_X9_not rc_X9_added rc_X9_term rc_X9_atom r) (v1 - o12.1) o12.2 else (f_X9_added_b62 rc_X9_either rc_X9_both rc_X9_not rc_X9_added rc_X9_term rc_X9_atom r) (v1 + o12.1) o12.2)
def f_X9_added_b23 (rc_X9_either : Mem → Option (Int32 × Mem)) (rc_X9_both : Mem → Option (Int32 × Mem)) (rc_X9_not : Mem → Option (Int32 × Mem)) (rc_X9_added : Mem → Option (Int32 × Mem)) (rc_X9_term : Mem → Option (Int32 × Mem)) (rc_X9_atom : Mem → Option (Int32 × Mem)) (r : Int32 → Mem → Option (Int32 × Mem)) (v1 : Int32) (M : Mem) : Option (Int32 × Mem) :=
  (if (lg_cmp ((M 100 24)).toInt64 43) = 0 then (f_X9_added_b39 rc_X9_either rc_X9_both rc_X9_not rc_X9_added rc_X9_term rc_X9_atom r) v1 1 M else (f_X9_added_b39 rc_X9_either rc_X9_both rc_X9_not rc_X9_added rc_X9_term rc_X9_atom r) v1 0 M)
def f_X9_added_l5 (rc_X9_either : Mem → Option (Int32 × Mem)) (rc_X9_both : Mem → Option (Int32 × Mem)) (rc_X9_not : Mem → Option (Int32 × Mem)) (rc_X9_added : Mem → Option (Int32 × Mem)) (rc_X9_term : Mem → Option (Int32 × Mem)) (rc_X9_atom : Mem → Option (Int32 × Mem)) : Nat → Int32 → Mem → Option (Int32 × Mem)
  | 0, _, _ => none
  | n + 1, v1, M => (f_X9_isSign 43 M).bind fun o3 => (if o3.1 = 0 then (f_X9_isSign 45 o3.2).bind fun o6 => (if o6.1 = 0 then some (v1, o6.2) else (f_X9_added_b23 rc_X9_either rc_X9_both rc_X9_not rc_X9_added rc_X9_term rc_X9_atom (f_X9_added_l5 rc_X9_either rc_X9_both rc_X9_not rc_X9_added rc_X9_term rc_X9_atom n)) v1 o6.2) else (f_X9_added_b23 rc_X9_either rc_X9_both rc_X9_not rc_X9_added rc_X9_term rc_X9_atom (f_X9_added_l5 rc_X9_either rc_X9_both rc_X9_not rc_X9_added rc_X9_term rc_X9_atom n)) v1 o3.2)
def f_X9_added_b (rc_X9_either : Mem → Option (Int32 × Mem)) (rc_X9_both : Mem → Option (Int32 × Mem)) (rc_X9_not : Mem → Option (Int32 × Mem)) (rc_X9_added : Mem → Option (Int32 × Mem)) (rc_X9_term : Mem → Option (Int32 × Mem)) (rc_X9_atom : Mem → Option (Int32 × Mem)) (M : Mem) : Option (Int32 × Mem) :=
  (rc_X9_term M).bind fun o1 => (f_X9_added_l5 rc_X9_either rc_X9_both rc_X9_not rc_X9_added rc_X9_term rc_X9_atom FU) o1.1 o1.2
def f_X9_term_l5 (rc_X9_either : Mem → Option (Int32 × Mem)) (rc_X9_both : Mem → Option (Int32 × Mem)) (rc_X9_not : Mem → Option (Int32 × Mem)) (rc_X9_added : Mem → Option (Int32 × Mem)) (rc_X9_term : Mem → Option (Int32 × Mem)) (rc_X9_atom : Mem → Option (Int32 × Mem)) : Nat → Int32 → Mem → Option (Int32 × Mem)
  | 0, _, _ => none
  | n + 1, v1, M => (f_X9_isSign 42 M).bind fun o3 => (if o3.1 = 0 then some (v1, o3.2) else (f_X9_next o3.2).bind fun o6 => (rc_X9_atom o6).bind fun o8 => (f_X9_term_l5 rc_X9_either rc_X9_both rc_X9_not rc_X9_added rc_X9_term rc_X9_atom n) (v1 * o8.1) o8.2)
def f_X9_term_b (rc_X9_either : Mem → Option (Int32 × Mem)) (rc_X9_both : Mem → Option (Int32 × Mem)) (rc_X9_not : Mem → Option (Int32 × Mem)) (rc_X9_added : Mem → Option (Int32 × Mem)) (rc_X9_term : Mem → Option (Int32 × Mem)) (rc_X9_atom : Mem → Option (Int32 × Mem)) (M : Mem) : Option (Int32 × Mem) :=
  (rc_X9_atom M).bind fun o1 => (f_X9_term_l5 rc_X9_either rc_X9_both rc_X9_not rc_X9_added rc_X9_term rc_X9_atom FU) o1.1 o1.2
def f_X9_atom_b71 (rc_X9_either : Mem → Option (Int32 × Mem)) (rc_X9_both : Mem → Option (Int32 × Mem)) (rc_X9_not : Mem → Option (Int32 × Mem)) (rc_X9_added : Mem → Option (Int32 × Mem)) (rc_X9_term : Mem → Option (Int32 × Mem)) (rc_X9_atom : Mem → Option (Int32 × Mem)) (v1 : Int32) (M : Mem) : Option (Int32 × Mem) :=
  (if (M 100 26) = 0 then (f_X9_next (mu M 100 25 ((M 100 25) - 1))).bind fun o27 => some (v1, o27) else some (v1, (mu M 100 25 ((M 100 25) - 1))))
def f_X9_atom_b157 (rc_X9_either : Mem → Option (Int32 × Mem)) (rc_X9_both : Mem → Option (Int32 × Mem)) (rc_X9_not : Mem → Option (Int32 × Mem)) (rc_X9_added : Mem → Option (Int32 × Mem)) (rc_X9_term : Mem → Option (Int32 × Mem)) (rc_X9_atom : Mem → Option (Int32 × Mem)) (v1 : Int32) (M : Mem) : Option (Int32 × Mem) :=
  (f_X9_fail M).bind fun o36 => some (v1, o36)
def f_X9_atom_b123 (rc_X9_either : Mem → Option (Int32 × Mem)) (rc_X9_both : Mem → Option (Int32 × Mem)) (rc_X9_not : Mem → Option (Int32 × Mem)) (rc_X9_added : Mem → Option (Int32 × Mem)) (rc_X9_term : Mem → Option (Int32 × Mem)) (rc_X9_atom : Mem → Option (Int32 × Mem)) (v1 : Int32) (M : Mem) : Option (Int32 × Mem) :=
  (if (M 100 26) = 0 then (if (M 100 22) = 1 then (f_X9_name M).bind fun o31 => (if (o31.2 100 26) = 0 then (f_X9_next o31.2).bind fun o34 => some (o31.1, o34) else some (o31.1, o31.2)) else (f_X9_atom_b157 rc_X9_either rc_X9_both rc_X9_not rc_X9_added rc_X9_term rc_X9_atom) v1 M) else (f_X9_atom_b157 rc_X9_either rc_X9_both rc_X9_not rc_X9_added rc_X9_term rc_X9_atom) v1 M)
def f_X9_atom_b (rc_X9_either : Mem → Option (Int32 × Mem)) (rc_X9_both : Mem → Option (Int32 × Mem)) (rc_X9_not : Mem → Option (Int32 × Mem)) (rc_X9_added : Mem → Option (Int32 × Mem)) (rc_X9_term : Mem → Option (Int32 × Mem)) (rc_X9_atom : Mem → Option (Int32 × Mem)) (M : Mem) : Option (Int32 × Mem) :=
  (f_X9_isSign 45 M).bind fun o1 => (if o1.1 = 0 then (f_X9_isSign 40 o1.2).bind fun o4 => (if o4.1 = 0 then (if (o4.2 100 26) = 0 then (if (o4.2 100 22) = 2 then (f_X9_next o4.2).bind fun o9 => some (((((o4.2 100 24)).toInt64 : Int64).toInt32), o9) else (f_X9_atom_b123 rc_X9_either rc_X9_both rc_X9_not rc_X9_added rc_X9_term rc_X9_atom) 0 o4.2) else (f_X9_atom_b123 rc_X9_either rc_X9_both rc_X9_not rc_X9_added rc_X9_term rc_X9_atom) 0 o4.2) else (f_X9_opens o4.2).bind fun o11 => (if o11.1 = 0 then some (0, o11.2) else (rc_X9_either o11.2).bind fun o14 => (f_X9_isSign 41 o14.2).bind fun o16 => (if o16.1 = 0 then (f_X9_fail o16.2).bind fun o19 => (f_X9_atom_b71 rc_X9_either rc_X9_both rc_X9_not rc_X9_added rc_X9_term rc_X9_atom) o14.1 o19 else (f_X9_atom_b71 rc_X9_either rc_X9_both rc_X9_not rc_X9_added rc_X9_term rc_X9_atom) o14.1 o16.2))) else (f_X9_opens o1.2).bind fun o21 => (if o21.1 = 0 then some (0, o21.2) else (rc_X9_atom o21.2).bind fun o24 => some ((-o24.1), (mu o24.2 100 25 ((o24.2 100 25) - 1)))))
def G_X9_either : Nat → (Mem → Option (Int32 × Mem)) × (Mem → Option (Int32 × Mem)) × (Mem → Option (Int32 × Mem)) × (Mem → Option (Int32 × Mem)) × (Mem → Option (Int32 × Mem)) × (Mem → Option (Int32 × Mem))
  | 0 => (fun _ => none, fun _ => none, fun _ => none, fun _ => none, fun _ => none, fun _ => none)
  | d + 1 => let g := G_X9_either d; (f_X9_either_b g.1 g.2.1 g.2.2.1 g.2.2.2.1 g.2.2.2.2.1 g.2.2.2.2.2, f_X9_both_b g.1 g.2.1 g.2.2.1 g.2.2.2.1 g.2.2.2.2.1 g.2.2.2.2.2, f_X9_not_b g.1 g.2.1 g.2.2.1 g.2.2.2.1 g.2.2.2.2.1 g.2.2.2.2.2, f_X9_added_b g.1 g.2.1 g.2.2.1 g.2.2.2.1 g.2.2.2.2.1 g.2.2.2.2.2, f_X9_term_b g.1 g.2.1 g.2.2.1 g.2.2.2.1 g.2.2.2.2.1 g.2.2.2.2.2, f_X9_atom_b g.1 g.2.1 g.2.2.1 g.2.2.2.1 g.2.2.2.2.1 g.2.2.2.2.2)
def f_X9_either (d : Nat) : Mem → Option (Int32 × Mem) := (G_X9_either d).1
def f_X9_both (d : Nat) : Mem → Option (Int32 × Mem) := (G_X9_either d).2.1
def f_X9_not (d : Nat) : Mem → Option (Int32 × Mem) := (G_X9_either d).2.2.1
def f_X9_added (d : Nat) : Mem → Option (Int32 × Mem) := (G_X9_either d).2.2.2.1
def f_X9_term (d : Nat) : Mem → Option (Int32 × Mem) := (G_X9_either d).2.2.2.2.1
def f_X9_atom (d : Nat) : Mem → Option (Int32 × Mem) := (G_X9_either d).2.2.2.2.2

def f_X9_part_b48 (v2 : Int32) (M : Mem) : Option (Int32 × Mem) :=
  (if (M 100 26) = 0 then (f_X9_next M).bind fun o16 => some (v2, o16) else some (v2, M))
def f_X9_part_b34 (s0 : Int32) (M : Mem) : Option (Int32 × Mem) :=
  (f_X9_isSign 59 M).bind fun o10 => (if o10.1 = 0 then (f_X9_fail o10.2).bind fun o13 => f_X9_part_b48 s0 o13 else f_X9_part_b48 s0 o10.2)
def f_X9_part_b19 (M : Mem) : Option (Int32 × Mem) :=
  (if (M 100 26) = 0 then (f_X9_either DP M).bind fun o8 => f_X9_part_b34 o8.1 o8.2 else f_X9_part_b34 0 M)
def f_X9_part_b8 (M : Mem) : Option (Int32 × Mem) :=
  (if (M 100 26) = 0 then (f_X9_next M).bind fun o5 => f_X9_part_b19 o5 else f_X9_part_b19 M)
def f_X9_part (v1 : Int32) (M : Mem) : Option (Int32 × Mem) :=
  (if v1 = 0 then (f_X9_fail M).bind fun o2 => f_X9_part_b8 o2 else f_X9_part_b8 M)

def f_X9_read_b146 (v2 : Int32) (v3 : Int32) (v4 : Int32) (v5 : Int32) (M : Mem) : Option (Int32 × Mem) :=
  (if v2 = 0 then some (v3, M) else (if v2 = 1 then some (v4, M) else some (v5, M)))
def f_X9_read_b126 (v2 : Int32) (v3 : Int32) (v4 : Int32) (s0 : Int32) (M : Mem) : Option (Int32 × Mem) :=
  (if (M 100 26) = 0 then (if (M 100 22) = 0 then f_X9_read_b146 v2 v3 v4 s0 M else (f_X9_fail M).bind fun o20 => f_X9_read_b146 v2 v3 v4 s0 o20) else f_X9_read_b146 v2 v3 v4 s0 M)
def f_X9_read_b92 (v2 : Int32) (v3 : Int32) (s0 : Int32) (M : Mem) : Option (Int32 × Mem) :=
  (if (M 100 26) = 0 then (f_X9_isWord 115 105 103 110 115 0 0 0 M).bind fun o14 => (f_X9_part o14.1 o14.2).bind fun o16 => f_X9_read_b126 v2 v3 s0 o16.1 o16.2 else f_X9_read_b126 v2 v3 s0 0 M)
def f_X9_read (v1 : Int32) (v2 : Int32) (M : Mem) : Option (Int32 × Mem) :=
  ck (inb v1 6) ((f_X9_next (mu (mu (mu (mu (mu M 100 19 (160 * v1)) 100 20 (M 102 (v1).toNatClampNeg)) 100 21 0) 100 25 0) 100 26 0)).bind fun o2 => (f_X9_isWord 102 101 101 100 115 0 0 0 o2).bind fun o4 => (f_X9_part o4.1 o4.2).bind fun o6 => (if (o6.2 100 26) = 0 then (f_X9_isWord 116 111 108 108 115 0 0 0 o6.2).bind fun o9 => (f_X9_part o9.1 o9.2).bind fun o11 => f_X9_read_b92 v2 o6.1 o11.1 o11.2 else f_X9_read_b92 v2 o6.1 0 o6.2))

def f_X9_text_l14 (k49 : Mem → Option (Int32 × Mem)) : Nat → Int32 → Mem → Option (Int32 × Mem)
  | 0, _, _ => none
  | n + 1, v1, M => (if (M 100 6) ≤ v1 then k49 M else ck (inb v1 160) (ck (inb ((160 * (M 100 3)) + v1) 960) ((f_X9_text_l14 k49 n) (v1 + 1) (mu M 101 (((160 * (M 100 3)) + v1)).toNatClampNeg (M 103 (v1).toNatClampNeg)))))
def f_X9_text_b49 (M : Mem) : Option (Int32 × Mem) :=
  ck (inb (M 100 3) 6) ((f_X9_read (M 100 3) 0 (mu (mu M 102 ((M 100 3)).toNatClampNeg (M 100 6)) 100 6 0)).bind fun o6 => (if (o6.2 100 26) = 0 then some ((((o6.2 100 3) + 1) - 1), (mu o6.2 100 3 ((o6.2 100 3) + 1))) else some (((-100) - (o6.2 100 27)), o6.2)))
def f_X9_text (M : Mem) : Option (Int32 × Mem) :=
  (if (M 100 3) = 6 then some ((-4), M) else (f_X9_text_l14 f_X9_text_b49 FU) 0 M)

def f_X9_force (v1 : Int32) (M : Mem) : Option (Int32 × Mem) :=
  (f_X9_in ((v1 : Int32).toInt64) 0 ((((M 100 3) - 1) : Int32).toInt64) M).bind fun o1 => (if o1.1 = 0 then some ((-2), o1.2) else some ((o1.2 100 4), (mu o1.2 100 4 v1)))

def f_X9_says (v1 : Int32) (v2 : Int32) (v3 : Int32) (v4 : Int32) (v5 : Int32) (M : Mem) : Option (Int32 × Mem) :=
  ck (inb (3 * v2) 18) (ck (inb v3 2) ((f_X9_read (M 100 4) v1 (mu (mu (mu (mu (mu (mu M 100 13 v4) 100 14 v5) 100 15 v3) 100 16 (M 100 7)) 100 17 (M 107 ((3 * v2)).toNatClampNeg)) 100 18 (M 105 (v3).toNatClampNeg))).bind fun o3 => (if v1 = 2 then some (o3.1, o3.2) else (f_X9_within o3.1 0 99 o3.2).bind fun o6 => some (o6.1, o6.2))))

def f_X9_feedsOf_b117 (s0 : Int32) (M : Mem) : Option (Int32 × Mem) :=
  (f_X9_within s0 0 99 M).bind fun o15 => some (o15.1, o15.2)
def f_X9_feedsOf_b55 (v5 : Int32) (M : Mem) : Option (Int32 × Mem) :=
  f_X9_feedsOf_b117 (2 * v5) M
def f_X9_feedsOf_b98 (s0 : Int32) (s1 : Int32) (M : Mem) : Option (Int32 × Mem) :=
  f_X9_feedsOf_b117 (s0 + s1) M
def f_X9_feedsOf_b30 (v1 : Int32) (v2 : Int32) (v3 : Int32) (v4 : Int32) (M : Mem) : Option (Int32 × Mem) :=
  (f_X9_needsAll v1 M).bind fun o5 => (f_X9_says 0 v1 v2 0 o5.1 o5.2).bind fun o7 => (if v3 = 1 then f_X9_feedsOf_b55 o7.1 o7.2 else (if v3 = 3 then f_X9_feedsOf_b55 o7.1 o7.2 else (if v3 = 2 then f_X9_feedsOf_b117 (o7.1 / 2) o7.2 else (if v3 = 4 then (if (jrem (o7.2 100 7) 4) = 0 then f_X9_feedsOf_b98 (o7.1 / 2) 10 o7.2 else f_X9_feedsOf_b98 (o7.1 / 2) 0 o7.2) else (if v3 = 5 then f_X9_feedsOf_b117 (o7.1 + v4) o7.2 else f_X9_feedsOf_b117 o7.1 o7.2)))))
def f_X9_feedsOf (v1 : Int32) (v2 : Int32) (M : Mem) : Option (Int32 × Mem) :=
  ck (inb v1 6) (ck (inb (3 * v1) 18) ((if (M 106 (v1).toNatClampNeg) = 3 then (if v2 = 1 then some ((M 107 ((3 * v1)).toNatClampNeg), M) else f_X9_feedsOf_b30 v1 v2 (M 106 (v1).toNatClampNeg) (M 107 ((3 * v1)).toNatClampNeg) M) else f_X9_feedsOf_b30 v1 v2 (M 106 (v1).toNatClampNeg) (M 107 ((3 * v1)).toNatClampNeg) M)))

def f_X9_crossOf (v1 : Int32) (v2 : Int32) (v3 : Int32) (M : Mem) : Option (Int32 × Mem) :=
  (f_X9_needsOf v1 v3 M).bind fun o1 => ck (inb ((6 * v2) + v3) 12) ((if 0 ≤ (o1.1 - (o1.2 104 (((6 * v2) + v3)).toNatClampNeg)) then some ((o1.1 - (o1.2 104 (((6 * v2) + v3)).toNatClampNeg)), o1.2) else some (0, o1.2)))

def f_X9_tollPart_b26 (v5 : Int32) (M : Mem) : Option (Int32 × Mem) :=
  (if v5 = 1 then some (0, M) else (if v5 = 3 then some (1, M) else some (9, M)))
def f_X9_tollPart_b99 (s0 : Int32) (M : Mem) : Option (Int32 × Mem) :=
  (f_X9_within s0 0 99 M).bind fun o13 => some (o13.1, o13.2)
def f_X9_tollPart_b72 (v1 : Int32) (v2 : Int32) (v3 : Int32) (v4 : Int32) (v5 : Int32) (M : Mem) : Option (Int32 × Mem) :=
  (f_X9_says 1 v1 v2 v3 v4 M).bind fun o10 => (if v5 = 0 then f_X9_tollPart_b99 o10.1 o10.2 else f_X9_tollPart_b99 (v4 * o10.1) o10.2)
def f_X9_tollPart (v1 : Int32) (v2 : Int32) (v3 : Int32) (v4 : Int32) (M : Mem) : Option (Int32 × Mem) :=
  ck (inb v1 6) ((if (M 106 (v1).toNatClampNeg) = 1 then f_X9_tollPart_b26 (M 106 (v1).toNatClampNeg) M else (if (M 106 (v1).toNatClampNeg) = 3 then f_X9_tollPart_b26 (M 106 (v1).toNatClampNeg) M else (if (M 106 (v1).toNatClampNeg) = 5 then f_X9_tollPart_b26 (M 106 (v1).toNatClampNeg) M else (if (M 106 (v1).toNatClampNeg) = 4 then ck (inb (3 * v1) 18) ((if v3 = (jrem (M 107 ((3 * v1)).toNatClampNeg) 6) then some (0, M) else f_X9_tollPart_b72 v1 v2 v3 v4 (M 106 (v1).toNatClampNeg) M)) else f_X9_tollPart_b72 v1 v2 v3 v4 (M 106 (v1).toNatClampNeg) M)))))

def f_X9_tollOf_b42 (r : Int32 → Int32 → Int32 → Int32 → Mem → Option (Int32 × Mem)) (v1 : Int32) (v2 : Int32) (v4 : Int32) (s0 : Int32) (s1 : Int32) (M : Mem) : Option (Int32 × Mem) :=
  r v1 v2 (s0 + s1) (v4 + 1) M
def f_X9_tollOf_l5 : Nat → Int32 → Int32 → Int32 → Int32 → Mem → Option (Int32 × Mem)
  | 0, _, _, _, _, _ => none
  | n + 1, v1, v2, v3, v4, M => (if 6 ≤ v4 then some (v3, M) else (f_X9_crossOf v1 v2 v4 M).bind fun o2 => (if o2.1 ≤ 0 then (f_X9_tollOf_b42 (f_X9_tollOf_l5 n)) v1 v2 v4 v3 0 o2.2 else (f_X9_tollPart v1 v2 v4 o2.1 o2.2).bind fun o5 => (f_X9_tollOf_b42 (f_X9_tollOf_l5 n)) v1 v2 v4 v3 o5.1 o5.2))
def f_X9_tollOf (v1 : Int32) (v2 : Int32) (M : Mem) : Option (Int32 × Mem) :=
  (f_X9_tollOf_l5 FU) v1 v2 0 0 M

def f_X9_signsAt_b67 (v3 : Int32) (v4 : Int32) (v6 : Int32) (M : Mem) : Option (Int32 × Mem) :=
  (if v6 = 0 then some (0, M) else ck (inb v3 2) ((if (M 105 (v3).toNatClampNeg) ≤ v4 then some (0, M) else some (1, M))))
def f_X9_signsAt_b53 (v2 : Int32) (v3 : Int32) (v4 : Int32) (v5 : Int32) (s0 : Int32) (M : Mem) : Option (Int32 × Mem) :=
  (if v5 = 2 then f_X9_signsAt_b67 v3 v4 s0 M else (if v5 = 4 then f_X9_signsAt_b67 v3 v4 s0 M else (if v5 = 5 then (if s0 = 0 then (if v2 = v3 then some (1, M) else some (0, M)) else some (1, M)) else ck (zb s0) (some (s0, M)))))
def f_X9_signsAt_b35 (v1 : Int32) (v2 : Int32) (v3 : Int32) (v4 : Int32) (v5 : Int32) (M : Mem) : Option (Int32 × Mem) :=
  (f_X9_says 2 v1 v3 0 v4 M).bind fun o6 => (if o6.1 = 0 then f_X9_signsAt_b53 v2 v3 v4 v5 0 o6.2 else f_X9_signsAt_b53 v2 v3 v4 v5 1 o6.2)
def f_X9_signsAt (v1 : Int32) (v2 : Int32) (v3 : Int32) (v4 : Int32) (M : Mem) : Option (Int32 × Mem) :=
  ck (inb v1 6) ((if (M 106 (v1).toNatClampNeg) = 1 then some (1, M) else (if (M 106 (v1).toNatClampNeg) = 3 then some (1, M) else (if (M 106 (v1).toNatClampNeg) = 4 then (if v2 = v3 then some (1, M) else f_X9_signsAt_b35 v1 v2 v3 v4 (M 106 (v1).toNatClampNeg) M) else f_X9_signsAt_b35 v1 v2 v3 v4 (M 106 (v1).toNatClampNeg) M))))

def f_X9_canBe_l2 : Nat → Int32 → Int32 → Int32 → Mem → Option (Int32 × Mem)
  | 0, _, _, _, _ => none
  | n + 1, v1, v2, v3, M => (if 6 ≤ v3 then some (1, M) else (f_X9_crossOf v1 v2 v3 M).bind fun o2 => ck (inb ((6 * (1 - v2)) + v3) 12) ((if o2.1 ≤ (o2.2 104 (((6 * (1 - v2)) + v3)).toNatClampNeg) then (f_X9_canBe_l2 n) v1 v2 (v3 + 1) o2.2 else some (0, o2.2))))
def f_X9_canBe (v1 : Int32) (v2 : Int32) (M : Mem) : Option (Int32 × Mem) :=
  (f_X9_canBe_l2 FU) v1 v2 0 M

def f_X9_isRatified (v1 : Int32) (v2 : Int32) (M : Mem) : Option (Int32 × Mem) :=
  (f_X9_tollOf v1 v2 M).bind fun o1 => (f_X9_signsAt v1 v2 0 o1.1 o1.2).bind fun o3 => (if o3.1 = 0 then some (0, o3.2) else (f_X9_signsAt v1 v2 1 o1.1 o3.2).bind fun o6 => (if o6.1 = 0 then some (0, o6.2) else some (1, o6.2)))

def f_X9_crossAll_l5 : Nat → Int32 → Int32 → Int32 → Int32 → Mem → Option (Int32 × Mem)
  | 0, _, _, _, _, _ => none
  | n + 1, v1, v2, v3, v4, M => (if 6 ≤ v4 then some (v3, M) else (f_X9_crossOf v1 v2 v4 M).bind fun o2 => (f_X9_crossAll_l5 n) v1 v2 (v3 + o2.1) (v4 + 1) o2.2)
def f_X9_crossAll (v1 : Int32) (v2 : Int32) (M : Mem) : Option (Int32 × Mem) :=
  (f_X9_crossAll_l5 FU) v1 v2 0 0 M

def f_X9_asks (v1 : Int32) (v2 : Int32) (v3 : Int32) (M : Mem) : Option (Int32 × Mem) :=
  (f_X9_isDish v1 M).bind fun o1 => (if o1.1 = 0 then some ((-1000), o1.2) else (f_X9_isKitchen v2 o1.2).bind fun o4 => (if o4.1 = 0 then some ((-1000), o4.2) else (f_X9_in ((v3 : Int32).toInt64) 0 6 o4.2).bind fun o7 => (if o7.1 = 0 then some ((-1000), o7.2) else (f_X9_tollOf v1 v2 o7.2).bind fun o10 => (if 3 ≤ v3 then (if 5 ≤ v3 then (if v3 = 5 then (f_X9_feedsOf v1 v2 o10.2).bind fun o17 => some (o17.1, o17.2) else (f_X9_feedsOf v1 v2 o10.2).bind fun o15 => some ((o15.1 - o10.1), o15.2)) else (f_X9_signsAt v1 v2 (v3 - 3) o10.1 o10.2).bind fun o19 => (if o19.1 = 0 then some (0, o19.2) else some (1, o19.2))) else (if v3 = 0 then (f_X9_canBe v1 v2 o10.2).bind fun o26 => (if o26.1 = 0 then some (0, o26.2) else some (1, o26.2)) else (if v3 = 1 then (f_X9_crossAll v1 v2 o10.2).bind fun o24 => some (o24.1, o24.2) else some (o10.1, o10.2)))))))

def f_X9_isCooked (v1 : Int32) (v2 : Int32) (M : Mem) : Option (Int32 × Mem) :=
  (f_X9_canBe v1 v2 M).bind fun o1 => (if o1.1 = 0 then some (0, o1.2) else (f_X9_isRatified v1 v2 o1.2).bind fun o4 => (if o4.1 = 0 then some (0, o4.2) else some (1, o4.2)))

def f_X9_uses_l2 : Nat → Int32 → Int32 → Int32 → Mem → Option Mem
  | 0, _, _, _, _ => none
  | n + 1, v1, v2, v3, M => (if 6 ≤ v3 then some M else (f_X9_crossOf v1 v2 v3 M).bind fun o2 => ck (inb ((6 * v2) + v3) 12) ((f_X9_needsOf v1 v3 o2.2).bind fun o5 => ck (inb ((6 * (1 - v2)) + v3) 12) ((f_X9_uses_l2 n) v1 v2 (v3 + 1) (mu (mu o5.2 104 (((6 * v2) + v3)).toNatClampNeg ((o2.2 104 (((6 * v2) + v3)).toNatClampNeg) - (o5.1 - o2.1))) 104 (((6 * (1 - v2)) + v3)).toNatClampNeg (((mu o5.2 104 (((6 * v2) + v3)).toNatClampNeg ((o2.2 104 (((6 * v2) + v3)).toNatClampNeg) - (o5.1 - o2.1))) 104 (((6 * (1 - v2)) + v3)).toNatClampNeg) - o2.1)))))
def f_X9_uses (v1 : Int32) (v2 : Int32) (M : Mem) : Option Mem :=
  (f_X9_uses_l2 FU) v1 v2 0 M

def f_X9_counts (v1 : Int32) (M : Mem) : Option Mem :=
  ck (inb ((3 * v1) + 2) 18) ((f_X9_within ((M 107 (((3 * v1) + 2)).toNatClampNeg) + 1) 0 999 M).bind fun o2 => some (mu o2.2 107 (((3 * v1) + 2)).toNatClampNeg o2.1))

def f_X9_cook (v1 : Int32) (v2 : Int32) (M : Mem) : Option (Int32 × Mem) :=
  (f_X9_isDish v1 M).bind fun o1 => (if o1.1 = 0 then some ((-1000), o1.2) else (f_X9_isKitchen v2 o1.2).bind fun o4 => (if o4.1 = 0 then some ((-1000), o4.2) else (f_X9_canBe v1 v2 o4.2).bind fun o7 => (if o7.1 = 0 then some ((-1001), o7.2) else (f_X9_isRatified v1 v2 o7.2).bind fun o10 => (if o10.1 = 0 then some ((-1002), o10.2) else (f_X9_feedsOf v1 v2 o10.2).bind fun o13 => (f_X9_tollOf v1 v2 o13.2).bind fun o15 => (f_X9_uses v1 v2 o15.2).bind fun o17 => (f_X9_counts v1 o17).bind fun o19 => some ((o13.1 - o15.1), o19)))))

def f_X9_laysAside_l2 : Nat → Int32 → Mem → Option Mem
  | 0, _, _ => none
  | n + 1, v1, M => (if 12 ≤ v1 then some M else ck (inb v1 12) ((f_X9_laysAside_l2 n) (v1 + 1) (mu M 108 (v1).toNatClampNeg (M 104 (v1).toNatClampNeg))))
def f_X9_laysAside (M : Mem) : Option Mem :=
  (f_X9_laysAside_l2 FU) 0 M

def f_X9_laysBack_l2 : Nat → Int32 → Mem → Option Mem
  | 0, _, _ => none
  | n + 1, v1, M => (if 12 ≤ v1 then some M else ck (inb v1 12) ((f_X9_laysBack_l2 n) (v1 + 1) (mu M 104 (v1).toNatClampNeg (M 108 (v1).toNatClampNeg))))
def f_X9_laysBack (M : Mem) : Option Mem :=
  (f_X9_laysBack_l2 FU) 0 M

def f_X9_isMenu_l9 (k50 : Int32 → Mem → Option (Int32 × Mem)) : Nat → Int32 → Int32 → Int32 → Mem → Option (Int32 × Mem)
  | 0, _, _, _, _ => none
  | n + 1, v1, v2, v3, M => (if v3 < 0 then k50 v2 M else ck (inb v3 6) ((if v1 < 0 then some (0, (mu M 109 (v3).toNatClampNeg (jrem v2 10))) else (if (jrem v2 10) ≤ 2 then (f_X9_isMenu_l9 k50 n) v1 (v2 / 10) (v3 + (-1)) (mu M 109 (v3).toNatClampNeg (jrem v2 10)) else some (0, (mu M 109 (v3).toNatClampNeg (jrem v2 10)))))))
def f_X9_isMenu_b50 (v2 : Int32) (M : Mem) : Option (Int32 × Mem) :=
  (if v2 = 0 then some (1, M) else some (0, M))
def f_X9_isMenu (v1 : Int32) (M : Mem) : Option (Int32 × Mem) :=
  (f_X9_isMenu_l9 f_X9_isMenu_b50 FU) v1 v1 ((M 100 12) - 1) M

def f_X9_cooksAll_b80 (r : Int32 → Mem → Option (Int32 × Mem)) (v1 : Int32) (M : Mem) : Option (Int32 × Mem) :=
  r (v1 + 1) M
def f_X9_cooksAll_l12 : Nat → Int32 → Mem → Option (Int32 × Mem)
  | 0, _, _ => none
  | n + 1, v1, M => (if (M 100 12) ≤ v1 then some ((-1), M) else ck (inb v1 6) ((if ((M 109 (v1).toNatClampNeg) - 1) < 0 then (f_X9_cooksAll_b80 (f_X9_cooksAll_l12 n)) v1 M else (f_X9_isCooked v1 ((M 109 (v1).toNatClampNeg) - 1) M).bind fun o4 => (if o4.1 = 0 then some (v1, o4.2) else (f_X9_feedsOf v1 ((M 109 (v1).toNatClampNeg) - 1) o4.2).bind fun o7 => (f_X9_tollOf v1 ((M 109 (v1).toNatClampNeg) - 1) (mu o7.2 100 30 ((o4.2 100 30) + o7.1))).bind fun o9 => (f_X9_uses v1 ((M 109 (v1).toNatClampNeg) - 1) (mu o9.2 100 31 ((o7.2 100 31) + o9.1))).bind fun o11 => (f_X9_cooksAll_b80 (f_X9_cooksAll_l12 n)) v1 o11))))
def f_X9_cooksAll (M : Mem) : Option (Int32 × Mem) :=
  (f_X9_cooksAll_l12 FU) 0 (mu (mu M 100 30 0) 100 31 0)

def f_X9_menu_b45 (v2 : Int32) (v3 : Int32) (M : Mem) : Option (Int32 × Mem) :=
  (if v2 = 4 then some (v3, M) else (if v3 = (-1) then some (1, M) else some (0, M)))
def f_X9_menu (v1 : Int32) (v2 : Int32) (M : Mem) : Option (Int32 × Mem) :=
  (f_X9_isMenu v1 M).bind fun o1 => (if o1.1 = 0 then some ((-2), o1.2) else (f_X9_in ((v2 : Int32).toInt64) 0 4 o1.2).bind fun o4 => (if o4.1 = 0 then some ((-2), o4.2) else (f_X9_laysAside o4.2).bind fun o7 => (f_X9_cooksAll o7).bind fun o9 => (f_X9_laysBack o9.2).bind fun o11 => (if v2 = 0 then f_X9_menu_b45 v2 o9.1 o11 else (if v2 = 4 then f_X9_menu_b45 v2 o9.1 o11 else (if o9.1 = (-1) then (if v2 = 1 then some (((o11 100 30) - (o11 100 31)), o11) else (if v2 = 2 then some ((o11 100 30), o11) else some ((o11 100 31), o11))) else some ((-100000), o11))))))

def f_X9_serve_b36 (v2 : Int32) (M : Mem) : Option (Int32 × Mem) :=
  (f_X9_laysBack M).bind fun o10 => (if v2 = (-1) then some ((-100003), o10) else some ((-100002), o10))
def f_X9_serve_b79 (r : Int32 → Mem → Option (Int32 × Mem)) (k85 : Mem → Option (Int32 × Mem)) (v3 : Int32) (M : Mem) : Option (Int32 × Mem) :=
  r (v3 + 1) M
def f_X9_serve_l57 (k85 : Mem → Option (Int32 × Mem)) : Nat → Int32 → Mem → Option (Int32 × Mem)
  | 0, _, _ => none
  | n + 1, v3, M => (if (M 100 12) ≤ v3 then k85 M else ck (inb v3 6) ((if (M 109 (v3).toNatClampNeg) ≤ 0 then (f_X9_serve_b79 (f_X9_serve_l57 k85 n) k85) v3 M else (f_X9_counts v3 M).bind fun o16 => (f_X9_serve_b79 (f_X9_serve_l57 k85 n) k85) v3 o16)))
def f_X9_serve_b85 (M : Mem) : Option (Int32 × Mem) :=
  some (((M 100 30) - (M 100 31)), (mu M 100 7 ((M 100 7) + 1)))
def f_X9_serve (v1 : Int32) (M : Mem) : Option (Int32 × Mem) :=
  (f_X9_isMenu v1 M).bind fun o1 => (if o1.1 = 0 then some ((-100001), o1.2) else (f_X9_laysAside o1.2).bind fun o4 => (f_X9_cooksAll o4).bind fun o6 => (if o6.1 = (-1) then (if (o6.2 100 7) = 999 then f_X9_serve_b36 o6.1 o6.2 else (f_X9_serve_l57 f_X9_serve_b85 FU) 0 o6.2) else f_X9_serve_b36 o6.1 o6.2))

def f_X9_menus_b39 (rc_X9_menus : Int32 → Int32 → Int32 → Int32 → Int32 → Int32 → Int32 → Mem → Option Mem) (v3 : Int32) (v5 : Int32) (v6 : Int32) (v7 : Int32) (v8 : Int32) (M : Mem) : Option Mem :=
  some (mu (mu (mu (mu (mu M 100 32 v3) 100 33 v8) 100 34 v5) 100 35 v6) 100 36 v7)
def f_X9_menus_b20 (rc_X9_menus : Int32 → Int32 → Int32 → Int32 → Int32 → Int32 → Int32 → Mem → Option Mem) (v3 : Int32) (v5 : Int32) (v6 : Int32) (v7 : Int32) (s0 : Int32) (M : Mem) : Option Mem :=
  (if (M 100 32) = (-1) then (f_X9_menus_b39 rc_X9_menus) v3 v5 v6 v7 s0 M else (if s0 ≤ (M 100 33) then some M else (f_X9_menus_b39 rc_X9_menus) v3 v5 v6 v7 s0 M))
def f_X9_menus_l137 (rc_X9_menus : Int32 → Int32 → Int32 → Int32 → Int32 → Int32 → Int32 → Mem → Option Mem) (k169 : Int32 → Int32 → Int32 → Int32 → Int32 → Int32 → Int32 → Int32 → Int32 → Int32 → Mem → Option Mem) : Nat → Int32 → Int32 → Int32 → Int32 → Int32 → Int32 → Int32 → Int32 → Int32 → Int32 → Int32 → Mem → Option Mem
  | 0, _, _, _, _, _, _, _, _, _, _, _, _ => none
  | n + 1, v1, v2, v3, v4, v5, v6, v7, v8, v9, v10, v11, M => (if 12 ≤ v11 then k169 v1 v2 v3 v4 v5 v6 v7 v8 v9 v10 M else ck (inb v11 12) (ck (inb ((12 * v2) + v11) 72) ((f_X9_menus_l137 rc_X9_menus k169 n) v1 v2 v3 v4 v5 v6 v7 v8 v9 v10 (v11 + 1) (mu M 110 (((12 * v2) + v11)).toNatClampNeg (M 104 (v11).toNatClampNeg)))))
def f_X9_menus_l257 (rc_X9_menus : Int32 → Int32 → Int32 → Int32 → Int32 → Int32 → Int32 → Mem → Option Mem) (k289 : Int32 → Int32 → Int32 → Int32 → Int32 → Int32 → Int32 → Int32 → Mem → Option Mem) : Nat → Int32 → Int32 → Int32 → Int32 → Int32 → Int32 → Int32 → Int32 → Int32 → Mem → Option Mem
  | 0, _, _, _, _, _, _, _, _, _, _ => none
  | n + 1, v1, v2, v3, v4, v5, v6, v7, v8, v11, M => (if 12 ≤ v11 then k289 v1 v2 v3 v4 v5 v6 v7 v8 M else ck (inb ((12 * v2) + v11) 72) (ck (inb v11 12) ((f_X9_menus_l257 rc_X9_menus k289 n) v1 v2 v3 v4 v5 v6 v7 v8 (v11 + 1) (mu M 104 (v11).toNatClampNeg (M 110 (((12 * v2) + v11)).toNatClampNeg)))))
def f_X9_menus_b289 (rc_X9_menus : Int32 → Int32 → Int32 → Int32 → Int32 → Int32 → Int32 → Mem → Option Mem) (r : Int32 → Int32 → Int32 → Int32 → Int32 → Int32 → Int32 → Int32 → Mem → Option Mem) (v1 : Int32) (v2 : Int32) (v3 : Int32) (v4 : Int32) (v5 : Int32) (v6 : Int32) (v7 : Int32) (v8 : Int32) (M : Mem) : Option Mem :=
  r v1 v2 v3 v4 v5 v6 v7 (v8 + 1) M
def f_X9_menus_b251 (rc_X9_menus : Int32 → Int32 → Int32 → Int32 → Int32 → Int32 → Int32 → Mem → Option Mem) (r : Int32 → Int32 → Int32 → Int32 → Int32 → Int32 → Int32 → Int32 → Mem → Option Mem) (v1 : Int32) (v2 : Int32) (v3 : Int32) (v4 : Int32) (v5 : Int32) (v6 : Int32) (v7 : Int32) (v8 : Int32) (s1 : Int32) (s2 : Int32) (s3 : Int32) (s4 : Int32) (s5 : Int32) (s6 : Int32) (s7 : Int32) (M : Mem) : Option Mem :=
  (rc_X9_menus s1 s2 s3 s4 s5 s6 s7 M).bind fun o24 => (f_X9_menus_l257 rc_X9_menus (f_X9_menus_b289 rc_X9_menus r) FU) v1 v2 v3 v4 v5 v6 v7 v8 0 o24
def f_X9_menus_b235 (rc_X9_menus : Int32 → Int32 → Int32 → Int32 → Int32 → Int32 → Int32 → Mem → Option Mem) (r : Int32 → Int32 → Int32 → Int32 → Int32 → Int32 → Int32 → Int32 → Mem → Option Mem) (v1 : Int32) (v2 : Int32) (v3 : Int32) (v4 : Int32) (v5 : Int32) (v6 : Int32) (v7 : Int32) (v8 : Int32) (s1 : Int32) (s2 : Int32) (s3 : Int32) (s4 : Int32) (s5 : Int32) (s6 : Int32) (M : Mem) : Option Mem :=
  (if v8 = 0 then (f_X9_menus_b251 rc_X9_menus r) v1 v2 v3 v4 v5 v6 v7 v8 s1 s2 s3 s4 s5 s6 (v7 + 1) M else (f_X9_menus_b251 rc_X9_menus r) v1 v2 v3 v4 v5 v6 v7 v8 s1 s2 s3 s4 s5 s6 (v7 - 1) M)
def f_X9_menus_b215 (rc_X9_menus : Int32 → Int32 → Int32 → Int32 → Int32 → Int32 → Int32 → Mem → Option Mem) (r : Int32 → Int32 → Int32 → Int32 → Int32 → Int32 → Int32 → Int32 → Mem → Option Mem) (v1 : Int32) (v2 : Int32) (v3 : Int32) (v4 : Int32) (v5 : Int32) (v6 : Int32) (v7 : Int32) (v8 : Int32) (v9 : Int32) (s1 : Int32) (s2 : Int32) (s3 : Int32) (s4 : Int32) (M : Mem) : Option Mem :=
  (if v8 = 0 then (f_X9_menus_b235 rc_X9_menus r) v1 v2 v3 v4 v5 v6 v7 v8 s1 s2 s3 s4 (v5 + v9) (v6 + v9) M else (f_X9_menus_b235 rc_X9_menus r) v1 v2 v3 v4 v5 v6 v7 v8 s1 s2 s3 s4 (v5 + v9) v6 M)
def f_X9_menus_b169 (rc_X9_menus : Int32 → Int32 → Int32 → Int32 → Int32 → Int32 → Int32 → Mem → Option Mem) (r : Int32 → Int32 → Int32 → Int32 → Int32 → Int32 → Int32 → Int32 → Mem → Option Mem) (v1 : Int32) (v2 : Int32) (v3 : Int32) (v4 : Int32) (v5 : Int32) (v6 : Int32) (v7 : Int32) (v8 : Int32) (v9 : Int32) (v10 : Int32) (M : Mem) : Option Mem :=
  (f_X9_uses v2 v8 M).bind fun o19 => (if v1 = 2 then (f_X9_menus_b215 rc_X9_menus r) v1 v2 v3 v4 v5 v6 v7 v8 v9 v1 (v2 + 1) (((10 * v3) + v8) + 1) ((v4 + 10000) - v10) o19 else (f_X9_menus_b215 rc_X9_menus r) v1 v2 v3 v4 v5 v6 v7 v8 v9 v1 (v2 + 1) (((10 * v3) + v8) + 1) ((v4 + v9) - v10) o19)
def f_X9_menus_l92 (rc_X9_menus : Int32 → Int32 → Int32 → Int32 → Int32 → Int32 → Int32 → Mem → Option Mem) : Nat → Int32 → Int32 → Int32 → Int32 → Int32 → Int32 → Int32 → Int32 → Mem → Option Mem
  | 0, _, _, _, _, _, _, _, _, _ => none
  | n + 1, v1, v2, v3, v4, v5, v6, v7, v8, M => (if 2 ≤ v8 then some M else (if v2 = (M 100 37) then some M else (f_X9_isCooked v2 v8 M).bind fun o9 => (if o9.1 = 0 then (f_X9_menus_b289 rc_X9_menus (f_X9_menus_l92 rc_X9_menus n)) v1 v2 v3 v4 v5 v6 v7 v8 o9.2 else (f_X9_feedsOf v2 v8 o9.2).bind fun o12 => (f_X9_tollOf v2 v8 o12.2).bind fun o14 => (f_X9_menus_l137 rc_X9_menus (f_X9_menus_b169 rc_X9_menus (f_X9_menus_l92 rc_X9_menus n)) FU) v1 v2 v3 v4 v5 v6 v7 v8 o12.1 o14.1 0 o14.2)))
def f_X9_menus_b (rc_X9_menus : Int32 → Int32 → Int32 → Int32 → Int32 → Int32 → Int32 → Mem → Option Mem) (v1 : Int32) (v2 : Int32) (v3 : Int32) (v4 : Int32) (v5 : Int32) (v6 : Int32) (v7 : Int32) (M : Mem) : Option Mem :=
  (if v2 = (M 100 12) then (if v1 = 1 then (f_X9_menus_b20 rc_X9_menus) v3 v5 v6 v7 v5 M else (f_X9_menus_b20 rc_X9_menus) v3 v5 v6 v7 v4 M) else (rc_X9_menus v1 (v2 + 1) (10 * v3) v4 v5 v6 v7 M).bind fun o2 => (f_X9_menus_l92 rc_X9_menus FU) v1 v2 v3 v4 v5 v6 v7 0 o2)
def f_X9_menus : Nat → Int32 → Int32 → Int32 → Int32 → Int32 → Int32 → Int32 → Mem → Option Mem
  | 0 => fun _ _ _ _ _ _ _ _ => none
  | d + 1 => f_X9_menus_b (f_X9_menus d)

def f_X9_bestOf (v1 : Int32) (v2 : Int32) (M : Mem) : Option Mem :=
  (f_X9_menus DP v1 0 0 0 0 0 0 (mu (mu M 100 32 (-1)) 100 37 v2)).bind fun o1 => some o1

def f_X9_dishesOf_b21 (r : Int32 → Int32 → Mem → Option (Int32 × Mem)) (v2 : Int32) (s0 : Int32) (s1 : Int32) (M : Mem) : Option (Int32 × Mem) :=
  r (s0 + s1) (v2 / 10) M
def f_X9_dishesOf_l4 : Nat → Int32 → Int32 → Mem → Option (Int32 × Mem)
  | 0, _, _, _ => none
  | n + 1, v1, v2, M => (if v2 ≤ 0 then some (v1, M) else (if (jrem v2 10) = 0 then (f_X9_dishesOf_b21 (f_X9_dishesOf_l4 n)) v2 v1 0 M else (f_X9_dishesOf_b21 (f_X9_dishesOf_l4 n)) v2 v1 1 M))
def f_X9_dishesOf (v0 : Int32) (M : Mem) : Option (Int32 × Mem) :=
  (f_X9_dishesOf_l4 FU) 0 v0 M

def f_X9_best_b42 (v1 : Int32) (s1 : Int32) (M : Mem) : Option (Int32 × Mem) :=
  (f_X9_bestOf s1 (-1) M).bind fun o7 => (if 4 ≤ v1 then (f_X9_dishesOf (o7 100 32) o7).bind fun o10 => (if v1 = 4 then some ((o10.2 100 32), o10.2) else (if v1 = 5 then some (((10000 * o10.1) - (o10.2 100 33)), o10.2) else (if v1 = 6 then some (o10.1, o10.2) else some ((o10.2 100 36), o10.2)))) else (if (jrem v1 2) = 0 then some ((o7 100 32), o7) else some ((o7 100 33), o7)))
def f_X9_best_b28 (v1 : Int32) (M : Mem) : Option (Int32 × Mem) :=
  f_X9_best_b42 v1 0 M
def f_X9_best (v1 : Int32) (M : Mem) : Option (Int32 × Mem) :=
  (f_X9_in ((v1 : Int32).toInt64) 0 7 M).bind fun o1 => (if o1.1 = 0 then some ((-100000), o1.2) else (if v1 < 2 then f_X9_best_b28 v1 o1.2 else (if v1 = 7 then f_X9_best_b28 v1 o1.2 else (if 4 ≤ v1 then f_X9_best_b42 v1 2 o1.2 else f_X9_best_b42 v1 1 o1.2))))

def f_X9_leave_b58 (r : Int32 → Int32 → Int32 → Int32 → Mem → Option (Int32 × Mem)) (k64 : Int32 → Int32 → Int32 → Mem → Option (Int32 × Mem)) (v1 : Int32) (v2 : Int32) (v3 : Int32) (v4 : Int32) (M : Mem) : Option (Int32 × Mem) :=
  r v1 v2 v3 (v4 + 1) M
def f_X9_leave_b50 (r : Int32 → Int32 → Int32 → Int32 → Mem → Option (Int32 × Mem)) (k64 : Int32 → Int32 → Int32 → Mem → Option (Int32 × Mem)) (v1 : Int32) (v4 : Int32) (M : Mem) : Option (Int32 × Mem) :=
  (f_X9_leave_b58 r k64) v1 v4 (M 100 33) v4 M
def f_X9_leave_l21 (k64 : Int32 → Int32 → Int32 → Mem → Option (Int32 × Mem)) : Nat → Int32 → Int32 → Int32 → Int32 → Mem → Option (Int32 × Mem)
  | 0, _, _, _, _, _ => none
  | n + 1, v1, v2, v3, v4, M => (if (M 100 12) ≤ v4 then k64 v1 v2 v3 M else (f_X9_bestOf 0 v4 M).bind fun o5 => (if v2 = (-1) then (f_X9_leave_b50 (f_X9_leave_l21 k64 n) k64) v1 v4 o5 else (if (o5 100 33) ≤ v3 then (f_X9_leave_b58 (f_X9_leave_l21 k64 n) k64) v1 v2 v3 v4 o5 else (f_X9_leave_b50 (f_X9_leave_l21 k64 n) k64) v1 v4 o5)))
def f_X9_leave_b64 (v1 : Int32) (v2 : Int32) (v3 : Int32) (M : Mem) : Option (Int32 × Mem) :=
  (if v1 = 0 then some (v2, M) else some (v3, M))
def f_X9_leave (v1 : Int32) (M : Mem) : Option (Int32 × Mem) :=
  (f_X9_in ((v1 : Int32).toInt64) 0 1 M).bind fun o1 => (if o1.1 = 0 then some ((-100000), o1.2) else (f_X9_leave_l21 f_X9_leave_b64 FU) v1 (-1) 0 0 o1.2)

def f_X9_buy_b115 (r : Int32 → Int32 → Int32 → Int32 → Int32 → Mem → Option (Int32 × Mem)) (k121 : Int32 → Int32 → Int32 → Mem → Option (Int32 × Mem)) (v1 : Int32) (v2 : Int32) (v3 : Int32) (v4 : Int32) (v5 : Int32) (M : Mem) : Option (Int32 × Mem) :=
  r v1 v2 v3 v4 (v5 + 1) M
def f_X9_buy_b106 (r : Int32 → Int32 → Int32 → Int32 → Int32 → Mem → Option (Int32 × Mem)) (k121 : Int32 → Int32 → Int32 → Mem → Option (Int32 × Mem)) (v1 : Int32) (v2 : Int32) (v5 : Int32) (M : Mem) : Option (Int32 × Mem) :=
  (f_X9_buy_b115 r k121) v1 v2 v5 (M 100 33) v5 M
def f_X9_buy_l29 (k121 : Int32 → Int32 → Int32 → Mem → Option (Int32 × Mem)) : Nat → Int32 → Int32 → Int32 → Int32 → Int32 → Mem → Option (Int32 × Mem)
  | 0, _, _, _, _, _, _ => none
  | n + 1, v1, v2, v3, v4, v5, M => (if 6 ≤ v5 then k121 v2 v3 v4 M else ck (inb ((6 * v1) + v5) 12) ((f_X9_within ((M 104 (((6 * v1) + v5)).toNatClampNeg) + 1) 0 99 M).bind fun o9 => (f_X9_bestOf 0 (-1) (mu o9.2 104 (((6 * v1) + v5)).toNatClampNeg o9.1)).bind fun o11 => (if v3 = (-1) then (f_X9_buy_b106 (f_X9_buy_l29 k121 n) k121) v1 v2 v5 (mu o11 104 (((6 * v1) + v5)).toNatClampNeg (M 104 (((6 * v1) + v5)).toNatClampNeg)) else (if (o11 100 33) ≤ v4 then (f_X9_buy_b115 (f_X9_buy_l29 k121 n) k121) v1 v2 v3 v4 v5 (mu o11 104 (((6 * v1) + v5)).toNatClampNeg (M 104 (((6 * v1) + v5)).toNatClampNeg)) else (f_X9_buy_b106 (f_X9_buy_l29 k121 n) k121) v1 v2 v5 (mu o11 104 (((6 * v1) + v5)).toNatClampNeg (M 104 (((6 * v1) + v5)).toNatClampNeg))))))
def f_X9_buy_b121 (v2 : Int32) (v3 : Int32) (v4 : Int32) (M : Mem) : Option (Int32 × Mem) :=
  (if v2 = 0 then some (v3, M) else some (v4, M))
def f_X9_buy (v1 : Int32) (v2 : Int32) (M : Mem) : Option (Int32 × Mem) :=
  (f_X9_isKitchen v1 M).bind fun o1 => (if o1.1 = 0 then some ((-100000), o1.2) else (f_X9_in ((v2 : Int32).toInt64) 0 1 o1.2).bind fun o4 => (if o4.1 = 0 then some ((-100000), o4.2) else (f_X9_buy_l29 f_X9_buy_b121 FU) v1 v2 (-1) 0 0 o4.2))

def f_X9_lowest_l6 (k31 : Int64 → Int64 → Int32 → Int64 → Mem → Option (Int64 × Mem)) : Nat → Int64 → Int64 → Int32 → Int64 → Int64 → Mem → Option (Int64 × Mem)
  | 0, _, _, _, _, _, _ => none
  | n + 1, w0, w2, v4, w5, w7, M => (if (lg_cmp w7 0) = 0 then k31 w0 w2 v4 w5 M else ck (!(w7 == 0)) ((f_X9_lowest_l6 k31 n) w0 w2 v4 w7 (jlrem w5 w7) M))
def f_X9_lowest_b31 (w0 : Int64) (w2 : Int64) (v4 : Int32) (w5 : Int64) (M : Mem) : Option (Int64 × Mem) :=
  (if v4 = 0 then ck (!(w5 == 0)) (some ((w0 / w5), M)) else ck (!(w5 == 0)) (some ((w2 / w5), M)))
def f_X9_lowest (w0 : Int64) (w2 : Int64) (v4 : Int32) (M : Mem) : Option (Int64 × Mem) :=
  (f_X9_lowest_l6 f_X9_lowest_b31 FU) w0 w2 v4 w0 w2 M

def f_X9_share (v1 : Int32) (M : Mem) : Option (Int64 × Mem) :=
  (f_X9_in ((v1 : Int32).toInt64) 0 1 M).bind fun o1 => (if o1.1 = 0 then some ((-4611686018427387904), o1.2) else (f_X9_bestOf 0 (-1) o1.2).bind fun o4 => (if (o4 100 34) = 0 then some ((-4611686018427387904), o4) else (f_X9_lowest (((o4 100 35) : Int32).toInt64) (((o4 100 34) : Int32).toInt64) v1 o4).bind fun o7 => some (o7.1, o7.2)))

def f_X9_worthIn (v1 : Int32) (v2 : Int32) (M : Mem) : Option (Int32 × Mem) :=
  (f_X9_isCooked v1 v2 M).bind fun o1 => (if o1.1 = 0 then some ((-1), o1.2) else (f_X9_feedsOf v1 v2 o1.2).bind fun o4 => (f_X9_tollOf v1 v2 o4.2).bind fun o6 => some ((o4.1 - o6.1), o6.2))

def f_X9_firstOther_l2 : Nat → Int32 → Int32 → Int32 → Mem → Option (Int32 × Mem)
  | 0, _, _, _, _ => none
  | n + 1, v1, v2, v3, M => (if 2 ≤ v3 then some ((-1), M) else (f_X9_worthIn v2 v3 M).bind fun o2 => ck (inb ((40 * v1) + v3) 160) ((if o2.1 = (o2.2 117 (((40 * v1) + v3)).toNatClampNeg) then (f_X9_firstOther_l2 n) v1 v2 (v3 + 1) o2.2 else some (v3, o2.2))))
def f_X9_firstOther (v1 : Int32) (v2 : Int32) (M : Mem) : Option (Int32 × Mem) :=
  (f_X9_firstOther_l2 FU) v1 v2 0 M

def f_X9_likeSet_b28 (r : Int32 → Int32 → Int32 → Mem → Option (Int32 × Mem)) (v1 : Int32) (v3 : Int32) (s0 : Int32) (s1 : Int32) (M : Mem) : Option (Int32 × Mem) :=
  r v1 (s0 ||| (jshl s1 v3)) (v3 + 1) M
def f_X9_likeSet_l4 : Nat → Int32 → Int32 → Int32 → Mem → Option (Int32 × Mem)
  | 0, _, _, _, _ => none
  | n + 1, v1, v2, v3, M => (if (M 100 12) ≤ v3 then some (v2, M) else (f_X9_firstOther v1 v3 M).bind fun o2 => (if o2.1 = (-1) then (f_X9_likeSet_b28 (f_X9_likeSet_l4 n)) v1 v3 v2 1 o2.2 else (f_X9_likeSet_b28 (f_X9_likeSet_l4 n)) v1 v3 v2 0 o2.2))
def f_X9_likeSet (v1 : Int32) (M : Mem) : Option (Int32 × Mem) :=
  (f_X9_likeSet_l4 FU) v1 0 0 M

def f_X9_isSheet (v0 : Int32) (M : Mem) : Option (Int32 × Mem) :=
  (f_X9_in ((v0 : Int32).toInt64) 0 3 M).bind fun o1 => ck (zb o1.1) (some (o1.1, o1.2))

def f_X9_tells_b65 (v1 : Int32) (v2 : Int32) (v3 : Int32) (M : Mem) : Option (Int32 × Mem) :=
  (if v3 = 0 then (f_X9_firstOther v1 v2 M).bind fun o22 => some (o22.1, o22.2) else (f_X9_likeSet v1 M).bind fun o20 => some (o20.1, o20.2))
def f_X9_tells_b268 (r : Int32 → Int32 → Int32 → Int32 → Int32 → Int32 → Int32 → Int32 → Int32 → Int32 → Mem → Option (Int32 × Mem)) (k274 : Int32 → Int32 → Int32 → Int32 → Int32 → Int32 → Int32 → Mem → Option (Int32 × Mem)) (v1 : Int32) (v2 : Int32) (v3 : Int32) (v4 : Int32) (v5 : Int32) (v6 : Int32) (v8 : Int32) (v9 : Int32) (v10 : Int32) (v11 : Int32) (M : Mem) : Option (Int32 × Mem) :=
  r v1 v2 v3 v4 v5 v6 v8 v9 v10 (v11 + (-1)) M
def f_X9_tells_b258 (r : Int32 → Int32 → Int32 → Int32 → Int32 → Int32 → Int32 → Int32 → Int32 → Int32 → Mem → Option (Int32 × Mem)) (k274 : Int32 → Int32 → Int32 → Int32 → Int32 → Int32 → Int32 → Mem → Option (Int32 × Mem)) (v1 : Int32) (v2 : Int32) (v3 : Int32) (v4 : Int32) (v5 : Int32) (v6 : Int32) (v9 : Int32) (v11 : Int32) (s0 : Int32) (s1 : Int32) (M : Mem) : Option (Int32 × Mem) :=
  (f_X9_tells_b268 r k274) v1 v2 v3 v4 v5 v6 (s0 ||| s1) (v9 + 1) v11 v11 M
def f_X9_tells_l216 (k274 : Int32 → Int32 → Int32 → Int32 → Int32 → Int32 → Int32 → Mem → Option (Int32 × Mem)) : Nat → Int32 → Int32 → Int32 → Int32 → Int32 → Int32 → Int32 → Int32 → Int32 → Int32 → Mem → Option (Int32 × Mem)
  | 0, _, _, _, _, _, _, _, _, _, _, _ => none
  | n + 1, v1, v2, v3, v4, v5, v6, v8, v9, v10, v11, M => (if v11 < 0 then k274 v3 v4 v5 v6 v8 v9 v10 M else (f_X9_lays v4 v5 v11 M).bind fun o32 => (f_X9_firstOther v1 v2 o32).bind fun o34 => (if o34.1 = (-1) then (if 10 ≤ v11 then (f_X9_tells_b258 (f_X9_tells_l216 k274 n) k274) v1 v2 v3 v4 v5 v6 v9 v11 v8 0 o34.2 else (f_X9_tells_b258 (f_X9_tells_l216 k274 n) k274) v1 v2 v3 v4 v5 v6 v9 v11 v8 (jshl 1 v11) o34.2) else (f_X9_tells_b268 (f_X9_tells_l216 k274 n) k274) v1 v2 v3 v4 v5 v6 v8 v9 v10 v11 o34.2))
def f_X9_tells_b274 (v3 : Int32) (v4 : Int32) (v5 : Int32) (v6 : Int32) (v8 : Int32) (v9 : Int32) (v10 : Int32) (M : Mem) : Option (Int32 × Mem) :=
  (f_X9_lays v4 v5 v6 M).bind fun o38 => (if v3 = 3 then some (v9, o38) else (if v3 = 5 then some (v9, o38) else (if v3 = 4 then some (v10, o38) else (if v3 = 6 then some (v10, o38) else some (v8, o38)))))
def f_X9_tells_b201 (v1 : Int32) (v2 : Int32) (v3 : Int32) (v4 : Int32) (v5 : Int32) (v6 : Int32) (s0 : Int32) (M : Mem) : Option (Int32 × Mem) :=
  (f_X9_tells_l216 f_X9_tells_b274 FU) v1 v2 v3 v4 v5 v6 0 0 (-1) s0 M
def f_X9_tells_b160 (v1 : Int32) (v2 : Int32) (v3 : Int32) (v4 : Int32) (v5 : Int32) (s0 : Int32) (M : Mem) : Option (Int32 × Mem) :=
  (if v4 = 6 then f_X9_tells_b201 v1 v2 v3 v4 v5 s0 ((M 100 3) - 1) M else (if v4 = 5 then f_X9_tells_b201 v1 v2 v3 v4 v5 s0 5 M else (if v4 = 3 then f_X9_tells_b201 v1 v2 v3 v4 v5 s0 9 M else f_X9_tells_b201 v1 v2 v3 v4 v5 s0 99 M)))
def f_X9_tells_b136 (v1 : Int32) (v2 : Int32) (v3 : Int32) (v4 : Int32) (s0 : Int32) (M : Mem) : Option (Int32 × Mem) :=
  (if v4 = 6 then f_X9_tells_b160 v1 v2 v3 v4 s0 (M 100 4) M else (f_X9_told s0 v4 M).bind fun o26 => f_X9_tells_b160 v1 v2 v3 v4 s0 o26.1 o26.2)
def f_X9_tells_b123 (v1 : Int32) (v2 : Int32) (v3 : Int32) (s0 : Int32) (M : Mem) : Option (Int32 × Mem) :=
  (if s0 = 2 then f_X9_tells_b136 v1 v2 v3 s0 0 M else f_X9_tells_b136 v1 v2 v3 s0 v2 M)
def f_X9_tells (v1 : Int32) (v2 : Int32) (v3 : Int32) (M : Mem) : Option (Int32 × Mem) :=
  (f_X9_isSheet v1 M).bind fun o1 => (if o1.1 = 0 then some ((-2), o1.2) else (f_X9_isDish v2 o1.2).bind fun o4 => (if o4.1 = 0 then some ((-2), o4.2) else (f_X9_in ((v3 : Int32).toInt64) 0 8 o4.2).bind fun o7 => (if o7.1 = 0 then some ((-2), o7.2) else ck (inb v1 4) ((if (o7.2 114 (v1).toNatClampNeg) = 0 then some ((-11), o7.2) else (if (o7.2 116 (v1).toNatClampNeg) = 2 then (if v3 = 0 then f_X9_tells_b65 v1 v2 v3 o7.2 else (if v3 = 8 then f_X9_tells_b65 v1 v2 v3 o7.2 else (if v3 = 1 then f_X9_tells_b123 v1 v2 v3 5 o7.2 else (if v3 = 2 then f_X9_tells_b123 v1 v2 v3 3 o7.2 else (if 5 ≤ v3 then (if 7 ≤ v3 then f_X9_tells_b123 v1 v2 v3 6 o7.2 else f_X9_tells_b123 v1 v2 v3 2 o7.2) else f_X9_tells_b123 v1 v2 v3 0 o7.2))))) else some ((-2), o7.2)))))))

def f_X9_sheet_l77 : Nat → Int32 → Int32 → Int32 → Int32 → Mem → Option (Int32 × Mem)
  | 0, _, _, _, _, _ => none
  | n + 1, v1, v2, v3, v4, M => (if v3 ≤ v4 then some (1, M) else (if v2 < 0 then some (1, M) else ck (inb ((40 * v1) + v4) 160) ((f_X9_sheet_l77 n) v1 v2 v3 (v4 + 1) (mu M 117 (((40 * v1) + v4)).toNatClampNeg 0))))
def f_X9_sheet_b59 (v1 : Int32) (v2 : Int32) (v3 : Int32) (s1 : Int32) (s2 : Int32) (M : Mem) : Option (Int32 × Mem) :=
  ck (inb s1 4) (ck (zb s2) (ck (inb v1 4) ((f_X9_sheet_l77 FU) v1 v2 v3 0 (mu (mu (mu M 114 (s1).toNatClampNeg s2) 115 (v1).toNatClampNeg v2) 116 (v1).toNatClampNeg v3))))
def f_X9_sheet_b45 (v1 : Int32) (v2 : Int32) (v3 : Int32) (M : Mem) : Option (Int32 × Mem) :=
  (if v2 < 0 then f_X9_sheet_b59 v1 v2 v3 v1 0 M else f_X9_sheet_b59 v1 v2 v3 v1 1 M)
def f_X9_sheet_b34 (v1 : Int32) (v2 : Int32) (v3 : Int32) (M : Mem) : Option (Int32 × Mem) :=
  (if v2 < 0 then f_X9_sheet_b45 v1 v2 v3 M else (if 0 ≤ v3 then f_X9_sheet_b45 v1 v2 v3 M else some ((-14), M)))
def f_X9_sheet (v1 : Int32) (v2 : Int32) (v3 : Int32) (M : Mem) : Option (Int32 × Mem) :=
  (f_X9_isSheet v1 M).bind fun o1 => (if o1.1 = 0 then some ((-2), o1.2) else (f_X9_in ((v2 : Int32).toInt64) (-1) 2 o1.2).bind fun o4 => (if o4.1 = 0 then some ((-2), o4.2) else (if v2 < 0 then f_X9_sheet_b34 v1 v2 v3 o4.2 else (if v3 ≤ 40 then f_X9_sheet_b34 v1 v2 v3 o4.2 else some ((-2), o4.2)))))

def f_X9_film_b72 (r : Int32 → Int32 → Int32 → Int32 → Mem → Option (Int32 × Mem)) (v1 : Int32) (v2 : Int32) (v4 : Int32) (s0 : Int32) (s1 : Int32) (M : Mem) : Option (Int32 × Mem) :=
  r v1 v2 (s0 + s1) (v4 + 1) M
def f_X9_film_l31 : Nat → Int32 → Int32 → Int32 → Int32 → Mem → Option (Int32 × Mem)
  | 0, _, _, _, _, _ => none
  | n + 1, v1, v2, v3, v4, M => (if 2 ≤ v4 then some (v3, M) else (f_X9_worthIn v2 v4 M).bind fun o10 => ck (inb ((40 * v1) + v4) 160) ((f_X9_isCooked v2 v4 (mu o10.2 117 (((40 * v1) + v4)).toNatClampNeg o10.1)).bind fun o13 => (if o13.1 = 0 then (f_X9_film_b72 (f_X9_film_l31 n)) v1 v2 v4 v3 0 o13.2 else (f_X9_film_b72 (f_X9_film_l31 n)) v1 v2 v4 v3 1 o13.2)))
def f_X9_film (v1 : Int32) (v2 : Int32) (M : Mem) : Option (Int32 × Mem) :=
  (f_X9_isSheet v1 M).bind fun o1 => (if o1.1 = 0 then some ((-2), o1.2) else (f_X9_isDish v2 o1.2).bind fun o4 => (if o4.1 = 0 then some ((-2), o4.2) else (f_X9_sheet v1 2 2 o4.2).bind fun o7 => (f_X9_film_l31 FU) v1 v2 0 0 o7.2))

def f_X9_worthDrawn_b84 (r : Int32 → Int32 → Int32 → Mem → Option (Int32 × Mem)) (k90 : Int32 → Mem → Option (Int32 × Mem)) (v2 : Int32) (v3 : Int32) (v4 : Int32) (M : Mem) : Option (Int32 × Mem) :=
  r v2 v3 (v4 + 1) M
def f_X9_worthDrawn_l11 (k90 : Int32 → Mem → Option (Int32 × Mem)) : Nat → Int32 → Int32 → Int32 → Mem → Option (Int32 × Mem)
  | 0, _, _, _, _ => none
  | n + 1, v2, v3, v4, M => (if (M 100 12) ≤ v4 then k90 v3 M else (if ((jrem (jushr ((v2 * 1103515245) + 12345) 9) 3) - 1) < 0 then (f_X9_worthDrawn_b84 (f_X9_worthDrawn_l11 k90 n) k90) ((v2 * 1103515245) + 12345) v3 v4 M else (f_X9_isCooked v4 ((jrem (jushr ((v2 * 1103515245) + 12345) 9) 3) - 1) M).bind fun o5 => (if o5.1 = 0 then (f_X9_worthDrawn_b84 (f_X9_worthDrawn_l11 k90 n) k90) ((v2 * 1103515245) + 12345) v3 v4 o5.2 else (f_X9_feedsOf v4 ((jrem (jushr ((v2 * 1103515245) + 12345) 9) 3) - 1) o5.2).bind fun o8 => (f_X9_tollOf v4 ((jrem (jushr ((v2 * 1103515245) + 12345) 9) 3) - 1) o8.2).bind fun o10 => (f_X9_uses v4 ((jrem (jushr ((v2 * 1103515245) + 12345) 9) 3) - 1) o10.2).bind fun o12 => (f_X9_worthDrawn_b84 (f_X9_worthDrawn_l11 k90 n) k90) ((v2 * 1103515245) + 12345) (v3 + (o8.1 - o10.1)) v4 o12)))
def f_X9_worthDrawn_b90 (v3 : Int32) (M : Mem) : Option (Int32 × Mem) :=
  (f_X9_laysBack M).bind fun o14 => some (v3, o14)
def f_X9_worthDrawn (v1 : Int32) (M : Mem) : Option (Int32 × Mem) :=
  (f_X9_laysAside M).bind fun o1 => (f_X9_worthDrawn_l11 f_X9_worthDrawn_b90 FU) v1 0 0 o1

def f_X9_drawn (v1 : Int32) (M : Mem) : Option (Int32 × Mem) :=
  (f_X9_worthDrawn v1 M).bind fun o1 => some (o1.1, o1.2)

def f_X9_chance_b72 (r : Int32 → Int32 → Int32 → Int32 → Int64 → Int32 → Mem → Option (Int64 × Mem)) (k81 : Int32 → Int32 → Int64 → Mem → Option (Int64 × Mem)) (v1 : Int32) (v2 : Int32) (v3 : Int32) (v4 : Int32) (v7 : Int32) (s0 : Int64) (s1 : Int64) (M : Mem) : Option (Int64 × Mem) :=
  r v1 v2 v3 v4 (s0 + s1) (v7 + 1) M
def f_X9_chance_l47 (k81 : Int32 → Int32 → Int64 → Mem → Option (Int64 × Mem)) : Nat → Int32 → Int32 → Int32 → Int32 → Int64 → Int32 → Mem → Option (Int64 × Mem)
  | 0, _, _, _, _, _, _, _ => none
  | n + 1, v1, v2, v3, v4, w5, v7, M => (if v2 ≤ v7 then k81 v2 v4 w5 M else (f_X9_worthDrawn (v1 + v7) M).bind fun o11 => (if o11.1 < v3 then (f_X9_chance_b72 (f_X9_chance_l47 k81 n) k81) v1 v2 v3 v4 v7 w5 0 o11.2 else (f_X9_chance_b72 (f_X9_chance_l47 k81 n) k81) v1 v2 v3 v4 v7 w5 1 o11.2))
def f_X9_chance_b81 (v2 : Int32) (v4 : Int32) (w5 : Int64) (M : Mem) : Option (Int64 × Mem) :=
  (f_X9_lowest w5 ((v2 : Int32).toInt64) v4 M).bind fun o14 => some (o14.1, o14.2)
def f_X9_chance (v1 : Int32) (v2 : Int32) (v3 : Int32) (v4 : Int32) (M : Mem) : Option (Int64 × Mem) :=
  (f_X9_in ((v2 : Int32).toInt64) 1 20 M).bind fun o1 => (if o1.1 = 0 then some ((-4611686018427387904), o1.2) else (f_X9_in ((v3 : Int32).toInt64) (-9999) 9999 o1.2).bind fun o4 => (if o4.1 = 0 then some ((-4611686018427387904), o4.2) else (f_X9_in ((v4 : Int32).toInt64) 0 1 o4.2).bind fun o7 => (if o7.1 = 0 then some ((-4611686018427387904), o7.2) else (f_X9_chance_l47 f_X9_chance_b81 FU) v1 v2 v3 v4 0 0 o7.2)))

def f_X9_image_l2 (k26 : Mem → Option (Int32 × Mem)) : Nat → Int32 → Mem → Option (Int32 × Mem)
  | 0, _, _ => none
  | n + 1, v1, M => (if 12 ≤ v1 then k26 M else ck (inb v1 12) ((f_X9_image_l2 k26 n) (v1 + 1) (mu M 111 (v1).toNatClampNeg (M 104 (v1).toNatClampNeg))))
def f_X9_image_l28 (k52 : Mem → Option (Int32 × Mem)) : Nat → Int32 → Mem → Option (Int32 × Mem)
  | 0, _, _ => none
  | n + 1, v1, M => (if 18 ≤ v1 then k52 M else ck (inb v1 18) ((f_X9_image_l28 k52 n) (v1 + 1) (mu M 113 (v1).toNatClampNeg (M 107 (v1).toNatClampNeg))))
def f_X9_image_b52 (M : Mem) : Option (Int32 × Mem) :=
  some ((M 100 12), (mu (mu (mu (mu (mu M 112 0 (M 105 0)) 112 1 (M 105 1)) 100 42 (M 100 12)) 100 43 (M 100 7)) 100 44 (M 100 4)))
def f_X9_image_b26 (M : Mem) : Option (Int32 × Mem) :=
  (f_X9_image_l28 f_X9_image_b52 FU) 0 M
def f_X9_image (M : Mem) : Option (Int32 × Mem) :=
  (f_X9_image_l2 f_X9_image_b26 FU) 0 M

def f_X9_back_l13 (k37 : Mem → Option (Int32 × Mem)) : Nat → Int32 → Mem → Option (Int32 × Mem)
  | 0, _, _ => none
  | n + 1, v1, M => (if 12 ≤ v1 then k37 M else ck (inb v1 12) ((f_X9_back_l13 k37 n) (v1 + 1) (mu M 104 (v1).toNatClampNeg (M 111 (v1).toNatClampNeg))))
def f_X9_back_l39 (k63 : Mem → Option (Int32 × Mem)) : Nat → Int32 → Mem → Option (Int32 × Mem)
  | 0, _, _ => none
  | n + 1, v1, M => (if 18 ≤ v1 then k63 M else ck (inb v1 18) ((f_X9_back_l39 k63 n) (v1 + 1) (mu M 107 (v1).toNatClampNeg (M 113 (v1).toNatClampNeg))))
def f_X9_back_b63 (M : Mem) : Option (Int32 × Mem) :=
  some ((M 100 42), (mu (mu (mu (mu (mu M 105 0 (M 112 0)) 105 1 (M 112 1)) 100 12 (M 100 42)) 100 7 (M 100 43)) 100 4 (M 100 44)))
def f_X9_back_b37 (M : Mem) : Option (Int32 × Mem) :=
  (f_X9_back_l39 f_X9_back_b63 FU) 0 M
def f_X9_back (M : Mem) : Option (Int32 × Mem) :=
  (if (M 100 42) = (-1) then some ((-3), M) else (f_X9_back_l13 f_X9_back_b37 FU) 0 M)

def f_X9_count (v1 : Int32) (M : Mem) : Option (Int32 × Mem) :=
  (f_X9_in ((v1 : Int32).toInt64) 0 5 M).bind fun o1 => (if o1.1 = 0 then some ((-2), o1.2) else (if v1 = 0 then some ((o1.2 100 12), o1.2) else (if v1 = 1 then (f_X9_storeOf 0 o1.2).bind fun o9 => (f_X9_storeOf 1 o9.2).bind fun o11 => some ((o9.1 + o11.1), o11.2) else (if v1 = 2 then some ((o1.2 100 7), o1.2) else (if v1 = 3 then some ((o1.2 100 3), o1.2) else (if v1 = 4 then some ((o1.2 100 6), o1.2) else some ((o1.2 100 4), o1.2)))))))

def f_X9_cell (v1 : Int32) (v2 : Int32) (v3 : Int32) (M : Mem) : Option (Int32 × Mem) :=
  (f_X9_isSheet v1 M).bind fun o1 => (if o1.1 = 0 then some ((-2), o1.2) else ck (inb v1 4) ((if (o1.2 114 (v1).toNatClampNeg) = 0 then some ((-11), o1.2) else (f_X9_in ((v2 : Int32).toInt64) 0 ((((o1.2 116 (v1).toNatClampNeg) - 1) : Int32).toInt64) o1.2).bind fun o6 => (if o6.1 = 0 then some ((-12), o6.2) else (if (o6.2 115 (v1).toNatClampNeg) = 0 then ck (inb ((40 * v1) + v2) 160) (some (1, (mu o6.2 117 (((40 * v1) + v2)).toNatClampNeg ((v3).toInt8.toInt32)))) else (if (o6.2 115 (v1).toNatClampNeg) = 1 then ck (inb ((40 * v1) + v2) 160) (some (1, (mu o6.2 117 (((40 * v1) + v2)).toNatClampNeg ((v3).toInt16.toInt32)))) else ck (inb ((40 * v1) + v2) 160) (some (1, (mu o6.2 117 (((40 * v1) + v2)).toNatClampNeg v3)))))))))

def f_X9_copy_b145 (r : Int32 → Int32 → Int32 → Int32 → Int32 → Int32 → Int32 → Mem → Option (Int32 × Mem)) (v1 : Int32) (v2 : Int32) (v3 : Int32) (v4 : Int32) (v5 : Int32) (v6 : Int32) (v7 : Int32) (s0 : Int32) (M : Mem) : Option (Int32 × Mem) :=
  ck (inb (((40 * v1) + v2) + s0) 160) (ck (inb (((40 * v3) + v4) + s0) 160) (r v1 v2 v3 v4 v5 v6 (v7 + 1) (mu M 117 ((((40 * v3) + v4) + s0)).toNatClampNeg (M 117 ((((40 * v1) + v2) + s0)).toNatClampNeg))))
def f_X9_copy_l121 : Nat → Int32 → Int32 → Int32 → Int32 → Int32 → Int32 → Int32 → Mem → Option (Int32 × Mem)
  | 0, _, _, _, _, _, _, _, _ => none
  | n + 1, v1, v2, v3, v4, v5, v6, v7, M => (if v5 ≤ v7 then some (v5, M) else (if v6 = 0 then (f_X9_copy_b145 (f_X9_copy_l121 n)) v1 v2 v3 v4 v5 v6 v7 v7 M else (f_X9_copy_b145 (f_X9_copy_l121 n)) v1 v2 v3 v4 v5 v6 v7 ((v5 - 1) - v7) M))
def f_X9_copy_b116 (v1 : Int32) (v2 : Int32) (v3 : Int32) (v4 : Int32) (v5 : Int32) (s0 : Int32) (M : Mem) : Option (Int32 × Mem) :=
  (f_X9_copy_l121 FU) v1 v2 v3 v4 v5 s0 0 M
def f_X9_copy_b115 (v1 : Int32) (v2 : Int32) (v3 : Int32) (v4 : Int32) (v5 : Int32) (M : Mem) : Option (Int32 × Mem) :=
  f_X9_copy_b116 v1 v2 v3 v4 v5 0 M
def f_X9_copy (v1 : Int32) (v2 : Int32) (v3 : Int32) (v4 : Int32) (v5 : Int32) (M : Mem) : Option (Int32 × Mem) :=
  (f_X9_isSheet v1 M).bind fun o1 => (if o1.1 = 0 then some ((-2), o1.2) else (f_X9_isSheet v3 o1.2).bind fun o4 => (if o4.1 = 0 then some ((-2), o4.2) else ck (inb v1 4) ((if (o4.2 114 (v1).toNatClampNeg) = 0 then some ((-11), o4.2) else ck (inb v3 4) ((if (o4.2 114 (v3).toNatClampNeg) = 0 then some ((-11), o4.2) else (if (o4.2 115 (v1).toNatClampNeg) = (o4.2 115 (v3).toNatClampNeg) then (if v5 < 0 then some ((-12), o4.2) else (if v2 < 0 then some ((-12), o4.2) else (if v4 < 0 then some ((-12), o4.2) else (if ((o4.2 116 (v1).toNatClampNeg) - v5) < v2 then some ((-12), o4.2) else (if v4 ≤ ((o4.2 116 (v3).toNatClampNeg) - v5) then (if v1 = v3 then (if v4 ≤ v2 then f_X9_copy_b115 v1 v2 v3 v4 v5 o4.2 else f_X9_copy_b116 v1 v2 v3 v4 v5 1 o4.2) else f_X9_copy_b115 v1 v2 v3 v4 v5 o4.2) else some ((-12), o4.2)))))) else some ((-13), o4.2))))))))

def f_X9_dishes_b158 (r : Int32 → Int32 → Int32 → Int32 → Int32 → Mem → Option (Int32 × Mem)) (v1 : Int32) (v3 : Int32) (v4 : Int32) (v6 : Int32) (s0 : Int32) (s1 : Int32) (M : Mem) : Option (Int32 × Mem) :=
  r v1 v3 v4 (s0 + s1) (v6 + 1) M
def f_X9_dishes_l75 : Nat → Int32 → Int32 → Int32 → Int32 → Int32 → Mem → Option (Int32 × Mem)
  | 0, _, _, _, _, _, _ => none
  | n + 1, v1, v3, v4, v5, v6, M => (if v4 ≤ v6 then some (v5, M) else (if v3 < 0 then some ((-12), M) else ck (inb v1 4) ((if v3 ≤ (((M 116 (v1).toNatClampNeg) - (3 * v6)) - 3) then ck (inb (((40 * v1) + v3) + (3 * v6)) 160) (ck (inb ((((40 * v1) + v3) + (3 * v6)) + 1) 160) (ck (inb ((((40 * v1) + v3) + (3 * v6)) + 2) 160) ((f_X9_dish (M 117 ((((40 * v1) + v3) + (3 * v6))).toNatClampNeg) (M 117 (((((40 * v1) + v3) + (3 * v6)) + 1)).toNatClampNeg) (M 117 (((((40 * v1) + v3) + (3 * v6)) + 2)).toNatClampNeg) M).bind fun o22 => (if o22.1 < 0 then (f_X9_dishes_b158 (f_X9_dishes_l75 n)) v1 v3 v4 v6 v5 0 o22.2 else (f_X9_dishes_b158 (f_X9_dishes_l75 n)) v1 v3 v4 v6 v5 1 o22.2)))) else some ((-12), M)))))
def f_X9_dishes_b57 (v1 : Int32) (v3 : Int32) (v4 : Int32) (M : Mem) : Option (Int32 × Mem) :=
  ck (inb v1 4) ((if (M 114 (v1).toNatClampNeg) = 0 then some ((-11), M) else (f_X9_dishes_l75 FU) v1 v3 v4 0 0 M))
def f_X9_dishes (v1 : Int32) (v2 : Int32) (v3 : Int32) (v4 : Int32) (M : Mem) : Option (Int32 × Mem) :=
  (f_X9_isSheet v1 M).bind fun o1 => (if o1.1 = 0 then some ((-2), o1.2) else (f_X9_in ((v2 : Int32).toInt64) 0 2 o1.2).bind fun o4 => (if o4.1 = 0 then some ((-2), o4.2) else (f_X9_in ((v4 : Int32).toInt64) 0 6 o4.2).bind fun o7 => (if o7.1 = 0 then some ((-2), o7.2) else ck (inb v1 4) ((if (o7.2 114 (v1).toNatClampNeg) = 0 then f_X9_dishes_b57 v1 v3 v4 o7.2 else (if (o7.2 115 (v1).toNatClampNeg) = v2 then f_X9_dishes_b57 v1 v3 v4 o7.2 else some ((-13), o7.2)))))))

def f_X9_over (v0 : Int32) (M : Mem) : Option (Int32 × Mem) :=
  (if v0 = 0 then some ((-1), M) else (if v0 = 3 then some (1, M) else (if v0 = 4 then some (2, M) else some (0, M))))

def f_X9_taken_l33 (k51 : Int32 → Int32 → Int32 → Mem → Option (Int32 × Mem)) : Nat → Int32 → Int32 → Int32 → Mem → Option (Int32 × Mem)
  | 0, _, _, _, _ => none
  | n + 1, v1, v2, v3, M => (if v3 = (-1) then k51 v1 v2 v3 M else (if v3 = v2 then k51 v1 v2 v3 M else (f_X9_over v3 M).bind fun o10 => (f_X9_taken_l33 k51 n) v1 v2 o10.1 o10.2))
def f_X9_taken_b51 (v1 : Int32) (v2 : Int32) (v3 : Int32) (M : Mem) : Option (Int32 × Mem) :=
  (if v3 = v2 then ck (inb (3 * v1) 18) (some ((M 107 ((3 * v1)).toNatClampNeg), M)) else some ((-13), M))
def f_X9_taken (v1 : Int32) (v2 : Int32) (M : Mem) : Option (Int32 × Mem) :=
  (f_X9_in ((v2 : Int32).toInt64) 0 5 M).bind fun o1 => (if o1.1 = 0 then some ((-2), o1.2) else (f_X9_isDish v1 o1.2).bind fun o4 => (if o4.1 = 0 then some ((-11), o4.2) else ck (inb v1 6) ((f_X9_taken_l33 f_X9_taken_b51 FU) v1 v2 (o4.2 106 (v1).toNatClampNeg) o4.2)))
