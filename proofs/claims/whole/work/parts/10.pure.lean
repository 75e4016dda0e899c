
/-! PURE: what the methods compute over a memory (place, index) -/
abbrev Mem : Type := Nat → Nat → Int32
/-- the memory with v at (p, k) -/
def mu (M : Mem) (p k : Nat) (v : Int32) : Mem := fun q => if q = p then upd (M p) k v else M q
/-- n numbers of place a from i on copied to place b from j on -/
def mcp (M : Mem) (a i b j n : Nat) : Mem := fun q => if q = b then va_cpy (M a) (M b) i j n else M q
def ck {α : Type} (b : Bool) (x : Option α) : Option α := if b = true then x else none
def inb (i : Int32) (n : Nat) : Bool := decide (¬ i < 0) && decide (i.toNatClampNeg < n)
def zb (x : Int32) : Bool := x == 0 || x == 1
def cpk (i : Int32) (na : Nat) (j : Int32) (nb : Nat) (n : Int32) : Bool := decide (¬ i < 0) && decide (¬ j < 0) && decide (¬ n < 0) && decide (i.toNatClampNeg + n.toNatClampNeg ≤ na) && decide (j.toNatClampNeg + n.toNatClampNeg ≤ nb)
def jrem (x y : Int32) : Int32 := x - x / y * y
def jlrem (x y : Int64) : Int64 := x - x / y * y
def jshl (x y : Int32) : Int32 := x <<< (y &&& 31)
def jushr (x y : Int32) : Int32 := (x.toUInt32 >>> (y.toUInt32 &&& Int32.toUInt32 31)).toInt32
def jmax (x y : Int32) : Int32 := if x < y then y else x
def jmin (x y : Int32) : Int32 := if y < x then y else x
def FU : Nat := 2000
def DP : Nat := 100
/-- the kind of a place (99: none) -/
def kd (p : Nat) : Nat := if p < 100 then ([7, 1, 10, 10, 10, 10, 10, 10, 1, 10, 10, 10, 10, 10, 10, 12, 6, 30, 30, 6, 30, 30, 6, 30, 30, 6, 30, 30, 6, 30, 30, 6, 30, 30, 4, 30, 0, 10, 10, 10, 10, 10, 11, 3, 10, 2, 14, 10, 10, 10, 10, 10, 10, 10, 13, 5, 10, 5, 10, 5, 10, 5, 10] : List Nat).getD p 99 else ([8, 20, 20, 20, 20, 20, 20, 20, 20, 20, 20, 20, 20, 20, 21, 20, 20, 20] : List Nat).getD (p - 100) 99
/-- how long the row at a place is -/
def ln (p : Nat) : Nat := if p < 100 then ([0, 0, 12, 2, 6, 6, 6, 6, 0, 12, 2, 6, 6, 6, 6, 6, 0, 160, 3, 0, 160, 3, 0, 160, 3, 0, 160, 3, 0, 160, 3, 0, 160, 3, 0, 160, 0, 2, 6, 6, 160, 6, 2, 0, 12, 0, 7, 12, 12, 12, 12, 12, 12, 12, 4, 0, 40, 0, 40, 0, 40, 0, 40] : List Nat).getD p 0 else ([0, 960, 6, 160, 12, 2, 6, 18, 12, 6, 72, 12, 2, 18, 4, 4, 4, 160] : List Nat).getD (p - 100) 0
def strs : List (List Nat) := [[112, 97, 114, 116], [109, 117, 99, 104], [107, 105, 116, 99, 104, 101, 110], [104, 111, 117, 114], [110, 117, 109, 98, 101, 114], [112, 114, 105, 100, 101], [102, 101, 101, 100, 115], [116, 111, 108, 108, 115], [115, 105, 103, 110, 115], [111, 114], [97, 110, 100], [110, 111, 116], [102, 101, 101, 100, 115, 32, 109, 117, 99, 104, 32, 42, 32, 50, 32, 59, 32, 116, 111, 108, 108, 115, 32, 109, 117, 99, 104, 32, 59, 32, 115, 105, 103, 110, 115, 32, 49, 32, 59]]
def isStr (q : Nat) : Bool := decide (1000 ≤ q) && decide (q < 1000 + strs.length)
def slenN (q : Nat) : Nat := (strs.getD (q - 1000) []).length
def slen (q : Nat) : Int32 := Int32.ofNat (slenN q)
def schar (q j : Nat) : Int32 := Int32.ofNat ((strs.getD (q - 1000) []).getD j 0)
/-- the two constant rows: the powers of ten, and the kinds above -/
def stv (q j : Nat) : Int32 := if q = 2000 then ([100000, 10000, 1000, 100, 10, 1] : List Int32).getD j 0 else ([-1, 0, 0, 1, 2, 0] : List Int32).getD j 0
