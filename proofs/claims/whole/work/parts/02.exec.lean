/-! A small machine of its own, over whole numbers: a value is (kind, number): 0 an int, 1 a reference (0 is null, 1 the script, from 2 on what is made), 2 a float's bits, 3 a long, 9 none.
A heap: ints by (cell, place), references by (cell, place), a cell's tag, its length, the next cell, how many slots are used. -/
abbrev xV : Type := Nat × Int
def xH : Type := (Int → Int → Int) × (Int → Int → Int) × (Int → Int) × (Int → Int) × Int × Int
def xH.i (h : xH) : Int → Int → Int := h.1
def xH.r (h : xH) : Int → Int → Int := h.2.1
def xH.tag (h : xH) : Int → Int := h.2.2.1
def xH.len (h : xH) : Int → Int := h.2.2.2.1
def xH.nx (h : xH) : Int := h.2.2.2.2.1
def xH.us (h : xH) : Int := h.2.2.2.2.2
def xu1 (f : Int → Int) (a v : Int) : Int → Int := fun b => if b = a then v else f b
def xu2 (f : Int → Int → Int) (a k v : Int) : Int → Int → Int := fun b j => if b = a ∧ j = k then v else f b j
def xH.wi (h : xH) (a k v : Int) : xH := (xu2 h.i a k v, h.2)
def xH.wr (h : xH) (a k v : Int) : xH := (h.1, xu2 h.r a k v, h.2.2)
def xH.al (h : xH) (t n : Int) : xH := (h.1, h.2.1, xu1 h.tag h.nx t, xu1 h.len h.nx n, h.nx + 1, h.us + n)
def xcp (f g : Int → Int) (sp dp n : Int) : Int → Int := fun j => if dp ≤ j ∧ j < dp + n then f (sp + (j - dp)) else g j
def xH.cp (h : xH) (s sp d dp n : Int) : xH := (fun b => if b = d then xcp (h.i s) (h.i d) sp dp n else h.i b, h.2)
theorem xi_wi (h : xH) (a k v b j : Int) : (h.wi a k v).i b j = if b = a ∧ j = k then v else h.i b j := rfl
theorem xr_wi (h : xH) (a k v : Int) : (h.wi a k v).r = h.r := rfl
theorem xt_wi (h : xH) (a k v : Int) : (h.wi a k v).tag = h.tag := rfl
theorem xl_wi (h : xH) (a k v : Int) : (h.wi a k v).len = h.len := rfl
theorem xn_wi (h : xH) (a k v : Int) : (h.wi a k v).nx = h.nx := rfl
theorem xs_wi (h : xH) (a k v : Int) : (h.wi a k v).us = h.us := rfl
theorem xi_wr (h : xH) (a k v : Int) : (h.wr a k v).i = h.i := rfl
theorem xr_wr (h : xH) (a k v b j : Int) : (h.wr a k v).r b j = if b = a ∧ j = k then v else h.r b j := rfl
theorem xt_wr (h : xH) (a k v : Int) : (h.wr a k v).tag = h.tag := rfl
theorem xl_wr (h : xH) (a k v : Int) : (h.wr a k v).len = h.len := rfl
theorem xn_wr (h : xH) (a k v : Int) : (h.wr a k v).nx = h.nx := rfl
theorem xs_wr (h : xH) (a k v : Int) : (h.wr a k v).us = h.us := rfl
theorem xi_al (h : xH) (t n : Int) : (h.al t n).i = h.i := rfl
theorem xr_al (h : xH) (t n : Int) : (h.al t n).r = h.r := rfl
theorem xt_al (h : xH) (t n b : Int) : (h.al t n).tag b = if b = h.nx then t else h.tag b := rfl
theorem xl_al (h : xH) (t n b : Int) : (h.al t n).len b = if b = h.nx then n else h.len b := rfl
theorem xn_al (h : xH) (t n : Int) : (h.al t n).nx = h.nx + 1 := rfl
theorem xs_al (h : xH) (t n : Int) : (h.al t n).us = h.us + n := rfl
theorem xi_cp (h : xH) (s sp d dp n b j : Int) : (h.cp s sp d dp n).i b j = if b = d then xcp (h.i s) (h.i d) sp dp n j else h.i b j := by
  unfold xH.cp xH.i
  by_cases e : b = d <;> simp [e]
theorem xr_cp (h : xH) (s sp d dp n : Int) : (h.cp s sp d dp n).r = h.r := rfl
theorem xt_cp (h : xH) (s sp d dp n : Int) : (h.cp s sp d dp n).tag = h.tag := rfl
theorem xl_cp (h : xH) (s sp d dp n : Int) : (h.cp s sp d dp n).len = h.len := rfl
theorem xn_cp (h : xH) (s sp d dp n : Int) : (h.cp s sp d dp n).nx = h.nx := rfl
theorem xs_cp (h : xH) (s sp d dp n : Int) : (h.cp s sp d dp n).us = h.us := rfl
-- numbers
def xw (a : Int) : Int := (a + 2147483648) % 4294967296 - 2147483648
def xw64 (a : Int) : Int := (a + 9223372036854775808) % 18446744073709551616 - 9223372036854775808
def xw8 (a : Int) : Int := (a + 128) % 256 - 128
def xand (a b : Int) : Int := (Int32.ofInt a &&& Int32.ofInt b).toInt
def xor_ (a b : Int) : Int := (Int32.ofInt a ||| Int32.ofInt b).toInt
def xxor (a b : Int) : Int := (Int32.ofInt a ^^^ Int32.ofInt b).toInt
def xshl (a b : Int) : Int := (Int32.ofInt a <<< (Int32.ofInt b &&& 31)).toInt
def xshr (a b : Int) : Int := (Int32.ofInt a >>> (Int32.ofInt b &&& 31)).toInt
def xushr (a b : Int) : Int := ((Int32.ofInt a).toUInt32 >>> ((Int32.ofInt b).toUInt32 &&& Int32.toUInt32 31)).toInt32.toInt
def xdiv (a b : Int) : Int := (Int32.ofInt a / Int32.ofInt b).toInt
def xrem (a b : Int) : Int := (Int32.ofInt a - Int32.ofInt a / Int32.ofInt b * Int32.ofInt b).toInt
def xladd (a b : Int) : Int := (Int64.ofInt a + Int64.ofInt b).toInt
def xlmul (a b : Int) : Int := (Int64.ofInt a * Int64.ofInt b).toInt
def xldiv (a b : Int) : Int := (Int64.ofInt a / Int64.ofInt b).toInt
def xlrem (a b : Int) : Int := (Int64.ofInt a - Int64.ofInt a / Int64.ofInt b * Int64.ofInt b).toInt
def xlcmp (a b : Int) : Int := if a < b then -1 else if b < a then 1 else 0
def xl2i (a : Int) : Int := (Int64.ofInt a).toInt32.toInt
def xuf (a : Int) : UInt32 := UInt32.ofNat a.toNat
def xfu (a : UInt32) : Int := (a.toNat : Int)
def xn32 (r : UInt32) : Bool := decide (r &&& 0x7fffffff ≤ 0x7f800000)
def xi2f (a : Int) : Int := xfu (FP.i2f (Int32.ofInt a))
def xf2i (a : Int) : Int := (FP.f2i (xuf a)).toInt
def xfmul (a b : Int) : Int := xfu (FP.fmul (xuf a) (xuf b))
def xfdiv (a b : Int) : Int := xfu (FP.fdiv (xuf a) (xuf b))
def xcat (l : List xV) : Nat := (l.map (fun v => if v.1 = 3 then 2 else 1)).sum
abbrev xOp : Type := Nat × Int × Int × Int
/-- a long just ahead of a place that is written is none any more -/
def xkl (v : xV) : xV := if v.1 = 3 then (9, 0) else v
def xst (ls : List xV) (i : Nat) (v : xV) : List xV := match i with
  | 0 => ls.set 0 v
  | j + 1 => (ls.set j (xkl (ls.getD j (9, 0)))).set (j + 1) v
/-- an instruction that is no call and no return -/
noncomputable def xstp (sw : Nat → List Int) (o : xOp) (k : Nat) (ls st : List xV) (h : xH) : Option (Nat × List xV × List xV × xH) :=
  if o.1 = 1 then some (k + 1, ls, (0, o.2.1) :: st, h) else
  if o.1 = 2 then (match ls[o.2.1.toNat]? with
    | some v => if v.1 = o.2.2.1.toNat then some (k + 1, ls, v :: st, h) else none
    | none => none) else
  if o.1 = 3 then (match st with
    | v :: st => if v.1 = o.2.2.1.toNat ∧ v.1 < 3 ∧ o.2.1.toNat < ls.length then some (k + 1, xst ls o.2.1.toNat v, st, h) else none
    | _ => none) else
  if o.1 = 4 then (match ls[o.2.1.toNat]? with
    | some v => if v.1 = 0 then some (k + 1, xst ls o.2.1.toNat (0, xw (v.2 + o.2.2.1)), st, h) else none
    | none => none) else
  if o.1 = 50 then (match st with | (0, y) :: (0, x) :: st => some (k + 1, ls, (0, xw (x + y)) :: st, h) | _ => none) else
  if o.1 = 51 then (match st with | (0, y) :: (0, x) :: st => some (k + 1, ls, (0, xw (x - y)) :: st, h) | _ => none) else
  if o.1 = 52 then (match st with | (0, y) :: (0, x) :: st => some (k + 1, ls, (0, xw (x * y)) :: st, h) | _ => none) else
  if o.1 = 53 then (match st with | (0, y) :: (0, x) :: st => some (k + 1, ls, (0, xand x y) :: st, h) | _ => none) else
  if o.1 = 54 then (match st with | (0, y) :: (0, x) :: st => some (k + 1, ls, (0, xor_ x y) :: st, h) | _ => none) else
  if o.1 = 55 then (match st with | (0, y) :: (0, x) :: st => some (k + 1, ls, (0, xxor x y) :: st, h) | _ => none) else
  if o.1 = 56 then (match st with | (0, y) :: (0, x) :: st => some (k + 1, ls, (0, xshl x y) :: st, h) | _ => none) else
  if o.1 = 57 then (match st with | (0, y) :: (0, x) :: st => some (k + 1, ls, (0, xshr x y) :: st, h) | _ => none) else
  if o.1 = 58 then (match st with | (0, y) :: (0, x) :: st => some (k + 1, ls, (0, xushr x y) :: st, h) | _ => none) else
  if o.1 = 59 then (match st with | (0, y) :: (0, x) :: st => if y = 0 then none else some (k + 1, ls, (0, xdiv x y) :: st, h) | _ => none) else
  if o.1 = 60 then (match st with | (0, y) :: (0, x) :: st => if y = 0 then none else some (k + 1, ls, (0, xrem x y) :: st, h) | _ => none) else
  if o.1 = 61 then (match st with | (0, x) :: st => some (k + 1, ls, (0, xw8 x) :: st, h) | _ => none) else
  if o.1 = 70 then (match st with | v :: st => if v.1 = 3 then none else some (k + 1, ls, v :: v :: st, h) | _ => none) else
  if o.1 = 71 then (match st with | v :: w :: st => if v.1 = 3 ∨ w.1 = 3 then none else some (k + 1, ls, v :: w :: v :: w :: st, h) | _ => none) else
  if o.1 = 72 then (match st with | v :: w :: st => if v.1 = 3 ∨ w.1 = 3 then none else some (k + 1, ls, v :: w :: v :: st, h) | _ => none) else
  if o.1 = 73 then (match st with | v :: st => if v.1 = 3 then none else some (k + 1, ls, st, h) | _ => none) else
  if o.1 = 130 then (match st with | (0, x) :: st => some (if x = 0 then o.2.1.toNat else k + 1, ls, st, h) | _ => none) else
  if o.1 = 131 then (match st with | (0, x) :: st => some (if x = 0 then k + 1 else o.2.1.toNat, ls, st, h) | _ => none) else
  if o.1 = 132 then (match st with | (0, x) :: st => some (if x < 0 then o.2.1.toNat else k + 1, ls, st, h) | _ => none) else
  if o.1 = 133 then (match st with | (0, x) :: st => some (if x < 0 then k + 1 else o.2.1.toNat, ls, st, h) | _ => none) else
  if o.1 = 134 then (match st with | (0, x) :: st => some (if 0 < x then o.2.1.toNat else k + 1, ls, st, h) | _ => none) else
  if o.1 = 135 then (match st with | (0, x) :: st => some (if 0 < x then k + 1 else o.2.1.toNat, ls, st, h) | _ => none) else
  if o.1 = 140 then (match st with | (0, y) :: (0, x) :: st => some (if x = y then o.2.1.toNat else k + 1, ls, st, h) | _ => none) else
  if o.1 = 141 then (match st with | (0, y) :: (0, x) :: st => some (if x = y then k + 1 else o.2.1.toNat, ls, st, h) | _ => none) else
  if o.1 = 142 then (match st with | (0, y) :: (0, x) :: st => some (if x < y then o.2.1.toNat else k + 1, ls, st, h) | _ => none) else
  if o.1 = 143 then (match st with | (0, y) :: (0, x) :: st => some (if x < y then k + 1 else o.2.1.toNat, ls, st, h) | _ => none) else
  if o.1 = 144 then (match st with | (0, y) :: (0, x) :: st => some (if y < x then o.2.1.toNat else k + 1, ls, st, h) | _ => none) else
  if o.1 = 145 then (match st with | (0, y) :: (0, x) :: st => some (if y < x then k + 1 else o.2.1.toNat, ls, st, h) | _ => none) else
  if o.1 = 15 then some (o.2.1.toNat, ls, st, h) else
  if o.1 = 16 then (match st with
    | (0, x) :: st => if x < o.2.2.1 ∨ o.2.2.1 + (sw o.2.1.toNat).length ≤ x then some (o.2.2.2.toNat, ls, st, h)
      else some (((sw o.2.1.toNat).getD (x - o.2.2.1).toNat 0).toNat, ls, st, h)
    | _ => none) else
  if o.1 = 17 then (match st with | (1, x) :: st => some (if x = 0 then o.2.1.toNat else k + 1, ls, st, h) | _ => none) else
  if o.1 = 18 then (match st with | (1, x) :: st => some (if x = 0 then k + 1 else o.2.1.toNat, ls, st, h) | _ => none) else
  if o.1 = 19 then some (k + 1, ls, (1, 0) :: st, h) else
  if o.1 = 20 then (match st with
    | (1, p) :: st => if h.tag p = o.2.1 then some (k + 1, ls, (if o.2.2.2 = 0 then (0, h.i p o.2.2.1) else (1, h.r p o.2.2.1)) :: st, h) else none
    | _ => none) else
  if o.1 = 21 then (match st with
    | v :: (1, p) :: st => if h.tag p = o.2.1 ∧ v.1 = (if o.2.2.2 = 1 then 1 else 0) ∧ (o.2.2.2 = 2 → v.2 = 0 ∨ v.2 = 1) then some (k + 1, ls, st, if o.2.2.2 = 1 then h.wr p o.2.2.1 v.2 else h.wi p o.2.2.1 v.2) else none
    | _ => none) else
  if o.1 = 22 then (match st with
    | (0, x) :: (1, p) :: st => if h.tag p = o.2.1 ∧ 0 ≤ x ∧ x < h.len p then some (k + 1, ls, (0, h.i p x) :: st, h) else none
    | _ => none) else
  if o.1 = 23 then (match st with
    | (0, v) :: (0, x) :: (1, p) :: st => if h.tag p = o.2.1 ∧ 0 ≤ x ∧ x < h.len p then some (k + 1, ls, st, h.wi p x (if o.2.1 = 21 then xw8 v else if o.2.1 = 22 then v % 2 else v)) else none
    | _ => none) else
  if o.1 = 24 then (match st with
    | (0, x) :: (1, p) :: st => if h.tag p = o.2.1 ∧ 0 ≤ x ∧ x < h.len p then some (k + 1, ls, (1, h.r p x) :: st, h) else none
    | _ => none) else
  if o.1 = 25 then (match st with
    | (1, v) :: (0, x) :: (1, p) :: st => if h.tag p = o.2.1 ∧ 0 ≤ x ∧ x < h.len p ∧ (v = 0 ∨ h.tag v = o.2.2.1) then some (k + 1, ls, st, h.wr p x v) else none
    | _ => none) else
  if o.1 = 26 then (match st with
    | (1, p) :: st => if h.tag p = o.2.1 then some (k + 1, ls, (0, h.len p) :: st, h) else none
    | _ => none) else
  if o.1 = 27 then (match st with
    | (0, n) :: st => if 0 ≤ n ∧ n ≤ 7302250 then some (k + 1, ls, (1, h.nx) :: st, h.al o.2.1 n) else none
    | _ => none) else
  if o.1 = 29 then some (k + 1, ls, (1, h.nx) :: st, h.al o.2.1 o.2.2.1) else
  if o.1 = 30 then (match st with | (1, p) :: st => if p = 0 ∨ 20 < xcat st then none else some (k + 1, ls, st, h) | _ => none) else
  if o.1 = 34 then (match st with | (0, y) :: (0, x) :: st => if xcat st ≤ 20 then some (k + 1, ls, (0, if x < y then y else x) :: st, h) else none | _ => none) else
  if o.1 = 35 then (match st with | (0, y) :: (0, x) :: st => if xcat st ≤ 20 then some (k + 1, ls, (0, if y < x then y else x) :: st, h) else none | _ => none) else
  if o.1 = 36 then (match st with
    | (0, n) :: (0, dp) :: (1, d) :: (0, sp) :: (1, s) :: st => if h.tag s = 20 ∧ h.tag d = 20 ∧ 0 ≤ sp ∧ 0 ≤ dp ∧ 0 ≤ n ∧ sp + n ≤ h.len s ∧ dp + n ≤ h.len d ∧ xcat st ≤ 20 then some (k + 1, ls, st, h.cp s sp d dp n) else none
    | _ => none) else
  if o.1 = 37 then (match st with
    | (1, s) :: st => if h.tag s = 20 ∧ xcat st ≤ 20 then some (k + 1, ls, (1, h.nx) :: st, (h.al 20 (h.len s)).cp s 0 h.nx 0 (h.len s)) else none
    | _ => none) else
  if o.1 = 38 then (match st with | (1, s) :: st => if h.tag s = 20 then some (k + 1, ls, (1, s) :: st, h) else none | _ => none) else
  if o.1 = 40 then some (k + 1, ls, (3, o.2.1) :: st, h) else
  if o.1 = 41 then (match st with | (3, y) :: (3, x) :: st => some (k + 1, ls, (3, xladd x y) :: st, h) | _ => none) else
  if o.1 = 42 then (match st with | (3, y) :: (3, x) :: st => some (k + 1, ls, (3, xlmul x y) :: st, h) | _ => none) else
  if o.1 = 43 then (match st with | (3, y) :: (3, x) :: st => if y = 0 then none else some (k + 1, ls, (3, xldiv x y) :: st, h) | _ => none) else
  if o.1 = 44 then (match st with | (3, y) :: (3, x) :: st => if y = 0 then none else some (k + 1, ls, (3, xlrem x y) :: st, h) | _ => none) else
  if o.1 = 45 then (match st with | (3, y) :: (3, x) :: st => some (k + 1, ls, (0, xlcmp x y) :: st, h) | _ => none) else
  if o.1 = 46 then (match st with | (0, x) :: st => some (k + 1, ls, (3, x) :: st, h) | _ => none) else
  if o.1 = 47 then (match st with | (3, x) :: st => some (k + 1, ls, (0, xl2i x) :: st, h) | _ => none) else
  if o.1 = 48 then (match st with
    | v :: st => if v.1 = 3 ∧ o.2.1.toNat + 1 < ls.length then some (k + 1, (xst ls o.2.1.toNat v).set (o.2.1.toNat + 1) (9, 0), st, h) else none
    | _ => none) else
  if o.1 = 80 then some (k + 1, ls, (2, o.2.1) :: st, h) else
  if o.1 = 81 then (match st with | (2, y) :: (2, x) :: st => if xn32 (FP.fmul (xuf x) (xuf y)) = true then some (k + 1, ls, (2, xfmul x y) :: st, h) else none | _ => none) else
  if o.1 = 82 then (match st with | (2, y) :: (2, x) :: st => if xn32 (FP.fdiv (xuf x) (xuf y)) = true then some (k + 1, ls, (2, xfdiv x y) :: st, h) else none | _ => none) else
  if o.1 = 83 then (match st with | (0, x) :: st => some (k + 1, ls, (2, xi2f x) :: st, h) | _ => none) else
  if o.1 = 84 then (match st with | (2, x) :: st => some (k + 1, ls, (0, xf2i x) :: st, h) | _ => none) else
  none

/-- the receiver is there, and of the class -/
def xrecv (h : xH) (l : List xV) (ci : Int) : Bool := match l with
  | (1, p) :: _ => decide (h.tag p = ci)
  | _ => false
/-- what a method is: how many locals, how many arguments (with its object) -/
abbrev xMi : Type := Nat × Nat
section XR
variable (sw : Nat → List Int) (cd : Nat → Nat → xOp) (mi : Nat → xMi)
/-- n: steps, d: how deep calls may go, m: the method, k: the instruction -/
noncomputable def xrun : Nat → Nat → Nat → Nat → List xV → List xV → xH → Option (xV × xH)
  | 0, _, _, _, _, _, _ => none
  | n + 1, d, m, k, ls, st, h =>
    if (cd m k).1 = 31 then
      if d = 0 ∨ st.length < (mi (cd m k).2.1.toNat).2 ∨ 8 < xcat (st.drop (mi (cd m k).2.1.toNat).2) ∨ xcat (st.take (mi (cd m k).2.1.toNat).2) ≠ (mi (cd m k).2.1.toNat).2 then none else
      if (cd m k).2.2.1 = 0 ∨ xrecv h (st.take (mi (cd m k).2.1.toNat).2).reverse (cd m k).2.2.2 = true then
        match xrun n (d - 1) (cd m k).2.1.toNat 0 ((st.take (mi (cd m k).2.1.toNat).2).reverse ++ List.replicate ((mi (cd m k).2.1.toNat).1 - (mi (cd m k).2.1.toNat).2) (9, 0)) [] h with
        | none => none
        | some (v, h') => xrun n d m (k + 1) ls (if v.1 = 9 then st.drop (mi (cd m k).2.1.toNat).2 else v :: st.drop (mi (cd m k).2.1.toNat).2) h'
      else none
    else if (cd m k).1 = 32 then (if st = [] then some ((9, 0), h) else none)
    else if (cd m k).1 = 33 then (match st with | [v] => if v.1 = (cd m k).2.1.toNat ∧ v.1 < 4 ∧ ((cd m k).2.2.1 = 1 → v.2 = 0 ∨ v.2 = 1) then some (v, h) else none | _ => none)
    else match xstp sw (cd m k) k ls st h with
      | none => none
      | some (k', ls', st', h') => xrun n d m k' ls' st' h'
theorem xrun_s (n d m k : Nat) (ls st : List xV) (h : xH) : xrun sw cd mi (n + 1) d m k ls st h = (
    if (cd m k).1 = 31 then
      if d = 0 ∨ st.length < (mi (cd m k).2.1.toNat).2 ∨ 8 < xcat (st.drop (mi (cd m k).2.1.toNat).2) ∨ xcat (st.take (mi (cd m k).2.1.toNat).2) ≠ (mi (cd m k).2.1.toNat).2 then none else
      if (cd m k).2.2.1 = 0 ∨ xrecv h (st.take (mi (cd m k).2.1.toNat).2).reverse (cd m k).2.2.2 = true then
        match xrun sw cd mi n (d - 1) (cd m k).2.1.toNat 0 ((st.take (mi (cd m k).2.1.toNat).2).reverse ++ List.replicate ((mi (cd m k).2.1.toNat).1 - (mi (cd m k).2.1.toNat).2) (9, 0)) [] h with
        | none => none
        | some (v, h') => xrun sw cd mi n d m (k + 1) ls (if v.1 = 9 then st.drop (mi (cd m k).2.1.toNat).2 else v :: st.drop (mi (cd m k).2.1.toNat).2) h'
      else none
    else if (cd m k).1 = 32 then (if st = [] then some ((9, 0), h) else none)
    else if (cd m k).1 = 33 then (match st with | [v] => if v.1 = (cd m k).2.1.toNat ∧ v.1 < 4 ∧ ((cd m k).2.2.1 = 1 → v.2 = 0 ∨ v.2 = 1) then some (v, h) else none | _ => none)
    else match xstp sw (cd m k) k ls st h with
      | none => none
      | some (k', ls', st', h') => xrun sw cd mi n d m k' ls' st' h') := rfl
end XR
