/-! numbers: an int is an Int within its range; w32, w64: what wraps around -/
abbrev i32 (x : Int) : Int32 := Int32.ofInt x
abbrev i64 (x : Int) : Int64 := Int64.ofInt x
def w32 (x : Int) : Int := x.bmod 4294967296
def w64 (x : Int) : Int := x.bmod 18446744073709551616
def w8 (x : Int) : Int := x.bmod 256
def ok32 (x : Int) : Prop := -2147483648 ≤ x ∧ x < 2147483648
def ok64 (x : Int) : Prop := -9223372036854775808 ≤ x ∧ x < 9223372036854775808
theorem w32_ok (x : Int) : ok32 (w32 x) := by
  unfold ok32 w32
  have h1 := Int.le_bmod (x := x) (m := 4294967296) (by decide)
  have h2 := Int.bmod_lt (x := x) (m := 4294967296) (by decide)
  omega
theorem w64_ok (x : Int) : ok64 (w64 x) := by
  unfold ok64 w64
  have h1 := Int.le_bmod (x := x) (m := 18446744073709551616) (by decide)
  have h2 := Int.bmod_lt (x := x) (m := 18446744073709551616) (by decide)
  omega
theorem w8_ok (x : Int) : ok32 (w8 x) := by
  unfold ok32 w8
  have h1 := Int.le_bmod (x := x) (m := 256) (by decide)
  have h2 := Int.bmod_lt (x := x) (m := 256) (by decide)
  omega
theorem w32_id {x : Int} (h : ok32 x) : w32 x = x := by
  unfold w32
  exact Int.bmod_eq_of_le (by have := h.1; omega) (by have := h.2; omega)
theorem w64_id {x : Int} (h : ok64 x) : w64 x = x := by
  unfold w64
  exact Int.bmod_eq_of_le (by have := h.1; omega) (by have := h.2; omega)
theorem i32_toInt {x : Int} (h : ok32 x) : (i32 x).toInt = x := Int32.toInt_ofInt_of_le (by have := h.1; omega) (by have := h.2; omega)
theorem i64_toInt {x : Int} (h : ok64 x) : (i64 x).toInt = x := Int64.toInt_ofInt_of_le (by have := h.1; omega) (by have := h.2; omega)
theorem i32_any (x : Int) : (i32 x).toInt = w32 x := by
  unfold w32
  rw [Int32.toInt_ofInt]
theorem i64_any (x : Int) : (i64 x).toInt = w64 x := by
  unfold w64
  rw [Int64.toInt_ofInt]
theorem ok32_64 {x : Int} (h : ok32 x) : ok64 x := ⟨by have := h.1; omega, by have := h.2; omega⟩
theorem i32_eq {x : Int} {y : Int32} (h : y.toInt = w32 x) : y = i32 x := Int32.toInt.inj (by rw [h, i32_any])
theorem i64_eq {x : Int} {y : Int64} (h : y.toInt = w64 x) : y = i64 x := Int64.toInt.inj (by rw [h, i64_any])
theorem w32_w32 (x : Int) : w32 (w32 x) = w32 x := w32_id (w32_ok x)
theorem w64_w64 (x : Int) : w64 (w64 x) = w64 x := w64_id (w64_ok x)
theorem i32_w (x : Int) : i32 (w32 x) = i32 x := (i32_eq (by rw [i32_any, w32_w32])).symm
theorem i64_w (x : Int) : i64 (w64 x) = i64 x := (i64_eq (by rw [i64_any, w64_w64])).symm
theorem i32_add (a b : Int) : i32 a + i32 b = i32 (w32 (a + b)) := by
  rw [i32_w]; refine i32_eq ?_
  rw [Int32.toInt_add, i32_any, i32_any]; unfold w32; simp
theorem i32_sub (a b : Int) : i32 a - i32 b = i32 (w32 (a - b)) := by
  rw [i32_w]; refine i32_eq ?_
  rw [Int32.toInt_sub, i32_any, i32_any]; unfold w32; simp
theorem i32_mul (a b : Int) : i32 a * i32 b = i32 (w32 (a * b)) := by
  rw [i32_w]; refine i32_eq ?_
  rw [Int32.toInt_mul, i32_any, i32_any]; unfold w32; simp
theorem i32_neg (a : Int) : - i32 a = i32 (w32 (- a)) := by
  rw [i32_w]; refine i32_eq ?_
  rw [Int32.toInt_neg, i32_any]; unfold w32; simp
theorem i64_add (a b : Int) : i64 a + i64 b = i64 (w64 (a + b)) := by
  rw [i64_w]; refine i64_eq ?_
  rw [Int64.toInt_add, i64_any, i64_any]; unfold w64; simp
theorem i64_sub (a b : Int) : i64 a - i64 b = i64 (w64 (a - b)) := by
  rw [i64_w]; refine i64_eq ?_
  rw [Int64.toInt_sub, i64_any, i64_any]; unfold w64; simp
theorem i64_mul (a b : Int) : i64 a * i64 b = i64 (w64 (a * b)) := by
  rw [i64_w]; refine i64_eq ?_
  rw [Int64.toInt_mul, i64_any, i64_any]; unfold w64; simp
theorem i64_neg (a : Int) : - i64 a = i64 (w64 (- a)) := by
  rw [i64_w]; refine i64_eq ?_
  rw [Int64.toInt_neg, i64_any]; unfold w64; simp
theorem i32_div {a b : Int} (ha : ok32 a) (hb : ok32 b) : i32 a / i32 b = i32 (w32 (a.tdiv b)) := by
  rw [i32_w]; refine i32_eq ?_
  rw [Int32.toInt_div, i32_toInt ha, i32_toInt hb]; rfl
theorem i64_div {a b : Int} (ha : ok64 a) (hb : ok64 b) : i64 a / i64 b = i64 (w64 (a.tdiv b)) := by
  rw [i64_w]; refine i64_eq ?_
  rw [Int64.toInt_div, i64_toInt ha, i64_toInt hb]; rfl
theorem i32_rem {a b : Int} (ha : ok32 a) (hb : ok32 b) : i32 a - i32 a / i32 b * i32 b = i32 (w32 (a.tmod b)) := by
  rw [i32_div ha hb, i32_w, i32_mul, i32_w, i32_sub, i32_w, i32_w]
  congr 1
  have := Int.tmod_add_tdiv_mul a b
  omega
theorem i64_rem {a b : Int} (ha : ok64 a) (hb : ok64 b) : i64 a - i64 a / i64 b * i64 b = i64 (w64 (a.tmod b)) := by
  rw [i64_div ha hb, i64_w, i64_mul, i64_w, i64_sub, i64_w, i64_w]
  congr 1
  have := Int.tmod_add_tdiv_mul a b
  omega
theorem i32_i2l {a : Int} (ha : ok32 a) : (i32 a).toInt64 = i64 a := i64_eq (by rw [Int32.toInt_toInt64, i32_toInt ha, w64_id (ok32_64 ha)])
theorem i64_l2i {a : Int} (ha : ok64 a) : (i64 a).toInt32 = i32 (w32 a) := by
  rw [i32_w]; exact i32_eq (by rw [Int64.toInt_toInt32, i64_toInt ha]; rfl)
theorem i32_i2b {a : Int} (ha : ok32 a) : (i32 a).toInt8.toInt32 = i32 (w8 a) := i32_eq (by rw [Int8.toInt_toInt32, Int32.toInt_toInt8, i32_toInt ha, w32_id (w8_ok a)]; rfl)
theorem i32_lt {a b : Int} (ha : ok32 a) (hb : ok32 b) : i32 a < i32 b ↔ a < b := by rw [Int32.lt_iff_toInt_lt, i32_toInt ha, i32_toInt hb]
theorem i32_le {a b : Int} (ha : ok32 a) (hb : ok32 b) : i32 a ≤ i32 b ↔ a ≤ b := by rw [Int32.le_iff_toInt_le, i32_toInt ha, i32_toInt hb]
theorem i32_ei {a b : Int} (ha : ok32 a) (hb : ok32 b) : i32 a = i32 b ↔ a = b := by rw [← Int32.toInt_inj, i32_toInt ha, i32_toInt hb]
theorem i64_lt {a b : Int} (ha : ok64 a) (hb : ok64 b) : i64 a < i64 b ↔ a < b := by rw [Int64.lt_iff_toInt_lt, i64_toInt ha, i64_toInt hb]
theorem i64_ei {a b : Int} (ha : ok64 a) (hb : ok64 b) : i64 a = i64 b ↔ a = b := by rw [← Int64.toInt_inj, i64_toInt ha, i64_toInt hb]
theorem ok32_0 : ok32 0 := by unfold ok32; omega
theorem ok64_0 : ok64 0 := by unfold ok64; omega
theorem ok32_of (x : Int32) : ok32 x.toInt := ⟨by have := x.le_toInt; omega, by have := x.toInt_lt; omega⟩
theorem ok64_of (x : Int64) : ok64 x.toInt := ⟨by have := x.le_toInt; omega, by have := x.toInt_lt; omega⟩
/-- bits -/
def iand (a b : Int) : Int := (i32 a &&& i32 b).toInt
def ior (a b : Int) : Int := (i32 a ||| i32 b).toInt
def ixor (a b : Int) : Int := (i32 a ^^^ i32 b).toInt
def ishl (a b : Int) : Int := (i32 a <<< (i32 b &&& 31)).toInt
def ishr (a b : Int) : Int := (i32 a >>> (i32 b &&& 31)).toInt
def iushr (a b : Int) : Int := (((i32 a).toUInt32 >>> ((i32 b).toUInt32 &&& Int32.toUInt32 31)).toInt32).toInt
def land (a b : Int) : Int := (i64 a &&& i64 b).toInt
def lor (a b : Int) : Int := (i64 a ||| i64 b).toInt
def lshl (a b : Int) : Int := (i64 a <<< ((i32 b).toInt64 &&& 63)).toInt
def lshr (a b : Int) : Int := (i64 a >>> ((i32 b).toInt64 &&& 63)).toInt
def lushr (a b : Int) : Int := (((i64 a).toUInt64 >>> ((i32 b).toInt64.toUInt64 &&& Int64.toUInt64 63)).toInt64).toInt
def lcmp (a b : Int) : Int := if a > b then 1 else if a = b then 0 else -1
theorem lcmp_ok (a b : Int) : ok32 (lcmp a b) := by
  unfold lcmp ok32
  split
  · omega
  · split <;> omega
theorem lcmp_c {a b : Int} (ha : ok64 a) (hb : ok64 b) : lg_cmp (i64 a) (i64 b) = i32 (lcmp a b) := by
  unfold lg_cmp lcmp
  have h1 : (i64 a > i64 b) = (a > b) := propext (i64_lt hb ha)
  have h2 : (i64 a = i64 b) = (a = b) := propext (i64_ei ha hb)
  simp only [h1, h2]
  split
  · rfl
  · split <;> rfl
theorem zero32 : i32 0 = 0 := rfl
theorem zero64 : i64 0 = 0 := rfl
