/-! ===== ints as Ints ===== -/
def iI (z : Int) : Int32 := Int32.ofInt z
def iL (z : Int) : Int64 := Int64.ofInt z
def w32 (z : Int) : Int := (iI z).toInt
def w64 (z : Int) : Int := (iL z).toInt
theorem iI_w (x : Int32) : iI x.toInt = x := Int32.ofInt_toInt x
theorem iL_w (x : Int64) : iL x.toInt = x := Int64.ofInt_toInt x
theorem iI_add (a b : Int) : iI (a + b) = iI a + iI b := Int32.ofInt_add a b
theorem iI_sub (a b : Int) : iI (a - b) = iI a - iI b := Int32.ofInt_sub a b
theorem iI_mul (a b : Int) : iI (a * b) = iI a * iI b := Int32.ofInt_mul a b
theorem iI_neg (a : Int) : iI (-a) = -iI a := Int32.ofInt_neg a
theorem iL_add (a b : Int) : iL (a + b) = iL a + iL b := Int64.ofInt_add a b
theorem iL_mul (a b : Int) : iL (a * b) = iL a * iL b := Int64.ofInt_mul a b
theorem iI_lt {a b : Int} : iI a < iI b ↔ w32 a < w32 b := Int32.lt_iff_toInt_lt
theorem iI_le {a b : Int} : iI a ≤ iI b ↔ w32 a ≤ w32 b := Int32.le_iff_toInt_le
theorem iI_eq {a b : Int} : iI a = iI b ↔ w32 a = w32 b := Int32.toInt_inj.symm
theorem iI_0 : iI 0 = 0 := rfl
theorem w32_0 : w32 0 = 0 := by decide +kernel
theorem iI_eq0 {a : Int} : iI a = 0 ↔ w32 a = 0 := by rw [← iI_0, iI_eq, w32_0]
theorem iI_lt0 {a : Int} : iI a < 0 ↔ w32 a < 0 := by rw [← iI_0, iI_lt, w32_0]
theorem iI_0le {a : Int} : 0 ≤ iI a ↔ 0 ≤ w32 a := by rw [← iI_0, iI_le, w32_0]
theorem iI_0lt {a : Int} : 0 < iI a ↔ 0 < w32 a := by rw [← iI_0, iI_lt, w32_0]
theorem iI_le0 {a : Int} : iI a ≤ 0 ↔ w32 a ≤ 0 := by rw [← iI_0, iI_le, w32_0]
def zand (a b : Int) : Int := (iI a &&& iI b).toInt
def zor (a b : Int) : Int := (iI a ||| iI b).toInt
def zxor (a b : Int) : Int := (iI a ^^^ iI b).toInt
def zshl (a b : Int) : Int := (iI a <<< (iI b &&& 31)).toInt
def zshr (a b : Int) : Int := (iI a >>> (iI b &&& 31)).toInt
def zushr (a b : Int) : Int := ((iI a).toUInt32 >>> ((iI b).toUInt32 &&& Int32.toUInt32 31)).toInt32.toInt
def zdiv (a b : Int) : Int := (iI a / iI b).toInt
def zrem (a b : Int) : Int := (iI a - iI a / iI b * iI b).toInt
def zi2b (a : Int) : Int := (iI a).toInt8.toInt32.toInt
def ydiv (a b : Int) : Int := (iL a / iL b).toInt
def yrem (a b : Int) : Int := (iL a - iL a / iL b * iL b).toInt
def yand (a b : Int) : Int := (iL a &&& iL b).toInt
def yshl (a b : Int) : Int := (iL a <<< ((iI b).toInt64 &&& 63)).toInt
def ycmp (a b : Int) : Int := if w64 b < w64 a then 1 else if w64 a = w64 b then 0 else -1
def zmax (a b : Int) : Int := if w32 a < w32 b then b else a
def zmin (a b : Int) : Int := if w32 b < w32 a then b else a
theorem iL_i2l (a : Int) : (iI a).toInt64 = iL (w32 a) := by
  apply Int64.toInt_inj.mp
  unfold iL w32
  rw [Int32.toInt_toInt64, Int64.toInt_ofInt_of_le]
  · have := (iI a).le_toInt; omega
  · have := (iI a).toInt_lt; omega
theorem iI_l2i (a : Int) : (iL a).toInt32 = iI a := Int64.toInt32_ofInt
theorem iI_cmp (a b : Int) : lg_cmp (iL a) (iL b) = iI (ycmp a b) := by
  unfold lg_cmp ycmp
  have h1 : (iL b < iL a) ↔ w64 b < w64 a := Int64.lt_iff_toInt_lt
  have h2 : (iL a = iL b) ↔ w64 a = w64 b := Int64.toInt_inj.symm
  by_cases c1 : w64 b < w64 a
  · simp [h1, c1]; rfl
  · by_cases c2 : w64 a = w64 b
    · simp [h1, h2, c2]; rfl
    · simp [h1, h2, c1, c2]; rfl
theorem iI_max (a b : Int) : (if iI a < iI b then iI b else iI a) = iI (zmax a b) := by
  unfold zmax
  by_cases c : w32 a < w32 b
  · rw [if_pos (iI_lt.mpr c), if_pos c]
  · rw [if_neg (fun h => c (iI_lt.mp h)), if_neg c]
theorem iI_min (a b : Int) : (if iI b < iI a then iI b else iI a) = iI (zmin a b) := by
  unfold zmin
  by_cases c : w32 b < w32 a
  · rw [if_pos (iI_lt.mpr c), if_pos c]
  · rw [if_neg (fun h => c (iI_lt.mp h)), if_neg c]
theorem iI_b {n : Int} (h1 : -128 ≤ n) (h2 : n < 128) : (Int8.ofInt n).toInt32 = iI n := by
  have e : Int8.maxValue.toInt = 127 := by decide
  have e2 : Int8.minValue.toInt = -128 := by decide
  exact Int8.toInt32_ofInt (by omega) (by omega)
theorem iI_s {n : Int} (h1 : -32768 ≤ n) (h2 : n < 32768) : (Int16.ofInt n).toInt32 = iI n := by
  have e : Int16.maxValue.toInt = 32767 := by decide
  have e2 : Int16.minValue.toInt = -32768 := by decide
  exact Int16.toInt32_ofInt (by omega) (by omega)
theorem vpin_w {a : Int} {n : Nat} : vp_in (iI a) n ↔ 0 ≤ w32 a ∧ w32 a < n := vp_in_iff
theorem clamp_w (a : Int) : (iI a).toNatClampNeg = (w32 a).toNat := rfl
