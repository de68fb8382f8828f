/-! ===== sets of capes as numbers below 32 ===== -/
theorem zand_s : ∀ a b : Fin 32, zand ((a : Nat) : Int) ((b : Nat) : Int) = (((a : Nat) &&& (b : Nat) : Nat) : Int) := by decide +kernel
theorem zandn_s : ∀ a b : Fin 32, zand ((a : Nat) : Int) (zxor ((b : Nat) : Int) (-1)) = (((a : Nat) &&& (31 ^^^ (b : Nat)) : Nat) : Int) := by decide +kernel
theorem zor_s : ∀ a : Fin 32, ∀ i : Fin 5, (a : Nat) < 2 ^ (i : Nat) → zor ((a : Nat) : Int) (zshl 1 ((i : Nat) : Int)) = (((a : Nat) + 2 ^ (i : Nat) : Nat) : Int) := by decide +kernel
theorem zor_0 : ∀ a : Fin 32, zor ((a : Nat) : Int) 0 = ((a : Nat) : Int) := by decide +kernel
theorem zshl_s : ∀ i : Fin 6, zshl 1 ((i : Nat) : Int) = ((2 ^ (i : Nat) : Nat) : Int) := by decide +kernel
theorem zbit_s : ∀ a : Fin 32, ∀ i : Fin 5, zand (zshr ((a : Nat) : Int) ((i : Nat) : Int)) 1 = if (a : Nat).testBit (i : Nat) then 1 else 0 := by decide +kernel
theorem zbit8_s : ∀ a : Fin 32, ∀ i : Fin 8, zand (zshr ((a : Nat) : Int) ((i : Nat) : Int)) 1 = if (a : Nat).testBit (i : Nat) then 1 else 0 := by decide +kernel
def bt (b : Bool) : Int := if b then 1 else 0
def bcZ (p0 : Int) : Int := vl (p0 - (zand (zushr p0 1) 1431655765)) fun x1 => vl ((zand x1 858993459) + (zand (zushr x1 2) 858993459)) fun x2 => vl (zand (x2 + (zushr x2 4)) 252645135) fun x3 => vl (x3 + (zushr x3 8)) fun x4 => vl (x4 + (zushr x4 16)) fun x5 => zand x5 63
theorem x_bits (μ : Mem) (a : Int) : f_J6_bitCount_0f7a4 μ a = some (bcZ a, μ) := rfl
theorem bcZ_s : ∀ a : Fin 32, bcZ ((a : Nat) : Int) = bt ((a : Nat).testBit 0) + bt ((a : Nat).testBit 1) + bt ((a : Nat).testBit 2) + bt ((a : Nat).testBit 3) + bt ((a : Nat).testBit 4) := by decide +kernel
def cn : Nat → (Nat → Bool) → Int
  | 0, _ => 0
  | n + 1, p => cn n p + bt (p n)
theorem msk_lt : ∀ (n : Nat) (p : Nat → Bool), msk n p < 2 ^ n := by
  intro n p
  induction n with
  | zero => simp [msk]
  | succ n ih =>
    unfold msk
    rw [Nat.pow_succ]
    by_cases h : p n = true
    · rw [if_pos h]; omega
    · rw [if_neg h]; omega
theorem pow5 {C : Nat} (h : C ≤ 5) : 2 ^ C ≤ 32 := by
  have := Nat.pow_le_pow_right (show 0 < 2 by omega) h
  omega
theorem msk_32 {n : Nat} (h : n ≤ 5) (p : Nat → Bool) : msk n p < 32 := Nat.lt_of_lt_of_le (msk_lt n p) (pow5 h)
theorem msk_bit : ∀ (n : Nat) (p : Nat → Bool) (i : Nat), (msk n p).testBit i = (decide (i < n) && p i) := by
  intro n p
  induction n with
  | zero => intro i; simp [msk]
  | succ n ih =>
    intro i
    unfold msk
    have hl := msk_lt n p
    by_cases h : p n = true
    · rw [if_pos h, Nat.add_comm]
      by_cases e : i = n
      · subst e
        rw [Nat.testBit_two_pow_add_eq, Nat.testBit_lt_two_pow hl, h]
        simp
      · by_cases e2 : i < n
        · rw [Nat.testBit_two_pow_add_gt e2, ih]
          simp [e2, show i < n + 1 by omega]
        · have hb : 2 ^ n + msk n p < 2 ^ i := by
            have : 2 ^ (n + 1) ≤ 2 ^ i := Nat.pow_le_pow_right (by omega) (by omega)
            rw [Nat.pow_succ] at this
            omega
          rw [Nat.testBit_lt_two_pow hb]
          simp [show ¬ i < n + 1 by omega]
    · rw [if_neg h, Nat.add_zero, ih]
      by_cases e : i = n
      · subst e
        simp [h]
      · by_cases e2 : i < n
        · simp [e2, show i < n + 1 by omega]
        · simp [e2, show ¬ i < n + 1 by omega]
theorem msk_cg {n : Nat} {p q : Nat → Bool} (h : ∀ i, i < n → p i = q i) : msk n p = msk n q := by
  apply Nat.eq_of_testBit_eq
  intro i
  rw [msk_bit, msk_bit]
  by_cases e : i < n
  · rw [h i e]
  · simp [e]
theorem msk_and (n : Nat) (p q : Nat → Bool) : msk n p &&& msk n q = msk n (fun i => p i && q i) := by
  apply Nat.eq_of_testBit_eq
  intro i
  rw [Nat.testBit_and, msk_bit, msk_bit, msk_bit]
  by_cases e : i < n <;> simp [e]
theorem msk_andn {n : Nat} (hn : n ≤ 5) (p q : Nat → Bool) : msk n p &&& (31 ^^^ msk n q) = msk n (fun i => p i && !(q i)) := by
  apply Nat.eq_of_testBit_eq
  intro i
  rw [Nat.testBit_and, Nat.testBit_xor, msk_bit, msk_bit, msk_bit]
  by_cases e : i < n
  · have h31 : Nat.testBit 31 i = true := by
      have : ∀ j : Fin 5, Nat.testBit 31 j = true := by decide
      exact this ⟨i, by omega⟩
    simp [e, h31]
  · simp [e]
theorem nat_msk {C P : Nat} (h : P < 2 ^ C) : P = msk C (fun i => P.testBit i) := by
  apply Nat.eq_of_testBit_eq
  intro i
  rw [msk_bit]
  by_cases e : i < C
  · simp [e]
  · have : P < 2 ^ i := Nat.lt_of_lt_of_le h (Nat.pow_le_pow_right (by omega) (by omega))
    simp [e, Nat.testBit_lt_two_pow this]
theorem zand_m {n : Nat} (hn : n ≤ 5) (p q : Nat → Bool) : zand (msk n p : Nat) (msk n q : Nat) = (msk n (fun i => p i && q i) : Nat) := by
  rw [← msk_and]
  exact zand_s ⟨msk n p, msk_32 hn p⟩ ⟨msk n q, msk_32 hn q⟩
theorem zandn_m {n : Nat} (hn : n ≤ 5) (p q : Nat → Bool) : zand (msk n p : Nat) (zxor (msk n q : Nat) (-1)) = (msk n (fun i => p i && !(q i)) : Nat) := by
  rw [← msk_andn hn]
  exact zandn_s ⟨msk n p, msk_32 hn p⟩ ⟨msk n q, msk_32 hn q⟩
theorem zor_m {i : Nat} (hi : i < 5) (p : Nat → Bool) (h : p i = true) : zor (msk i p : Nat) (zshl 1 (i : Int)) = (msk (i + 1) p : Nat) := by
  have := zor_s ⟨msk i p, msk_32 (by omega) p⟩ ⟨i, hi⟩ (msk_lt i p)
  rw [msk, if_pos h]
  exact this
theorem msk_no {i : Nat} {p : Nat → Bool} (h : ¬ p i = true) : msk (i + 1) p = msk i p := by
  rw [msk, if_neg h, Nat.add_zero]
theorem zbit_m {n i : Nat} (hn : n ≤ 5) (hi : i < n) (p : Nat → Bool) : zand (zshr (msk n p : Nat) (i : Int)) 1 = bt (p i) := by
  have := zbit_s ⟨msk n p, msk_32 hn p⟩ ⟨i, by omega⟩
  simp only [msk_bit, hi, decide_true, Bool.true_and] at this
  exact this
theorem cn_5 {n : Nat} (hn : n ≤ 5) (p : Nat → Bool) : bt (decide (0 < n) && p 0) + bt (decide (1 < n) && p 1) + bt (decide (2 < n) && p 2) + bt (decide (3 < n) && p 3) + bt (decide (4 < n) && p 4) = cn n p := by
  have : n = 0 ∨ n = 1 ∨ n = 2 ∨ n = 3 ∨ n = 4 ∨ n = 5 := by omega
  rcases this with rfl | rfl | rfl | rfl | rfl | rfl <;> simp [cn, bt]
theorem bcZ_m {n : Nat} (hn : n ≤ 5) (p : Nat → Bool) : bcZ (msk n p : Nat) = cn n p := by
  have := bcZ_s ⟨msk n p, msk_32 hn p⟩
  simp only [msk_bit] at this
  rw [← cn_5 hn p]
  exact this
theorem x_bits_m {n : Nat} (hn : n ≤ 5) (p : Nat → Bool) (μ : Mem) : f_J6_bitCount_0f7a4 μ (msk n p : Nat) = some (cn n p, μ) := by
  rw [x_bits, bcZ_m hn]
theorem bt_01 (b : Bool) : 0 ≤ bt b ∧ bt b ≤ 1 := by cases b <;> simp [bt]
theorem cn_b (n : Nat) (p : Nat → Bool) : 0 ≤ cn n p ∧ cn n p ≤ n := by
  induction n with
  | zero => simp [cn]
  | succ n ih =>
    have := bt_01 (p n)
    unfold cn
    omega
theorem cn_cg {n : Nat} {p q : Nat → Bool} (h : ∀ i, i < n → p i = q i) : cn n p = cn n q := by
  induction n with
  | zero => rfl
  | succ n ih =>
    unfold cn
    rw [ih (fun i hi => h i (by omega)), h n (by omega)]
/-! ===== small division ===== -/
theorem zdiv_pos {a b : Int} (ha : 0 ≤ a) (ha2 : a < 2147483648) (hb : 0 < b) (hb2 : b < 2147483648) : zdiv a b = a / b := by
  unfold zdiv
  have e1 : (iI a).toInt = a := w32_id (by omega) ha2
  have e2 : (iI b).toInt = b := w32_id (by omega) hb2
  rw [Int32.toInt_div, e1, e2, Int.tdiv_eq_ediv_of_nonneg ha]
  have h0 : 0 ≤ a / b := Int.ediv_nonneg ha (by omega)
  have h1 : a / b ≤ a := Int.ediv_le_self b ha
  rw [Int.bmod_eq_of_le (by simp; omega) (by simp; omega)]
theorem zrem_pos {a b : Int} (ha : 0 ≤ a) (ha2 : a < 2147483648) (hb : 0 < b) (hb2 : b < 2147483648) : zrem a b = a % b := by
  have hd := zdiv_pos ha ha2 hb hb2
  unfold zdiv at hd
  unfold zrem
  have e1 : (iI a).toInt = a := w32_id (by omega) ha2
  have e2 : (iI b).toInt = b := w32_id (by omega) hb2
  have h0 : 0 ≤ a % b := Int.emod_nonneg a (by omega)
  have h1 : a % b < b := Int.emod_lt_of_pos a hb
  have h2 := Int.emod_add_mul_ediv a b
  have h3 : 0 ≤ a / b := Int.ediv_nonneg ha (by omega)
  have h4 : a / b * b = a - a % b := by rw [Int.mul_comm]; omega
  have h5 : (iI a / iI b * iI b).toInt = a - a % b := by
    rw [Int32.toInt_mul, hd, e2, h4]
    have : a - a % b ≤ a := by omega
    have : 0 ≤ a - a % b := by rw [← h4]; exact Int.mul_nonneg h3 (by omega)
    rw [Int.bmod_eq_of_le (by simp; omega) (by simp; omega)]
  rw [Int32.toInt_sub, h5, e1, show a - (a - a % b) = a % b by omega]
  rw [Int.bmod_eq_of_le (by simp; omega) (by simp; omega)]
