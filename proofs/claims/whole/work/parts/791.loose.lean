/-! loose -/
def wt (st i : Nat) : Nat := if st.testBit i then 2 else 1
def pop5 (s : Nat) : Nat := (s.testBit 0).toNat + (s.testBit 1).toNat + (s.testBit 2).toNat + (s.testBit 3).toNat + (s.testBit 4).toNat
def jv (st : Nat) : Nat → Nat → Nat → Nat → Option Nat
  | 0, _, _, acc => some acc
  | m + 1, left, code, acc => if left.testBit (code / 5 ^ m % 5) then jv st m (left &&& (31 ^^^ 2 ^ (code / 5 ^ m % 5))) code (acc + wt st (code / 5 ^ m % 5) * pop5 (left &&& (31 ^^^ 2 ^ (code / 5 ^ m % 5)))) else none
def ofN (S : Nat) : Nat → Nat → Nat
  | 0, p => p
  | i + 1, p => ofN S i p + (S.testBit i).toNat
def ofF (S : Nat) : Nat → Nat → (Nat → Nat) → Nat → Nat
  | 0, _, f => f
  | i + 1, p, f => if S.testBit i then (fun k => if k = ofN S i p then i else ofF S i p f k) else ofF S i p f
def lsW (P s : Nat) : Nat := P &&& (31 ^^^ (P &&& s))
def lsN (P s : Nat) : Nat := ofN (P &&& s) 5 (ofN (lsW P s) 5 0)
def lsO (P s : Nat) : Nat → Nat := ofF (P &&& s) 5 (ofN (lsW P s) 5 0) (ofF (lsW P s) 5 0 (fun _ => 0))
def lsC (o : Nat → Nat) : Nat → Nat
  | 0 => 0
  | k + 1 => lsC o k * 5 + o k
def lsJ (st n : Nat) (o : Nat → Nat) : Nat → Nat
  | 0 => 0
  | k + 1 => lsJ st n o k + wt st (o k) * (n - 1 - k)
def chk (st gc gj : Nat) : Nat → Nat → Nat → Nat → Bool
  | 0, _, acc, pre => decide (gj ≤ acc) && (decide (gc ≤ pre) || decide (gj < acc))
  | m + 1, left, acc, pre => (List.range 5).all (fun i => !(left.testBit i) || chk st gc gj m (left &&& (31 ^^^ 2 ^ i)) (acc + wt st i * pop5 (left &&& (31 ^^^ 2 ^ i))) (pre * 5 + i))
def chkA (P s : Nat) : Bool :=
  decide (lsN P s = pop5 P) && chk (P &&& s) (lsC (lsO P s) (lsN P s)) (lsJ (P &&& s) (lsN P s) (lsO P s) (lsN P s)) (lsN P s) P 0 0 && decide (jv (P &&& s) (lsN P s) P (lsC (lsO P s) (lsN P s)) 0 = some (lsJ (P &&& s) (lsN P s) (lsO P s) (lsN P s))) &&
  (List.range 5).all (fun k => !(decide (k < lsN P s)) || (decide (lsC (lsO P s) (lsN P s) / 5 ^ (lsN P s - 1 - k) % 5 = lsO P s k) && P.testBit (lsO P s k))) &&
  (List.range 5).all (fun i => (!((lsW P s).testBit i) || decide (ofN (lsW P s) i 0 < 5)) && (!((P &&& s).testBit i) || decide (ofN (P &&& s) i (ofN (lsW P s) 5 0) < 5))) && decide (lsC (lsO P s) (lsN P s) < 5 ^ lsN P s) && decide (lsN P s ≤ 5)
theorem chk_all : ∀ P s : Fin 32, chkA (P : Nat) (s : Nat) = true := by decide +kernel
theorem jv_b {st : Nat} : ∀ (m left code acc v : Nat), jv st m left code acc = some v → v ≤ acc + 10 * m := by
  intro m
  induction m with
  | zero =>
    intro left code acc v h
    have := Option.some.inj h
    omega
  | succ m ih =>
    intro left code acc v h
    rw [jv] at h
    by_cases c : left.testBit (code / 5 ^ m % 5) = true
    · rw [if_pos c] at h
      have h1 := ih _ _ _ _ h
      have hw : wt st (code / 5 ^ m % 5) ≤ 2 := by unfold wt; split <;> omega
      have hb : ∀ b : Bool, b.toNat ≤ 1 := fun b => by cases b <;> simp
      have hp : ∀ x : Nat, pop5 x ≤ 5 := fun x => by
        have h0 := hb (x.testBit 0); have h1 := hb (x.testBit 1); have h2 := hb (x.testBit 2); have h3 := hb (x.testBit 3); have h4 := hb (x.testBit 4)
        unfold pop5
        omega
      have := Nat.mul_le_mul hw (hp (left &&& (31 ^^^ 2 ^ (code / 5 ^ m % 5))))
      omega
    · rw [if_neg c] at h
      simp at h
theorem chk_ok {st gc gj : Nat} : ∀ (m left acc pre r : Nat), chk st gc gj m left acc pre = true → r < 5 ^ m → ∀ v : Nat, jv st m left (pre * 5 ^ m + r) acc = some v → gj ≤ v ∧ (pre * 5 ^ m + r < gc → gj < v) := by
  intro m
  induction m with
  | zero =>
    intro left acc pre r h hrr v hv
    rw [Nat.pow_zero] at hrr
    have := Option.some.inj hv
    subst this
    rw [chk] at h
    simp only [Bool.and_eq_true, Bool.or_eq_true, decide_eq_true_eq] at h
    rw [Nat.pow_zero, Nat.mul_one]
    omega
  | succ m ih =>
    intro left acc pre r h hrr v hv
    have h5 : 0 < 5 ^ m := Nat.pow_pos (by omega)
    have hd : (pre * 5 ^ (m + 1) + r) / 5 ^ m % 5 = r / 5 ^ m := by
      rw [show pre * 5 ^ (m + 1) + r = r + 5 ^ m * (pre * 5) by rw [Nat.pow_succ, Nat.mul_comm (5 ^ m) (pre * 5), Nat.mul_assoc, Nat.mul_comm 5 (5 ^ m)]; omega, Nat.add_mul_div_left _ _ h5, Nat.add_mul_mod_self_right]
      exact Nat.mod_eq_of_lt (Nat.div_lt_of_lt_mul (by rw [Nat.pow_succ] at hrr; exact hrr))
    have hi : r / 5 ^ m < 5 := Nat.div_lt_of_lt_mul (by rw [Nat.pow_succ] at hrr; exact hrr)
    rw [jv, hd] at hv
    rw [chk, List.all_eq_true] at h
    have hc := h (r / 5 ^ m) (List.mem_range.mpr hi)
    by_cases c : left.testBit (r / 5 ^ m) = true
    · rw [if_pos c] at hv
      rw [c, Bool.not_true, Bool.false_or] at hc
      have he : pre * 5 ^ (m + 1) + r = (pre * 5 + r / 5 ^ m) * 5 ^ m + r % 5 ^ m := by
        have h1 := Nat.div_add_mod' r (5 ^ m)
        rw [Nat.add_mul, Nat.pow_succ, Nat.mul_assoc, Nat.mul_comm (5 ^ m) 5]
        omega
      rw [he] at hv ⊢
      exact ih _ _ _ _ hc (Nat.mod_lt _ h5) v hv
    · rw [if_neg c] at hv
      simp at hv
theorem zdiv_n {a b : Nat} (ha : a < 2147483648) (h0 : 0 < b) (hb : b < 2147483648) : zdiv (a : Int) (b : Int) = ((a / b : Nat) : Int) := zdiv_pos (by omega) (by omega) (by omega) (by omega)
theorem zrem_n {a b : Nat} (ha : a < 2147483648) (h0 : 0 < b) (hb : b < 2147483648) : zrem (a : Int) (b : Int) = ((a % b : Nat) : Int) := zrem_pos (by omega) (by omega) (by omega) (by omega)
theorem pop_cn : ∀ x : Fin 32, cn 5 (fun i => (x : Nat).testBit i) = ((pop5 (x : Nat) : Nat) : Int) := by decide +kernel
theorem p5 {n : Nat} (h : n ≤ 5) : 5 ^ n ≤ 3125 := Nat.pow_le_pow_right (show 0 < 5 by omega) h
theorem m_pw_loop {μ : Mem} {n : Nat} (hn : n ≤ 5) : ∀ (d u k : Nat), 1 ≤ k → k + d = n → d < u → ∀ Kc, f_X10_jumpsBy_L15 Kc (n : Int) u ((5 ^ (k - 1) : Nat) : Int) (k : Int) μ = Kc ((5 ^ (n - 1) : Nat) : Int) μ := by
  intro d
  induction d with
  | zero =>
    intro u k hk hi hu Kc
    obtain ⟨u, rfl⟩ : ∃ v, u = v + 1 := ⟨u - 1, by omega⟩
    rw [f_X10_jumpsBy_L15, w32_nat (i := k) (by omega), w32_nat (i := n) (by omega), if_neg (by omega), show k = n by omega]
  | succ d ih =>
    intro u k hk hi hu Kc
    obtain ⟨u, rfl⟩ : ∃ v, u = v + 1 := ⟨u - 1, by omega⟩
    have k1 := ih u (k + 1) (by omega) (by omega) (by omega) Kc
    rw [show ((k + 1 : Nat) : Int) = (k : Int) + 1 by omega, show k + 1 - 1 = (k - 1) + 1 by omega, Nat.pow_succ, Int.natCast_mul] at k1
    rw [f_X10_jumpsBy_L15, w32_nat (i := k) (by omega), w32_nat (i := n) (by omega), if_pos (by omega), vl]
    exact k1
theorem m_pn_loop {μ : Mem} {n : Nat} (hn : n ≤ 5) : ∀ (d u k : Nat), k + d = n → d < u → ∀ Kc, f_X10_loose_L28 Kc (n : Int) u ((5 ^ k : Nat) : Int) (k : Int) μ = Kc ((5 ^ n : Nat) : Int) μ := by
  intro d
  induction d with
  | zero =>
    intro u k hi hu Kc
    obtain ⟨u, rfl⟩ : ∃ v, u = v + 1 := ⟨u - 1, by omega⟩
    rw [f_X10_loose_L28, w32_nat (i := k) (by omega), w32_nat (i := n) (by omega), if_neg (by omega), show k = n by omega]
  | succ d ih =>
    intro u k hi hu Kc
    obtain ⟨u, rfl⟩ : ∃ v, u = v + 1 := ⟨u - 1, by omega⟩
    have k1 := ih u (k + 1) (by omega) (by omega) Kc
    rw [show ((k + 1 : Nat) : Int) = (k : Int) + 1 by omega, Nat.pow_succ, Int.natCast_mul] at k1
    rw [f_X10_loose_L28, w32_nat (i := k) (by omega), w32_nat (i := n) (by omega), if_pos (by omega), vl]
    exact k1
def jz (o : Option Nat) : Int := match o with
  | none => -1
  | some v => (v : Int)
theorem m_jmp_loop {μ : Mem} {C P n code : Nat} {K : Nat → Int} (hY : YM μ C K) (hP : P < 2 ^ C) (hn : n ≤ 5) (hc : code < 3126) : ∀ (m u k left acc : Nat) (pw : Int), k + m = n → m < u → left < 32 → (∀ i : Nat, left.testBit i = true → P.testBit i = true) → (0 < m → pw = ((5 ^ (m - 1) : Nat) : Int)) →
    f_X10_jumpsBy_L36 (code : Int) (n : Int) u (left : Int) (acc : Int) pw (k : Int) μ = some (jz (jv (P &&& msk C (fun i => isK 2 (K i))) m left code acc), μ) := by
  have hC := hY.1
  have h32 := pow5 hC
  intro m
  induction m with
  | zero =>
    intro u k left acc pw hi hu hl hs hp
    obtain ⟨u, rfl⟩ : ∃ v, u = v + 1 := ⟨u - 1, by omega⟩
    rw [f_X10_jumpsBy_L36, w32_nat (i := k) (by omega), w32_nat (i := n) (by omega), if_neg (by omega)]
    rfl
  | succ m ih =>
    intro u k left acc pw hi hu hl hs hp
    obtain ⟨u, rfl⟩ : ∃ v, u = v + 1 := ⟨u - 1, by omega⟩
    have h5 : 0 < 5 ^ m := Nat.pow_pos (by omega)
    have h5b := p5 (show m ≤ 5 by omega)
    have hpw := hp (by omega)
    rw [show m + 1 - 1 = m by omega] at hpw
    subst hpw
    have hdl : code / 5 ^ m ≤ code := Nat.div_le_self _ _
    have z1 := zdiv_n (a := code) (b := 5 ^ m) (by omega) h5 (by omega)
    have z2 := zrem_n (a := code / 5 ^ m) (b := 5) (by omega) (by omega) (by omega)
    have z3 := zdiv_n (a := 5 ^ m) (b := 5) (by omega) (by omega) (by omega)
    rw [show ((5 : Nat) : Int) = 5 from rfl] at z2 z3
    rw [jv]
    have hi5 : code / 5 ^ m % 5 < 5 := Nat.mod_lt _ (by omega)
    generalize code / 5 ^ m % 5 = i at *
    have hm := m_has (μ := μ) (n := 5) (i := i) (by omega) hi5 (fun b => left.testBit b)
    rw [← pm (C := 5) (P := left) (by omega)] at hm
    rw [f_X10_jumpsBy_L36, w32_nat (i := k) (by omega), w32_nat (i := n) (by omega), if_pos (by omega), ckz_ok (by omega) (by omega) (by omega), ckz_ok (by omega) (by omega) (by omega), z1, z2, vl, ckz_ok (by omega) (by omega) (by omega), z3, vl, hm, bd_some, bt_w]
    by_cases c : left.testBit i = true
    · have hiC : i < C := by
        apply Classical.byContradiction
        intro hh
        have := hs i c
        rw [Nat.testBit_lt_two_pow (Nat.lt_of_lt_of_le hP (Nat.pow_le_pow_right (by omega) (by omega)))] at this
        simp at this
      have hz : zshl 1 (i : Int) = ((2 ^ i : Nat) : Int) := zshl_s ⟨i, by omega⟩
      have h2i : 2 ^ i < 32 := by have := Nat.pow_le_pow_right (show 0 < 2 by omega) (show i ≤ 4 by omega); omega
      have hl2 : left &&& (31 ^^^ 2 ^ i) < 32 := Nat.lt_of_le_of_lt Nat.and_le_left hl
      have hb := m_bits (μ := μ) (C := 5) (by omega) (fun b => (left &&& (31 ^^^ 2 ^ i)).testBit b)
      rw [← pm (C := 5) (P := left &&& (31 ^^^ 2 ^ i)) (by omega), pop_cn ⟨left &&& (31 ^^^ 2 ^ i), hl2⟩] at hb
      have hw : 1 + bt (isK 2 (K i)) = ((wt (P &&& msk C (fun i => isK 2 (K i))) i : Nat) : Int) := by
        unfold wt
        rw [Nat.testBit_and, hs i c, msk_bit]
        simp only [hiC, decide_true, Bool.true_and]
        cases isK 2 (K i) <;> simp [bt]
      have k1 := ih u (k + 1) (left &&& (31 ^^^ 2 ^ i)) (acc + wt (P &&& msk C (fun i => isK 2 (K i))) i * pop5 (left &&& (31 ^^^ 2 ^ i))) ((5 ^ m / 5 : Nat) : Int) (by omega) (by omega) hl2 (fun j hj => by
        rw [Nat.testBit_and, Bool.and_eq_true] at hj
        exact hs j hj.1) (fun hm0 => by
        obtain ⟨w, rfl⟩ : ∃ w, m = w + 1 := ⟨m - 1, by omega⟩
        rw [Nat.pow_succ, Nat.mul_div_cancel _ (by omega), show w + 1 - 1 = w by omega])
      rw [show ((k + 1 : Nat) : Int) = (k : Int) + 1 by omega, Int.natCast_add, Int.natCast_mul] at k1
      rw [if_pos c, if_pos c, hz, (sub_32 (i := left) (M := 2 ^ i) hl h2i).1, vl, m_pullBy hY (by omega), bd_some, hb, bd_some, hw, vl]
      exact k1
    · rw [if_neg c, if_neg c]
      rfl
def Hl (st n P : Nat) (e : Nat) : Int := match jv st n P e 0 with
  | none => -1000000
  | some v => -(v : Int)
theorem Hl_b {st n P : Nat} (hn : n ≤ 5) (e : Nat) : -1000000 ≤ Hl st n P e ∧ Hl st n P e ≤ 0 := by
  unfold Hl
  cases h : jv st n P e 0 with
  | none => simp
  | some v => have := jv_b _ _ _ _ _ h; simp only; omega
theorem m_jumps {μ : Mem} {C P n code : Nat} {K : Nat → Int} (hY : YM μ C K) (hP : P < 2 ^ C) (hn : n ≤ 5) (hc : code < 3126) : f_X10_jumpsBy μ (P : Int) (code : Int) (n : Int) = some (jz (jv (P &&& msk C (fun i => isK 2 (K i))) n P code 0), μ) := by
  have h32 := pow5 hY.1
  have hl : ∀ Kc : Int → Mem → Option (Int × Mem), ∃ pw : Int, (0 < n → pw = ((5 ^ (n - 1) : Nat) : Int)) ∧ f_X10_jumpsBy_L15 Kc (n : Int) 100000 1 1 μ = Kc pw μ := fun Kc => by
    by_cases c : n = 0
    · subst c
      refine ⟨1, fun h => by omega, ?_⟩
      rw [show (100000 : Nat) = 99999 + 1 from rfl, f_X10_jumpsBy_L15, w32_id (a := 1) (by omega) (by omega), w32_nat (by omega), if_neg (by omega)]
    · refine ⟨_, fun _ => rfl, ?_⟩
      have := m_pw_loop (μ := μ) hn (n - 1) 100000 1 (by omega) (by omega) (by omega) Kc
      rw [show (1 : Nat) - 1 = 0 from rfl, Nat.pow_zero, show ((1 : Nat) : Int) = 1 from rfl] at this
      exact this
  obtain ⟨pw, h1, h2⟩ := hl (fun x3 m4 => f_X10_jumpsBy_L36 (code : Int) (n : Int) 100000 (P : Int) 0 x3 0 m4)
  have h3 := m_jmp_loop (μ := μ) (P := P) (n := n) (code := code) hY hP hn hc n 100000 0 P 0 pw (by omega) (by omega) (by omega) (fun _ h => h) h1
  rw [Int.natCast_zero] at h3
  rw [f_X10_jumpsBy, h2, h3]
theorem m_loo_loop {Kc : Int → Int → Mem → Option (Int × Mem)} {μ : Mem} {C P n : Nat} {K : Nat → Int} (hY : YM μ C K) (hP : P < 2 ^ C) (hn : n ≤ 5) : ∀ (d u i : Nat), i + d = 5 ^ n → d < u →
    f_X10_loose_L57 Kc (P : Int) (n : Int) ((5 ^ n : Nat) : Int) u (mxB (-1000000) (Hl (P &&& msk C (fun i => isK 2 (K i))) n P) i : Nat) (-(mxM (-1000000) (Hl (P &&& msk C (fun i => isK 2 (K i))) n P) i)) (i : Int) μ = Kc (mxB (-1000000) (Hl (P &&& msk C (fun i => isK 2 (K i))) n P) (5 ^ n) : Nat) (-(mxM (-1000000) (Hl (P &&& msk C (fun i => isK 2 (K i))) n P) (5 ^ n))) μ := by
  have h5 := p5 hn
  intro d
  induction d with
  | zero =>
    intro u i hi hu
    obtain ⟨u, rfl⟩ : ∃ v, u = v + 1 := ⟨u - 1, by omega⟩
    rw [f_X10_loose_L57, w32_nat (i := i) (by omega), w32_nat (i := 5 ^ n) (by omega), if_neg (by omega), show i = 5 ^ n by omega]
  | succ d ih =>
    intro u i hi hu
    obtain ⟨u, rfl⟩ : ∃ v, u = v + 1 := ⟨u - 1, by omega⟩
    have k1 := ih u (i + 1) (by omega) (by omega)
    rw [show ((i + 1 : Nat) : Int) = (i : Int) + 1 by omega, mxM, mxB] at k1
    have hM := mxM_b (z := -1000000) (H := Hl (P &&& msk C (fun i => isK 2 (K i))) n P) (lo := -1000000) (hi := 0) (by omega) (fun e => Hl_b hn e) i
    rw [f_X10_loose_L57, w32_nat (i := i) (by omega), w32_nat (i := 5 ^ n) (by omega), if_pos (by omega), m_jumps hY hP hn (by omega), bd_some, vl, vl, w32_id (a := -(mxM (-1000000) (Hl (P &&& msk C (fun i => isK 2 (K i))) n P) i)) (by omega) (by omega)]
    cases hj : jv (P &&& msk C (fun i => isK 2 (K i))) n P i 0 with
    | none =>
      have e : Hl (P &&& msk C (fun i => isK 2 (K i))) n P i = -1000000 := by unfold Hl; rw [hj]
      rw [e, if_neg (by omega), if_neg (by omega)] at k1
      rw [show jz none = -1 from rfl, w32_id (a := -1) (by omega) (by omega), if_pos (by omega), if_pos (by omega)]
      exact k1
    | some v =>
      have hv := jv_b _ _ _ _ _ hj
      have e : Hl (P &&& msk C (fun i => isK 2 (K i))) n P i = -(v : Int) := by unfold Hl; rw [hj]
      rw [e] at k1
      rw [show jz (some v) = (v : Int) from rfl, w32_nat (i := v) (by omega), if_neg (show ¬ (v : Int) < 0 by omega), if_neg (show ¬ (v : Int) < 0 by omega)]
      by_cases c : mxM (-1000000) (Hl (P &&& msk C (fun i => isK 2 (K i))) n P) i < -(v : Int)
      · rw [if_pos c, if_pos c, Int.neg_neg] at k1
        have hv2 : (v : Int) < -(mxM (-1000000) (Hl (P &&& msk C (fun i => isK 2 (K i))) n P) i) := by omega
        rw [if_pos hv2, if_pos hv2]
        exact k1
      · rw [if_neg c, if_neg c] at k1
        have hv2 : ¬ (v : Int) < -(mxM (-1000000) (Hl (P &&& msk C (fun i => isK 2 (K i))) n P) i) := by omega
        rw [if_neg hv2, if_neg hv2]
        exact k1
theorem m_lr_loop {r : Nat} {x : Int} (hr : r < 6) : ∀ (m u part : Nat) (μ : Mem), m < u → m ≤ 5 → part < 3126 →
    ∃ μ' : Mem, f_X10_loose_L139 (r : Int) x u (part : Int) ((m : Int) - 1) μ = some (x, μ') ∧ (∀ k : Nat, k ≠ 77 → μ' k = μ k) ∧ (∀ q : Nat, ¬ (40 * r ≤ q ∧ q < 40 * r + m) → μ' 77 q = μ 77 q) ∧ ∀ k : Nat, k < m → μ' 77 (40 * r + k) = ((part / 5 ^ (m - 1 - k) % 5 : Nat) : Int) := by
  intro m
  induction m with
  | zero =>
    intro u part μ hu hm hp
    obtain ⟨u, rfl⟩ : ∃ v, u = v + 1 := ⟨u - 1, by omega⟩
    refine ⟨μ, ?_, fun _ _ => rfl, fun _ _ => rfl, fun k hk => by omega⟩
    rw [f_X10_loose_L139, Int.natCast_zero, w32_id (a := 0 - 1) (by omega) (by omega), if_pos (by omega)]
  | succ m ih =>
    intro u part μ hu hm hp
    obtain ⟨u, rfl⟩ : ∃ v, u = v + 1 := ⟨u - 1, by omega⟩
    have hd5 : part / 5 ≤ part := Nat.div_le_self _ _
    obtain ⟨μ3, k1, k2, k3, k4⟩ := ih u (part / 5) (wr μ 77 (40 * r + m) ((part % 5 : Nat) : Int)) (by omega) (by omega) (by omega)
    have z2 := zrem_n (a := part) (b := 5) (by omega) (by omega) (by omega)
    have z3 := zdiv_n (a := part) (b := 5) (by omega) (by omega) (by omega)
    rw [show ((5 : Nat) : Int) = 5 from rfl] at z2 z3
    refine ⟨μ3, ?_, fun k hk => by rw [k2 k hk, wr_cell hk], fun q hq => by rw [k3 q (by omega), wr_ne (by omega)], fun k hk => ?_⟩
    · rw [f_X10_loose_L139, show ((m + 1 : Nat) : Int) - 1 = (m : Int) by omega, w32_nat (i := m) (by omega), if_neg (by omega), ckz_ok (by omega) (by omega) (by omega), ck_ok (by omega) (by omega) (by omega), vm, ckz_ok (by omega) (by omega) (by omega), z2, z3, vl, w32_id (a := 40 * (r : Int) + (m : Int)) (by omega) (by omega), show (40 * (r : Int) + (m : Int)).toNat = 40 * r + m by omega, show (m : Int) + -1 = (m : Int) - 1 by omega]
      exact k1
    · by_cases g : k = m
      · subst g
        rw [k3 _ (by omega), wr_eq, show k + 1 - 1 - k = 0 by omega, Nat.pow_zero, Nat.div_one]
      · rw [k4 k (by omega), Nat.div_div_eq_div_mul, Nat.mul_comm, ← Nat.pow_succ, show (m - 1 - k).succ = m + 1 - 1 - k by omega]
/-! the class's order -/
theorem ofN_hi {S C : Nat} (h : S < 2 ^ C) (p : Nat) (f : Nat → Nat) : ∀ t : Nat, ofN S (C + t) p = ofN S C p ∧ ofF S (C + t) p f = ofF S C p f := by
  intro t
  induction t with
  | zero => exact ⟨rfl, rfl⟩
  | succ t ih =>
    have hb : S.testBit (C + t) = false := Nat.testBit_lt_two_pow (Nat.lt_of_lt_of_le h (Nat.pow_le_pow_right (by omega) (by omega)))
    rw [← Nat.add_assoc, ofN, ofF, hb, ih.1, if_neg (by simp), ih.2]
    exact ⟨rfl, rfl⟩
theorem ofN_5 {S C : Nat} (h : S < 2 ^ C) (hC : C ≤ 5) (p : Nat) (f : Nat → Nat) : ofN S 5 p = ofN S C p ∧ ofF S 5 p f = ofF S C p f := by
  have := ofN_hi h p f (5 - C)
  rw [show C + (5 - C) = 5 by omega] at this
  exact this
theorem x_ord_loop {μ : Mem} {C S p : Nat} {K : Nat → Int} {f : Nat → Nat} (hY : YX μ C K) (hS : S < 32) (h5 : ∀ i : Nat, i < 5 → S.testBit i = true → ofN S i p < 5) (hp5 : ∀ i : Nat, ofN S i p < 1000) :
    ∀ (d u i : Nat) (μ' : Mem), i + d = C → d < u → Fr [36] μ μ' → (∀ k : Nat, k < ofN S i p → μ' 36 k = (ofF S i p f k : Nat)) →
    ∃ μ'' : Mem, f_X9_orderFrom_L5 (S : Int) u (ofN S i p : Nat) (i : Int) μ' = some (((ofN S C p : Nat) : Int), μ'') ∧ Fr [36] μ μ'' ∧ ∀ k : Nat, k < ofN S C p → μ'' 36 k = (ofF S C p f k : Nat) := by
  have hC := hY.1
  intro d
  induction d with
  | zero =>
    intro u i μ' hi hu hf hd
    obtain ⟨u, rfl⟩ : ∃ v, u = v + 1 := ⟨u - 1, by omega⟩
    have e : i = C := by omega
    refine ⟨μ', ?_, hf, fun k hk => by rw [← e] at hk ⊢; exact hd k hk⟩
    rw [f_X9_orderFrom_L5, (hY.fr hf (fun k hk => by simp at hk; omega)).2.1, w32_nat (by omega), w32_nat (by omega), if_neg (by omega), e]
  | succ d ih =>
    intro u i μ' hi hu hf hd
    obtain ⟨u, rfl⟩ : ∃ v, u = v + 1 := ⟨u - 1, by omega⟩
    have hz := zbit_s ⟨S, hS⟩ ⟨i, by omega⟩
    dsimp only at hz
    have hb := hp5 i
    by_cases c : S.testBit i = true
    · have hn5 := h5 i (by omega) c
      obtain ⟨μ3, k1, k2, k3⟩ := ih u (i + 1) (wr μ' 36 (ofN S i p) (i : Int)) (by omega) (by omega) (hf.wr (by simp)) (fun k hk => by
        rw [ofF, if_pos c]
        by_cases g : k = ofN S i p
        · rw [if_pos g, g, wr_eq]
        · rw [if_neg g, wr_ne (by omega)]
          rw [ofN, c] at hk
          exact hd k (by simp at hk; omega))
      rw [show ((i + 1 : Nat) : Int) = (i : Int) + 1 by omega, ofN, c, show Bool.toNat true = 1 from rfl] at k1
      refine ⟨μ3, ?_, k2, k3⟩
      rw [f_X9_orderFrom_L5, (hY.fr hf (fun k hk => by simp at hk; omega)).2.1, w32_nat (i := i) (by omega), w32_nat (i := C) (by omega), if_pos (by omega), jn, hz, if_pos c, if_neg w1ne, w32_nat (i := ofN S i p) (by omega), w32_id (a := 5) (by omega) (by omega), if_pos (by omega), ck_ok (by omega) (by omega) (by omega), vm, Int.toNat_natCast]
      exact k1
    · have c' : S.testBit i = false := by simpa using c
      obtain ⟨μ3, k1, k2, k3⟩ := ih u (i + 1) μ' (by omega) (by omega) hf (fun k hk => by
        rw [ofF, if_neg c]
        rw [ofN, c'] at hk
        exact hd k (by simp at hk; omega))
      rw [show ((i + 1 : Nat) : Int) = (i : Int) + 1 by omega, ofN, c', show Bool.toNat false = 0 from rfl, Nat.add_zero] at k1
      refine ⟨μ3, ?_, k2, k3⟩
      rw [f_X9_orderFrom_L5, (hY.fr hf (fun k hk => by simp at hk; omega)).2.1, w32_nat (i := i) (by omega), w32_nat (i := C) (by omega), if_pos (by omega), jn, hz, if_neg c, if_pos w0]
      exact k1
theorem ofN_le {S p : Nat} (i : Nat) : p ≤ ofN S i p ∧ ofN S i p ≤ p + i := by
  induction i with
  | zero => rw [ofN]; omega
  | succ i ih => rw [ofN]; have : (S.testBit i).toNat ≤ 1 := by cases S.testBit i <;> simp
                 omega
theorem x_ord {μ : Mem} {C S p : Nat} {K : Nat → Int} {f : Nat → Nat} (hY : YX μ C K) (hS : S < 2 ^ C) (hp : p ≤ 5) (h5 : ∀ i : Nat, i < 5 → S.testBit i = true → ofN S i p < 5) (hd : ∀ k : Nat, k < p → μ 36 k = (f k : Nat)) :
    ∃ μ' : Mem, f_X9_orderFrom μ (p : Int) (S : Int) = some (((ofN S 5 p : Nat) : Int), μ') ∧ Fr [36] μ μ' ∧ ∀ k : Nat, k < ofN S 5 p → μ' 36 k = (ofF S 5 p f k : Nat) := by
  have hC := hY.1
  have h32 := pow5 hC
  by_cases hbig : ∀ i : Nat, ofN S i p < 1000
  · obtain ⟨μ2, g1, g2, g3⟩ := x_ord_loop (f := f) hY (by omega) h5 hbig C 100000 0 μ (by omega) (by omega) Fr.rf hd
    rw [Int.natCast_zero, ofN] at g1
    obtain ⟨e1, e2⟩ := ofN_5 hS hC p f
    rw [e1, e2]
    exact ⟨μ2, by rw [f_X9_orderFrom]; exact g1, g2, g3⟩
  · exfalso
    apply hbig
    intro i
    by_cases c : i ≤ 5
    · have := (ofN_le (S := S) (p := p) i).2; omega
    · have h1 := (ofN_hi (S := S) (C := 5) (by omega) p f (i - 5)).1
      rw [show 5 + (i - 5) = i by omega] at h1
      have := (ofN_le (S := S) (p := p) 5).2
      omega
theorem x_sum_loop {μ : Mem} {C P n : Nat} {K : Nat → Int} {o : Nat → Nat} (hY : YX μ C K) (hP : P < 2 ^ C) (hn : n ≤ 5) (ho : ∀ k : Nat, k < n → P.testBit (o k) = true) (hd : ∀ k : Nat, k < n → μ 36 k = (o k : Nat)) :
    ∀ (d u i : Nat), i + d = n → d < u → ∀ Kc, f_X9_loose_L59 Kc (n : Int) u (lsJ (P &&& msk C (fun i => isK 2 (K i))) n o i : Nat) (i : Int) μ = Kc (lsJ (P &&& msk C (fun i => isK 2 (K i))) n o n : Nat) μ := by
  have hC := hY.1
  intro d
  induction d with
  | zero =>
    intro u i hi hu Kc
    obtain ⟨u, rfl⟩ : ∃ v, u = v + 1 := ⟨u - 1, by omega⟩
    rw [f_X9_loose_L59, w32_nat (i := i) (by omega), w32_nat (i := n) (by omega), if_neg (by omega), show i = n by omega]
  | succ d ih =>
    intro u i hi hu Kc
    obtain ⟨u, rfl⟩ : ∃ v, u = v + 1 := ⟨u - 1, by omega⟩
    have k1 := ih u (i + 1) (by omega) (by omega) Kc
    have hb := ho i (by omega)
    have hoC : o i < C := by
      apply Classical.byContradiction
      intro hh
      rw [Nat.testBit_lt_two_pow (Nat.lt_of_lt_of_le hP (Nat.pow_le_pow_right (by omega) (by omega)))] at hb
      simp at hb
    have hz : zshl 1 (o i : Int) = ((2 ^ o i : Nat) : Int) := zshl_s ⟨o i, by omega⟩
    have hpu : pul C K (fun b => decide (b = o i)) = ((wt (P &&& msk C (fun i => isK 2 (K i))) (o i) : Nat) : Int) := by
      have a1 := cn_one hoC (fun _ => true)
      have a2 := cn_one hoC (fun b => isK 2 (K b))
      simp only [Bool.true_and] at a1
      unfold pul wt
      rw [a1, show (fun i_1 => decide (i_1 = o i) && isK 2 (K i_1)) = (fun b => isK 2 (K b) && decide (b = o i)) from funext (fun b => Bool.and_comm _ _), a2, Nat.testBit_and, hb, msk_bit]
      simp only [hoC, decide_true, Bool.true_and]
      cases isK 2 (K (o i)) <;> simp [bt]
    rw [show ((i + 1 : Nat) : Int) = (i : Int) + 1 by omega, lsJ, Int.natCast_add, Int.natCast_mul, show ((n - 1 - i : Nat) : Int) = ((n : Int) - 1) - (i : Int) by omega] at k1
    rw [f_X9_loose_L59, w32_nat (i := i) (by omega), w32_nat (i := n) (by omega), if_pos (by omega), ck_ok (by omega) (by omega) (by omega), Int.toNat_natCast, hd i (by omega), hz, bit_m hoC, x_pull hY, hpu, bd_some, vl]
    exact k1
theorem p_loose {n : Nat} {p q : Int} (hp : inR p) (hq : inR q) : Pair n (fun μ => f_X9_loose μ p q) (fun μ => f_X10_loose μ p q) := by
  intro μ h
  obtain ⟨C, V, hC0, hV0, hYX, hYM, hVX, hVM⟩ := h.yr
  have hC := hYX.1
  have h32 := pow5 hC
  have hx6 := hYX.2.1
  by_cases hs : 0 ≤ p ∧ p < ((2 ^ C : Nat) : Int)
  · by_cases hr : 0 ≤ q ∧ q < ((6 : Nat) : Int)
    · obtain ⟨P, hP, rfl⟩ := nat_of hs
      obtain ⟨r, hr6, rfl⟩ := nat_of hr
      obtain ⟨s, hss⟩ : ∃ s : Nat, s = msk C (fun i => isK 2 (μ 68 i)) := ⟨_, rfl⟩
      have hs32 : s < 32 := by rw [hss]; exact msk_32 hC _
      have hca := chk_all ⟨P, by omega⟩ ⟨s, hs32⟩
      dsimp only at hca
      unfold chkA at hca
      simp only [Bool.and_eq_true, decide_eq_true_eq, List.all_eq_true, List.mem_range, Bool.or_eq_true, Bool.not_eq_true', decide_eq_false_iff_not] at hca
      obtain ⟨⟨⟨⟨⟨⟨c1, c2⟩, c3⟩, c4⟩, c5⟩, c6⟩, c7⟩ := hca
      have hst : (P &&& s) < 2 ^ C := Nat.lt_of_le_of_lt Nat.and_le_left hP
      have hwk : lsW P s < 2 ^ C := Nat.lt_of_le_of_lt Nat.and_le_left hP
      have hzx : zand (P : Int) (μ 8 2) = ((P &&& s : Nat) : Int) := by
        rw [hYX.2.2 2 (by omega), ← hss]
        exact zand_s ⟨P, by omega⟩ ⟨s, hs32⟩
      have hzw : zand (P : Int) (zxor ((P &&& s : Nat) : Int) (-1)) = (lsW P s : Nat) := (sub_32 (i := P) (M := P &&& s) (by omega) (by omega)).1
      obtain ⟨μa, a1, a2, a3⟩ := x_ord (p := 0) (f := fun _ => 0) hYX hwk (by omega) (fun i hi hb => by
        rcases (c5 i hi).1 with h' | h'
        · rw [h'] at hb; simp at hb
        · exact h') (fun k hk => by omega)
      have hYa := hYX.fr a2 (fun k hk => by simp at hk; omega)
      have hn0 : ofN (lsW P s) 5 0 ≤ 5 := by have := (ofN_le (S := lsW P s) (p := 0) 5).2; omega
      obtain ⟨μb, b1, b2, b3⟩ := x_ord (p := ofN (lsW P s) 5 0) (f := ofF (lsW P s) 5 0 (fun _ => 0)) hYa hst hn0 (fun i hi hb => by
        rcases (c5 i hi).2 with h' | h'
        · rw [h'] at hb; simp at hb
        · exact h') a3
      have hYb := hYa.fr b2 (fun k hk => by simp at hk; omega)
      obtain ⟨N, hN⟩ : ∃ N : Nat, N = lsN P s := ⟨_, rfl⟩
      obtain ⟨o, ho⟩ : ∃ o : Nat → Nat, o = lsO P s := ⟨_, rfl⟩
      have hNe : ofN (P &&& s) 5 (ofN (lsW P s) 5 0) = N := hN.symm
      have hoe : ofF (P &&& s) 5 (ofN (lsW P s) 5 0) (ofF (lsW P s) 5 0 (fun _ => 0)) = o := ho.symm
      rw [hNe] at b1 b3
      rw [hoe] at b3
      rw [← hN, ← ho] at c2 c3 c6
      rw [← hN] at c1 c7
      have c4' : ∀ k : Nat, k < N → lsC o N / 5 ^ (N - 1 - k) % 5 = o k ∧ P.testBit (o k) = true := fun k hk => by
        have := c4 k (by omega)
        rw [← hN, ← ho] at this
        rcases this with h' | h'
        · exact absurd hk h'
        · exact h'
      have hsum := x_sum_loop (o := o) hYb hP c7 (fun k hk => (c4' k hk).2) b3 N 100000 0 (by omega) (by omega)
      rw [Int.natCast_zero, show lsJ (P &&& msk C (fun i => isK 2 (μ 68 i))) N o 0 = 0 from rfl, Int.natCast_zero, ← hss] at hsum
      have hf : Fr [36] μ μb := a2.tr b2
      have h5 := p5 c7
      have ex : f_X9_loose μ (P : Int) (r : Int) = some (((lsJ (P &&& s) N o N : Nat) : Int), wr (cpy μb 36 (38 + 2 * r + 1) 0 0 N) (38 + 2 * r) 1 (N : Int)) := by
        rw [f_X9_loose, x_set hx6 hC hp, if_pos hs, bd_some, if_neg w1ne, x_isRow1 hr6, bd_some, if_neg w1ne, ck_ok (by omega) (by omega) (by omega), w32_id (a := 2) (by omega) (by omega), show (2 : Int).toNat = 2 from rfl, hzx, vl, hzw]
        rw [Int.natCast_zero] at a1
        rw [a1, bd_some, b1, bd_some, hsum, ck_ok (by omega) (by omega) (by omega), w32_nat (i := r) (by omega), Int.toNat_natCast, f_X5_take, ckc_ok (by omega) (by omega) (by omega) (by omega) (by omega) (by omega) (by omega), vm, vm, bd_some, w32_id (a := 0) (by omega) (by omega), w32_nat (i := N) (by omega), Int.toNat_natCast, Int.toNat_zero]
      have hm1 : ∀ k : Nat, k ≠ 36 → k ≠ 38 + 2 * r → k ≠ 38 + 2 * r + 1 → wr (cpy μb 36 (38 + 2 * r + 1) 0 0 N) (38 + 2 * r) 1 (N : Int) k = μ k := fun k k1 k2 k3 => by rw [wr_cell k2, cpy_cell k3, hf k (by simp; exact k1)]
      have hm2 : wr (cpy μb 36 (38 + 2 * r + 1) 0 0 N) (38 + 2 * r) 1 (N : Int) (38 + 2 * r) 1 = (N : Int) := wr_eq
      have hm3 : ∀ k : Nat, k < N → wr (cpy μb 36 (38 + 2 * r + 1) 0 0 N) (38 + 2 * r) 1 (N : Int) (38 + 2 * r + 1) k = (o k : Nat) := fun k hk => by
        rw [wr_cell (by omega), cpy_in (by omega) (by omega)]; simp only [Nat.zero_add, Nat.sub_zero]
        exact b3 k hk
      generalize wr (cpy μb 36 (38 + 2 * r + 1) 0 0 N) (38 + 2 * r) 1 (N : Int) = μ1 at *
      have hh : ∀ k : Nat, 67 ≤ k → μ1 k = μ k := fun k hk => hm1 k (by omega) (by omega) (by omega)
      have hY1 := hYM.hi hh
      have hbn : f_X10_bits μ1 (P : Int) = some ((N : Int), μ1) := by
        have := m_bits (μ := μ1) (C := 5) (by omega) (fun b => P.testBit b)
        rw [← pm (C := 5) (P := P) (by omega), pop_cn ⟨P, by omega⟩, ← c1] at this
        exact this
      have hfb : fb (Hl (P &&& s) N P) (5 ^ N) (lsC o N) ∧ Hl (P &&& s) N P (lsC o N) = -((lsJ (P &&& s) N o N : Nat) : Int) := by
        have e0 : Hl (P &&& s) N P (lsC o N) = -((lsJ (P &&& s) N o N : Nat) : Int) := by unfold Hl; rw [c3]
        have hj := jv_b _ _ _ _ _ c3
        refine ⟨⟨c6, fun e he => ?_, fun e he => ?_⟩, e0⟩
        · rw [e0]
          unfold Hl
          cases hv : jv (P &&& s) N P e 0 with
          | none => simp only; omega
          | some v =>
            have := (chk_ok N P 0 0 e c2 he v (by rw [Nat.zero_mul, Nat.zero_add]; exact hv)).1
            simp only; omega
        · rw [e0]
          unfold Hl
          cases hv : jv (P &&& s) N P e 0 with
          | none => simp only; omega
          | some v =>
            have := (chk_ok N P 0 0 e c2 (by omega) v (by rw [Nat.zero_mul, Nat.zero_add]; exact hv)).2 (by rw [Nat.zero_mul, Nat.zero_add]; exact he)
            simp only; omega
      have hmx : mxB (-1000000) (Hl (P &&& s) N P) (5 ^ N) = lsC o N ∧ mxM (-1000000) (Hl (P &&& s) N P) (5 ^ N) = -((lsJ (P &&& s) N o N : Nat) : Int) := by
        have hj := jv_b _ _ _ _ _ c3
        rcases mx_sp (z := -1000000) (H := Hl (P &&& s) N P) (5 ^ N) with ⟨z1, -, -⟩ | ⟨z1, z2, -⟩
        · have := z1 _ c6; rw [hfb.2] at this; omega
        · have e := fb_un z1 hfb.1
          exact ⟨e, by rw [z2, e, hfb.2]⟩
      have hpn := m_pn_loop (μ := μ1) c7 N 100000 0 (by omega) (by omega)
      rw [Int.natCast_zero, Nat.pow_zero, show ((1 : Nat) : Int) = 1 from rfl] at hpn
      have hlo := fun Kc => m_loo_loop (Kc := Kc) (P := P) (n := N) hY1 hP c7 (5 ^ N) 100000 0 (by omega) (by omega)
      rw [Int.natCast_zero, ← hss, hmx.1, hmx.2, Int.neg_neg, show mxB (-1000000) (Hl (P &&& s) N P) 0 = 0 from rfl, show -(mxM (-1000000) (Hl (P &&& s) N P) 0) = 1000000 from rfl, Int.natCast_zero] at hlo
      obtain ⟨μ2, l1, l2, l3, l4⟩ := m_lr_loop (x := ((lsJ (P &&& s) N o N : Nat) : Int)) hr6 N 100000 (lsC o N) (fl (wr μ1 76 r (N : Int)) 77 (40 * r) (40 * r + 40) 0) (by omega) c7 (by omega)
      have e2 : ∀ k : Nat, k ≠ 76 → k ≠ 77 → μ2 k = μ1 k := fun k k1 k2 => by rw [l2 k k2, fl_cell k2, wr_cell k1]
      refine ⟨((lsJ (P &&& s) N o N : Nat) : Int), μ1, μ2, ex, ?_, ?_⟩
      · show f_X10_loose μ1 (P : Int) (r : Int) = _
        rw [f_X10_loose, m_set (C := C) (by rw [hh 67 (by omega)]; exact hC0) hC hp, if_pos hs, bd_some, if_neg w1ne, m_isRow1 hr6, bd_some, if_neg w1ne, hbn, bd_some, hpn, hlo, m_row hr6 (by omega), bd_some, vl, l1]
      · refine (row_end (r := r) (N := N) (R := fun k => ((o k : Nat) : Int)) h hr6 (by omega) (fun k hk => ?_) (fun p' hp' => ?_) (fun i hi => ?_) ?_ (fun i hi => ?_) (fun s' => ?_) (fun q' hq' => ?_) (fun i hi => ?_) (fun i hi => ?_)).up (Nat.le_succ n)
        · rw [e2 k (by omega) (by omega), hm1 k (by omega) (by omega) (by omega)]
        · rw [e2 67 (by omega) (by omega), hh 67 (by omega)]
        · rw [e2 73 (by omega) (by omega), hh 73 (by omega)]
        · rw [e2 _ (by omega) (by omega)]; exact hm2
        · rw [e2 _ (by omega) (by omega)]; exact hm3 i hi
        · rw [l2 76 (by omega), fl_cell (by omega)]
          by_cases g : s' = r
          · subst g; rw [if_pos rfl, wr_eq]
          · rw [if_neg g, wr_ne (by omega), hh 76 (by omega)]
        · rw [l3 q' (by omega), fl_out (by omega), wr_cell (by omega), hh 77 (by omega)]
        · rw [l4 i hi, (c4' i hi).1]
        · have := (c4' i hi).1
          have : o i < 5 := by rw [← this]; exact Nat.mod_lt _ (by omega)
          exact ⟨by omega, by omega⟩
    · refine pair_bad h (a := -1) ?_ ?_
      · show f_X9_loose μ p q = _
        rw [f_X9_loose, x_set hx6 hC hp, if_pos hs, bd_some, if_neg w1ne, x_isRow0 hq hr, bd_some, if_pos w0]
      · show f_X10_loose μ p q = _
        rw [f_X10_loose, m_set hC0 hC hp, if_pos hs, bd_some, if_neg w1ne, m_isRow0 hq hr, bd_some, if_pos w0]
  · refine pair_bad h (a := -1) ?_ ?_
    · show f_X9_loose μ p q = _
      rw [f_X9_loose, x_set hx6 hC hp, if_neg hs, bd_some, if_pos w0]
    · show f_X10_loose μ p q = _
      rw [f_X10_loose, m_set hC0 hC hp, if_neg hs, bd_some, if_pos w0]
