/-! odds -/
theorem yand_1 {a : Nat} (h : a < 2 ^ 31) : yand (a : Int) 1 = ((a % 2 : Nat) : Int) := by
  unfold yand
  rw [show iL (a : Int) = lN a from Int64.ofInt_eq_ofNat, show iL 1 = lN 1 from rfl]
  have : lN a &&& lN 1 = lN (a % 2) := by
    apply Int64.toBitVec.inj
    apply BitVec.eq_of_toNat_eq
    rw [Int64.toBitVec_and, BitVec.toNat_and]
    show (BitVec.ofNat 64 a).toNat &&& (BitVec.ofNat 64 1).toNat = (BitVec.ofNat 64 (a % 2)).toNat
    rw [BitVec.toNat_ofNat, BitVec.toNat_ofNat, BitVec.toNat_ofNat, Nat.mod_eq_of_lt (show a < 2 ^ 64 by omega), Nat.mod_eq_of_lt (show 1 < 2 ^ 64 by omega), Nat.mod_eq_of_lt (show a % 2 < 2 ^ 64 by omega)]
    exact Nat.and_one_is_mod a
  rw [this]
  exact pk_lT (by omega)
theorem ydiv_n {a b : Nat} (ha : a < 2 ^ 62) (h0 : 0 < b) (hb : b < 2 ^ 62) : ydiv (a : Int) (b : Int) = ((a / b : Nat) : Int) := by
  unfold ydiv
  rw [show iL (a : Int) = lN a from Int64.ofInt_eq_ofNat, show iL (b : Int) = lN b from Int64.ofInt_eq_ofNat, pk_lDiv (by omega) h0 (by omega)]
  exact pk_lT (Nat.lt_of_le_of_lt (Nat.div_le_self a b) (by omega))
theorem yrem_n {a b : Nat} (ha : a < 2 ^ 62) (h0 : 0 < b) (hb : b < 2 ^ 62) : yrem (a : Int) (b : Int) = ((a % b : Nat) : Int) := by
  unfold yrem
  rw [show iL (a : Int) = lN a from Int64.ofInt_eq_ofNat, show iL (b : Int) = lN b from Int64.ofInt_eq_ofNat, pk_lRem (by omega) h0 (by omega)]
  exact pk_lT (Nat.lt_of_le_of_lt (Nat.mod_le a b) (by omega))
theorem yshl_s : ∀ i : Fin 16, yshl 1 ((i : Nat) : Int) = ((2 ^ (i : Nat) : Nat) : Int) := by decide +kernel
def ptV (C P : Nat) : Nat → Nat → Bool
  | 0, _ => true
  | d + 1, c => ptV C P d (c / 2 ^ C) && decide ((c % 2 ^ C) &&& (31 ^^^ P) = 0)
theorem ptV_no {C P : Nat} {k y : Nat} (h' : ptV C P k y = false) : ∀ m r : Nat, r < (2 ^ C) ^ m → ptV C P (k + m) (y * (2 ^ C) ^ m + r) = false := by
  have hW : 0 < 2 ^ C := Nat.pow_pos (by omega)
  intro m
  induction m with
  | zero =>
    intro r hrr
    rw [Nat.pow_zero] at hrr
    rw [Nat.pow_zero, Nat.mul_one, show r = 0 by omega]
    exact h'
  | succ m ih =>
    intro r hrr
    obtain ⟨a1, a2, a3⟩ := pl_div (y := y) hW hrr
    show (ptV C P (k + m) _ && _) = false
    rw [a1, ih _ a3]
    rfl
theorem ct_add {f : Nat → Bool} (lo : Nat) : ∀ d : Nat, ct f (lo + d) = ct f lo + ct (fun e => f (lo + e)) d := by
  intro d
  induction d with
  | zero => rfl
  | succ d ih =>
    rw [← Nat.add_assoc, ct, ct, ih]
    split <;> omega
theorem ct_cg {f g : Nat → Bool} : ∀ d : Nat, (∀ e : Nat, e < d → f e = g e) → ct f d = ct g d := by
  intro d
  induction d with
  | zero => intro _; rfl
  | succ d ih => intro h; rw [ct, ct, ih (fun e he => h e (by omega)), h d (by omega)]
theorem ct_sub (d : Nat) : ct (fun _ => false) d = 0 := by
  induction d with
  | zero => rfl
  | succ d ih => rw [ct, ih]; rfl
def subC (P : Nat) (s : Nat) : Bool := decide (s &&& (31 ^^^ P) = 0)
theorem ct_pt {C P N : Nat} : ct (ptV C P N) (2 ^ (C * N)) = (ct (subC P) (2 ^ C)) ^ N := by
  have hW : 0 < 2 ^ C := Nat.pow_pos (by omega)
  have step : ∀ d k : Nat, ct (ptV C P (d + 1)) (2 ^ C * k) = ct (ptV C P d) k * ct (subC P) (2 ^ C) := by
    intro d k
    induction k with
    | zero => simp [ct]
    | succ k ih =>
      rw [Nat.mul_succ, ct_add, ih, ct]
      have hb : ∀ e : Nat, e < 2 ^ C → ptV C P (d + 1) (2 ^ C * k + e) = (ptV C P d k && subC P e) := fun e he => by
        rw [ptV, Nat.mul_comm, (chd hW he).1, (chd hW he).2]
        rfl
      rw [ct_cg _ hb]
      cases hz : ptV C P d k with
      | false =>
        rw [show (fun e => (false && subC P e)) = (fun _ => false) from rfl, ct_sub, if_neg (by simp)]
        omega
      | true =>
        rw [if_pos rfl, Nat.add_mul, Nat.one_mul]
        rfl
  induction N with
  | zero => rfl
  | succ N ih => rw [Nat.mul_succ, Nat.pow_add, Nat.mul_comm (2 ^ (C * N)), step, ih, Nat.pow_succ]
theorem ct_sub_s : ∀ C : Fin 6, ∀ P : Fin 32, (P : Nat) < 2 ^ (C : Nat) → ct (subC (P : Nat)) (2 ^ (C : Nat)) = 2 ^ (cb (C : Nat) (P : Nat)).toNat := by decide +kernel
/-- halving both as long as both are even: lowest terms -/
theorem hal {a t : Nat} : (a % 2 = 0 → a / Nat.gcd a (2 ^ (t + 1)) = (a / 2) / Nat.gcd (a / 2) (2 ^ t) ∧ 2 ^ (t + 1) / Nat.gcd a (2 ^ (t + 1)) = 2 ^ t / Nat.gcd (a / 2) (2 ^ t)) ∧ (a % 2 = 1 → Nat.gcd a (2 ^ t) = 1) := by
  constructor
  · intro h
    obtain ⟨b, hb⟩ : ∃ b : Nat, a = 2 * b := ⟨a / 2, by omega⟩
    subst hb
    rw [Nat.pow_succ, Nat.mul_comm (2 ^ t) 2, Nat.gcd_mul_left, Nat.mul_div_mul_left _ _ (by omega), Nat.mul_div_mul_left _ _ (by omega), show 2 * b / 2 = b by omega]
    exact ⟨rfl, rfl⟩
  · intro h
    have : Nat.Coprime a 2 := by
      show Nat.gcd a 2 = 1
      rw [Nat.gcd_comm, Nat.gcd_rec, h]
      rfl
    exact Nat.Coprime.pow_right t this
theorem x_tch_loop {h : Nat} (hh : h ≤ 15) : ∀ (t u i a : Nat) (μ : Mem), i + t = h → t < u → a < 2 ^ 31 → μ 0 14 = (a : Int) → μ 0 15 = ((2 ^ t : Nat) : Int) →
    ∃ μ' : Mem, f_X9_tellChance_L15 (h : Int) u (i : Int) μ = some ((), μ') ∧ (∀ k : Nat, k ≠ 0 → μ' k = μ k) ∧ (∀ p : Nat, p ≠ 14 → p ≠ 15 → μ' 0 p = μ 0 p) ∧ μ' 0 14 = ((a / Nat.gcd a (2 ^ t) : Nat) : Int) ∧ μ' 0 15 = ((2 ^ t / Nat.gcd a (2 ^ t) : Nat) : Int) := by
  intro t
  induction t with
  | zero =>
    intro u i a μ hi hu ha e14 e15
    obtain ⟨u, rfl⟩ : ∃ v, u = v + 1 := ⟨u - 1, by omega⟩
    refine ⟨μ, ?_, fun _ _ => rfl, fun _ _ _ => rfl, ?_, ?_⟩
    · rw [f_X9_tellChance_L15, w32_nat (by omega), w32_nat (by omega), if_neg (by omega)]
    · rw [Nat.pow_zero, Nat.gcd_one_right, Nat.div_one]; exact e14
    · rw [Nat.pow_zero, Nat.gcd_one_right, Nat.div_one]; exact e15
  | succ t ih =>
    intro u i a μ hi hu ha e14 e15
    obtain ⟨u, rfl⟩ : ∃ v, u = v + 1 := ⟨u - 1, by omega⟩
    have hp : 2 ^ t ≤ 2 ^ 15 := Nat.pow_le_pow_right (by omega) (by omega)
    have hp1 : 0 < 2 ^ t := Nat.pow_pos (by omega)
    have hp2 : 2 ^ (t + 1) = 2 * 2 ^ t := by rw [Nat.pow_succ, Nat.mul_comm]
    have st : f_X9_tellChance_L15 (h : Int) (u + 1) (i : Int) μ = if a % 2 = 0 then f_X9_tellChance_L15 (h : Int) u ((i : Int) + 1) (wr (wr μ 0 14 ((a / 2 : Nat) : Int)) 0 15 ((2 ^ t : Nat) : Int)) else some ((), μ) := by
      rw [f_X9_tellChance_L15, w32_nat (i := i) (by omega), w32_nat (i := h) (by omega), if_pos (by omega)]
      simp only [ycmp_gt, ycmp_eq]
      rw [e14, e15, w64_id (a := 1) (by omega) (by omega), w64_id (a := ((2 ^ (t + 1) : Nat) : Int)) (by omega) (by omega), if_pos (by omega), yand_1 ha, w64_id (a := ((a % 2 : Nat) : Int)) (by omega) (by omega), w64_id (a := 0) (by omega) (by omega)]
      by_cases c : a % 2 = 0
      · rw [if_pos (by omega), if_pos c, ckl_ok (by omega) (by omega) (by omega), vm, ckl_ok (by omega) (by omega) (by omega), vm, wr_ne (p := 14) (q := 15) (by omega), e15]
        have d1 := ydiv_n (a := a) (b := 2) (by omega) (by omega) (by omega)
        have d2 := ydiv_n (a := 2 ^ (t + 1)) (b := 2) (by omega) (by omega) (by omega)
        rw [show ((2 : Nat) : Int) = 2 from rfl] at d1 d2
        rw [d1, d2, show 2 ^ (t + 1) / 2 = 2 ^ t by omega]
      · rw [if_neg (by omega), if_neg c]
    by_cases c : a % 2 = 0
    · obtain ⟨μ3, k1, k2, k3, k4, k5⟩ := ih u (i + 1) (a / 2) (wr (wr μ 0 14 ((a / 2 : Nat) : Int)) 0 15 ((2 ^ t : Nat) : Int)) (by omega) (by omega) (by omega) (by rw [wr_ne (by omega), wr_eq]) wr_eq
      rw [show ((i + 1 : Nat) : Int) = (i : Int) + 1 by omega] at k1
      rw [if_pos c] at st
      refine ⟨μ3, st.trans k1, fun k hk => by rw [k2 k hk, wr_cell hk, wr_cell hk], fun p h1 h2 => by rw [k3 p h1 h2, wr_ne (by omega), wr_ne (by omega)], ?_, ?_⟩
      · rw [k4, ((hal (a := a) (t := t)).1 c).1]
      · rw [k5, ((hal (a := a) (t := t)).1 c).2]
    · rw [if_neg c] at st
      have hg := (hal (a := a) (t := t + 1)).2 (by omega)
      refine ⟨μ, st, fun _ _ => rfl, fun _ _ _ => rfl, ?_, ?_⟩
      · rw [hg, Nat.div_one]; exact e14
      · rw [hg, Nat.div_one]; exact e15
theorem m_gcd_loop {μ : Mem} : ∀ (f b a u : Nat), b < f → b < u → a < 2 ^ 31 → b < 2 ^ 31 → ∀ Kc, f_X10_tellOdds_L6 Kc u (a : Int) (b : Int) μ = Kc ((Nat.gcd a b : Nat) : Int) μ := by
  intro f
  induction f with
  | zero => intro b a u h; omega
  | succ f ih =>
    intro b a u h hu ha hb Kc
    obtain ⟨u, rfl⟩ : ∃ v, u = v + 1 := ⟨u - 1, by omega⟩
    rw [f_X10_tellOdds_L6]
    simp only [ycmp_eq]
    rw [w64_id (a := (b : Int)) (by omega) (by omega), w64_id (a := 0) (by omega) (by omega)]
    by_cases c : b = 0
    · subst c
      rw [if_pos (by omega), Nat.gcd_zero_right]
    · have hl : a % b < b := Nat.mod_lt _ (by omega)
      rw [if_neg (by omega), ckl_ok (by omega) (by omega) (by omega), yrem_n (by omega) (by omega) (by omega), vl, ih (a % b) b u (by omega) (by omega) hb (by omega) Kc, Nat.gcd_comm a b, Nat.gcd_rec b a, Nat.gcd_comm]
theorem m_tod {μ : Mem} {a b : Nat} (ha : a < 2 ^ 31) (hb : b < 100000) (hb0 : 0 < b) : f_X10_tellOdds μ (a : Int) (b : Int) = some ((), wr (wr μ 67 11 ((a / Nat.gcd a b : Nat) : Int)) 67 12 ((b / Nat.gcd a b : Nat) : Int)) := by
  have hg : Nat.gcd a b ≤ b := Nat.le_of_dvd hb0 (Nat.gcd_dvd_right a b)
  have hg0 : 0 < Nat.gcd a b := Nat.gcd_pos_of_pos_right a hb0
  rw [f_X10_tellOdds, m_gcd_loop (b + 1) b a 100000 (by omega) (by omega) ha (by omega), ckl_ok (by omega) (by omega) (by omega), ydiv_n (by omega) hg0 (by omega), vm, ckl_ok (by omega) (by omega) (by omega), ydiv_n (by omega) hg0 (by omega), vm]
def gdV (C : Nat) (K F : Nat → Int) (P : Nat) (G : Int) (N e : Nat) : Bool := ptV C P N e && decide (G ≤ Sd C K F N e 0)
theorem x_way_seek {n N P : Nat} {C : Nat} {K F : Nat → Int} {G : Int} (hG : 0 ≤ G ∧ G ≤ 99) (hF : DB n F) (hn : n ≤ 900) (hN : N ≤ 3) (hP : P < 2 ^ C) : ∀ (m d c u : Nat) (μ : Mem), d + m = N → m < u → YX μ C K → μ 22 3 = (N : Int) → μ 22 5 = G → ptV C P d c = true → (d < N → ∀ j : Nat, j < 16 → μ (26 + 2 * d + 1) j = Sd C K F d c j) →
    ∃ μ' : Mem, f_X6_waysFrom u μ (d : Int) (P : Int) (Sd C K F d c 0) = some ((ct (gdV C K F P G N) ((c + 1) * (2 ^ C) ^ m) : Int) - (ct (gdV C K F P G N) (c * (2 ^ C) ^ m) : Int), μ') ∧ FS (26 + 2 * d) d μ μ' ∧ (d < N → μ' (26 + 2 * d + 1) = μ (26 + 2 * d + 1)) := by
  intro m
  induction m with
  | zero =>
    intro d c u μ hdm hu hY h3 h5 hcv hday
    obtain ⟨u, rfl⟩ : ∃ v, u = v + 1 := ⟨u - 1, by omega⟩
    have hC := hY.1
    have hdN : d = N := by omega
    subst hdN
    have hD := (Sd_DB (K := K) hF hC d c).1
    rw [Nat.pow_zero, Nat.mul_one, Nat.mul_one]
    refine ⟨μ, ?_, FS.rf, fun hh => by omega⟩
    rw [f_X6_waysFrom, f_X6_waysFrom_B, jn, h3, if_neg (by omega)]
    dsimp only
    rw [h5, w32_id (a := G) (by omega) (by omega), w32_id (a := Sd C K F d c 0) (by omega) (by omega), vl, ct]
    unfold gdV
    rw [hcv, Bool.true_and]
    by_cases cc : Sd C K F d c 0 < G
    · rw [if_pos cc, decide_eq_false (by omega), if_neg (by simp), Int.sub_self]
    · rw [if_neg cc, decide_eq_true (by omega), if_pos rfl]
      congr 2
      omega
  | succ m ih =>
    intro d c u μ hdm hu hY h3 h5 hcv hday
    obtain ⟨u, rfl⟩ : ∃ v, u = v + 1 := ⟨u - 1, by omega⟩
    have hC := hY.1
    have h32 := pow5 hC
    have hWp : 0 < 2 ^ C := Nat.pow_pos (by omega)
    have hBp : 0 < (2 ^ C) ^ m := Nat.pow_pos hWp
    have hdN : d < N := by omega
    have hD := Sd_DB (K := K) hF hC d c
    obtain ⟨μ8, a1, a2, a3, a4⟩ := x_lk1 (t := 26 + 2 * d) (by omega) hY (hD.fb (by omega)) (hday hdN)
    have hday8 : ∀ j : Nat, j < 16 → μ8 (26 + 2 * d + 1) j = Sd C K F d c j := fun j hj => by rw [a2 _ (by simp)]; exact hday hdN j hj
    have e8 : ∀ k : Nat, k ≠ 26 + 2 * d → μ8 k = μ k := fun k hk => a2 k (by simp; exact hk)
    have hY8 : YX μ8 C K := hY.cg (fun k hk => e8 k (by omega))
    have hPt : ∀ i : Nat, i < 2 ^ C → ptV C P (d + 1) (c * 2 ^ C + i) = decide (i &&& (31 ^^^ P) = 0) := fun i hi => by
      rw [ptV, (chd hWp hi).1, (chd hWp hi).2, hcv, Bool.true_and]
    have skip : ∀ (i hi : Nat), i ≤ hi → hi ≤ 2 ^ C → (∀ j : Nat, i ≤ j → j < hi → ptV C P (d + 1) (c * 2 ^ C + j) = false) → ct (gdV C K F P G N) ((c * 2 ^ C + hi) * (2 ^ C) ^ m) = ct (gdV C K F P G N) ((c * 2 ^ C + i) * (2 ^ C) ^ m) := fun i hi h1 h2 hj => by
      have hle : (c * 2 ^ C + i) * (2 ^ C) ^ m ≤ (c * 2 ^ C + hi) * (2 ^ C) ^ m := Nat.mul_le_mul_right _ (by omega)
      have := (no_ct (f := gdV C K F P G N) (U := fun _ => 0) (P := 0) (lo := (c * 2 ^ C + i) * (2 ^ C) ^ m) ((c * 2 ^ C + hi) * (2 ^ C) ^ m - (c * 2 ^ C + i) * (2 ^ C) ^ m) (fun e e1 e2 => by
        obtain ⟨q1, q2, q3, q4⟩ := blk hBp e1 (show e < (c * 2 ^ C + hi) * (2 ^ C) ^ m by omega)
        obtain ⟨j, hjj⟩ : ∃ j : Nat, e / (2 ^ C) ^ m = c * 2 ^ C + j := ⟨e / (2 ^ C) ^ m - c * 2 ^ C, by omega⟩
        rw [hjj] at q1 q3 q4
        have hs := ptV_no (hj j (by omega) (by omega)) m (e % (2 ^ C) ^ m) q2
        rw [show d + 1 + m = N by omega, ← q1] at hs
        unfold gdV
        rw [hs]
        rfl)).1
      rw [show (c * 2 ^ C + i) * (2 ^ C) ^ m + ((c * 2 ^ C + hi) * (2 ^ C) ^ m - (c * 2 ^ C + i) * (2 ^ C) ^ m) = (c * 2 ^ C + hi) * (2 ^ C) ^ m by omega] at this
      exact this
    have loop : ∀ (t v i : Nat) (x : Int) (μ' : Mem), i + t = 2 ^ C → t < v → FS (28 + 2 * d) d μ8 μ' →
        ∃ μ'' : Mem, f_X6_waysFrom_L48 (f_X6_waysFrom u) (d : Int) (P : Int) v x (i : Int) μ' = some (x + ((ct (gdV C K F P G N) ((c * 2 ^ C + 2 ^ C) * (2 ^ C) ^ m) : Int) - (ct (gdV C K F P G N) ((c * 2 ^ C + i) * (2 ^ C) ^ m) : Int)), μ'') ∧ FS (28 + 2 * d) d μ8 μ'' := by
      intro t
      induction t with
      | zero =>
        intro v i x μ' hi hv hf
        obtain ⟨v, rfl⟩ : ∃ w, v = w + 1 := ⟨v - 1, by omega⟩
        refine ⟨μ', ?_, hf⟩
        rw [f_X6_waysFrom_L48, w32_nat (i := P) (by omega), w32_nat (i := i) (by omega), if_pos (by omega), show i = 2 ^ C by omega, Int.sub_self, Int.add_zero]
      | succ t iht =>
        intro v i x μ' hi hv hf
        obtain ⟨v, rfl⟩ : ∃ w, v = w + 1 := ⟨v - 1, by omega⟩
        obtain ⟨s1, s2, s3, s4, s5, s6⟩ := sub_32 (i := i) (M := P) (by omega) (by omega)
        by_cases c1 : P < i
        · refine ⟨μ', ?_, hf⟩
          rw [f_X6_waysFrom_L48, w32_nat (i := P) (by omega), w32_nat (i := i) (by omega), if_pos (by omega), skip i (2 ^ C) (by omega) (Nat.le_refl _) (fun j j1 j2 => by
            rw [hPt j j2]; exact decide_eq_false (fun w => by have := (sub_32 (i := j) (M := P) (by omega) (by omega)).2.1 w; omega)), Int.sub_self, Int.add_zero]
        · have hY' : YX μ' C K := hY8.cg (fun k hk => hf.1 k (by omega) (by omega) (by omega) (by omega))
          by_cases c2 : (i &&& (31 ^^^ P)) = 0
          · obtain ⟨μ2, g1, g2, g3, g4, g5⟩ := x_step (F := Sd C K F d c) (N := N) (d := d) (s := i) hY' hD (by omega) hN (by rw [hf.2.1 3 (by omega) (by omega) (by omega), e8 22 (by omega)]; exact h3) hdN (by omega) (fun j hj => by rw [hf.1 _ (by omega) (by omega) (by omega) (by omega)]; exact hday8 j hj)
            have hf2 := hf.tr g2
            have hY2 : YX μ2 C K := hY'.cg (fun k hk => g2.1 k (by omega) (by omega) (by omega) (by omega))
            have hbh := x_bh (t := 26 + 2 * d) (by omega) hY2 (hD.fb (by omega)) (fun j hj => by rw [hf2.1 _ (by omega) (by omega) (by omega) (by omega)]; exact hday8 j hj) (by rw [hf2.1 _ (by omega) (by omega) (by omega) (by omega)]; exact a3) (by rw [hf2.1 _ (by omega) (by omega) (by omega) (by omega)]; exact a4) (fun b => i.testBit b)
            have hmin : Sd C K F d c 0 + stp C K (Sd C K F d c) (fun b => i.testBit b) = Sd C K F (d + 1) (c * 2 ^ C + i) 0 := by
              rw [Sd, (chd hWp (show i < 2 ^ C by omega)).1, (chd hWp (show i < 2 ^ C by omega)).2, hr_0]
            rw [← pm (C := C) (P := i) (by omega), hmin] at hbh
            obtain ⟨μ3, k1, k2, -⟩ := ih (d + 1) (c * 2 ^ C + i) u μ2 (by omega) (by omega) hY2 (by rw [hf2.2.1 3 (by omega) (by omega) (by omega), e8 22 (by omega)]; exact h3) (by rw [hf2.2.1 5 (by omega) (by omega) (by omega), e8 22 (by omega)]; exact h5) (by rw [hPt i (by omega), c2]; rfl) (fun hh j hj => by
              rw [g5 hh j hj, Sd, (chd hWp (show i < 2 ^ C by omega)).1, (chd hWp (show i < 2 ^ C by omega)).2])
            have hf3 : FS (28 + 2 * d) d μ8 μ3 := hf2.tr (k2.mono (by omega) (by omega))
            obtain ⟨μ4, l1, l2⟩ := iht v (i + 1) (x + ((ct (gdV C K F P G N) ((c * 2 ^ C + i + 1) * (2 ^ C) ^ m) : Int) - (ct (gdV C K F P G N) ((c * 2 ^ C + i) * (2 ^ C) ^ m) : Int))) μ3 (by omega) (by omega) hf3
            rw [show ((i + 1 : Nat) : Int) = (i : Int) + 1 by omega] at l1
            refine ⟨μ4, ?_, l2⟩
            rw [f_X6_waysFrom_L48, w32_nat (i := P) (by omega), w32_nat (i := i) (by omega), if_neg (by omega), jn, s1, c2, Int.natCast_zero, if_pos w0, g1, bd_some, w32_nat (i := d) (by omega), Int.toNat_natCast, hbh, bd_some, show (d : Int) + 1 = ((d + 1 : Nat) : Int) by omega, k1, bd_some, vl]
            refine Eq.trans l1 ?_
            congr 2
            rw [show c * 2 ^ C + (i + 1) = c * 2 ^ C + i + 1 by omega]
            omega
          · obtain ⟨μ4, l1, l2⟩ := iht v (i + 1) x μ' (by omega) (by omega) hf
            rw [show ((i + 1 : Nat) : Int) = (i : Int) + 1 by omega, skip i (i + 1) (by omega) (by omega) (fun j j1 j2 => by rw [show j = i by omega, hPt i (by omega)]; exact decide_eq_false c2)] at l1
            refine ⟨μ4, ?_, l2⟩
            rw [f_X6_waysFrom_L48, w32_nat (i := P) (by omega), w32_nat (i := i) (by omega), if_neg (by omega), jn, s1, w32_nat (by omega), if_neg (by omega)]
            exact l1
    obtain ⟨μ9, l1, l2⟩ := loop (2 ^ C) 100000 0 0 μ8 (by omega) (by omega) FS.rf
    rw [Int.natCast_zero, Int.zero_add, Nat.add_zero] at l1
    have hf9 : FS (26 + 2 * d) d μ μ9 := FS.tr ⟨fun k k1 k2 k3 k4 => e8 k (by omega), fun p _ _ _ => by rw [e8 22 (by omega)], fun k hk => by rw [e8 24 (by omega)]⟩ (l2.mono (by omega) (Nat.le_refl _))
    refine ⟨μ9, ?_, hf9, fun _ => ?_⟩
    · rw [f_X6_waysFrom, f_X6_waysFrom_B, jn, h3, w32_nat (i := d) (by omega), w32_nat (i := N) (by omega), if_pos (by omega), w32_id (a := 3) (by omega) (by omega), if_pos (by omega), ck_ok (by omega) (by omega) (by omega), Int.toNat_natCast, a1, bd_some]
      rw [Nat.pow_succ', ← Nat.mul_assoc, ← Nat.mul_assoc, Nat.add_mul, Nat.one_mul]
      exact l1
    · rw [l2.1 _ (by omega) (by omega) (by omega) (by omega), e8 _ (by omega)]
def pq (s : Nat → Nat) (P : Nat) : Nat → Bool
  | 0 => true
  | k + 1 => pq s P k && decide (s k &&& (31 ^^^ P) = 0)
theorem pq_pt {C N e P : Nat} : ∀ k : Nat, k ≤ N → pq (dg C N e) P k = ptV C P k (e / 2 ^ (C * (N - k))) := by
  intro k
  induction k with
  | zero => intro _; rfl
  | succ k ih =>
    intro hk
    rw [pq, ptV, ih (by omega), dv (by omega)]
    have : dg C N e k = e / 2 ^ (C * (N - (k + 1))) % 2 ^ C := by
      unfold dg
      rw [show N - 1 - k = N - (k + 1) by omega]
    rw [this]
theorem m_pq_loop {μ : Mem} {C N e P : Nat} (h : μ 67 0 = (C : Int)) (hC : C ≤ 5) (hN : N ≤ 3) (he : e < 2 ^ 31) (hP : P < 32) : ∀ (d u i : Nat), i + d = N → d < u → ∀ Kc, f_X10_odds_L73 Kc (P : Int) (N : Int) (e : Int) u (bt (pq (dg C N e) P i)) (i : Int) μ = Kc (bt (pq (dg C N e) P N)) μ := by
  have h32 := pow5 hC
  intro d
  induction d with
  | zero =>
    intro u i hi hu Kc
    obtain ⟨u, rfl⟩ : ∃ v, u = v + 1 := ⟨u - 1, by omega⟩
    rw [f_X10_odds_L73, w32_nat (i := i) (by omega), w32_nat (i := N) (by omega), if_neg (by omega), show i = N by omega]
  | succ d ih =>
    intro u i hi hu Kc
    obtain ⟨u, rfl⟩ : ∃ v, u = v + 1 := ⟨u - 1, by omega⟩
    have k1 := ih u (i + 1) (by omega) (by omega) Kc
    rw [show ((i + 1 : Nat) : Int) = (i : Int) + 1 by omega, pq] at k1
    have hdl : dg C N e i < 2 ^ C := dg_lt
    have hal' : dg C N e i &&& (31 ^^^ P) ≤ dg C N e i := Nat.and_le_left
    rw [f_X10_odds_L73, w32_nat (i := i) (by omega), w32_nat (i := N) (by omega), if_pos (by omega), jn, jn, bt_w]
    cases hz : pq (dg C N e) P i with
    | false =>
      rw [hz] at k1
      exact k1
    | true =>
      rw [hz, Bool.true_and] at k1
      rw [if_pos rfl, m_setOf h hC hN (by omega) he, bd_some, (sub_32 (i := dg C N e i) (M := P) (by omega) (by omega)).1, w32_nat (i := dg C N e i &&& (31 ^^^ P)) (by omega)]
      by_cases c2 : dg C N e i &&& (31 ^^^ P) = 0
      · rw [decide_eq_true c2] at k1
        rw [if_pos (by omega)]
        exact k1
      · rw [decide_eq_false c2] at k1
        rw [if_neg (by omega)]
        exact k1
theorem m_odd_loop {Kc : Int → Int → Mem → Option (Int × Mem)} {n N P : Nat} {μs : Mem} {C V : Nat} {K lt fr tt wo F : Nat → Int} {G : Int} (hG : 0 ≤ G ∧ G ≤ 99) (hY : YM μs C K) (hV : VM μs V lt fr tt wo) (hF : DB n F) (hn : n ≤ 900) (hN : N ≤ 3) (hP : P < 2 ^ C) (h92 : ∀ i : Nat, i < 16 → μs 92 i = F i) :
    ∀ (d u i : Nat) (μ' : Mem), i + d = 2 ^ (C * N) → d < u → FH μs μ' → (∀ j : Nat, j < 16 → μ' 73 j = F j) →
    ∃ μ'' : Mem, f_X10_odds_L57 Kc (P : Int) (N : Int) G u (ct (ptV C P N) i : Nat) (ct (gdV C K F P G N) i : Nat) (i : Int) μ' = Kc (ct (ptV C P N) (2 ^ (C * N)) : Nat) (ct (gdV C K F P G N) (2 ^ (C * N)) : Nat) μ'' ∧ FH μs μ'' ∧ ∀ j : Nat, j < 16 → μ'' 73 j = F j := by
  have hC := hY.1
  have h32 := pow5 hC
  have h15 := pow15 hC hN
  intro d
  induction d with
  | zero =>
    intro u i μ' hi hu hf hd
    obtain ⟨u, rfl⟩ : ∃ v, u = v + 1 := ⟨u - 1, by omega⟩
    refine ⟨μ', ?_, hf, hd⟩
    rw [f_X10_odds_L57, m_codes (hY.fh hf.fm).2.1 hC hN, bd_some, w32_nat (i := i) (by omega), w32_nat (i := 2 ^ (C * N)) (by omega), if_neg (by omega), show i = 2 ^ (C * N) by omega]
  | succ d ih =>
    intro u i μ' hi hu hf hd
    obtain ⟨u, rfl⟩ : ∃ v, u = v + 1 := ⟨u - 1, by omega⟩
    have hpq := fun Kd => m_pq_loop (μ := μ') (e := i) (P := P) (hY.fh hf.fm).2.1 hC hN (by omega) (by omega) N 100000 0 (by omega) (by omega) Kd
    rw [Int.natCast_zero, show bt (pq (dg C N i) P 0) = 1 from rfl, pq_pt N (by omega), Nat.sub_self, Nat.mul_zero, Nat.pow_zero, Nat.div_one] at hpq
    rw [f_X10_odds_L57, m_codes (hY.fh hf.fm).2.1 hC hN, bd_some, w32_nat (i := i) (by omega), w32_nat (i := 2 ^ (C * N)) (by omega), if_pos (by omega), hpq, jn, bt_w]
    cases hz : ptV C P N i with
    | false =>
      obtain ⟨μ3, k1, k2, k3⟩ := ih u (i + 1) μ' (by omega) (by omega) hf hd
      rw [show ((i + 1 : Nat) : Int) = (i : Int) + 1 by omega, ct, ct, hz, show gdV C K F P G N i = false by unfold gdV; rw [hz]; rfl] at k1
      exact ⟨μ3, k1, k2, k3⟩
    | true =>
      obtain ⟨μ2, g1, g2, g3⟩ := m_gop (e := i) hY hV hF hn hN (by omega) hf hd
      obtain ⟨q1, q2⟩ := bk_ok (F := F) g2 h92
      obtain ⟨μ3, k1, k2, k3⟩ := ih u (i + 1) (cpy μ2 92 73 0 0 16) (by omega) (by omega) q1 q2
      have hD := (Sd_DB (K := K) hF hC N i).1
      have hmin : μ2 73 0 = Sd C K F N i 0 := by rw [g3 0 (by omega), mq_xq hC N 0 (by omega), xq_Sd N (by omega), Nat.sub_self, Nat.mul_zero, Nat.pow_zero, Nat.div_one]
      rw [show ((i + 1 : Nat) : Int) = (i : Int) + 1 by omega, ct, ct, hz, show gdV C K F P G N i = decide (G ≤ Sd C K F N i 0) by unfold gdV; rw [hz]; rfl] at k1
      refine ⟨μ3, ?_, k2, k3⟩
      rw [if_pos rfl, g1, bd_some, ck_ok (by omega) (by omega) (by omega), vl, vl, m_back, bd_some, w32_id (a := 0) (by omega) (by omega), Int.toNat_zero, hmin, w32_id (a := Sd C K F N i 0) (by omega) (by omega), w32_id (a := G) (by omega) (by omega)]
      by_cases cc : Sd C K F N i 0 < G
      · rw [if_pos rfl, decide_eq_false (by omega), if_neg (by simp)] at k1
        rw [if_pos cc, Int.add_zero]
        exact k1
      · rw [if_pos rfl, decide_eq_true (by omega), if_pos rfl] at k1
        rw [if_neg cc]
        exact k1
theorem odds_end {n : Nat} {μ μ1 μ2 : Mem} (h : Inv n μ) (e : ∀ k : Nat, ¬ (k = 0 ∨ k = 3 ∨ k = 4 ∨ k = 5 ∨ k = 13 ∨ (17 ≤ k ∧ k < 37) ∨ k = 67 ∨ k = 73 ∨ (84 ≤ k ∧ k < 94)) → μ2 k = μ k) (e0 : ∀ p : Nat, p ≠ 14 → p ≠ 15 → μ2 0 p = μ 0 p) (e7 : ∀ p : Nat, ¬ (p = 11 ∨ p = 12 ∨ (24 ≤ p ∧ p < 28) ∨ p = 35 ∨ p = 36) → μ2 67 p = μ 67 p) (a1 : μ2 0 14 = μ2 67 11) (a2 : μ2 0 15 = μ2 67 12) (hd : ∀ i : Nat, i < 16 → μ2 73 i = μ 73 i) : Inv n μ2 := by
  obtain ⟨i1, i2, i3, i4, i5, i6, i7⟩ := h
  obtain ⟨t1, t2, t3, t4, t5⟩ := i7
  refine ⟨i1.cg (fun k hk => e k (by omega)), i2.cg (fun k hk => e k (by omega)), i3.cg (fun k hk => e k (by omega)) (e7 0 (by omega)) (e7 1 (by omega)), ⟨fun i hi => ?_, i4.2.cg hd⟩, i5.cg (fun k hk => e k (by omega)) (e7 8 (by omega)), i6.cg (fun k hk => e k (by omega)), ⟨?_, ?_, a1, a2, fun f hf => ?_⟩⟩
  · rw [e 14 (by omega), hd i hi]; exact i4.1 i hi
  · rw [e0 12 (by omega) (by omega), e7 13 (by omega)]; exact t1
  · rw [e0 13 (by omega) (by omega), e7 10 (by omega)]; exact t2
  · rw [e 37 (by omega), e 75 (by omega)]; exact t5 f hf
theorem p_odds {n : Nat} (hn : n ≤ 900) {p q t : Int} (hp : inR p) (hq : inR q) (ht : inR t) : Pair n (fun μ => f_X9_odds μ p q t) (fun μ => f_X10_odds μ p q t) := by
  intro μ h
  obtain ⟨C, V, hC0, hV0, hYX, hYM, hVX, hVM⟩ := h.yr
  have hC := hYX.1
  have h32 := pow5 hC
  have hx6 := hYX.2.1
  have hday := h.2.2.2.1
  have sm : ∀ μ1 : Mem, μ1 67 = μ 67 → f_X10_isSet μ1 p = some (if 0 ≤ p ∧ p < ((2 ^ C : Nat) : Int) then 1 else 0, μ1) := fun μ1 e => m_set (C := C) (by rw [e]; exact hC0) hC hp
  have mi : ∀ μ1 : Mem, f_X10_in μ1 (w32 q) 0 3 = some (if 0 ≤ q ∧ q ≤ 3 then 1 else 0, μ1) := fun μ1 => by
    rw [hq.w]; exact m_in hq ⟨by omega, by omega⟩ ⟨by omega, by omega⟩
  have mj : ∀ μ1 : Mem, f_X10_in μ1 (w32 t) 0 99 = some (if 0 ≤ t ∧ t ≤ 99 then 1 else 0, μ1) := fun μ1 => by
    rw [ht.w]; exact m_in ht ⟨by omega, by omega⟩ ⟨by omega, by omega⟩
  by_cases hs : 0 ≤ p ∧ p < ((2 ^ C : Nat) : Int)
  · by_cases c1 : 0 ≤ q ∧ q ≤ 3
    · by_cases c2 : 0 ≤ t ∧ t ≤ 99
      · by_cases c0 : C = 0
        · refine pair_bad h (a := -4) ?_ ?_
          · show f_X9_odds μ p q t = _
            rw [f_X9_odds, x_set hx6 hC hp, if_pos hs, bd_some, if_neg w1ne, hq.w, if_neg (by omega), w32_id (a := 3) (by omega) (by omega), if_neg (by omega), ht.w, if_neg (by omega), w32_id (a := 99) (by omega) (by omega), if_neg (by omega), hx6, c0, Int.natCast_zero, if_pos w0]
          · show f_X10_odds μ p q t = _
            rw [f_X10_odds, sm μ rfl, if_pos hs, bd_some, if_neg w1ne, mi, bd_some, if_pos c1, if_neg w1ne, mj, bd_some, if_pos c2, if_neg w1ne, hC0, c0, Int.natCast_zero, if_pos w0]
        · obtain ⟨P, hP, rfl⟩ := nat_of hs
          obtain ⟨N, rfl⟩ : ∃ N : Nat, q = (N : Int) := ⟨q.toNat, by omega⟩
          have hN : N ≤ 3 := by omega
          have h15 := pow15 hC hN
          have hx0 : FX μ (wr (cpy (wr μ 22 3 (N : Int)) 14 27 0 0 16) 22 5 t) := bg_fx
          obtain ⟨μa, g1, g2, -⟩ := x_way_seek (C := C) (K := μ 68) (P := P) (G := t) c2 hday.2 hn hN hP N 0 0 9 (wr (cpy (wr μ 22 3 (N : Int)) 14 27 0 0 16) 22 5 t) (by omega) (by omega) (hYX.fx hx0) (bg_3 (by omega)) wr_eq rfl (fun _ j hj => bg_d hday.1 j hj)
          rw [Nat.zero_add, Nat.one_mul, ← Nat.pow_mul, Nat.zero_mul, show ct (gdV C (μ 68) (μ 73) P t N) 0 = 0 from rfl, Int.natCast_zero, Int.sub_zero] at g1
          have hxa : FX μ μa := hx0.tr (g2.fx (by omega))
          have hxa0 : μa 0 = μ 0 := by rw [g2.1 0 (by omega) (by omega) (by omega) (by omega), wr_cell (by omega), cpy_cell (by omega), wr_cell (by omega)]
          have hct := ct_le (f := gdV C (μ 68) (μ 73) P t N) (2 ^ (C * N))
          obtain ⟨A, hA⟩ : ∃ A : Nat, A = ct (gdV C (μ 68) (μ 73) P t N) (2 ^ (C * N)) := ⟨_, rfl⟩
          have hcb := cb_b C P
          obtain ⟨B, hB⟩ : ∃ B : Nat, cb C P = (B : Int) := ⟨(cb C P).toNat, by omega⟩
          have hBN : B * N ≤ 15 := Nat.mul_le_mul (show B ≤ 5 by omega) hN
          have hall : ct (ptV C P N) (2 ^ (C * N)) = 2 ^ (B * N) := by
            rw [ct_pt, ct_sub_s ⟨C, by omega⟩ ⟨P, by omega⟩ hP]
            show (2 ^ (cb C P).toNat) ^ N = _
            rw [hB, Int.toNat_natCast, ← Nat.pow_mul]
          have hp15 : 2 ^ (B * N) ≤ 2 ^ 15 := Nat.pow_le_pow_right (by omega) hBN
          have hp0 : 0 < 2 ^ (B * N) := Nat.pow_pos (by omega)
          obtain ⟨μ1, l1, l2, l3, l4, l5⟩ := x_tch_loop hBN (B * N) 100000 0 A (wr (wr μa 0 14 (w32 (A : Int))) 0 15 (yshl 1 ((B * N : Nat) : Int))) (by omega) (by omega) (by omega) (by rw [wr_ne (by omega), wr_eq, w32_nat (by omega)]) (by rw [wr_eq]; exact yshl_s ⟨B * N, by omega⟩)
          rw [Int.natCast_zero] at l1
          have ex : f_X9_odds μ (P : Int) (N : Int) t = some (1, μ1) := by
            have e1 : f_X6_waysTo μ (P : Int) (N : Int) t = some ((A : Int), μa) := by
              rw [f_X6_waysTo, x_begin, bd_some, vm, ck_ok (by omega) (by omega) (by omega), w32_id (a := 0) (by omega) (by omega), Int.toNat_zero, wr_cell (j := 13 + 1) (by omega), cpy_cell (j := 13 + 1) (by omega), wr_cell (j := 13 + 1) (by omega), hday.1 0 (by omega)]
              rw [show Sd C (μ 68) (μ 73) 0 0 = μ 73 from rfl] at g1
              rw [g1, bd_some, hA]
            rw [f_X9_odds, x_set hx6 hC hp, if_pos hs, bd_some, if_neg w1ne, hq.w, if_neg (by omega), w32_id (a := 3) (by omega) (by omega), if_neg (by omega), ht.w, if_neg (by omega), w32_id (a := 99) (by omega) (by omega), if_neg (by omega), hx6, w32_nat (i := C) (by omega), if_neg (by omega), e1, bd_some, pm hP, x_bits_m hC, bd_some, show cn C (fun i => P.testBit i) = (B : Int) from hB, ← Int.natCast_mul, f_X9_tellChance, vm, vm, l1, bd_some]
          have hh : ∀ k : Nat, 67 ≤ k → μ1 k = μ k := fun k hk => by rw [l2 k (by omega), wr_cell (by omega), wr_cell (by omega), hxa.hi k hk]
          have hs' := sv_fm μ1
          obtain ⟨μb, k1, k2, k3⟩ := m_odd_loop (Kc := fun x40 x41 m42 => bd (f_X10_tellOdds m42 (w32 x41) (w32 x40)) fun _u m43 => some (1, m43)) (μs := cpy μ1 73 92 0 0 16) (N := N) (P := P) (F := μ 73) (G := t) c2 ((hYM.hi hh).fh hs') ((hVM.hi hh).fh hs') hday.2 hn hN hP (fun i hi => by rw [sv_92 hi, hh 73 (by omega)]) (2 ^ (C * N)) 100000 0 (cpy μ1 73 92 0 0 16) (by omega) (by omega) FH.rf (fun i hi => by rw [cpy_cell (by omega), hh 73 (by omega)])
          rw [Int.natCast_zero, show ct (gdV C (μ 68) (μ 73) P t N) 0 = 0 from rfl, show ct (ptV C P N) 0 = 0 from rfl, Int.natCast_zero, hall, ← hA, w32_nat (i := A) (by omega), w32_nat (i := 2 ^ (B * N)) (by omega), m_tod (by omega) (by omega) hp0, bd_some] at k1
          refine ⟨1, μ1, wr (wr μb 67 11 ((A / Nat.gcd A (2 ^ (B * N)) : Nat) : Int)) 67 12 ((2 ^ (B * N) / Nat.gcd A (2 ^ (B * N)) : Nat) : Int), ex, ?_, (odds_end (μ1 := μ1) h (fun k hk => ?_) (fun p h1 h2 => ?_) (fun p hp => ?_) ?_ ?_ (fun i hi => ?_)).up (Nat.le_succ n)⟩
          · show f_X10_odds μ1 (P : Int) (N : Int) t = _
            rw [f_X10_odds, sm μ1 (hh 67 (by omega)), if_pos hs, bd_some, if_neg w1ne, mi, bd_some, if_pos c1, if_neg w1ne, mj, bd_some, if_pos c2, if_neg w1ne, hh 67 (by omega), hC0, w32_nat (i := C) (by omega), if_neg (by omega), m_save, bd_some]
            exact k1
          · rw [wr_cell (by omega), wr_cell (by omega), k2.1 k (by omega) (by omega), cpy_cell (by omega), l2 k (by omega), wr_cell (by omega), wr_cell (by omega)]
            exact hxa.1 k (by omega)
          · rw [wr_cell (by omega), wr_cell (by omega), k2.1 0 (by omega) (by omega), cpy_cell (by omega), l3 p h1 h2, wr_ne (by omega), wr_ne (by omega), hxa0]
          · rw [wr_ne (by omega), wr_ne (by omega), k2.2 p (by omega) (by omega), cpy_cell (by omega), hh 67 (by omega)]
          · rw [wr_cell (j := 0) (by omega), wr_cell (j := 0) (by omega), k2.1 0 (by omega) (by omega), cpy_cell (by omega), l4, wr_ne (by omega), wr_eq]
          · rw [wr_cell (j := 0) (by omega), wr_cell (j := 0) (by omega), k2.1 0 (by omega) (by omega), cpy_cell (by omega), l5, wr_eq]
          · rw [wr_cell (by omega), wr_cell (by omega)]; exact k3 i hi
      · refine pair_bad h (a := -1) ?_ ?_
        · show f_X9_odds μ p q t = _
          rw [f_X9_odds, x_set hx6 hC hp, if_pos hs, bd_some, if_neg w1ne, hq.w, if_neg (by omega), w32_id (a := 3) (by omega) (by omega), if_neg (by omega), ht.w, w32_id (a := 99) (by omega) (by omega)]
          by_cases c3 : t < 0
          · rw [if_pos c3]
          · rw [if_neg c3, if_pos (by omega)]
        · show f_X10_odds μ p q t = _
          rw [f_X10_odds, sm μ rfl, if_pos hs, bd_some, if_neg w1ne, mi, bd_some, if_pos c1, if_neg w1ne, mj, bd_some, if_neg c2, if_pos w0]
    · refine pair_bad h (a := -1) ?_ ?_
      · show f_X9_odds μ p q t = _
        rw [f_X9_odds, x_set hx6 hC hp, if_pos hs, bd_some, if_neg w1ne, hq.w, w32_id (a := 3) (by omega) (by omega)]
        by_cases c3 : q < 0
        · rw [if_pos c3]
        · rw [if_neg c3, if_pos (by omega)]
      · show f_X10_odds μ p q t = _
        rw [f_X10_odds, sm μ rfl, if_pos hs, bd_some, if_neg w1ne, mi, bd_some, if_neg c1, if_pos w0]
  · refine pair_bad h (a := -1) ?_ ?_
    · show f_X9_odds μ p q t = _
      rw [f_X9_odds, x_set hx6 hC hp, if_neg hs, bd_some, if_pos w0]
    · show f_X10_odds μ p q t = _
      rw [f_X10_odds, sm μ rfl, if_neg hs, bd_some, if_pos w0]
