theorem p_at {n : Nat} {p q : Int} (hp : inR p) (hq : inR q) : Pair n (fun μ => f_X9_at μ p q) (fun μ => f_X10_at μ p q) := by
  intro μ h
  by_cases hr : 0 ≤ p ∧ p < ((6 : Nat) : Int)
  · obtain ⟨r, hr6, rfl⟩ := nat_of hr
    have hI := h.1
    obtain ⟨h1, h2, h3⟩ := hI.sz hr6
    obtain ⟨⟨b1, b2⟩, -, hc⟩ := hI r hr6
    have key : ∀ μ1 : Mem, μ1 76 = μ 76 → f_X10_at μ1 (r : Int) q = if μ 76 r < 0 then f_X10_finds μ1 1 else if 0 ≤ q ∧ q < μ 76 r then some (1, wr μ1 67 10 (μ1 77 (40 * r + q.toNat))) else f_X10_finds μ1 2 := by
      intro μ1 e
      simp (disch := omega) only [f_X10_at, m_isRow1 hr6, bd_some, if_neg w1ne, ck_ok, w32_nat, Int.toNat_natCast, e, h1.w, hq.w, bd_ret]
      by_cases c : μ 76 r < 0
      · rw [if_pos c, if_pos c]
      · rw [if_neg c, if_neg c, w32_id (a := μ 76 r - 1) (by omega) (by omega), m_in hq ⟨by omega, by omega⟩ ⟨by omega, by omega⟩, bd_some, ite_w]
        by_cases c1 : 0 ≤ q ∧ q ≤ μ 76 r - 1
        · rw [if_pos c1, if_pos (by omega)]
          simp (disch := omega) only [ck_ok, vm, w32_id]
          rw [show (40 * (r : Int) + q).toNat = 40 * r + q.toNat by omega]
        · rw [if_neg c1, if_neg (by omega)]
    have kx : f_X9_at μ (r : Int) q = if μ 76 r < 0 then f_X9_found μ 1 else if 0 ≤ q ∧ q < μ 76 r then some (1, wr μ 0 13 (μ (38 + 2 * r + 1) q.toNat)) else f_X9_found μ 2 := by
      unfold f_X9_at
      rw [x_place hr6 hI hq]
      by_cases c : μ 76 r < 0
      · rw [if_pos c, if_pos c, x_found (by omega) (by omega), bd_some, w32_id (by omega) (by omega), if_neg (by omega)]
      · rw [if_neg c, if_neg c]
        by_cases c1 : 0 ≤ q ∧ q < μ 76 r
        · rw [if_pos c1, if_pos c1, bd_some, if_pos w0]
          simp (disch := omega) only [ck_ok, vm, w32_nat, Int.toNat_natCast, hq.w]
        · rw [if_neg c1, if_neg c1, x_found (by omega) (by omega), bd_some, w32_id (by omega) (by omega), if_neg (by omega)]
    by_cases c : μ 76 r < 0
    · refine pair_fnd h 1 (by omega) (by omega) ?_ (fun μ1 e => ?_)
      · show f_X9_at μ (r : Int) q = _
        rw [kx, if_pos c]
      · show f_X10_at μ1 (r : Int) q = _
        rw [key μ1 (e 76 (by omega) (by omega)), if_pos c]
    · by_cases c1 : 0 ≤ q ∧ q < μ 76 r
      · obtain ⟨i, rfl⟩ : ∃ i : Nat, q = (i : Int) := ⟨q.toNat, by omega⟩
        refine ⟨1, _, _, by show f_X9_at μ (r : Int) (i : Int) = _; rw [kx, if_neg c, if_pos c1], by show f_X10_at _ (r : Int) (i : Int) = _; rw [key _ (by rw [wr_cell (by omega)]), if_neg c, if_pos c1], ?_⟩
        rw [Int.toNat_natCast, wr_cell (j := 77) (by omega), (hc i c1.2).1]
        exact (h.up (Nat.le_succ n)).told
      · refine pair_fnd h 2 (by omega) (by omega) ?_ (fun μ1 e => ?_)
        · show f_X9_at μ (r : Int) q = _
          rw [kx, if_neg c, if_neg c1]
        · show f_X10_at μ1 (r : Int) q = _
          rw [key μ1 (e 76 (by omega) (by omega)), if_neg c, if_neg c1]
  · refine pair_bad h (a := -1) ?_ ?_
    · simp only [f_X9_at, f_X9_placeRefusal, x_isRow0 hp hr, bd_some, if_pos w0]
      rw [w32_id (by omega) (by omega), if_neg (by omega)]
    · simp only [f_X10_at, m_isRow0 hp hr, bd_some, if_pos w0]
theorem p_tear {n : Nat} {p : Int} (hp : inR p) : Pair n (fun μ => f_X9_tear μ p) (fun μ => f_X10_tear μ p) := by
  intro μ h
  by_cases hr : 0 ≤ p ∧ p < ((6 : Nat) : Int)
  · obtain ⟨r, hr6, rfl⟩ := nat_of hr
    have hI := h.1
    obtain ⟨h1, h2, h3⟩ := hI.sz hr6
    by_cases c : μ 76 r < 0
    · refine pair_fnd h 1 (by omega) (by omega) ?_ (fun μ1 e => ?_)
      · simp (disch := omega) only [f_X9_tear, x_isRow1 hr6, bd_some, if_neg w1ne, ck_ok, w32_nat, Int.toNat_natCast, x_there h2, bd_ret]
        rw [h3, if_pos c, if_pos w0]
      · simp (disch := omega) only [f_X10_tear, m_isRow1 hr6, bd_some, if_neg w1ne, ck_ok, w32_nat, Int.toNat_natCast, e 76 (by omega) (by omega), h1.w, bd_ret]
        rw [if_pos c]
    · refine ⟨1, wr μ (38 + 2 * r) 1 (-1), wr (wr μ (38 + 2 * r) 1 (-1)) 76 r (-1), ?_, ?_, ?_⟩
      · simp (disch := omega) only [f_X9_tear, x_isRow1 hr6, bd_some, if_neg w1ne, ck_ok, w32_nat, Int.toNat_natCast, x_there h2, bd_ret, vm]
        rw [h3, if_neg c, if_neg w1ne]
      · simp (disch := omega) only [f_X10_tear, m_isRow1 hr6, bd_some, if_neg w1ne, ck_ok, w32_nat, Int.toNat_natCast, wr_cell, h1.w, bd_ret, vm]
        rw [if_neg c]
      · obtain ⟨i1, i2, i3, i4, i5, i6, i7⟩ := h.up (Nat.le_succ n)
        refine ⟨fun s hs => ?_, i2.cg ?_, i3.cg ?_ ?_ ?_, i4.cg ?_, i5.cg ?_ ?_, i6.cg ?_, i7.cg ?_ ?_ ?_⟩
        · obtain ⟨g1, g2, g3⟩ := i1 s hs
          by_cases e : s = r
          · subst e
            refine ⟨?_, ?_, fun i hi => ?_⟩
            · rw [wr_eq]; omega
            · rw [wr_ne (by omega), wr_eq, wr_eq]
            · rw [wr_eq] at hi; omega
          · have e1 : wr (wr μ (38 + 2 * r) 1 (-1)) 76 r (-1) 76 s = μ 76 s := by
              rw [wr_ne (by omega), wr_ne (by omega)]
            rw [e1]
            refine ⟨g1, ?_, fun i hi => ?_⟩
            · rw [wr_ne (by omega), wr_ne (by omega)]; exact g2
            · rw [wr_ne (by omega), wr_ne (by omega), wr_ne (by omega), wr_ne (by omega)]
              exact g3 i hi
        all_goals try (intro k hk; rw [wr_cell (by omega), wr_cell (by omega)])
        all_goals try (rw [wr_cell (by omega), wr_cell (by omega)])
  · refine pair_bad h (a := -1) ?_ ?_
    · simp only [f_X9_tear, x_isRow0 hp hr, bd_some, if_pos w0]
    · simp only [f_X10_tear, m_isRow0 hp hr, bd_some, if_pos w0]
/-! sums -/
def smf (f : Nat → Int) : Nat → Nat → Int
  | _, 0 => 0
  | i, m + 1 => w32 (f i) + smf f (i + 1) m
theorem smf_cg {f g : Nat → Int} : ∀ (m i j : Nat), (∀ k, k < m → f (i + k) = g (j + k)) → smf f i m = smf g j m := by
  intro m
  induction m with
  | zero => intro i j h; rfl
  | succ m ih =>
    intro i j h
    unfold smf
    rw [show f i = g j from h 0 (by omega), ih (i + 1) (j + 1) (fun k hk => by
      rw [show i + 1 + k = i + (k + 1) by omega, show j + 1 + k = j + (k + 1) by omega]
      exact h (k + 1) (by omega))]
theorem sum_loop {t n : Nat} (hn : n ≤ 40) : ∀ (m u i : Nat) (acc : Int) (μ : Mem), μ t 1 = (n : Int) → i + m = n → m < u → f_X5_sum_L4 t u acc (i : Int) μ = some (acc + smf (μ (t + 1)) i m, μ) := by
  intro m
  induction m with
  | zero =>
    intro u i acc μ hz hi hu
    obtain ⟨u, rfl⟩ : ∃ v, u = v + 1 := ⟨u - 1, by omega⟩
    simp (disch := omega) only [f_X5_sum_L4, w32_nat, hz]
    rw [if_neg (by omega)]
    simp [smf]
  | succ m ih =>
    intro u i acc μ hz hi hu
    obtain ⟨u, rfl⟩ : ∃ v, u = v + 1 := ⟨u - 1, by omega⟩
    simp (disch := omega) only [f_X5_sum_L4, w32_nat, hz, ck_ok, vl, Int.toNat_natCast]
    rw [if_pos (by omega)]
    have := ih u (i + 1) (acc + w32 (μ (t + 1) i)) μ hz (by omega) (by omega)
    rw [show ((i + 1 : Nat) : Int) = (i : Int) + 1 by omega] at this
    rw [this, smf]
    congr 2; omega
theorem mean_loop {K : Int → Mem → Option (Int × Mem)} {r n : Nat} (hr : r < 6) (hn : n ≤ 40) : ∀ (m u i : Nat) (acc : Int) (μ : Mem), μ 76 r = (n : Int) → i + m = n → m < u → f_X10_mean_L44 K (r : Int) u acc (i : Int) μ = K (acc + smf (μ 77) (40 * r + i) m) μ := by
  intro m
  induction m with
  | zero =>
    intro u i acc μ hz hi hu
    obtain ⟨u, rfl⟩ : ∃ v, u = v + 1 := ⟨u - 1, by omega⟩
    simp (disch := omega) only [f_X10_mean_L44, w32_nat, hz, ck_ok, Int.toNat_natCast]
    rw [if_neg (by omega)]
    simp [smf]
  | succ m ih =>
    intro u i acc μ hz hi hu
    obtain ⟨u, rfl⟩ : ∃ v, u = v + 1 := ⟨u - 1, by omega⟩
    simp (disch := omega) only [f_X10_mean_L44, w32_nat, hz, ck_ok, vl, Int.toNat_natCast, w32_id]
    rw [if_pos (by omega), show (40 * (r : Int) + (i : Int)).toNat = 40 * r + i by omega]
    have := ih u (i + 1) (acc + w32 (μ 77 (40 * r + i))) μ hz (by omega) (by omega)
    rw [show ((i + 1 : Nat) : Int) = (i : Int) + 1 by omega] at this
    rw [this, smf]
    congr 1; rw [Nat.add_assoc]; omega
theorem sum_all {t n : Nat} (hn : n ≤ 40) (μ : Mem) (hz : μ t 1 = (n : Int)) : f_X5_sum μ t = some (smf (μ (t + 1)) 0 n, μ) := by
  have hl := sum_loop hn n 100000 0 0 μ hz (by omega) (by omega)
  rw [Int.zero_add, Int.natCast_zero] at hl
  rw [f_X5_sum, hl]
theorem mean_all {K : Int → Mem → Option (Int × Mem)} {r n : Nat} (hr : r < 6) (hn : n ≤ 40) (μ : Mem) (hz : μ 76 r = (n : Int)) : f_X10_mean_L44 K (r : Int) 100000 0 0 μ = K (smf (μ 77) (40 * r) n) μ := by
  have hl := mean_loop (K := K) hr hn n 100000 0 0 μ hz (by omega) (by omega)
  rw [Int.zero_add, Int.natCast_zero, Nat.add_zero] at hl
  exact hl
theorem p_mean {n : Nat} {p : Int} (hp : inR p) : Pair n (fun μ => f_X9_mean μ p) (fun μ => f_X10_mean μ p) := by
  intro μ h
  by_cases hr : 0 ≤ p ∧ p < ((6 : Nat) : Int)
  · obtain ⟨r, hr6, rfl⟩ := nat_of hr
    have hI := h.1
    obtain ⟨h1, h2, h3⟩ := hI.sz hr6
    obtain ⟨⟨b1, b2⟩, -, hc⟩ := hI r hr6
    by_cases c : μ 76 r < 0
    · refine pair_fnd h 1 (by omega) (by omega) ?_ (fun μ1 e => ?_)
      · simp -implicitDefEqProofs (disch := omega) only [f_X9_mean, x_isRow1 hr6, bd_some, if_neg w1ne, ck_ok, w32_nat, Int.toNat_natCast, x_there h2, bd_ret]
        rw [h3, if_pos c, if_pos w0]
      · simp (disch := omega) only [f_X10_mean, m_isRow1 hr6, bd_some, if_neg w1ne, ck_ok, w32_nat, Int.toNat_natCast, e 76 (by omega) (by omega), h1.w, bd_ret]
        rw [if_pos c]
    · by_cases c0 : μ 76 r = 0
      · refine pair_fnd h 4 (by omega) (by omega) ?_ (fun μ1 e => ?_)
        · simp -implicitDefEqProofs (disch := omega) only [f_X9_mean, x_isRow1 hr6, bd_some, if_neg w1ne, ck_ok, w32_nat, Int.toNat_natCast, x_there h2, bd_ret, vl, h2.w]
          rw [h3, if_neg c, if_neg w1ne, if_pos c0]
        · simp (disch := omega) only [f_X10_mean, m_isRow1 hr6, bd_some, if_neg w1ne, ck_ok, w32_nat, Int.toNat_natCast, e 76 (by omega) (by omega), h1.w, bd_ret]
          rw [if_neg c, if_pos c0]
      · obtain ⟨N, hN⟩ : ∃ N : Nat, μ 76 r = (N : Int) := ⟨(μ 76 r).toNat, by omega⟩
        have hs : smf (μ (38 + 2 * r + 1)) 0 N = smf (μ 77) (40 * r) N := smf_cg N 0 (40 * r) (fun k hk => by
          rw [Nat.zero_add]; exact (hc k (by omega)).1)
        have hsx : f_X5_sum μ (38 + 2 * r) = some (smf (μ 77) (40 * r) N, μ) := by
          rw [sum_all (t := 38 + 2 * r) (n := N) (by omega) μ (by rw [h3, hN]), hs]
        refine ⟨1, wr μ 0 13 (ydiv (smf (μ 77) (40 * r) N) N), wr (wr μ 0 13 (ydiv (smf (μ 77) (40 * r) N) N)) 67 10 (ydiv (smf (μ 77) (40 * r) N) N), ?_, ?_, (h.up (Nat.le_succ n)).told⟩
        · simp -implicitDefEqProofs (disch := omega) only [f_X9_mean, x_isRow1 hr6, bd_some, if_neg w1ne, ck_ok, w32_nat, Int.toNat_natCast, x_there h2, bd_ret, vl, h2.w, h3, hN, hsx, ckl_ok, vm]
          rw [if_neg (show ¬ ((N : Int) < 0) by omega), if_neg w1ne, if_neg (show ¬ ((N : Int) = 0) by omega)]
        · have e7 : (wr μ 0 13 (ydiv (smf (μ 77) (40 * r) N) N)) 76 = μ 76 := wr_cell (by omega)
          have e8 : (wr μ 0 13 (ydiv (smf (μ 77) (40 * r) N) N)) 77 = μ 77 := wr_cell (by omega)
          simp (disch := omega) only [f_X10_mean, m_isRow1 hr6, bd_some, if_neg w1ne, ck_ok, w32_nat, Int.toNat_natCast, bd_ret, e7, hN]
          rw [if_neg (show ¬ ((N : Int) < 0) by omega), if_neg (show ¬ ((N : Int) = 0) by omega), mean_all hr6 (n := N) (by omega) _ (by rw [e7, hN])]
          simp (disch := omega) only [ck_ok, w32_nat, Int.toNat_natCast, e7, e8, hN, ckl_ok, vm]
  · refine pair_bad h (a := -1) ?_ ?_
    · simp only [f_X9_mean, x_isRow0 hp hr, bd_some, if_pos w0]
    · simp only [f_X10_mean, m_isRow0 hp hr, bd_some, if_pos w0]
