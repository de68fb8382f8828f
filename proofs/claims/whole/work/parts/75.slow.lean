/-! slowest -/
theorem lur_pld {C : Nat} {K F : Nat → Int} {s s' : Nat} (h : pld K F (fun b => s.testBit b) = pld K F (fun b => s'.testBit b)) : lur C K F s = lur C K F s' := by
  unfold lur
  rw [h]
theorem lur_bit {C : Nat} {K F : Nat → Int} {s : Nat} (h : lur C K F s = 0) {i : Nat} (hi : i < C) : (s.testBit i && abl K F i && frl K F i) = false := by
  have := msk_bit C (fun i => pld K F (fun b => s.testBit b) i && frl K F i) i
  have h' : msk C (fun i => pld K F (fun b => s.testBit b) i && frl K F i) = 0 := h
  rw [h', Nat.zero_testBit] at this
  simp only [hi, decide_true, Bool.true_and] at this
  exact this.symm
theorem lur_0 {C : Nat} {K F : Nat → Int} {s : Nat} (h : ∀ i : Nat, i < C → (s.testBit i && abl K F i && frl K F i) = false) : lur C K F s = 0 := msk_0 h
theorem pld_safe {C M j : Nat} {K F : Nat → Int} (hM : M = msk C (fun i => abl K F i && !(frl K F i))) (hj : j < 2 ^ C) (h : lur C K F j = 0) : pld K F (fun b => (j &&& M).testBit b) = pld K F (fun b => j.testBit b) := by
  funext i
  show ((j &&& M).testBit i && abl K F i) = (j.testBit i && abl K F i)
  rw [Nat.testBit_and, hM, msk_bit]
  by_cases c : i < C
  · have := lur_bit h c
    revert this
    simp only [c, decide_true, Bool.true_and]
    cases j.testBit i <;> cases abl K F i <;> cases frl K F i <;> simp
  · have : j.testBit i = false := Nat.testBit_lt_two_pow (Nat.lt_of_lt_of_le hj (Nat.pow_le_pow_right (by omega) (by omega)))
    simp [this]
theorem Hs_blk {C : Nat} {K F : Nat → Int} {d c j j' m r : Nat} (hj : j < 2 ^ C) (hj' : j' < 2 ^ C) (h : pld K (Sd C K F d c) (fun b => j.testBit b) = pld K (Sd C K F d c) (fun b => j'.testBit b)) (hrr : r < (2 ^ C) ^ m) :
    Hs C K F (d + 1 + m) ((c * 2 ^ C + j) * (2 ^ C) ^ m + r) = Hs C K F (d + 1 + m) ((c * 2 ^ C + j') * (2 ^ C) ^ m + r) := by
  have hW : 0 < 2 ^ C := Nat.pow_pos (by omega)
  obtain ⟨a1, a2⟩ := chd (c := c) hW hj
  obtain ⟨b1, b2⟩ := chd (c := c) hW hj'
  have hS : Sd C K F (d + 1) (c * 2 ^ C + j) = Sd C K F (d + 1) (c * 2 ^ C + j') := by rw [Sd, Sd, a1, a2, b1, b2]; exact hr_pld h
  have hc : Cv C K F (d + 1) (c * 2 ^ C + j) = Cv C K F (d + 1) (c * 2 ^ C + j') := by rw [Cv, Cv, a1, a2, b1, b2, lur_pld h]
  unfold Hs
  rw [Sd_cg hS m r hrr, Cv_cg hS hc m r hrr]
theorem Hs_no {C : Nat} {K F : Nat → Int} {d c j m r : Nat} (hj : j < 2 ^ C) (h : lur C K (Sd C K F d c) j ≠ 0) (hrr : r < (2 ^ C) ^ m) : Hs C K F (d + 1 + m) ((c * 2 ^ C + j) * (2 ^ C) ^ m + r) = -1000000 := by
  have hW : 0 < 2 ^ C := Nat.pow_pos (by omega)
  obtain ⟨a1, a2⟩ := chd (c := c) hW hj
  have hc : Cv C K F (d + 1) (c * 2 ^ C + j) = false := by
    rw [Cv, a1, a2]
    simp [h]
  unfold Hs
  rw [Cv_no hc m r hrr, if_neg (by simp)]
theorem Cv_0 {C : Nat} {K F : Nat → Int} : ∀ d : Nat, Cv C K F d 0 = true := by
  intro d
  induction d with
  | zero => rfl
  | succ d ih =>
    rw [Cv, Nat.zero_div, Nat.zero_mod, ih, lur_0 (fun i _ => by simp)]
    rfl
theorem x_slow_seek {n N : Nat} {C V : Nat} {K lt fr tt wo F : Nat → Int} (hF : DB n F) (hn : n ≤ 900) (hN : N ≤ 3) : ∀ (m d c u : Nat) (μ : Mem), d + m = N → m < u → YX μ C K → μ 22 3 = (N : Int) → Cv C K F d c = true → (d < N → ∀ j : Nat, j < 16 → μ (26 + 2 * d + 1) j = Sd C K F d c j) → (∀ k : Nat, k < d → μ 24 k = (dg C d c k : Nat)) → okG C N (Hs C K F N) 1000 (fun x => -x) (c * (2 ^ C) ^ m) μ →
    ∃ μ' : Mem, f_X6_seekSlowest u μ (d : Int) (Sd C K F d c 0) = some ((), μ') ∧ FS (26 + 2 * d) d μ μ' ∧ (d < N → μ' (26 + 2 * d + 1) = μ (26 + 2 * d + 1)) ∧ okG C N (Hs C K F N) 1000 (fun x => -x) ((c + 1) * (2 ^ C) ^ m) μ' := by
  intro m
  induction m with
  | zero =>
    intro d c u μ hdm hu hY h3 hcv hday hpl hok
    obtain ⟨u, rfl⟩ : ∃ v, u = v + 1 := ⟨u - 1, by omega⟩
    have hC := hY.1
    have hdN : d = N := by omega
    subst hdN
    rw [Nat.pow_zero, Nat.mul_one] at hok ⊢
    have hG := Hs_b (K := K) hF hC d c
    have hSH : Sd C K F d c 0 = -(Hs C K F d c) := by unfold Hs; rw [if_pos hcv]; omega
    rw [hSH]
    have st : f_X6_seekSlowest (u + 1) μ (d : Int) (-(Hs C K F d c)) = if -(Hs C K F d c) < w32 (μ 22 4) then some ((), cpy (wr μ 22 4 (-(Hs C K F d c))) 24 25 0 0 3) else some ((), μ) := by
      rw [f_X6_seekSlowest, f_X6_seekSlowest_B, jn, h3, if_neg (by omega), w32_id (a := -(Hs C K F d c)) (by omega) (by omega)]
      dsimp only
      rw [x_setF, bd_some]
    have tk : (∀ e' : Nat, e' < c → Hs C K F d e' < Hs C K F d c) → -(Hs C K F d c) < w32 (μ 22 4) → ∃ μ' : Mem, f_X6_seekSlowest (u + 1) μ (d : Int) (-(Hs C K F d c)) = some ((), μ') ∧ FS (26 + 2 * d) d μ μ' ∧ (d < d → μ' (26 + 2 * d + 1) = μ (26 + 2 * d + 1)) ∧ okG C d (Hs C K F d) 1000 (fun x => -x) (c + 1) μ' := fun hs hlt => by
      refine ⟨_, st.trans (if_pos hlt), ⟨fun k h1 h2 h3 h4 => ?_, fun p h1 _ _ => ?_, fun k hk => ?_⟩, fun hh => by omega, okG_take (rd := fun x => -x) hN hs hpl⟩
      · rw [cpy_cell h3, wr_cell h1]
      · rw [cpy_cell (by omega), wr_ne (by omega)]
      · rw [cpy_cell (by omega), wr_cell (by omega)]
    rcases hok with ⟨h1, h2⟩ | ⟨b, ⟨b1, b2, b3⟩, b4, b5⟩
    · refine tk (fun e' he => by omega) ?_
      have hD := (Sd_DB (K := K) hF hC d c).1
      rw [h2, w32_id (by omega) (by omega)]; omega
    · have hGb := Hs_b (K := K) hF hC d b
      dsimp only at b4
      by_cases cc : Hs C K F d b < Hs C K F d c
      · refine tk (fun e' he => ?_) ?_
        · have := b2 e' he; omega
        · rw [b4, w32_id (by omega) (by omega)]; omega
      · refine ⟨μ, ?_, FS.rf, fun _ => rfl, okG_skip (Or.inr ⟨b, ⟨b1, b2, b3⟩, b4, b5⟩) (Nat.le_succ c) (fun e e1 e2 => ⟨b, b1, ?_⟩)⟩
        · rw [st, if_neg]
          rw [b4, w32_id (by omega) (by omega)]; omega
        · rw [show e = c by omega]; omega
  | succ m ih =>
    intro d c u μ hdm hu hY h3 hcv hday hpl hok
    obtain ⟨u, rfl⟩ : ∃ v, u = v + 1 := ⟨u - 1, by omega⟩
    have hC := hY.1
    have h32 := pow5 hC
    have hWp : 0 < 2 ^ C := Nat.pow_pos (by omega)
    have hBp : 0 < (2 ^ C) ^ m := Nat.pow_pos hWp
    have hdN : d < N := by omega
    have hD := Sd_DB (K := K) hF hC d c
    obtain ⟨μ8, a1, a2, a3, a4⟩ := x_lk1 (t := 26 + 2 * d) (by omega) hY (hD.fb (by omega)) (hday hdN)
    have hday8 : ∀ j : Nat, j < 16 → μ8 (26 + 2 * d + 1) j = Sd C K F d c j := fun j hj => by rw [a2 _ (by simp)]; exact hday hdN j hj
    have e8 : ∀ k : Nat, k ≠ 26 + 2 * d → μ8 k = μ k := fun k hk => a2 k (by simp; exact hk)
    have hY8 : YX μ8 C K := hY.cg (fun k hk => e8 k (by omega))
    obtain ⟨M, hM⟩ : ∃ M : Nat, M = msk C (fun i => abl K (Sd C K F d c) i && !(frl K (Sd C K F d c) i)) := ⟨_, rfl⟩
    have hM32 : M < 2 ^ C := by rw [hM]; exact msk_lt _ _
    have skip : ∀ (i hi : Nat) (μ' : Mem), 1 ≤ i → i ≤ hi → hi ≤ 2 ^ C → (∀ j : Nat, i ≤ j → j < hi → (j &&& M) < i) → okG C N (Hs C K F N) 1000 (fun x => -x) ((c * 2 ^ C + i) * (2 ^ C) ^ m) μ' → okG C N (Hs C K F N) 1000 (fun x => -x) ((c * 2 ^ C + hi) * (2 ^ C) ^ m) μ' := fun i hi μ' h0 h1 h2 hj hq => by
      refine okG_skip hq (Nat.mul_le_mul_right _ (by omega)) (fun e e1 e2 => ?_)
      obtain ⟨q1, q2, q3, q4⟩ := blk hBp e1 e2
      obtain ⟨j, hjj⟩ : ∃ j : Nat, e / (2 ^ C) ^ m = c * 2 ^ C + j := ⟨e / (2 ^ C) ^ m - c * 2 ^ C, by omega⟩
      rw [hjj] at q1 q3 q4
      by_cases cl : lur C K (Sd C K F d c) j = 0
      · refine ⟨(c * 2 ^ C + (j &&& M)) * (2 ^ C) ^ m + e % (2 ^ C) ^ m, blk_lt (by have := hj j (by omega) (by omega); omega) q2, ?_⟩
        have hs := Hs_blk (C := C) (K := K) (F := F) (d := d) (c := c) (m := m) (j := j) (j' := j &&& M) (r := e % (2 ^ C) ^ m) (by omega) (Nat.lt_of_le_of_lt Nat.and_le_left (by omega)) (pld_safe hM (by omega) cl).symm q2
        rw [show d + 1 + m = N by omega, ← q1] at hs
        rw [hs]
        exact Int.le_refl _
      · refine ⟨(c * 2 ^ C + 0) * (2 ^ C) ^ m + e % (2 ^ C) ^ m, blk_lt (by omega) q2, ?_⟩
        have hs := Hs_no (C := C) (K := K) (F := F) (d := d) (c := c) (m := m) (j := j) (r := e % (2 ^ C) ^ m) (by omega) cl q2
        rw [show d + 1 + m = N by omega, ← q1] at hs
        rw [hs]
        exact (Hs_b hF hC N _).1
    have loop : ∀ (t v i : Nat) (μ' : Mem), i + t = 2 ^ C → t < v → FS (28 + 2 * d) d μ8 μ' → okG C N (Hs C K F N) 1000 (fun x => -x) ((c * 2 ^ C + i) * (2 ^ C) ^ m) μ' →
        ∃ μ'' : Mem, f_X6_seekSlowest_L59 (f_X6_seekSlowest u) (d : Int) (M : Int) v (i : Int) μ' = some ((), μ'') ∧ FS (28 + 2 * d) d μ8 μ'' ∧ okG C N (Hs C K F N) 1000 (fun x => -x) ((c * 2 ^ C + 2 ^ C) * (2 ^ C) ^ m) μ'' := by
      intro t
      induction t with
      | zero =>
        intro v i μ' hi hv hf hq
        obtain ⟨v, rfl⟩ : ∃ w, v = w + 1 := ⟨v - 1, by omega⟩
        refine ⟨μ', ?_, hf, ?_⟩
        · rw [f_X6_seekSlowest_L59, w32_nat (i := M) (by omega), w32_nat (i := i) (by omega), if_pos (by omega)]
        · rw [show i = 2 ^ C by omega] at hq
          exact hq
      | succ t iht =>
        intro v i μ' hi hv hf hq
        obtain ⟨v, rfl⟩ : ∃ w, v = w + 1 := ⟨v - 1, by omega⟩
        obtain ⟨s1, s2, s3, s4, s5, s6⟩ := sub_32 (i := i) (M := M) (by omega) (by omega)
        by_cases c1 : M < i
        · refine ⟨μ', ?_, hf, skip i (2 ^ C) μ' (by omega) (by omega) (Nat.le_refl _) (fun j _ _ => ?_) hq⟩
          · rw [f_X6_seekSlowest_L59, w32_nat (i := M) (by omega), w32_nat (i := i) (by omega), if_pos (by omega)]
          · have : (j &&& M) ≤ M := Nat.and_le_right
            omega
        · by_cases c2 : (i &&& (31 ^^^ M)) = 0
          · have hY' : YX μ' C K := hY8.cg (fun k hk => hf.1 k (by omega) (by omega) (by omega) (by omega))
            obtain ⟨μ2, g1, g2, g3, g4, g5⟩ := x_step (F := Sd C K F d c) (N := N) (d := d) (s := i) hY' hD (by omega) hN (by rw [hf.2.1 3 (by omega) (by omega) (by omega), e8 22 (by omega)]; exact h3) hdN (by omega) (fun j hj => by rw [hf.1 _ (by omega) (by omega) (by omega) (by omega)]; exact hday8 j hj)
            have hf2 := hf.tr g2
            have hY2 : YX μ2 C K := hY'.cg (fun k hk => g2.1 k (by omega) (by omega) (by omega) (by omega))
            have hbh := x_bh (t := 26 + 2 * d) (by omega) hY2 (hD.fb (by omega)) (fun j hj => by rw [hf2.1 _ (by omega) (by omega) (by omega) (by omega)]; exact hday8 j hj) (by rw [hf2.1 _ (by omega) (by omega) (by omega) (by omega)]; exact a3) (by rw [hf2.1 _ (by omega) (by omega) (by omega) (by omega)]; exact a4) (fun b => i.testBit b)
            rw [← pm (C := C) (P := i) (by omega)] at hbh
            have hmin : Sd C K F d c 0 + stp C K (Sd C K F d c) (fun b => i.testBit b) = Sd C K F (d + 1) (c * 2 ^ C + i) 0 := by
              rw [Sd, (chd hWp (show i < 2 ^ C by omega)).1, (chd hWp (show i < 2 ^ C by omega)).2, hr_0]
            rw [hmin] at hbh
            have hcl : lur C K (Sd C K F d c) i = 0 := lur_0 (fun b hb => by
              have hz : (i &&& (31 ^^^ M)).testBit b = false := by rw [c2]; exact Nat.zero_testBit b
              have h31 : Nat.testBit 31 b = true := by
                have : ∀ j : Fin 5, Nat.testBit 31 j = true := by decide
                exact this ⟨b, by omega⟩
              rw [Nat.testBit_and, Nat.testBit_xor, h31, hM, msk_bit] at hz
              simp only [hb, decide_true, Bool.true_and] at hz
              revert hz
              cases i.testBit b <;> cases abl K (Sd C K F d c) b <;> cases frl K (Sd C K F d c) b <;> simp)
            obtain ⟨μ3, k1, k2, -, k4⟩ := ih (d + 1) (c * 2 ^ C + i) u μ2 (by omega) (by omega) hY2 (by rw [hf2.2.1 3 (by omega) (by omega) (by omega), e8 22 (by omega)]; exact h3) (by rw [Cv, (chd hWp (show i < 2 ^ C by omega)).1, (chd hWp (show i < 2 ^ C by omega)).2, hcv, hcl]; rfl) (fun hh j hj => by
              rw [g5 hh j hj, Sd, (chd hWp (show i < 2 ^ C by omega)).1, (chd hWp (show i < 2 ^ C by omega)).2]) (fun k hk => by
              by_cases g : k = d
              · subst g; rw [g3, dg_la (by omega)]
              · rw [hf2.2.2 k (by omega), e8 24 (by omega), hpl k (by omega), dg_ch (by omega) (by omega)]) (okG_cg hq (by rw [g4 22 (by omega)]) (g4 25 (by omega)))
            have hf3 : FS (28 + 2 * d) d μ8 μ3 := hf2.tr (k2.mono (by omega) (by omega))
            obtain ⟨μ4, l1, l2, l3⟩ := iht v (i + 1) μ3 (by omega) (by omega) hf3 k4
            rw [show ((i + 1 : Nat) : Int) = (i : Int) + 1 by omega] at l1
            refine ⟨μ4, ?_, l2, l3⟩
            rw [f_X6_seekSlowest_L59, w32_nat (i := M) (by omega), w32_nat (i := i) (by omega), if_neg (by omega), jn, s1, c2, Int.natCast_zero, if_pos w0, g1, bd_some, w32_nat (i := d) (by omega), Int.toNat_natCast, hbh, bd_some, show (d : Int) + 1 = ((d + 1 : Nat) : Int) by omega, k1, bd_some]
            exact l1
          · have hi1 : 1 ≤ i := by
              by_cases g : i = 0
              · subst g; exact absurd (Nat.zero_and _) c2
              · omega
            obtain ⟨μ4, l1, l2, l3⟩ := iht v (i + 1) μ' (by omega) (by omega) hf (skip i (i + 1) μ' hi1 (by omega) (by omega) (fun j j1 j2 => by rw [show j = i by omega]; exact s3 c2) hq)
            rw [show ((i + 1 : Nat) : Int) = (i : Int) + 1 by omega] at l1
            refine ⟨μ4, ?_, l2, l3⟩
            rw [f_X6_seekSlowest_L59, w32_nat (i := M) (by omega), w32_nat (i := i) (by omega), if_neg (by omega), jn, s1, w32_nat (by omega), if_neg (by omega)]
            exact l1
    have h0 := hD.1
    have hok8 : okG C N (Hs C K F N) 1000 (fun x => -x) ((c * 2 ^ C + 0) * (2 ^ C) ^ m) μ8 := by
      rw [Nat.add_zero, Nat.mul_assoc, ← Nat.pow_succ']
      exact okG_cg hok (by rw [e8 22 (by omega)]) (e8 25 (by omega))
    obtain ⟨μ9, l1, l2, l3⟩ := loop (2 ^ C) 100000 0 μ8 (by omega) (by omega) FS.rf hok8
    rw [Int.natCast_zero] at l1
    have hf9 : FS (26 + 2 * d) d μ μ9 := FS.tr ⟨fun k k1 k2 k3 k4 => e8 k (by omega), fun p _ _ _ => by rw [e8 22 (by omega)], fun k hk => by rw [e8 24 (by omega)]⟩ (l2.mono (by omega) (Nat.le_refl _))
    refine ⟨μ9, ?_, hf9, fun _ => ?_, ?_⟩
    · rw [f_X6_seekSlowest, f_X6_seekSlowest_B, jn, h3, w32_nat (i := d) (by omega), w32_nat (i := N) (by omega), if_pos (by omega), w32_id (a := 3) (by omega) (by omega), if_pos (by omega), ck_ok (by omega) (by omega) (by omega), Int.toNat_natCast, a1, bd_some, a3, a4, zandn_m hC, ← hM, vl]
      exact l1
    · rw [l2.1 _ (by omega) (by omega) (by omega) (by omega), e8 _ (by omega)]
    · rw [Nat.pow_succ', ← Nat.mul_assoc, Nat.add_mul, Nat.one_mul]
      exact l3
theorem p_slowest {n : Nat} (hn : n ≤ 900) {p q : Int} (hp : inR p) (hq : inR q) : Pair n (fun μ => f_X9_slowest μ p q) (fun μ => f_X10_slowest μ p q) := by
  intro μ h
  obtain ⟨C, V, hC0, hV0, hYX, hYM, hVX, hVM⟩ := h.yr
  have hC := hYX.1
  have h32 := pow5 hC
  have hx6 := hYX.2.1
  have hday := h.2.2.2.1
  have mi : ∀ μ1 : Mem, f_X10_in μ1 (w32 p) 0 3 = some (if 0 ≤ p ∧ p ≤ 3 then 1 else 0, μ1) := fun μ1 => by
    rw [hp.w]; exact m_in hp ⟨by omega, by omega⟩ ⟨by omega, by omega⟩
  by_cases c : 0 ≤ p ∧ p ≤ 3
  · by_cases hr : 0 ≤ q ∧ q < ((6 : Nat) : Int)
    · obtain ⟨r, hr6, rfl⟩ := nat_of hr
      obtain ⟨N, rfl⟩ : ∃ N : Nat, p = (N : Int) := ⟨p.toNat, by omega⟩
      have hN : N ≤ 3 := by omega
      by_cases c0 : C = 0
      · refine pair_bad h (a := -4) ?_ ?_
        · show f_X9_slowest μ (N : Int) (r : Int) = _
          rw [f_X9_slowest, hp.w, if_neg (by omega), w32_id (a := 3) (by omega) (by omega), if_neg (by omega), x_isRow1 hr6, bd_some, if_neg w1ne, hx6, c0, Int.natCast_zero, if_pos w0]
        · show f_X10_slowest μ (N : Int) (r : Int) = _
          rw [f_X10_slowest, mi, bd_some, if_pos c, if_neg w1ne, m_isRow1 hr6, bd_some, if_neg w1ne, hC0, c0, Int.natCast_zero, if_pos w0]
      · have h15 := pow15 hC hN
        have hx0 : FX μ (wr (cpy (wr μ 22 3 (N : Int)) 14 27 0 0 16) 22 4 1000) := bg_fx
        obtain ⟨μa, g1, g2, -, g4⟩ := x_slow_seek (C := C) (V := V) (K := μ 68) (lt := μ 69) (fr := μ 70) (tt := μ 71) (wo := μ 72) hday.2 hn hN N 0 0 9 (wr (cpy (wr μ 22 3 (N : Int)) 14 27 0 0 16) 22 4 1000) (by omega) (by omega) (hYX.fx hx0) (bg_3 (by omega)) rfl (fun _ j hj => bg_d hday.1 j hj) (fun k hk => by omega) (Or.inl ⟨by rw [Nat.zero_mul], wr_eq⟩)
        rw [Nat.zero_add, Nat.one_mul, ← Nat.pow_mul] at g4
        obtain ⟨H, hH⟩ : ∃ H : Nat → Int, H = Hs C (μ 68) (μ 73) N := ⟨_, rfl⟩
        have hHb : ∀ e, -1000000 ≤ H e ∧ H e ≤ 0 := fun e => by rw [hH]; exact Hs_b hday.2 hC N e
        have hH0 : -100 ≤ H 0 := by
          rw [hH]; unfold Hs; rw [Cv_0, if_pos rfl]
          have := (Sd_DB (K := μ 68) hday.2 hC N 0).1
          omega
        rw [← hH] at g4
        have hpos : 0 < 2 ^ (C * N) := Nat.pow_pos (by omega)
        obtain ⟨b, b1, b2, b3⟩ : ∃ b : Nat, fb H (2 ^ (C * N)) b ∧ μa 22 4 = -(H b) ∧ ∀ k : Nat, k < N → μa 25 k = (dg C N b k : Nat) := by
          rcases g4 with ⟨z1, -⟩ | ⟨b, b1, b2, b3⟩
          · omega
          · exact ⟨b, b1, b2, b3⟩
        have hbl := b1.1
        have hxa : FX μ μa := hx0.tr (g2.fx (by omega))
        have hxa0 : μa 0 = μ 0 := by rw [g2.1 0 (by omega) (by omega) (by omega) (by omega), wr_cell (by omega), cpy_cell (by omega), wr_cell (by omega)]
        have hh : ∀ k : Nat, 67 ≤ k → wr (cpy μa 25 (38 + 2 * r + 1) 0 0 N) (38 + 2 * r) 1 (N : Int) k = μ k := fun k hk => by rw [wr_cell (by omega), cpy_cell (by omega), hxa.hi k hk]
        have ex : f_X9_slowest μ (N : Int) (r : Int) = some (-(H b), wr (cpy μa 25 (38 + 2 * r + 1) 0 0 N) (38 + 2 * r) 1 (N : Int)) := by
          have e1 : f_X6_leastMinute μ (N : Int) = some (-(H b), μa) := by
            rw [f_X6_leastMinute, x_begin, bd_some, vm, ck_ok (by omega) (by omega) (by omega), w32_id (a := 0) (by omega) (by omega), Int.toNat_zero, wr_cell (j := 13 + 1) (by omega), cpy_cell (j := 13 + 1) (by omega), wr_cell (j := 13 + 1) (by omega), hday.1 0 (by omega)]
            rw [Int.natCast_zero, show Sd C (μ 68) (μ 73) 0 0 = μ 73 from rfl] at g1
            rw [g1, bd_some, b2]
          rw [f_X9_slowest, hp.w, if_neg (by omega), w32_id (a := 3) (by omega) (by omega), if_neg (by omega), x_isRow1 hr6, bd_some, if_neg w1ne, hx6, w32_nat (i := C) (by omega), if_neg (by omega), e1, bd_some, ck_ok (by omega) (by omega) (by omega), w32_nat (i := r) (by omega), Int.toNat_natCast, x_rtake hN, bd_some]
        generalize hm1 : wr (cpy μa 25 (38 + 2 * r + 1) 0 0 N) (38 + 2 * r) 1 (N : Int) = μ1 at hh ex
        have hs := sv_fm μ1
        have lp := fun Kc => m_slo_loop (Kc := Kc) (μs := cpy μ1 73 92 0 0 16) (N := N) (F := μ 73) ((hYM.hi hh).fh hs) ((hVM.hi hh).fh hs) hday.2 hn hN (fun i hi => by rw [sv_92 hi, hh 73 (by omega)]) (2 ^ (C * N)) 100000 0 (cpy μ1 73 92 0 0 16) (by omega) (by omega) FH.rf (fun i hi => by rw [cpy_cell (by omega), hh 73 (by omega)])
        rw [← hH] at lp
        have hmx : fb H (2 ^ (C * N)) (mxB (-1000000) H (2 ^ (C * N))) ∧ mxM (-1000000) H (2 ^ (C * N)) = H (mxB (-1000000) H (2 ^ (C * N))) := by
          rcases mx_sp (z := -1000000) (H := H) (2 ^ (C * N)) with ⟨z1, -, -⟩ | ⟨z1, z2, -⟩
          · have := z1 0 hpos; omega
          · exact ⟨z1, z2⟩
        have hbb := fb_un hmx.1 b1
        rw [hbb] at hmx
        obtain ⟨μb, k1, k2, k3⟩ := lp (fun x26 x27 m28 => bd (f_X10_layPlan m28 (r : Int) x26 (N : Int)) fun _u m29 => some (x27, m29))
        rw [Int.natCast_zero, hbb, hmx.2, show mxB (-1000000) H 0 = 0 from rfl, show -(mxM (-1000000) H 0) = 1000000 from rfl, Int.natCast_zero] at k1
        obtain ⟨μ2, l1, l2⟩ := pl_end (μb := μb) (b := b) h hC0 hC hr6 hN (by omega) hxa hxa0 b3 (by rw [hm1]; exact hs.tr k2.fm) (by rw [k2.2 10 (by omega) (by omega), cpy_cell (by omega), hh 67 (by omega)]) k3
        refine ⟨-(H b), μ1, μ2, ex, ?_, l2.up (Nat.le_succ n)⟩
        show f_X10_slowest μ1 (N : Int) (r : Int) = _
        rw [f_X10_slowest, mi, bd_some, if_pos c, if_neg w1ne, m_isRow1 hr6, bd_some, if_neg w1ne, hh 67 (by omega), hC0, w32_nat (i := C) (by omega), if_neg (by omega), m_save, bd_some]
        refine Eq.trans k1 ?_
        rw [l1, bd_some]
    · refine pair_bad h (a := -1) ?_ ?_
      · show f_X9_slowest μ p q = _
        rw [f_X9_slowest, hp.w, if_neg (by omega), w32_id (a := 3) (by omega) (by omega), if_neg (by omega), x_isRow0 hq hr, bd_some, if_pos w0]
      · show f_X10_slowest μ p q = _
        rw [f_X10_slowest, mi, bd_some, if_pos c, if_neg w1ne, m_isRow0 hq hr, bd_some, if_pos w0]
  · refine pair_bad h (a := -1) ?_ ?_
    · show f_X9_slowest μ p q = _
      rw [f_X9_slowest, hp.w, w32_id (a := 3) (by omega) (by omega)]
      by_cases c1 : p < 0
      · rw [if_pos c1]
      · rw [if_neg c1, if_pos (by omega)]
    · show f_X10_slowest μ p q = _
      rw [f_X10_slowest, mi, bd_some, if_neg c, if_pos w0]
