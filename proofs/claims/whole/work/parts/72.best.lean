/-! ===== the first best ===== -/
def fb (H : Nat → Int) (lo b : Nat) : Prop := b < lo ∧ (∀ e : Nat, e < lo → H e ≤ H b) ∧ ∀ e : Nat, e < b → H e < H b
theorem fb_un {H : Nat → Int} {lo b b' : Nat} (h : fb H lo b) (h' : fb H lo b') : b = b' := by
  obtain ⟨h1, h2, h3⟩ := h
  obtain ⟨g1, g2, g3⟩ := h'
  by_cases c : b < b'
  · have := g3 b c; have := h2 b' g1; omega
  · by_cases c' : b' < b
    · have := h3 b' c'; have := g2 b h1; omega
    · omega
def mxM (z : Int) (H : Nat → Int) : Nat → Int
  | 0 => z
  | i + 1 => if mxM z H i < H i then H i else mxM z H i
def mxB (z : Int) (H : Nat → Int) : Nat → Nat
  | 0 => 0
  | i + 1 => if mxM z H i < H i then i else mxB z H i
theorem mx_sp {z : Int} {H : Nat → Int} : ∀ lo : Nat, ((∀ e : Nat, e < lo → H e ≤ z) ∧ mxM z H lo = z ∧ mxB z H lo = 0) ∨ (fb H lo (mxB z H lo) ∧ mxM z H lo = H (mxB z H lo) ∧ z < mxM z H lo) := by
  intro lo
  induction lo with
  | zero => exact Or.inl ⟨fun e he => by omega, rfl, rfl⟩
  | succ lo ih =>
    rw [mxM, mxB]
    rcases ih with ⟨a1, a2, a3⟩ | ⟨⟨a1, a2, a3⟩, a4, a5⟩
    · by_cases c : mxM z H lo < H lo
      · rw [if_pos c, if_pos c]
        refine Or.inr ⟨⟨by omega, fun e he => ?_, fun e he => ?_⟩, rfl, by omega⟩
        · by_cases g : e = lo
          · subst g; omega
          · have := a1 e (by omega); omega
        · have := a1 e (by omega); omega
      · rw [if_neg c, if_neg c]
        refine Or.inl ⟨fun e he => ?_, a2, a3⟩
        by_cases g : e = lo
        · subst g; omega
        · exact a1 e (by omega)
    · by_cases c : mxM z H lo < H lo
      · rw [if_pos c, if_pos c]
        refine Or.inr ⟨⟨by omega, fun e he => ?_, fun e he => ?_⟩, rfl, by omega⟩
        · by_cases g : e = lo
          · subst g; omega
          · have := a2 e (by omega); omega
        · have := a2 e (by omega); omega
      · rw [if_neg c, if_neg c]
        refine Or.inr ⟨⟨by omega, fun e he => ?_, a3⟩, a4, a5⟩
        by_cases g : e = lo
        · subst g; omega
        · exact a2 e (by omega)
theorem mxM_b {z : Int} {H : Nat → Int} {lo hi : Int} (hz : lo ≤ z ∧ z ≤ hi) (h : ∀ e, lo ≤ H e ∧ H e ≤ hi) (i : Nat) : lo ≤ mxM z H i ∧ mxM z H i ≤ hi := by
  induction i with
  | zero => exact hz
  | succ i ih => have := h i; rw [mxM]; split <;> omega
theorem Gv_b {C V : Nat} {K F lt fr tt wo : Nat → Int} (hV : V ≤ 4) (hW : VB lt fr tt wo) : ∀ d c : Nat, 0 ≤ Gv C V K F (gnv lt fr tt wo) d c ∧ Gv C V K F (gnv lt fr tt wo) d c ≤ 36 * d := by
  intro d
  induction d with
  | zero => intro c; simp [Gv]
  | succ d ih =>
    intro c
    have h1 := ih (c / 2 ^ C)
    have h2 := sg_b (V := V) (f := gnv lt fr tt wo (Sd C K F d (c / 2 ^ C) 0)) (b := 9) (fun v hv => gnv_b hW _ (by omega))
    rw [Gv]
    omega
theorem fl_lay {μ : Mem} {a lo hi : Nat} {z : Int} (q : Nat) : fl μ a lo hi z a q = if lo ≤ q ∧ q < hi then z else μ a q := by
  by_cases c : lo ≤ q ∧ q < hi
  · rw [if_pos c, fl_in c.1 c.2]
  · rw [if_neg c, fl_out (fun _ h1 h2 => c ⟨h1, h2⟩)]
theorem m_row {μ : Mem} {r N : Nat} (hr : r < 6) (hN : N ≤ 40) : f_X10_row μ (r : Int) (N : Int) = some ((N : Int), fl (wr μ 76 r (N : Int)) 77 (40 * r) (40 * r + 40) 0) := by
  have hl := row_loop (p1 := (N : Int)) hr 40 100000 0 (wr μ 76 r (N : Int)) (by omega) (by omega)
  rw [Int.natCast_zero, Nat.add_zero] at hl
  rw [f_X10_row, m_isRow1 hr, bd_some, if_neg w1ne, w32_nat (i := N) (by omega), w32_id (a := 40) (by omega) (by omega), if_neg (by omega), if_neg (by omega), ck_ok (by omega) (by omega) (by omega), vm, w32_nat (i := r) (by omega), Int.toNat_natCast]
  exact hl
theorem m_lp_loop {C r N e : Nat} (hC : C ≤ 5) (hr : r < 6) (hN : N ≤ 3) (he : e < 2 ^ 31) : ∀ (d u i : Nat) (μ : Mem), i + d = N → d < u → μ 67 0 = (C : Int) →
    ∃ μ' : Mem, f_X10_layPlan_L11 (r : Int) (e : Int) (N : Int) u (i : Int) μ = some ((), μ') ∧ (∀ k : Nat, k ≠ 77 → μ' k = μ k) ∧ (∀ q : Nat, ¬ (40 * r + i ≤ q ∧ q < 40 * r + N) → μ' 77 q = μ 77 q) ∧ ∀ j : Nat, i ≤ j → j < N → μ' 77 (40 * r + j) = (dg C N e j : Nat) := by
  intro d
  induction d with
  | zero =>
    intro u i μ hi hu h
    obtain ⟨u, rfl⟩ : ∃ v, u = v + 1 := ⟨u - 1, by omega⟩
    refine ⟨μ, ?_, fun _ _ => rfl, fun _ _ => rfl, fun j h1 h2 => by omega⟩
    rw [f_X10_layPlan_L11, w32_nat (by omega), w32_nat (by omega), if_neg (by omega)]
  | succ d ih =>
    intro u i μ hi hu h
    obtain ⟨u, rfl⟩ : ∃ v, u = v + 1 := ⟨u - 1, by omega⟩
    obtain ⟨μ3, k1, k2, k3, k4⟩ := ih u (i + 1) (wr μ 77 (40 * r + i) ((dg C N e i : Nat) : Int)) (by omega) (by omega) (by rw [wr_cell (by omega)]; exact h)
    rw [show ((i + 1 : Nat) : Int) = (i : Int) + 1 by omega] at k1
    refine ⟨μ3, ?_, fun k hk => by rw [k2 k hk, wr_cell hk], fun q hq => by rw [k3 q (by omega), wr_ne (by omega)], fun j h1 h2 => ?_⟩
    · rw [f_X10_layPlan_L11, w32_nat (i := i) (by omega), w32_nat (i := N) (by omega), if_pos (by omega), m_setOf h hC hN (by omega) he, bd_some, ck_ok (by omega) (by omega) (by omega), vm, w32_id (a := 40 * (r : Int) + (i : Int)) (by omega) (by omega), show (40 * (r : Int) + (i : Int)).toNat = 40 * r + i by omega]
      exact k1
    · by_cases g : j = i
      · subst g; rw [k3 _ (by omega), wr_eq]
      · exact k4 j (by omega) h2
theorem m_lp {μ : Mem} {C r N e : Nat} (h : μ 67 0 = (C : Int)) (hC : C ≤ 5) (hr : r < 6) (hN : N ≤ 3) (he : e < 2 ^ 31) :
    ∃ μ' : Mem, f_X10_layPlan μ (r : Int) (e : Int) (N : Int) = some ((), μ') ∧ (∀ k : Nat, k ≠ 76 → k ≠ 77 → μ' k = μ k) ∧ (∀ s : Nat, μ' 76 s = if s = r then (N : Int) else μ 76 s) ∧ (∀ q : Nat, ¬ (40 * r ≤ q ∧ q < 40 * r + 40) → μ' 77 q = μ 77 q) ∧ ∀ j : Nat, j < N → μ' 77 (40 * r + j) = (dg C N e j : Nat) := by
  obtain ⟨μ2, k1, k2, k3, k4⟩ := m_lp_loop hC hr hN he N 100000 0 (fl (wr μ 76 r (N : Int)) 77 (40 * r) (40 * r + 40) 0) (by omega) (by omega) (by rw [fl_cell (by omega), wr_cell (by omega)]; exact h)
  rw [Int.natCast_zero] at k1
  refine ⟨μ2, ?_, fun k h1 h2 => by rw [k2 k h2, fl_cell h2, wr_cell h1], fun s => ?_, fun q hq => ?_, fun j hj => k4 j (by omega) hj⟩
  · rw [f_X10_layPlan, m_row hr (by omega), bd_some, k1]
  · rw [k2 76 (by omega), fl_cell (by omega)]
    by_cases g : s = r
    · subst g; rw [if_pos rfl, wr_eq]
    · rw [if_neg g, wr_ne (by omega)]
  · rw [k3 q (by omega), fl_out (by omega), wr_cell (by omega)]
/-- a row is made anew by both -/
theorem row_end {n r N : Nat} {μ μ2 : Mem} {R : Nat → Int} (h : Inv n μ) (hr : r < 6) (hN : N ≤ 40)
    (e : ∀ k : Nat, ¬ (k = 3 ∨ k = 4 ∨ k = 5 ∨ k = 13 ∨ (17 ≤ k ∧ k < 37) ∨ k = 38 + 2 * r ∨ k = 38 + 2 * r + 1 ∨ k = 67 ∨ k = 73 ∨ k = 76 ∨ k = 77 ∨ (84 ≤ k ∧ k < 94)) → μ2 k = μ k)
    (e7 : ∀ p : Nat, ¬ ((24 ≤ p ∧ p < 28) ∨ p = 35 ∨ p = 36) → μ2 67 p = μ 67 p) (e73 : ∀ i : Nat, i < 16 → μ2 73 i = μ 73 i)
    (x1 : μ2 (38 + 2 * r) 1 = (N : Int)) (x2 : ∀ i : Nat, i < N → μ2 (38 + 2 * r + 1) i = R i) (m1 : ∀ s : Nat, μ2 76 s = if s = r then (N : Int) else μ 76 s) (m2 : ∀ q : Nat, ¬ (40 * r ≤ q ∧ q < 40 * r + 40) → μ2 77 q = μ 77 q) (m3 : ∀ i : Nat, i < N → μ2 77 (40 * r + i) = R i) (hR : ∀ i : Nat, i < N → inR (R i)) : Inv n μ2 := by
  obtain ⟨i1, i2, i3, i4, i5, i6, i7⟩ := h
  refine ⟨fun s hs => ?_, i2.cg (fun k hk => e k (by omega)), i3.cg (fun k hk => e k (by omega)) (e7 0 (by omega)) (e7 1 (by omega)), ⟨fun i hi => ?_, i4.2.cg e73⟩, i5.cg (fun k hk => e k (by omega)) (e7 8 (by omega)), i6.cg (fun k hk => e k (by omega)), i7.cg (fun k hk => e k (by omega)) (fun p _ => by rw [e 0 (by omega)]) (fun p hp => e7 p (by omega))⟩
  · obtain ⟨g1, g2, g3⟩ := i1 s hs
    rw [m1]
    by_cases c : s = r
    · subst c
      rw [if_pos rfl]
      exact ⟨by omega, x1, fun i hi => ⟨by rw [x2 i (by omega), m3 i (by omega)], by rw [m3 i (by omega)]; exact hR i (by omega)⟩⟩
    · rw [if_neg c, e (38 + 2 * s) (by omega), e (38 + 2 * s + 1) (by omega)]
      refine ⟨g1, g2, fun i hi => ?_⟩
      rw [m2 _ (by omega)]
      exact g3 i hi
  · rw [e 14 (by omega), e73 i hi]; exact i4.1 i hi
/-! the reference's best, slowest -/
theorem m_bst_loop {Kc : Int → Int → Mem → Option (Int × Mem)} {n N : Nat} {μs : Mem} {C V : Nat} {K lt fr tt wo F : Nat → Int} {z : Int} (hY : YM μs C K) (hV : VM μs V lt fr tt wo) (hF : DB n F) (hn : n ≤ 900) (hN : N ≤ 3) (h92 : ∀ i : Nat, i < 16 → μs 92 i = F i) (hz : z = sg V (fun v => F (12 + v))) :
    ∀ (d u i : Nat) (μ' : Mem), i + d = 2 ^ (C * N) → d < u → FH μs μ' → (∀ j : Nat, j < 16 → μ' 73 j = F j) →
    ∃ μ'' : Mem, f_X10_best_L49 Kc (N : Int) z u (mxB (-1) (Gv C V K F (gnv lt fr tt wo) N) i : Nat) (mxM (-1) (Gv C V K F (gnv lt fr tt wo) N) i) (i : Int) μ' = Kc (mxB (-1) (Gv C V K F (gnv lt fr tt wo) N) (2 ^ (C * N)) : Nat) (mxM (-1) (Gv C V K F (gnv lt fr tt wo) N) (2 ^ (C * N))) μ'' ∧ FH μs μ'' ∧ ∀ j : Nat, j < 16 → μ'' 73 j = F j := by
  have hC := hY.1
  have h15 := pow15 hC hN
  intro d
  induction d with
  | zero =>
    intro u i μ' hi hu hf hd
    obtain ⟨u, rfl⟩ : ∃ v, u = v + 1 := ⟨u - 1, by omega⟩
    refine ⟨μ', ?_, hf, hd⟩
    rw [f_X10_best_L49, m_codes (hY.fh hf.fm).2.1 hC hN, bd_some, w32_nat (by omega), w32_nat (by omega), if_neg (by omega), show i = 2 ^ (C * N) by omega]
  | succ d ih =>
    intro u i μ' hi hu hf hd
    obtain ⟨u, rfl⟩ : ∃ v, u = v + 1 := ⟨u - 1, by omega⟩
    have hY' := hY.fh hf.fm
    obtain ⟨μ2, g1, g2, g3⟩ := m_gop (e := i) hY hV hF hn hN (by omega) hf hd
    obtain ⟨q1, q2⟩ := bk_ok (F := F) g2 h92
    obtain ⟨μ3, k1, k2, k3⟩ := ih u (i + 1) (cpy μ2 92 73 0 0 16) (by omega) (by omega) q1 q2
    rw [show ((i + 1 : Nat) : Int) = (i : Int) + 1 by omega, mxM, mxB] at k1
    have hG := Gv_b (C := C) (K := K) (F := F) hV.1 hV.2.2.2 N i
    have hM := mxM_b (z := -1) (H := Gv C V K F (gnv lt fr tt wo) N) (lo := -1) (hi := 200) (by omega) (fun e => by have := Gv_b (C := C) (K := K) (F := F) hV.1 hV.2.2.2 N e; omega) i
    have hval : sg V (fun v => μ2 73 (12 + v)) - z = Gv C V K F (gnv lt fr tt wo) N i := by
      rw [sg_cg (g := fun v => mq C V K (gnv lt fr tt wo) (sd C N i) F N (12 + v)) (fun v hv => g3 (12 + v) (by have := hV.1; omega)), mq_sum hC, tg_Gv N (by omega), Nat.sub_self, Nat.mul_zero, Nat.pow_zero, Nat.div_one, hz]
      omega
    refine ⟨μ3, ?_, k2, k3⟩
    rw [f_X10_best_L49, m_codes hY'.2.1 hC hN, bd_some, w32_nat (i := i) (by omega), w32_nat (i := 2 ^ (C * N)) (by omega), if_pos (by omega), g1, bd_some, m_gnow hV.1 (by rw [g2.2 1 (by omega) (by omega)]; exact hV.2.1), bd_some, hval, vl, m_back, bd_some, vl, vl, w32_id (a := Gv C V K F (gnv lt fr tt wo) N i) (by omega) (by omega), w32_id (a := mxM (-1) (Gv C V K F (gnv lt fr tt wo) N) i) (by omega) (by omega)]
    by_cases c : mxM (-1) (Gv C V K F (gnv lt fr tt wo) N) i < Gv C V K F (gnv lt fr tt wo) N i
    · rw [if_pos c, if_pos c] at k1
      rw [if_pos c, if_pos c]; exact k1
    · rw [if_neg c, if_neg c] at k1
      rw [if_neg c, if_neg c]; exact k1
/-- a row of sets by the minute behind it; one with a lurch is far -/
def Hs (C : Nat) (K F : Nat → Int) (N e : Nat) : Int := if Cv C K F N e then -(Sd C K F N e 0) else -1000000
theorem Hs_b {n C : Nat} {K F : Nat → Int} (hF : DB n F) (hC : C ≤ 5) (N e : Nat) : -1000000 ≤ Hs C K F N e ∧ Hs C K F N e ≤ 0 := by
  have := (Sd_DB (K := K) hF hC N e).1
  unfold Hs
  split <;> omega
theorem m_slo_loop {Kc : Int → Int → Mem → Option (Int × Mem)} {n N : Nat} {μs : Mem} {C V : Nat} {K lt fr tt wo F : Nat → Int} (hY : YM μs C K) (hV : VM μs V lt fr tt wo) (hF : DB n F) (hn : n ≤ 900) (hN : N ≤ 3) (h92 : ∀ i : Nat, i < 16 → μs 92 i = F i) :
    ∀ (d u i : Nat) (μ' : Mem), i + d = 2 ^ (C * N) → d < u → FH μs μ' → (∀ j : Nat, j < 16 → μ' 73 j = F j) →
    ∃ μ'' : Mem, f_X10_slowest_L45 Kc (N : Int) u (mxB (-1000000) (Hs C K F N) i : Nat) (-(mxM (-1000000) (Hs C K F N) i)) (i : Int) μ' = Kc (mxB (-1000000) (Hs C K F N) (2 ^ (C * N)) : Nat) (-(mxM (-1000000) (Hs C K F N) (2 ^ (C * N)))) μ'' ∧ FH μs μ'' ∧ ∀ j : Nat, j < 16 → μ'' 73 j = F j := by
  have hC := hY.1
  have h15 := pow15 hC hN
  intro d
  induction d with
  | zero =>
    intro u i μ' hi hu hf hd
    obtain ⟨u, rfl⟩ : ∃ v, u = v + 1 := ⟨u - 1, by omega⟩
    refine ⟨μ', ?_, hf, hd⟩
    rw [f_X10_slowest_L45, m_codes (hY.fh hf.fm).2.1 hC hN, bd_some, w32_nat (by omega), w32_nat (by omega), if_neg (by omega), show i = 2 ^ (C * N) by omega]
  | succ d ih =>
    intro u i μ' hi hu hf hd
    obtain ⟨u, rfl⟩ : ∃ v, u = v + 1 := ⟨u - 1, by omega⟩
    have hY' := hY.fh hf.fm
    obtain ⟨μ2, g1, g2, g3⟩ := m_gop (e := i) hY hV hF hn hN (by omega) hf hd
    obtain ⟨q1, q2⟩ := bk_ok (F := F) g2 h92
    obtain ⟨μ3, k1, k2, k3⟩ := ih u (i + 1) (cpy μ2 92 73 0 0 16) (by omega) (by omega) q1 q2
    rw [show ((i + 1 : Nat) : Int) = (i : Int) + 1 by omega, mxM, mxB] at k1
    have hG := Hs_b (K := K) hF hC N i
    have hM := mxM_b (z := -1000000) (H := Hs C K F N) (lo := -1000000) (hi := 0) (by omega) (fun e => Hs_b (K := K) hF hC N e) i
    have hcq : cq C K (sd C N i) F N = Cv C K F N i := by rw [cq_Cv N (by omega), Nat.sub_self, Nat.mul_zero, Nat.pow_zero, Nat.div_one]
    have hmin : μ2 73 0 = Sd C K F N i 0 := by rw [g3 0 (by omega), mq_xq hC N 0 (by omega), xq_Sd N (by omega), Nat.sub_self, Nat.mul_zero, Nat.pow_zero, Nat.div_one]
    refine ⟨μ3, ?_, k2, k3⟩
    rw [hcq] at g1
    have st : f_X10_slowest_L45 Kc (N : Int) (u + 1) (mxB (-1000000) (Hs C K F N) i : Nat) (-(mxM (-1000000) (Hs C K F N) i)) (i : Int) μ' = f_X10_slowest_L45 Kc (N : Int) u (if -(Hs C K F N i) < -(mxM (-1000000) (Hs C K F N) i) then (i : Int) else (mxB (-1000000) (Hs C K F N) i : Nat)) (if -(Hs C K F N i) < -(mxM (-1000000) (Hs C K F N) i) then -(Hs C K F N i) else -(mxM (-1000000) (Hs C K F N) i)) ((i : Int) + 1) (cpy μ2 92 73 0 0 16) := by
      rw [f_X10_slowest_L45, m_codes hY'.2.1 hC hN, bd_some, w32_nat (i := i) (by omega), w32_nat (i := 2 ^ (C * N)) (by omega), if_pos (by omega), g1, bd_some, jn, bt_w, ck_ok (by omega) (by omega) (by omega), w32_id (a := 0) (by omega) (by omega), Int.toNat_zero, hmin]
      by_cases c : Cv C K F N i = true
      · have e : Sd C K F N i 0 = -(Hs C K F N i) := by unfold Hs; rw [if_pos c]; omega
        rw [if_pos c, e]; dsimp only
        rw [m_back, bd_some, vl, vl, w32_id (a := -(Hs C K F N i)) (by omega) (by omega), w32_id (a := -(mxM (-1000000) (Hs C K F N) i)) (by omega) (by omega)]
      · have e : -(Hs C K F N i) = 1000000 := by unfold Hs; rw [if_neg c]; rfl
        rw [if_neg c]; dsimp only
        rw [m_back, bd_some, vl, vl, w32_id (a := 1000000) (by omega) (by omega), w32_id (a := -(mxM (-1000000) (Hs C K F N) i)) (by omega) (by omega), e]
    rw [st]
    by_cases c : mxM (-1000000) (Hs C K F N) i < Hs C K F N i
    · rw [if_pos c, if_pos c] at k1
      rw [if_pos (by omega), if_pos (by omega)]; exact k1
    · rw [if_neg c, if_neg c] at k1
      rw [if_neg (by omega), if_neg (by omega)]; exact k1
