theorem mem1 {k t : Nat} : k ∈ [t, t + 1] ↔ k = t ∨ k = t + 1 := by simp
/-! run -/
theorem x_gof_loop {Kc : Int → Mem → Option (Int × Mem)} {n N q : Nat} {μ : Mem} {C V : Nat} {K lt fr tt wo F : Nat → Int} {s : Nat → Nat → Bool} (hY : YX μ C K) (hV : VX μ V lt fr tt wo) (hF : DB n F) (hn : n + N < 1000) (hN : N ≤ 40) (hq : 37 ≤ q) (h1 : μ q 1 = (N : Int)) (hs : ∀ i : Nat, i < N → μ (q + 1) i = (msk C (s i) : Nat)) :
    ∀ (d u i : Nat) (μ' : Mem), i + d = N → d < u → Fr [20, 20 + 1] μ μ' → (∀ j : Nat, j < 16 → μ' (20 + 1) j = xq C K s F i j) →
    ∃ μ'' : Mem, f_X3_gainOf_L14 Kc q u (tg C V K (gnv lt fr tt wo) s F i) (i : Int) μ' = Kc (tg C V K (gnv lt fr tt wo) s F N) μ'' ∧ Fr [20, 20 + 1] μ μ'' ∧ ∀ j : Nat, j < 16 → μ'' (20 + 1) j = xq C K s F N j := by
  intro d
  induction d with
  | zero =>
    intro u i μ' hi hu hf hd
    obtain ⟨u, rfl⟩ : ∃ v, u = v + 1 := ⟨u - 1, by omega⟩
    have e1 : μ' q 1 = (N : Int) := by rw [hf q (by rw [mem1]; omega)]; exact h1
    refine ⟨μ', ?_, hf, ?_⟩
    · rw [f_X3_gainOf_L14, e1, w32_nat (by omega), w32_nat (by omega), if_neg (by omega), show i = N by omega]
    · rw [← show i = N by omega]; exact hd
  | succ d ih =>
    intro u i μ' hi hu hf hd
    obtain ⟨u, rfl⟩ : ∃ v, u = v + 1 := ⟨u - 1, by omega⟩
    have e1 : μ' q 1 = (N : Int) := by rw [hf q (by rw [mem1]; omega)]; exact h1
    have eR : μ' (q + 1) i = (msk C (s i) : Nat) := by rw [hf (q + 1) (by rw [mem1]; omega)]; exact hs i (by omega)
    have hB := xq_DB (s := s) (K := K) hF hY.1 i
    have h0 := hB.1
    obtain ⟨μ2, g1, g2, g3, -⟩ := x_go (t := 20) (by omega) (hY.fr hf (fun k hk => by rw [mem1] at hk; omega)) (hB.fb (by omega)) hd (s i)
    obtain ⟨μ3, k1, k2, k3⟩ := ih u (i + 1) μ2 (by omega) (by omega) (hf.tr g2) g3
    refine ⟨μ3, ?_, k2, k3⟩
    rw [show ((i + 1 : Nat) : Int) = (i : Int) + 1 by omega] at k1
    rw [f_X3_gainOf_L14, e1, w32_nat (i := i) (by omega), w32_nat (i := N) (by omega), if_pos (by omega), ck_ok (by omega) (by omega) (by omega), w32_id (a := 0) (by omega) (by omega), Int.toNat_zero, hd 0 (by omega), x_gall (hV.fr hf (fun k hk => by rw [mem1] at hk; omega)) ⟨by omega, by omega⟩, bd_some, vl, ck_ok (by omega) (by omega) (by omega), Int.toNat_natCast, eR, g1, bd_some]
    exact k1
theorem x_gof {n N q : Nat} {μ : Mem} {C V : Nat} {K lt fr tt wo F : Nat → Int} {s : Nat → Nat → Bool} (hY : YX μ C K) (hV : VX μ V lt fr tt wo) (hF : DB n F) (hn : n + N < 1000) (hN : N ≤ 40) (hq : 37 ≤ q) (h1 : μ q 1 = (N : Int)) (hs : ∀ i : Nat, i < N → μ (q + 1) i = (msk C (s i) : Nat)) (hd : ∀ i : Nat, i < 16 → μ 14 i = F i) :
    ∃ μ' : Mem, f_X3_gainOf μ q = some (tg C V K (gnv lt fr tt wo) s F N, μ') ∧ Fr [19, 20, 20 + 1] μ μ' ∧ μ' 19 1 = xq C K s F N 0 := by
  have hf : Fr [20, 20 + 1] μ (cpy μ 14 (20 + 1) 0 0 16) := fun k hk => by rw [mem1] at hk; exact cpy_cell (by omega)
  obtain ⟨μ2, g1, g2, g3⟩ := x_gof_loop (Kc := fun x10 m11 => ck 0 16 (vm (wr m11 19 1 (m11 (20 + 1) (w32 0).toNat)) fun m13 => some (x10, m13))) hY hV hF hn hN hq h1 hs N 100000 0 (cpy μ 14 (20 + 1) 0 0 16) (by omega) (by omega) hf (fun j hj => by rw [cpy_in (by omega) (by omega)]; simp only [Nat.zero_add, Nat.sub_zero]; exact hd j hj)
  rw [Int.natCast_zero] at g1
  refine ⟨wr μ2 19 1 (μ2 (20 + 1) 0), ?_, ?_, ?_⟩
  · rw [f_X3_gainOf, x_tk, bd_some]
    refine Eq.trans g1 ?_
    rw [ck_ok (by omega) (by omega) (by omega), vm, w32_id (a := 0) (by omega) (by omega), Int.toNat_zero]
  · exact (g2.mono (fun k hk => List.mem_cons_of_mem _ hk)).wr (by simp)
  · rw [wr_eq]; exact g3 0 (by omega)
theorem m_run_loop {Kc : Mem → Option (Int × Mem)} {n N r : Nat} {μ : Mem} {C V : Nat} {K lt fr tt wo F : Nat → Int} {s : Nat → Nat → Bool} (hY : YM μ C K) (hV : VM μ V lt fr tt wo) (hF : DB n F) (hn : n + N < 1000) (hr : r < 6) (hN : N ≤ 40) (h1 : μ 76 r = (N : Int)) (hs : ∀ i : Nat, i < N → μ 77 (40 * r + i) = (msk C (s i) : Nat)) :
    ∀ (d u i : Nat) (μ' : Mem), i + d = N → d < u → FH μ μ' → (∀ j : Nat, j < 16 → μ' 73 j = mq C V K (gnv lt fr tt wo) s F i j) →
    ∃ μ'' : Mem, f_X10_run_L25 Kc (r : Int) u (i : Int) μ' = Kc μ'' ∧ FH μ μ'' ∧ ∀ j : Nat, j < 16 → μ'' 73 j = mq C V K (gnv lt fr tt wo) s F N j := by
  intro d
  induction d with
  | zero =>
    intro u i μ' hi hu hf hd
    obtain ⟨u, rfl⟩ : ∃ v, u = v + 1 := ⟨u - 1, by omega⟩
    refine ⟨μ', ?_, hf, ?_⟩
    · rw [f_X10_run_L25, ck_ok (by omega) (by omega) (by omega), hf.1 76 (by omega) (by omega), w32_nat (i := r) (by omega), Int.toNat_natCast, h1, w32_nat (by omega), w32_nat (by omega), if_neg (by omega)]
    · rw [← show i = N by omega]; exact hd
  | succ d ih =>
    intro u i μ' hi hu hf hd
    obtain ⟨u, rfl⟩ : ∃ v, u = v + 1 := ⟨u - 1, by omega⟩
    obtain ⟨μ2, g1, g2, g3, -⟩ := m_hr (hY.fh hf.fm) (hV.fh hf.fm) (mq_DB (s := s) (K := K) hF hY.1 hV.1 hV.2.2.2 i) (by omega) hd (s i)
    obtain ⟨μ3, k1, k2, k3⟩ := ih u (i + 1) μ2 (by omega) (by omega) (hf.tr g2) g3
    refine ⟨μ3, ?_, k2, k3⟩
    rw [show ((i + 1 : Nat) : Int) = (i : Int) + 1 by omega] at k1
    rw [f_X10_run_L25, ck_ok (by omega) (by omega) (by omega), hf.1 76 (by omega) (by omega), w32_nat (i := r) (by omega), Int.toNat_natCast, h1, w32_nat (i := i) (by omega), w32_nat (i := N) (by omega), if_pos (by omega), ck_ok (by omega) (by omega) (by omega), w32_id (a := 40 * (r : Int) + (i : Int)) (by omega) (by omega), show (40 * (r : Int) + (i : Int)).toNat = 40 * r + i by omega, hf.1 77 (by omega) (by omega), hs i (by omega), g1, bd_some]
    exact k1
theorem sv_fm (μ : Mem) : FM μ (cpy μ 73 92 0 0 16) := FM.of (S := [92]) (fun k hk => cpy_cell (by simp at hk; exact hk)) (fun k hk => by simp at hk; omega)
theorem sv_92 {μ : Mem} {i : Nat} (hi : i < 16) : cpy μ 73 92 0 0 16 92 i = μ 73 i := by
  rw [cpy_in (by omega) (by omega)]; simp only [Nat.zero_add, Nat.sub_zero]
theorem bk_ok {μs μ : Mem} {F : Nat → Int} (h : FH μs μ) (h92 : ∀ i : Nat, i < 16 → μs 92 i = F i) : FH μs (cpy μ 92 73 0 0 16) ∧ ∀ i : Nat, i < 16 → cpy μ 92 73 0 0 16 73 i = F i := by
  refine ⟨h.tr (FH.of (fun k hk => cpy_cell hk)), fun i hi => ?_⟩
  rw [cpy_in (by omega) (by omega)]; simp only [Nat.zero_add, Nat.sub_zero]
  rw [h.1 92 (by omega) (by omega)]
  exact h92 i hi
theorem p_run {n : Nat} (hn : n ≤ 900) {p : Int} (hp : inR p) : Pair n (fun μ => f_X9_run μ p) (fun μ => f_X10_run μ p) := by
  intro μ h
  refine plan_pair (ax := fun m1 => ck p 6 (bd (f_X3_gainOf m1 (38 + 2 * (w32 p).toNat)) fun r6 m5 => vm (wr m5 0 13 (m5 19 1)) fun m7 => some (r6, m7))) (am := fun m1 => bd (f_X10_save m1) fun _u m4 => bd (f_X10_gainsNow m4) fun r6 m5 => f_X10_run_L25 (fun m12 => bd (f_X10_gainsNow m12) fun r14 m13 => vl ((-r6) + r14) fun x15 => ck 0 16 (vm (wr m13 67 10 (m13 73 (w32 0).toNat)) fun m17 => bd (f_X10_putBack m17) fun _u m18 => some (x15, m18))) p 100000 0 m5) h hp ?_
  intro C V r N hpr hr6 hN hC0 c67 v67 hYX hYM hVX hVM hN76 hNx hxe hR
  subst hpr
  have hday := h.2.2.2.1
  obtain ⟨μ1, g1, g2, g3⟩ := x_gof (q := 38 + 2 * r) (s := fun i b => (μ 77 (40 * r + i)).toNat.testBit b) hYX hVX hday.2 (N := N) (by omega) (by omega) (by omega) hNx (fun i hi => by rw [hxe i hi]; exact hR i hi) hday.1
  have hx : FX μ μ1 := FX.of g2 (fun k hk => by simp at hk; omega)
  have hh : ∀ k : Nat, 67 ≤ k → wr μ1 0 13 (μ1 19 1) k = μ k := hx.tell.hi
  generalize hm1 : wr μ1 0 13 (μ1 19 1) = μ1' at hh
  have hv1 := hVM.hi hh
  have hy1 := hYM.hi hh
  have hs := sv_fm μ1'
  have hs3 : ∀ i : Nat, i < 16 → cpy μ1' 73 92 0 0 16 73 i = μ 73 i := fun i hi => by rw [cpy_cell (by omega), hh 73 (by omega)]
  have hs92 : ∀ i : Nat, i < 16 → cpy μ1' 73 92 0 0 16 92 i = μ 73 i := fun i hi => by rw [sv_92 hi, hh 73 (by omega)]
  have hs76 : cpy μ1' 73 92 0 0 16 76 = μ 76 := by rw [cpy_cell (by omega), hh 76 (by omega)]
  have hs77 : cpy μ1' 73 92 0 0 16 77 = μ 77 := by rw [cpy_cell (by omega), hh 77 (by omega)]
  have hvs := hv1.fh hs
  have hys := hy1.fh hs
  have hsv := m_save μ1'
  generalize hms : cpy μ1' 73 92 0 0 16 = μs at *
  obtain ⟨μ2, k1, k2, k3⟩ := m_run_loop (Kc := fun m12 => bd (f_X10_gainsNow m12) fun r14 m13 => vl ((-(sg V (fun v => μ 73 (12 + v)))) + r14) fun x15 => ck 0 16 (vm (wr m13 67 10 (m13 73 (w32 0).toNat)) fun m17 => bd (f_X10_putBack m17) fun _u m18 => some (x15, m18))) (s := fun i b => (μ 77 (40 * r + i)).toNat.testBit b) hys hvs hday.2 (N := N) (r := r) (by omega) hr6 (by omega) (by rw [hs76]; exact hN76) (fun i hi => by rw [hs77]; exact hR i hi) N 100000 0 μs (by omega) (by omega) FH.rf hs3
  rw [Int.natCast_zero] at k1
  have ew : ∀ z : Int, FH μs (wr μ2 67 35 z) := fun z => ⟨fun k h1 h2 => by rw [wr_cell h1]; exact k2.1 k h1 h2, fun p h1 h2 => by rw [wr_ne (by omega)]; exact k2.2 p h1 h2⟩
  refine ⟨tg C V (μ 68) (gnv (μ 69) (μ 70) (μ 71) (μ 72)) (fun i b => (μ 77 (40 * r + i)).toNat.testBit b) (μ 73) N, μ1', cpy (wr μ2 67 10 (μ2 73 0)) 92 73 0 0 16, ?_, hh, ?_, ?_⟩
  · show ck _ _ _ = _
    rw [ck_ok (by omega) (by omega) (by omega), w32_nat (i := r) (by omega), Int.toNat_natCast, g1, bd_some, vm, hm1]
  · show bd (f_X10_save μ1') _ = _
    rw [hsv, bd_some, m_gnow hvs.1 hvs.2.1, bd_some, sg_cg (V := V) (f := fun v => μs 73 (12 + v)) (g := fun v => μ 73 (12 + v)) (fun v hv => hs3 (12 + v) (by have := hVX.1; omega))]
    refine Eq.trans k1 ?_
    rw [m_gnow hvs.1 (by rw [k2.2 1 (by omega) (by omega)]; exact hvs.2.1), bd_some, vl, ck_ok (by omega) (by omega) (by omega), vm, w32_id (a := 0) (by omega) (by omega), Int.toNat_zero, m_back, bd_some]
    rw [sg_cg (V := V) (f := fun v => μ2 73 (12 + v)) (g := fun v => mq C V (μ 68) (gnv (μ 69) (μ 70) (μ 71) (μ 72)) (fun i b => (μ 77 (40 * r + i)).toNat.testBit b) (μ 73) N (12 + v)) (fun v hv => k3 (12 + v) (by have := hVX.1; omega)), mq_sum hYX.1, show ∀ a b : Int, -a + (a + b) = b from fun a b => by omega]
  · refine (aside_end (μ1 := μ1') h ?_ ?_ ?_ ?_).up (Nat.le_succ n)
    · rw [← hm1]; exact hx.tell
    · refine hs.tr ((k2.fm.tell).tr (FM.of (S := [73]) (fun k hk => cpy_cell (by simp at hk; exact hk)) (fun k hk => by simp at hk; omega)))
    · rw [cpy_cell (by omega), wr_eq, k3 0 (by omega), ← hm1, wr_eq, g3, mq_xq hYX.1 N 0 (by omega)]
    · intro i hi
      rw [cpy_in (by omega) (by omega)]; simp only [Nat.zero_add, Nat.sub_zero]
      rw [wr_cell (by omega), k2.1 92 (by omega) (by omega)]
      exact hs92 i hi
