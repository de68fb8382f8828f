/-! the year begins, on both sides -/
theorem paR_gd {B : Nat → Int} {S : Nat} : gdD (paR B S).2.1 (paR B S).2.2.1 (paR B S).2.2.2.1 (paR B S).2.2.2.2 := pa_gd 100 0 0 0 _ _ ⟨fun j hj => by omega, fun j hj => by omega⟩
theorem yd_o {n : Nat} {c : Nat → Int} {q : Nat} (hn : n ≤ 5) (hq : q < 2 ∨ 12 ≤ q) : yd n c q = 0 := by
  unfold yd
  rw [if_neg (by omega), if_neg (by omega)]
theorem yd_z {c : Nat → Int} {q : Nat} : yd 0 c q = 0 := by
  unfold yd
  rw [if_neg (by omega), if_neg (by omega)]
theorem yd_DB {m n v : Nat} {c w : Nat → Int} (hg : gdD n v c w) (hn : n ≤ 5) : DB m (yd n c) := by
  refine ⟨?_, ?_, fun i hi => ⟨?_, ?_⟩, fun x hx => ?_⟩
  · rw [yd_o hn (by omega)]; omega
  · rw [yd_o hn (by omega)]; omega
  · unfold yd
    by_cases e : i < n
    · rw [if_pos (show 2 ≤ 2 + i ∧ 2 + i < 2 + n by omega), show 2 + i - 2 = i by omega]; exact (hg.1 i e).2.1
    · rw [if_neg (show ¬ (2 ≤ 2 + i ∧ 2 + i < 2 + n) by omega), if_neg (show ¬ (7 ≤ 2 + i ∧ 2 + i < 7 + n) by omega)]; omega
  · unfold yd
    rw [if_neg (show ¬ (2 ≤ 7 + i ∧ 7 + i < 2 + n) by omega)]
    by_cases e : i < n
    · rw [if_pos (show 7 ≤ 7 + i ∧ 7 + i < 7 + n by omega), show 7 + i - 7 = i by omega]; exact (hg.1 i e).2.2
    · rw [if_neg (show ¬ (7 ≤ 7 + i ∧ 7 + i < 7 + n) by omega)]; omega
  · rw [yd_o hn (by omega)]; omega
theorem x_begin8 {μ : Mem} {n v : Nat} {c w : Nat → Int} (hM : MX μ n v c w) (hg : gdD n v c w) (hn : n ≤ 5) (hv : v ≤ 4) :
    ∃ μ' : Mem, f_X8_begin μ = some ((), μ') ∧ (∀ k : Nat, ¬ (6 ≤ k ∧ k < 13) → μ' k = μ k) ∧ μ' 6 6 = (n : Int) ∧ μ' 6 7 = (v : Int) ∧ (∀ j : Nat, μ' 7 j = if j < n then c (3 * j) else μ 7 j) ∧ (∀ k : Nat, k < 6 → μ' 8 k = (msk n (fun j => isK k (c (3 * j))) : Nat)) ∧
      (∀ j : Nat, μ' 9 j = (if j < v then w (4 * j) else μ 9 j) ∧ μ' 10 j = (if j < v then w (4 * j + 1) else μ 10 j) ∧ μ' 11 j = (if j < v then w (4 * j + 2) else μ 11 j) ∧ μ' 12 j = (if j < v then w (4 * j + 3) else μ 12 j)) := by
  obtain ⟨m1, m2, m3, m4⟩ := hM
  obtain ⟨M, hMd⟩ : ∃ M : Mem, M = fl (wr (wr μ 6 6 (n : Int)) 6 7 (v : Int)) 8 0 6 0 := ⟨_, rfl⟩
  have c0 : ∀ k : Nat, k ≠ 6 → k ≠ 8 → M k = μ k := fun k h1 h2 => by rw [hMd, fl_cell h2, wr_cell h1, wr_cell h1]
  have c6 : M 6 6 = (n : Int) := by rw [hMd, fl_cell (by omega), wr_ne (by omega), wr_eq]
  have c7 : M 6 7 = (v : Int) := by rw [hMd, fl_cell (by omega), wr_eq]
  have c8 : ∀ k : Nat, k < 6 → M 8 k = 0 := fun k hk => by rw [hMd, fl_in (by omega) hk]
  obtain ⟨μ2, g1, g2, g3, g4⟩ := x_kinds_loop (μ := M) (c := c) hn c6 (fun j hj => ⟨by rw [c0 4 (by omega) (by omega)]; exact m3 _ (by omega), (hg.1 j hj).1⟩) n 100000 0 M (by omega) (by omega) (fun _ _ _ => rfl) (fun j => by rw [if_neg (by omega)]) (fun k hk => by rw [c8 k hk]; rfl)
  obtain ⟨μ3, k1, k2, k3⟩ := x_vals_loop (μ := μ2) (w := w) hv (by rw [g2 6 (by omega) (by omega)]; exact c7) (fun q hq => by rw [g2 5 (by omega) (by omega), c0 5 (by omega) (by omega)]; exact m4 q hq) v 100000 0 μ2 (by omega) (by omega) (fun _ _ => rfl) (fun j => by
    rw [if_neg (by omega), if_neg (by omega), if_neg (by omega), if_neg (by omega)]
    exact ⟨rfl, rfl, rfl, rfl⟩)
  refine ⟨μ3, ?_, fun k hk => ?_, ?_, ?_, fun j => ?_, fun k hk => ?_, fun j => ?_⟩
  · rw [f_X8_begin, m1, vm, wr_cell (k := 6) (j := 3) (by omega), m2, vm, x_fill (by omega), bd_some, ← hMd]
    exact (g1 _).trans k1
  · rw [k2 k (by omega), g2 k (by omega) (by omega), c0 k (by omega) (by omega)]
  · rw [k2 6 (by omega), g2 6 (by omega) (by omega)]; exact c6
  · rw [k2 6 (by omega), g2 6 (by omega) (by omega)]; exact c7
  · rw [k2 7 (by omega), g3 j, c0 7 (by omega) (by omega)]
  · rw [k2 8 (by omega)]; exact g4 k hk
  · obtain ⟨q1, q2, q3, q4⟩ := k3 j
    rw [q1, q2, q3, q4, g2 9 (by omega) (by omega), g2 10 (by omega) (by omega), g2 11 (by omega) (by omega), g2 12 (by omega) (by omega), c0 9 (by omega) (by omega), c0 10 (by omega) (by omega), c0 11 (by omega) (by omega), c0 12 (by omega) (by omega)]
    exact ⟨rfl, rfl, rfl, rfl⟩
theorem x_year_go {μ : Mem} {n v : Nat} {c w : Nat → Int} (hM : MX μ n v c w) (hg : gdD n v c w) (hn : n ≤ 5) (hv : v ≤ 4) :
    ∃ μ' : Mem, (bd (f_X8_begin μ) fun _u m12 => bd (f_X1_begin m12 13) fun _u m13 => vm (wr m13 15 2 0) fun m14 => f_X9_year_L80 100000 0 m14) = some ((n : Int), μ') ∧
      (∀ k : Nat, ¬ (6 ≤ k ∧ k < 13) → k ≠ 14 → k ≠ 15 → ¬ (58 ≤ k ∧ k < 67) → μ' k = μ k) ∧ μ' 6 6 = (n : Int) ∧ μ' 6 7 = (v : Int) ∧ (∀ j : Nat, μ' 7 j = if j < n then c (3 * j) else μ 7 j) ∧ (∀ k : Nat, k < 6 → μ' 8 k = (msk n (fun j => isK k (c (3 * j))) : Nat)) ∧
      (∀ j : Nat, μ' 9 j = (if j < v then w (4 * j) else μ 9 j) ∧ μ' 10 j = (if j < v then w (4 * j + 1) else μ 10 j) ∧ μ' 11 j = (if j < v then w (4 * j + 2) else μ 11 j) ∧ μ' 12 j = (if j < v then w (4 * j + 3) else μ 12 j)) ∧
      (∀ j : Nat, j < 16 → μ' 14 j = yd n c j) ∧ μ' 15 2 = 0 ∧ ∀ j : Nat, j < 3 → μ' (58 + 3 * j) 2 = -1 := by
  obtain ⟨μ1, a1, a2, a3, a4, a5, a6, a7⟩ := x_begin8 hM hg hn hv
  obtain ⟨m1, m2, m3, m4⟩ := hM
  obtain ⟨μ2, b1, b2, b3⟩ := x_yday_loop (μ := fl μ1 14 0 16 0) (c := c) hn (by rw [fl_cell (by omega), a2 3 (by omega)]; exact m1) (fun q hq => by rw [fl_cell (by omega), a2 4 (by omega)]; exact m3 q hq) n 100000 0 (fl μ1 14 0 16 0) (by omega) (by omega) (fun _ _ => rfl) (fun j hj => by rw [fl_in (by omega) hj, yd_z])
  have f2 : ∀ k : Nat, k ≠ 14 → μ2 k = μ1 k := fun k hk => (b2 k hk).trans (fl_cell hk)
  obtain ⟨μ3, d1, d2, d3⟩ := x_ykept_loop 3 100000 0 (wr μ2 15 2 0) (by omega) (by omega)
  have e1 : f_X1_begin μ1 13 = some ((), μ2) := by
    rw [f_X1_begin, x_fill (by omega), bd_some]
    exact b1
  refine ⟨μ3, ?_, fun k h1 h2 h3 h4 => ?_, ?_, ?_, fun j => ?_, fun k hk => ?_, fun j => ?_, fun j hj => ?_, ?_, fun j hj => ?_⟩
  · rw [a1, bd_some, e1, bd_some, vm]
    refine Eq.trans d1 ?_
    rw [wr_cell (by omega), f2 6 (by omega), a3]
  · rw [d2 k h4, wr_cell h3, f2 k h2, a2 k h1]
  · rw [d2 6 (by omega), wr_cell (by omega), f2 6 (by omega)]; exact a3
  · rw [d2 6 (by omega), wr_cell (by omega), f2 6 (by omega)]; exact a4
  · rw [d2 7 (by omega), wr_cell (by omega), f2 7 (by omega)]; exact a5 j
  · rw [d2 8 (by omega), wr_cell (by omega), f2 8 (by omega)]; exact a6 k hk
  · rw [d2 9 (by omega), d2 10 (by omega), d2 11 (by omega), d2 12 (by omega), wr_cell (j := 9) (by omega), wr_cell (j := 10) (by omega), wr_cell (j := 11) (by omega), wr_cell (j := 12) (by omega), f2 9 (by omega), f2 10 (by omega), f2 11 (by omega), f2 12 (by omega)]; exact a7 j
  · rw [d2 14 (by omega), wr_cell (by omega)]; exact b3 j hj
  · rw [d2 15 (by omega), wr_eq]
  · rw [d3 j hj, if_pos (by omega)]
theorem m_year_go {μ : Mem} {n v : Nat} {c w : Nat → Int} (hM : MR μ n v c w) (hn : n ≤ 5) (hv : v ≤ 4) :
    ∃ μ' : Mem, (vm (wr μ 67 0 (μ 67 26)) fun m8 => vm (wr m8 67 1 (m8 67 27)) fun m9 => vm (wr m9 67 8 0) fun m10 => f_X10_year_L62 (fun m14 => f_X10_year_L83 (fun m25 => f_X10_year_L140 (fun m39 => f_X10_year_L204 100000 0 m39) 100000 0 m25) 100000 0 m14) 100000 0 m10) = some ((n : Int), μ') ∧
      (∀ k : Nat, ¬ (67 ≤ k ∧ k < 74) → k ≠ 80 → μ' k = μ k) ∧ (∀ p : Nat, p ≠ 0 → p ≠ 1 → p ≠ 8 → μ' 67 p = μ 67 p) ∧ μ' 67 0 = (n : Int) ∧ μ' 67 1 = (v : Int) ∧ μ' 67 8 = 0 ∧ (∀ j : Nat, μ' 68 j = if j < n then c (3 * j) else μ 68 j) ∧
      (∀ j : Nat, μ' 69 j = (if j < v then w (4 * j) else μ 69 j) ∧ μ' 70 j = (if j < v then w (4 * j + 1) else μ 70 j) ∧ μ' 71 j = (if j < v then w (4 * j + 2) else μ 71 j) ∧ μ' 72 j = (if j < v then w (4 * j + 3) else μ 72 j)) ∧
      (∀ j : Nat, j < 16 → μ' 73 j = yd n c j) ∧ ∀ j : Nat, j < 3 → μ' 80 j = -1 := by
  obtain ⟨m1, m2, m3, m4⟩ := hM
  obtain ⟨M, hMd⟩ : ∃ M : Mem, M = fl (wr (wr (wr μ 67 0 (n : Int)) 67 1 (v : Int)) 67 8 0) 73 0 16 0 := ⟨_, rfl⟩
  have c0 : ∀ k : Nat, k ≠ 67 → k ≠ 73 → M k = μ k := fun k h1 h2 => by rw [hMd, fl_cell h2, wr_cell h1, wr_cell h1, wr_cell h1]
  have c7 : ∀ p : Nat, p ≠ 0 → p ≠ 1 → p ≠ 8 → M 67 p = μ 67 p := fun p h1 h2 h3 => by rw [hMd, fl_cell (by omega), wr_ne (by omega), wr_ne (by omega), wr_ne (by omega)]
  have d0 : M 67 0 = (n : Int) := by rw [hMd, fl_cell (by omega), wr_ne (by omega), wr_ne (by omega), wr_eq]
  have d1 : M 67 1 = (v : Int) := by rw [hMd, fl_cell (by omega), wr_ne (by omega), wr_eq]
  have d8 : M 67 8 = 0 := by rw [hMd, fl_cell (by omega), wr_eq]
  obtain ⟨μ2, g1, g2, g3, g4⟩ := m_y2_loop (μ := M) (c := c) hn d0 (fun j hj => by rw [c0 85 (by omega) (by omega), c0 86 (by omega) (by omega), c0 87 (by omega) (by omega)]; exact m3 j hj) n 100000 0 M (by omega) (by omega) (fun _ _ _ => rfl) (fun j => by rw [if_neg (by omega)]) (fun j hj => by rw [hMd, fl_in (by omega) hj, yd_z])
  obtain ⟨μ3, k1, k2, k3⟩ := m_y3_loop (μ := μ2) (w := w) hv (by rw [g2 67 (by omega) (by omega)]; exact d1) (fun j hj => by rw [g2 88 (by omega) (by omega), g2 89 (by omega) (by omega), g2 90 (by omega) (by omega), g2 91 (by omega) (by omega), c0 88 (by omega) (by omega), c0 89 (by omega) (by omega), c0 90 (by omega) (by omega), c0 91 (by omega) (by omega)]; exact m4 j hj) v 100000 0 μ2 (by omega) (by omega) (fun _ _ => rfl) (fun j => by
    rw [if_neg (by omega), if_neg (by omega), if_neg (by omega), if_neg (by omega)]
    exact ⟨rfl, rfl, rfl, rfl⟩)
  have l1 := m_y1_loop 16 100000 0 (wr (wr (wr μ 67 0 (n : Int)) 67 1 (v : Int)) 67 8 0) (by omega) (by omega)
  rw [← hMd] at l1
  have l4 := m_y4_loop 3 100000 0 μ3 (by omega) (by omega)
  have e7 : μ3 67 = M 67 := by rw [k2 67 (by omega), g2 67 (by omega) (by omega)]
  have e0 : ∀ k : Nat, ¬ (67 ≤ k ∧ k < 74) → k ≠ 80 → fl μ3 80 0 3 (-1) k = μ k := fun k h1 h2 => by rw [fl_cell h2, k2 k (by omega), g2 k (by omega) (by omega), c0 k (by omega) (by omega)]
  refine ⟨fl μ3 80 0 3 (-1), ?_, e0, fun p h1 h2 h3 => ?_, ?_, ?_, ?_, fun j => ?_, fun j => ?_, fun j hj => ?_, fun j hj => ?_⟩
  · rw [m1, vm, wr_ne (by omega), m2, vm, vm]
    refine (l1 _).trans ((g1 _).trans ((k1 _).trans (l4.trans ?_)))
    rw [e7, d0]
  · rw [fl_cell (by omega), e7]; exact c7 p h1 h2 h3
  · rw [fl_cell (by omega), e7]; exact d0
  · rw [fl_cell (by omega), e7]; exact d1
  · rw [fl_cell (by omega), e7]; exact d8
  · rw [fl_cell (by omega), k2 68 (by omega), g3 j, c0 68 (by omega) (by omega)]
  · rw [fl_cell (j := 69) (by omega), fl_cell (j := 70) (by omega), fl_cell (j := 71) (by omega), fl_cell (j := 72) (by omega)]
    obtain ⟨q1, q2, q3, q4⟩ := k3 j
    rw [q1, q2, q3, q4, g2 69 (by omega) (by omega), g2 70 (by omega) (by omega), g2 71 (by omega) (by omega), g2 72 (by omega) (by omega), c0 69 (by omega) (by omega), c0 70 (by omega) (by omega), c0 71 (by omega) (by omega), c0 72 (by omega) (by omega)]
    exact ⟨rfl, rfl, rfl, rfl⟩
  · rw [fl_cell (by omega), k2 73 (by omega)]; exact g4 j hj
  · exact fl_in (by omega) hj
theorem p_year {n : Nat} {p : Int} (hp : inR p) : Pair n (fun μ => f_X9_year μ p) (fun μ => f_X10_year μ p) := by
  intro μ h
  have htl := h.2.2.2.2.2.2.2.1
  by_cases hr : 0 ≤ p ∧ p < ((4 : Nat) : Int)
  · obtain ⟨t, ht, rfl⟩ := nat_of hr
    obtain ⟨z1, z2, z3⟩ := h.2.1.sz ht
    by_cases c : μ 78 t < 0
    · refine pair_fnd h 1 (by omega) (by omega) ?_ (fun μ1 e => ?_)
      · show f_X9_year μ (t : Int) = _
        rw [f_X9_year, x_isText1 ht, bd_some, if_neg w1ne, ck_ok (by omega) (by omega) (by omega), w32_nat (by omega), Int.toNat_natCast, x_tthere z2, bd_some, z3, if_pos c, if_pos w0, bd_ret]
      · show f_X10_year μ1 (t : Int) = _
        rw [f_X10_year, m_isText1 ht, bd_some, if_neg w1ne, ck_ok (by omega) (by omega) (by omega), w32_nat (by omega), Int.toNat_natCast, e 78 (by omega) (by omega), z1.w, if_pos c, bd_ret]
    · obtain ⟨S, B, hS, hT, hM⟩ := rd_pair h ht c
      obtain ⟨p1, p2, p3, p4⟩ := paF_b (B := B) hT.2.1
      obtain ⟨μ1, g1, g2, g3⟩ := x_read hT
      have hx : FX μ μ1 := FX.of g2 (fun k hk => by simp at hk; omega)
      have ex : f_X9_year μ (t : Int) = if w32 (paF B S) = w32 (-9) then (bd (f_X8_begin μ1) fun _u m12 => bd (f_X1_begin m12 13) fun _u m13 => vm (wr m13 15 2 0) fun m14 => f_X9_year_L80 100000 0 m14) else some (-4, μ1) := by
        rw [f_X9_year, x_isText1 ht, bd_some, if_neg w1ne, ck_ok (by omega) (by omega) (by omega), w32_nat (by omega), Int.toNat_natCast, x_tthere z2, bd_some, z3, if_neg c, if_neg w1ne, ck_ok (by omega) (by omega) (by omega), g1, bd_some]
      rw [w32_id (a := paF B S) (by omega) (by omega), w32_id (a := -9) (by omega) (by omega)] at ex
      by_cases c1 : paF B S < 0
      · obtain ⟨e9, en, -⟩ := p3 c1
        obtain ⟨hn5, hv4⟩ : (paR B S).2.1 ≤ 5 ∧ (paR B S).2.2.1 ≤ 4 := pa_n 100 0 0 0 _ _ (by omega) (by omega)
        have hg := paR_gd (B := B) (S := S)
        obtain ⟨μ2, a1, a2, a3, a4, a5, a6, a7, a8, a9, a0⟩ := x_year_go (g3 en) hg hn5 hv4
        have h12 : ∀ k : Nat, 67 ≤ k → μ2 k = μ k := fun k hk => by rw [a2 k (by omega) (by omega) (by omega) (by omega), hx.hi k hk]
        obtain ⟨μ3, k1, k2, -, k4⟩ := m_read (hM.cg h12)
        obtain ⟨k5, k6⟩ := k4 c1
        obtain ⟨μ4, r1, r2, r3, r4, r5, r6, r7, r8, r9, r0⟩ := m_year_go k6 hn5 hv4
        rw [if_pos e9, a1] at ex
        obtain ⟨N, hN⟩ : ∃ N : Nat, N = (paR B S).2.1 := ⟨_, rfl⟩
        obtain ⟨V, hV⟩ : ∃ V : Nat, V = (paR B S).2.2.1 := ⟨_, rfl⟩
        obtain ⟨cc, hcc⟩ : ∃ cc : Nat → Int, cc = (paR B S).2.2.2.1 := ⟨_, rfl⟩
        obtain ⟨ww, hww⟩ : ∃ ww : Nat → Int, ww = (paR B S).2.2.2.2 := ⟨_, rfl⟩
        rw [← hN] at hn5
        rw [← hV] at hv4
        rw [← hN, ← hV, ← hcc, ← hww] at hg
        rw [← hN] at a3 r4
        rw [← hV] at a4 r5
        rw [← hN, ← hcc] at a5 a6 a8 r7 r9
        rw [← hV, ← hww] at a7 r8
        rw [← hN] at ex r1
        have el : ∀ k : Nat, k < 67 → μ4 k = μ2 k := fun k hk => by rw [r2 k (by omega) (by omega), k2.1 k (by omega) (by omega)]
        have e : ∀ k : Nat, ¬ ((3 ≤ k ∧ k < 16) ∨ (58 ≤ k ∧ k < 74) ∨ k = 80 ∨ (85 ≤ k ∧ k < 92)) → μ4 k = μ k := fun k hk => by
          rw [r2 k (by omega) (by omega), k2.1 k (by omega) (by omega), a2 k (by omega) (by omega) (by omega) (by omega), g2 k (by simp; omega)]
        have h3 : ∀ k : Nat, 68 ≤ k → k < 73 → μ3 k = μ k := fun k h1 h2 => by rw [k2.1 k (by omega) (by omega), h12 k (by omega)]
        have hy := h.2.2.1
        obtain ⟨-, -, -, -, y5, -, y7⟩ := hy
        refine ⟨(N : Int), μ2, μ4, ex, ?_, h.1.cg (fun k hk => e k (by omega)), h.2.1.cg (fun k hk => e k (by omega)), ⟨?_, ?_, ?_, ?_, fun i hi => ?_, fun k hk => ?_, fun v hv => ?_⟩, ⟨fun i hi => ?_, (yd_DB hg hn5).cg r9⟩, ⟨?_, ?_, fun j hj => ?_⟩, fun k hk => ⟨?_, ?_, fun h0 => ?_⟩, h.2.2.2.2.2.2.cg (fun k hk => e k (by omega)) (fun q hq => by rw [e 0 (by omega)]) (fun q hq => ?_)⟩
        · show f_X10_year μ2 (t : Int) = _
          rw [f_X10_year, m_isText1 ht, bd_some, if_neg w1ne, ck_ok (by omega) (by omega) (by omega), w32_nat (by omega), Int.toNat_natCast, h12 78 (by omega), z1.w, if_neg c, k1, bd_some, k5, if_pos (by decide +kernel)]
          exact r1
        · rw [r4]; omega
        · rw [el 6 (by omega), a3, r4]
        · rw [r5]; omega
        · rw [el 6 (by omega), a4, r5]
        · obtain ⟨y1, y2⟩ := y5 i hi
          rw [el 7 (by omega), a5 i, r7 i]
          by_cases g : i < N
          · rw [if_pos g, if_pos g]
            exact ⟨rfl, (hg.1 i g).1⟩
          · rw [if_neg g, if_neg g, h3 68 (by omega) (by omega), g2 7 (by simp)]
            exact ⟨y1, y2⟩
        · rw [el 8 (by omega), a6 k hk, r4, Int.toNat_natCast]
          refine congrArg _ (msk_cg fun i hi => ?_)
          show isK k (cc (3 * i)) = isK k (μ4 68 i)
          rw [r7 i, if_pos hi]
        · obtain ⟨q1, q2, q3, q4⟩ := a7 v
          obtain ⟨s1, s2, s3, s4⟩ := r8 v
          rw [el 9 (by omega), el 10 (by omega), el 11 (by omega), el 12 (by omega), q1, q2, q3, q4, s1, s2, s3, s4]
          by_cases g : v < V
          · rw [if_pos g, if_pos g, if_pos g, if_pos g, if_pos g, if_pos g, if_pos g, if_pos g]
            obtain ⟨w1, w2, w3, w4⟩ := hg.2 v g
            exact ⟨⟨rfl, w1⟩, ⟨rfl, w2⟩, ⟨rfl, w3⟩, ⟨rfl, w4⟩⟩
          · rw [if_neg g, if_neg g, if_neg g, if_neg g, if_neg g, if_neg g, if_neg g, if_neg g, h3 69 (by omega) (by omega), h3 70 (by omega) (by omega), h3 71 (by omega) (by omega), h3 72 (by omega) (by omega), g2 9 (by simp), g2 10 (by simp), g2 11 (by simp), g2 12 (by simp)]
            exact y7 v hv
        · rw [el 14 (by omega), a8 i hi, r9 i hi]
        · rw [r6]; omega
        · rw [el 15 (by omega), a9, r6]
        · rw [r6] at hj; omega
        · rw [r0 k hk]; omega
        · rw [el (58 + 3 * k) (by omega), a0 k hk, r0 k hk]
        · rw [r0 k hk] at h0; omega
        · rw [r3 q (by omega) (by omega) (by omega), k2.2 q (by omega), h12 67 (by omega)]
      · rw [if_neg (by omega)] at ex
        obtain ⟨μ2, k1, k2, k3, -⟩ := m_read (hM.cg hx.hi)
        refine ⟨-4, μ1, μ2, ex, ?_, (aside_end h hx k2.fm (by rw [k2.2 10 (by omega), hx.hi 67 (by omega), g2 0 (by simp), htl]) (fun i hi => by rw [k2.1 73 (by omega) (by omega), hx.hi 73 (by omega)])).up (Nat.le_succ n)⟩
        show f_X10_year μ1 (t : Int) = _
        rw [f_X10_year, m_isText1 ht, bd_some, if_neg w1ne, ck_ok (by omega) (by omega) (by omega), w32_nat (by omega), Int.toNat_natCast, hx.hi 78 (by omega), z1.w, if_neg c, k1, bd_some, k3 (by omega), w32_id (by omega) (by omega), if_neg c1]
  · refine pair_bad h (a := -1) ?_ ?_
    · show f_X9_year μ p = _
      rw [f_X9_year, x_isText0 hp hr, bd_some, if_pos w0]
    · show f_X10_year μ p = _
      rw [f_X10_year, m_isText0 hp hr, bd_some, if_pos w0]
