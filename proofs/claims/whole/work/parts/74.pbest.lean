theorem x_rtake {μ : Mem} {t a N : Nat} (hN : N ≤ 3) : f_X5_take μ t a 3 (N : Int) = some ((), wr (cpy μ a (t + 1) 0 0 N) t 1 (N : Int)) := by
  rw [f_X5_take, ckc_ok (by omega) (by omega) (by omega) (by omega) (by omega) (by omega) (by omega), vm, vm, w32_id (a := 0) (by omega) (by omega), w32_nat (by omega), Int.toNat_natCast, Int.toNat_zero]
theorem x_begin {μ : Mem} {N : Nat} : f_X6_begin μ (N : Int) = some ((), cpy (wr μ 22 3 (N : Int)) 14 27 0 0 16) := by
  rw [f_X6_begin, vm, ck_ok (by omega) (by omega) (by omega), w32_id (a := 0) (by omega) (by omega), Int.toNat_zero, x_tk, bd_some]
/-- what the search begins with: its cells apart, the day of the first hour -/
theorem bg_fx {μ : Mem} {N p : Nat} {z : Int} : FX μ (wr (cpy (wr μ 22 3 (N : Int)) 14 27 0 0 16) 22 p z) :=
  ⟨fun k hk => by rw [wr_cell (by omega), cpy_cell (by omega), wr_cell (by omega)], fun q _ => by rw [wr_cell (by omega), cpy_cell (by omega), wr_cell (by omega)]⟩
theorem bg_3 {μ : Mem} {N p : Nat} {z : Int} (hp : p ≠ 3) : wr (cpy (wr μ 22 3 (N : Int)) 14 27 0 0 16) 22 p z 22 3 = (N : Int) := by
  rw [wr_ne (by omega), cpy_cell (by omega), wr_eq]
theorem bg_d {μ : Mem} {N p : Nat} {z : Int} {F : Nat → Int} (hd : ∀ i : Nat, i < 16 → μ 14 i = F i) (j : Nat) (hj : j < 16) : wr (cpy (wr μ 22 3 (N : Int)) 14 27 0 0 16) 22 p z (26 + 2 * 0 + 1) j = F j := by
  rw [wr_cell (by omega), cpy_in (by omega) (by omega)]; simp only [Nat.zero_add, Nat.sub_zero]
  rw [wr_cell (by omega)]; exact hd j hj
/-- both make a row anew, behind searches aside -/
theorem pl_end {n C r N b : Nat} {μ μa μb : Mem} (h : Inv n μ) (hC0 : μ 67 0 = (C : Int)) (hC : C ≤ 5) (hr : r < 6) (hN : N ≤ 3) (hb : b < 2 ^ 31) (hx : FX μ μa) (hx0 : μa 0 = μ 0) (ha : ∀ k : Nat, k < N → μa 25 k = (dg C N b k : Nat))
    (hs : FM (wr (cpy μa 25 (38 + 2 * r + 1) 0 0 N) (38 + 2 * r) 1 (N : Int)) μb) (h10 : μb 67 10 = μ 67 10) (h73 : ∀ i : Nat, i < 16 → μb 73 i = μ 73 i) :
    ∃ μ2 : Mem, f_X10_layPlan μb (r : Int) (b : Int) (N : Int) = some ((), μ2) ∧ Inv n μ2 := by
  have e67 : ∀ p : Nat, ¬ ((24 ≤ p ∧ p < 28) ∨ p = 35 ∨ p = 36) → μb 67 p = μ 67 p := fun p hp => by
    by_cases g : p = 10
    · subst g; exact h10
    · rw [hs.2 p (by omega), wr_cell (by omega), cpy_cell (by omega), hx.1 67 (by omega)]
  obtain ⟨μ2, k1, k2, k3, k4, k5⟩ := m_lp (μ := μb) (e := b) (by rw [e67 0 (by omega)]; exact hC0) hC hr hN hb
  have h32 := pow5 hC
  refine ⟨μ2, k1, row_end (R := fun i => ((dg C N b i : Nat) : Int)) (N := N) h hr (by omega) (fun k hk => ?_) (fun p hp => ?_) (fun i hi => ?_) ?_ (fun i hi => ?_) (fun s => ?_) (fun q hq => ?_) (fun i hi => k5 i hi) (fun i hi => ?_)⟩
  · rw [k2 k (by omega) (by omega), hs.1 k (by omega), wr_cell (by omega), cpy_cell (by omega)]
    by_cases g : k = 0
    · subst g; exact hx0
    · exact hx.1 k (by omega)
  · rw [k2 67 (by omega) (by omega)]; exact e67 p hp
  · rw [k2 73 (by omega) (by omega)]; exact h73 i hi
  · rw [k2 _ (by omega) (by omega), hs.1 _ (by omega), wr_eq]
  · rw [k2 _ (by omega) (by omega), hs.1 _ (by omega), wr_cell (by omega), cpy_in (by omega) (by omega)]; simp only [Nat.zero_add, Nat.sub_zero]
    exact ha i hi
  · rw [k3, hs.1 76 (by omega), wr_cell (by omega), cpy_cell (by omega), hx.1 76 (by omega)]
  · rw [k4 q hq, hs.1 77 (by omega), wr_cell (by omega), cpy_cell (by omega), hx.1 77 (by omega)]
  · have : dg C N b i < 2 ^ C := dg_lt
    exact ⟨by omega, by omega⟩
theorem p_best {n : Nat} (hn : n ≤ 900) {p q : Int} (hp : inR p) (hq : inR q) : Pair n (fun μ => f_X9_best μ p q) (fun μ => f_X10_best μ p q) := by
  intro μ h
  obtain ⟨C, V, hC0, hV0, hYX, hYM, hVX, hVM⟩ := h.yr
  have hC := hYX.1
  have h32 := pow5 hC
  have hx6 := hYX.2.1
  have hday := h.2.2.2.1
  have mi : ∀ μ1 : Mem, f_X10_in μ1 (w32 p) 0 3 = some (if 0 ≤ p ∧ p ≤ 3 then 1 else 0, μ1) := fun μ1 => by
    rw [hp.w]; exact m_in hp ⟨by omega, by omega⟩ ⟨by omega, by omega⟩
  by_cases c : 0 ≤ p ∧ p ≤ 3
  · by_cases hr : 0 ≤ q ∧ q < ((6 : Nat) : Int)
    · obtain ⟨r, hr6, rfl⟩ := nat_of hr
      obtain ⟨N, rfl⟩ : ∃ N : Nat, p = (N : Int) := ⟨p.toNat, by omega⟩
      have hN : N ≤ 3 := by omega
      by_cases c0 : C = 0
      · refine pair_bad h (a := -4) ?_ ?_
        · show f_X9_best μ (N : Int) (r : Int) = _
          rw [f_X9_best, hp.w, if_neg (by omega), w32_id (a := 3) (by omega) (by omega), if_neg (by omega), x_isRow1 hr6, bd_some, if_neg w1ne, hx6, c0, Int.natCast_zero, if_pos w0]
        · show f_X10_best μ (N : Int) (r : Int) = _
          rw [f_X10_best, mi, bd_some, if_pos c, if_neg w1ne, m_isRow1 hr6, bd_some, if_neg w1ne, hC0, c0, Int.natCast_zero, if_pos w0]
      · have h15 := pow15 hC hN
        have hx0 : FX μ (wr (cpy (wr μ 22 3 (N : Int)) 14 27 0 0 16) 22 4 (-1)) := bg_fx
        obtain ⟨μa, g1, g2, -, g4⟩ := x_best_seek (C := C) (V := V) (K := μ 68) (lt := μ 69) (fr := μ 70) (tt := μ 71) (wo := μ 72) hday.2 hn hN hVX.2.2.2 N 0 0 9 (wr (cpy (wr μ 22 3 (N : Int)) 14 27 0 0 16) 22 4 (-1)) (by omega) (by omega) (hYX.fx hx0) (hVX.fx hx0) (bg_3 (by omega)) (fun _ j hj => bg_d hday.1 j hj) (fun k hk => by omega) (Or.inl ⟨by rw [Nat.zero_mul], wr_eq⟩)
        rw [Nat.zero_add, Nat.one_mul, ← Nat.pow_mul] at g4
        obtain ⟨H, hH⟩ : ∃ H : Nat → Int, H = Gv C V (μ 68) (μ 73) (gnv (μ 69) (μ 70) (μ 71) (μ 72)) N := ⟨_, rfl⟩
        have hHb : ∀ e, 0 ≤ H e ∧ H e ≤ 200 := fun e => by rw [hH]; have := Gv_b (C := C) (K := μ 68) (F := μ 73) hVX.1 hVX.2.2.2 N e; omega
        rw [← hH] at g4
        have hpos : 0 < 2 ^ (C * N) := Nat.pow_pos (by omega)
        obtain ⟨b, b1, b2, b3⟩ : ∃ b : Nat, fb H (2 ^ (C * N)) b ∧ μa 22 4 = H b ∧ ∀ k : Nat, k < N → μa 25 k = (dg C N b k : Nat) := by
          rcases g4 with ⟨z1, -⟩ | ⟨b, b1, b2, b3⟩
          · omega
          · exact ⟨b, b1, b2, b3⟩
        have hbl := b1.1
        have hxa : FX μ μa := hx0.tr (g2.fx (by omega))
        have hxa0 : μa 0 = μ 0 := by rw [g2.1 0 (by omega) (by omega) (by omega) (by omega), wr_cell (by omega), cpy_cell (by omega), wr_cell (by omega)]
        have hh : ∀ k : Nat, 67 ≤ k → wr (cpy μa 25 (38 + 2 * r + 1) 0 0 N) (38 + 2 * r) 1 (N : Int) k = μ k := fun k hk => by rw [wr_cell (by omega), cpy_cell (by omega), hxa.hi k hk]
        have ex : f_X9_best μ (N : Int) (r : Int) = some (H b, wr (cpy μa 25 (38 + 2 * r + 1) 0 0 N) (38 + 2 * r) 1 (N : Int)) := by
          have e1 : f_X6_mostGain μ (N : Int) = some (H b, μa) := by
            rw [f_X6_mostGain, x_begin, bd_some, vm]
            rw [Int.natCast_zero, show Gv C V (μ 68) (μ 73) (gnv (μ 69) (μ 70) (μ 71) (μ 72)) 0 0 = 0 from rfl] at g1
            rw [g1, bd_some, b2]
          rw [f_X9_best, hp.w, if_neg (by omega), w32_id (a := 3) (by omega) (by omega), if_neg (by omega), x_isRow1 hr6, bd_some, if_neg w1ne, hx6, w32_nat (i := C) (by omega), if_neg (by omega), e1, bd_some, ck_ok (by omega) (by omega) (by omega), w32_nat (i := r) (by omega), Int.toNat_natCast, x_rtake hN, bd_some]
        generalize hm1 : wr (cpy μa 25 (38 + 2 * r + 1) 0 0 N) (38 + 2 * r) 1 (N : Int) = μ1 at hh ex
        have hs := sv_fm μ1
        have lp := fun Kc => m_bst_loop (Kc := Kc) (μs := cpy μ1 73 92 0 0 16) (N := N) (F := μ 73) ((hYM.hi hh).fh hs) ((hVM.hi hh).fh hs) hday.2 hn hN (fun i hi => by rw [sv_92 hi, hh 73 (by omega)]) (z := sg V (fun v => μ 73 (12 + v))) rfl (2 ^ (C * N)) 100000 0 (cpy μ1 73 92 0 0 16) (by omega) (by omega) FH.rf (fun i hi => by rw [cpy_cell (by omega), hh 73 (by omega)])
        rw [← hH] at lp
        have hmx : fb H (2 ^ (C * N)) (mxB (-1) H (2 ^ (C * N))) ∧ mxM (-1) H (2 ^ (C * N)) = H (mxB (-1) H (2 ^ (C * N))) := by
          rcases mx_sp (z := -1) (H := H) (2 ^ (C * N)) with ⟨z1, -, -⟩ | ⟨z1, z2, -⟩
          · have := z1 0 hpos; have := hHb 0; omega
          · exact ⟨z1, z2⟩
        have hbb := fb_un hmx.1 b1
        rw [hbb] at hmx
        obtain ⟨μb, k1, k2, k3⟩ := lp (fun x26 x27 m28 => bd (f_X10_layPlan m28 (r : Int) x26 (N : Int)) fun _u m29 => some (x27, m29))
        rw [Int.natCast_zero, hbb, hmx.2, show mxB (-1) H 0 = 0 from rfl, show mxM (-1) H 0 = -1 from rfl, Int.natCast_zero] at k1
        obtain ⟨μ2, l1, l2⟩ := pl_end (μb := μb) (b := b) h hC0 hC hr6 hN (by omega) hxa hxa0 b3 (by rw [hm1]; exact hs.tr k2.fm) (by rw [k2.2 10 (by omega) (by omega), cpy_cell (by omega), hh 67 (by omega)]) k3
        refine ⟨H b, μ1, μ2, ex, ?_, l2.up (Nat.le_succ n)⟩
        show f_X10_best μ1 (N : Int) (r : Int) = _
        rw [f_X10_best, mi, bd_some, if_pos c, if_neg w1ne, m_isRow1 hr6, bd_some, if_neg w1ne, hh 67 (by omega), hC0, w32_nat (i := C) (by omega), if_neg (by omega), m_save, bd_some, m_gnow hVX.1 (by rw [cpy_cell (by omega), hh 67 (by omega)]; exact hV0), bd_some, sg_cg (V := V) (f := fun v => cpy μ1 73 92 0 0 16 73 (12 + v)) (g := fun v => μ 73 (12 + v)) (fun v hv => by rw [cpy_cell (by omega), hh 73 (by omega)])]
        refine Eq.trans k1 ?_
        rw [l1, bd_some]
    · refine pair_bad h (a := -1) ?_ ?_
      · show f_X9_best μ p q = _
        rw [f_X9_best, hp.w, if_neg (by omega), w32_id (a := 3) (by omega) (by omega), if_neg (by omega), x_isRow0 hq hr, bd_some, if_pos w0]
      · show f_X10_best μ p q = _
        rw [f_X10_best, mi, bd_some, if_pos c, if_neg w1ne, m_isRow0 hq hr, bd_some, if_pos w0]
  · refine pair_bad h (a := -1) ?_ ?_
    · show f_X9_best μ p q = _
      rw [f_X9_best, hp.w, w32_id (a := 3) (by omega) (by omega)]
      by_cases c1 : p < 0
      · rw [if_pos c1]
      · rw [if_neg c1, if_pos (by omega)]
    · show f_X10_best μ p q = _
      rw [f_X10_best, mi, bd_some, if_neg c, if_pos w0]
