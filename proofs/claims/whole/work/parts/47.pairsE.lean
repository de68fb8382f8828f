theorem ckc_ok {α : Type} {a b c : Int} {n n' : Nat} {F : Option α} (h1 : 0 ≤ a) (h2 : 0 ≤ b) (h3 : 0 ≤ c) (h4 : a + c ≤ (n : Int)) (h5 : b + c ≤ (n' : Int)) (h6 : a + c < 2147483648) (h7 : b + c < 2147483648) : ckc a b c n n' F = F := by
  rw [ckc, w32_id (by omega) (by omega), w32_id (by omega) (by omega), w32_id (by omega) (by omega), if_pos ⟨h1, h2, h3, h4, h5⟩]
theorem copy96_loop {K : Mem → Option (Int × Mem)} {r a N : Nat} (hr : r < 6) (hN : a + N ≤ 40) : ∀ (m u i : Nat) (μ : Mem), i + m = N → m < u → f_X10_copy_L96 K (r : Int) (a : Int) (N : Int) u (i : Int) μ = K (cpy μ 77 84 (40 * r + a + i) i m) := by
  intro m
  induction m with
  | zero =>
    intro u i μ hi hu
    obtain ⟨u, rfl⟩ : ∃ v, u = v + 1 := ⟨u - 1, by omega⟩
    simp -implicitDefEqProofs (disch := omega) only [f_X10_copy_L96, w32_nat]
    rw [if_neg (by omega), cpy_none]
  | succ m ih =>
    intro u i μ hi hu
    obtain ⟨u, rfl⟩ : ∃ v, u = v + 1 := ⟨u - 1, by omega⟩
    simp -implicitDefEqProofs (disch := omega) only [f_X10_copy_L96, w32_nat, ck_ok, vm, Int.toNat_natCast, w32_id]
    rw [if_pos (by omega), show (40 * (r : Int) + (a : Int) + (i : Int)).toNat = 40 * r + a + i by omega]
    have := ih u (i + 1) (wr μ 84 i (μ 77 (40 * r + a + i))) (by omega) (by omega)
    rw [show ((i + 1 : Nat) : Int) = (i : Int) + 1 by omega, ← Nat.add_assoc, cpy_step (by omega)] at this
    exact this
theorem copy133_loop {r a N : Nat} (hr : r < 6) (hN : a + N ≤ 40) : ∀ (m u i : Nat) (μ : Mem), i + m = N → m < u → f_X10_copy_L133 (r : Int) (a : Int) (N : Int) u (i : Int) μ = some (1, cpy μ 84 77 i (40 * r + a + i) m) := by
  intro m
  induction m with
  | zero =>
    intro u i μ hi hu
    obtain ⟨u, rfl⟩ : ∃ v, u = v + 1 := ⟨u - 1, by omega⟩
    simp -implicitDefEqProofs (disch := omega) only [f_X10_copy_L133, w32_nat]
    rw [if_neg (by omega), cpy_none]
  | succ m ih =>
    intro u i μ hi hu
    obtain ⟨u, rfl⟩ : ∃ v, u = v + 1 := ⟨u - 1, by omega⟩
    simp -implicitDefEqProofs (disch := omega) only [f_X10_copy_L133, w32_nat, ck_ok, vm, Int.toNat_natCast, w32_id]
    rw [if_pos (by omega), show (40 * (r : Int) + (a : Int) + (i : Int)).toNat = 40 * r + a + i by omega]
    have := ih u (i + 1) (wr μ 77 (40 * r + a + i) (μ 84 i)) (by omega) (by omega)
    rw [show ((i + 1 : Nat) : Int) = (i : Int) + 1 by omega, ← Nat.add_assoc, cpy_step (by omega)] at this
    exact this
theorem copy_all {r a s b N : Nat} (hr : r < 6) (hs : s < 6) (hN : a + N ≤ 40) (hN' : b + N ≤ 40) (μ : Mem) : f_X10_copy_L96 (fun m30 => f_X10_copy_L133 (s : Int) (b : Int) (N : Int) 100000 0 m30) (r : Int) (a : Int) (N : Int) 100000 0 μ = some (1, cpy (cpy μ 77 84 (40 * r + a) 0 N) 84 77 0 (40 * s + b) N) := by
  have h1 := copy96_loop (K := fun m30 => f_X10_copy_L133 (s : Int) (b : Int) (N : Int) 100000 0 m30) hr hN N 100000 0 μ (by omega) (by omega)
  have h2 := copy133_loop hs hN' N 100000 0 (cpy μ 77 84 (40 * r + a) 0 N) (by omega) (by omega)
  rw [Int.natCast_zero, Nat.add_zero] at h1 h2
  rw [h1]
  exact h2
theorem x_many {μ : Mem} {t : Nat} {a b : Int} (h : inR (μ t 1)) (h0 : 0 ≤ μ t 1) (ha : inR a) (hb : inR b) (hb0 : 0 ≤ b) : f_X5_hasMany μ t a b = some (if 0 ≤ a ∧ a ≤ μ t 1 - b then 1 else 0, μ) := by
  obtain ⟨h1, h2⟩ := h
  obtain ⟨a1, a2⟩ := ha
  obtain ⟨b1, b2⟩ := hb
  simp -implicitDefEqProofs (disch := omega) only [f_X5_hasMany, vl, w32_id]
  by_cases c : a < 0
  · rw [if_pos c, if_neg (by omega)]
  · rw [if_neg c, if_neg (by omega)]
    by_cases c1 : μ t 1 - b < a
    · rw [if_pos c1, if_neg (by omega)]
    · rw [if_neg c1, if_pos (by omega)]
theorem p_copy {n : Nat} {p a q b c : Int} (hp : inR p) (ha : inR a) (hq : inR q) (hb : inR b) (hc : inR c) : Pair n (fun μ => f_X9_copy μ p a q b c) (fun μ => f_X10_copy μ p a q b c) := by
  intro μ h
  by_cases hr : 0 ≤ p ∧ p < ((6 : Nat) : Int)
  · obtain ⟨r, hr6, rfl⟩ := nat_of hr
    by_cases hs : 0 ≤ q ∧ q < ((6 : Nat) : Int)
    · obtain ⟨s, hs6, rfl⟩ := nat_of hs
      have hI := h.1
      obtain ⟨h1, h2, h3⟩ := hI.sz hr6
      obtain ⟨⟨b1, b2⟩, -, hcr⟩ := hI r hr6
      obtain ⟨k1, k2, k3⟩ := hI.sz hs6
      obtain ⟨⟨d1, d2⟩, -, hcs⟩ := hI s hs6
      have kx : f_X9_copy μ (r : Int) a (s : Int) b c = if c < 0 then f_X9_found μ 5 else if μ 76 r < 0 then f_X9_found μ 1 else if μ 76 s < 0 then f_X9_found μ 1 else if 0 ≤ a ∧ a ≤ μ 76 r - c then (if 0 ≤ b ∧ b ≤ μ 76 s - c then some (1, cpy μ (38 + 2 * r + 1) (38 + 2 * s + 1) a.toNat b.toNat c.toNat) else f_X9_found μ 2) else f_X9_found μ 2 := by
        simp -implicitDefEqProofs (disch := omega) only [f_X9_copy, x_isRow1 hr6, x_isRow1 hs6, bd_some, if_neg w1ne, ck_ok, w32_nat, Int.toNat_natCast, x_there h2, x_there k2, bd_ret, jn, ha.w, hb.w, hc.w, vl, vm]
        rw [h3, k3]
        by_cases c0 : c < 0
        · rw [if_pos c0, if_pos c0]
        · rw [if_neg c0, if_neg c0]
          by_cases c1 : μ 76 r < 0
          · rw [if_pos c1, if_pos c1, if_pos w0]
          · rw [if_neg c1, if_neg c1, if_neg w1ne]
            by_cases c2 : μ 76 s < 0
            · rw [if_pos c2, if_pos c2, if_pos w0]
            · rw [if_neg c2, if_neg c2, if_neg w1ne, x_many h2 (by omega) ha hc (by omega), bd_some, ite_w, h3]
              by_cases c3 : 0 ≤ a ∧ a ≤ μ 76 r - c
              · rw [if_pos c3, if_pos c3, x_many k2 (by omega) hb hc (by omega), bd_some, ite_w, k3]
                by_cases c4 : 0 ≤ b ∧ b ≤ μ 76 s - c
                · rw [if_pos c4, if_pos c4, ckc_ok (by omega) (by omega) (by omega) (by omega) (by omega) (by omega) (by omega)]
                · rw [if_neg c4, if_neg c4]
              · rw [if_neg c3, if_neg c3]
      have km : ∀ μ1 : Mem, μ1 76 = μ 76 → f_X10_copy μ1 (r : Int) a (s : Int) b c = if c < 0 then f_X10_finds μ1 5 else if μ 76 r < 0 then f_X10_finds μ1 1 else if μ 76 s < 0 then f_X10_finds μ1 1 else if 0 ≤ a ∧ a ≤ μ 76 r - c then (if 0 ≤ b ∧ b ≤ μ 76 s - c then some (1, cpy (cpy μ1 77 84 (40 * r + a.toNat) 0 c.toNat) 84 77 0 (40 * s + b.toNat) c.toNat) else f_X10_finds μ1 2) else f_X10_finds μ1 2 := by
        intro μ1 e
        simp -implicitDefEqProofs (disch := omega) only [f_X10_copy, m_isRow1 hr6, m_isRow1 hs6, bd_some, if_neg w1ne, ck_ok, w32_nat, Int.toNat_natCast, bd_ret, jn, ha.w, hb.w, hc.w, vl, vm, e, h1.w, k1.w]
        by_cases c0 : c < 0
        · rw [if_pos c0, if_pos c0]
        · rw [if_neg c0, if_neg c0]
          by_cases c1 : μ 76 r < 0
          · rw [if_pos c1, if_pos c1]
          · rw [if_neg c1, if_neg c1]
            have hc2 := hc.2
            by_cases c2 : μ 76 s < 0
            · rw [if_pos c2, if_pos c2]
            · rw [if_neg c2, if_neg c2, w32_id (a := μ 76 r - c) (by omega) (by omega), w32_id (a := μ 76 s - c) (by omega) (by omega)]
              by_cases c3 : a < 0
              · rw [if_pos c3, if_neg (by omega)]
              · rw [if_neg c3]
                by_cases c4 : b < 0
                · rw [if_pos c4]
                  by_cases c5 : 0 ≤ a ∧ a ≤ μ 76 r - c
                  · rw [if_pos c5, if_neg (by omega)]
                  · rw [if_neg c5]
                · rw [if_neg c4]
                  by_cases c5 : μ 76 r - c < a
                  · rw [if_pos c5, if_neg (by omega)]
                  · rw [if_neg c5]
                    by_cases c6 : μ 76 s - c < b
                    · rw [if_pos c6, if_pos (show 0 ≤ a ∧ a ≤ μ 76 r - c by omega), if_neg (show ¬ (0 ≤ b ∧ b ≤ μ 76 s - c) by omega)]
                    · rw [if_neg c6, if_pos (show 0 ≤ a ∧ a ≤ μ 76 r - c by omega), if_pos (show 0 ≤ b ∧ b ≤ μ 76 s - c by omega)]
                      obtain ⟨A, -, rfl⟩ := nat_of (k := 41) (p := a) (by omega)
                      obtain ⟨B, -, rfl⟩ := nat_of (k := 41) (p := b) (by omega)
                      obtain ⟨C, -, rfl⟩ := nat_of (k := 41) (p := c) (by omega)
                      rw [copy_all hr6 hs6 (by omega) (by omega)]
                      rfl
      by_cases c0 : c < 0
      · exact pair_fnd h 5 (by omega) (by omega) (kx.trans (by rw [if_pos c0])) (fun μ1 e => (km μ1 (e 76 (by omega) (by omega))).trans (by rw [if_pos c0]))
      by_cases c1 : μ 76 r < 0
      · exact pair_fnd h 1 (by omega) (by omega) (kx.trans (by rw [if_neg c0, if_pos c1])) (fun μ1 e => (km μ1 (e 76 (by omega) (by omega))).trans (by rw [if_neg c0, if_pos c1]))
      by_cases c2 : μ 76 s < 0
      · exact pair_fnd h 1 (by omega) (by omega) (kx.trans (by rw [if_neg c0, if_neg c1, if_pos c2])) (fun μ1 e => (km μ1 (e 76 (by omega) (by omega))).trans (by rw [if_neg c0, if_neg c1, if_pos c2]))
      by_cases c3 : 0 ≤ a ∧ a ≤ μ 76 r - c
      · by_cases c4 : 0 ≤ b ∧ b ≤ μ 76 s - c
        · obtain ⟨A, -, rfl⟩ := nat_of (k := 41) (p := a) (by omega)
          obtain ⟨B, -, rfl⟩ := nat_of (k := 41) (p := b) (by omega)
          obtain ⟨C, -, rfl⟩ := nat_of (k := 41) (p := c) (by omega)
          rw [if_neg c0, if_neg c1, if_neg c2, if_pos c3, if_pos c4, Int.toNat_natCast, Int.toNat_natCast, Int.toNat_natCast] at kx
          have km' := km (cpy μ (38 + 2 * r + 1) (38 + 2 * s + 1) A B C) (cpy_cell (by omega))
          rw [if_neg c0, if_neg c1, if_neg c2, if_pos c3, if_pos c4, Int.toNat_natCast, Int.toNat_natCast, Int.toNat_natCast] at km'
          refine ⟨1, _, _, kx, km', ?_⟩
          obtain ⟨i1, i2, i3, i4, i5, i6, i7⟩ := h.up (Nat.le_succ n)
          refine ⟨fun x hx => ?_, i2.cg ?_, i3.cg ?_ ?_ ?_, i4.cg ?_, i5.cg ?_ ?_, i6.cg ?_, i7.cg ?_ ?_ ?_⟩
          · obtain ⟨g1, g2, g3⟩ := i1 x hx
            rw [cpy_cell (j := 76) (by omega), cpy_cell (j := 76) (by omega), cpy_cell (j := 76) (by omega), cpy_cell (j := 38 + 2 * x) (by omega), cpy_cell (j := 38 + 2 * x) (by omega), cpy_cell (j := 38 + 2 * x) (by omega), cpy_cell (j := 38 + 2 * x + 1) (k' := 77) (by omega), cpy_cell (j := 38 + 2 * x + 1) (k' := 84) (by omega)]
            refine ⟨g1, g2, fun j hj => ?_⟩
            by_cases e : x = s ∧ B ≤ j ∧ j < B + C
            · obtain ⟨rfl, e1, e2⟩ := e
              rw [cpy_in e1 e2, cpy_in (k' := 77) (by omega) (by omega), cpy_in (k' := 84) (by omega) (by omega), cpy_cell (j := 77) (by omega)]
              have := hcr (A + (j - B)) (by omega)
              rw [show 40 * r + A + (0 + (40 * x + j - (40 * x + B)) - 0) = 40 * r + (A + (j - B)) by omega]
              exact this
            · rw [cpy_out (k' := 38 + 2 * s + 1) (by omega), cpy_out (k' := 77) (by omega), cpy_cell (j := 77) (by omega), cpy_cell (j := 77) (by omega)]
              exact g3 j hj
          all_goals try (intro k hk; rw [cpy_cell (by omega), cpy_cell (by omega), cpy_cell (by omega)])
          all_goals try (rw [cpy_cell (by omega), cpy_cell (by omega), cpy_cell (by omega)])
        · exact pair_fnd h 2 (by omega) (by omega) (kx.trans (by rw [if_neg c0, if_neg c1, if_neg c2, if_pos c3, if_neg c4])) (fun μ1 e => (km μ1 (e 76 (by omega) (by omega))).trans (by rw [if_neg c0, if_neg c1, if_neg c2, if_pos c3, if_neg c4]))
      · exact pair_fnd h 2 (by omega) (by omega) (kx.trans (by rw [if_neg c0, if_neg c1, if_neg c2, if_neg c3])) (fun μ1 e => (km μ1 (e 76 (by omega) (by omega))).trans (by rw [if_neg c0, if_neg c1, if_neg c2, if_neg c3]))
    · refine pair_bad h (a := -1) ?_ ?_
      · simp -implicitDefEqProofs (disch := omega) only [f_X9_copy, x_isRow1 hr6, x_isRow0 hq hs, bd_some, if_pos w0, if_neg w1ne]
      · simp -implicitDefEqProofs (disch := omega) only [f_X10_copy, m_isRow1 hr6, m_isRow0 hq hs, bd_some, if_pos w0, if_neg w1ne]
  · refine pair_bad h (a := -1) ?_ ?_
    · simp -implicitDefEqProofs (disch := omega) only [f_X9_copy, x_isRow0 hp hr, bd_some, if_pos w0]
    · simp -implicitDefEqProofs (disch := omega) only [f_X10_copy, m_isRow0 hp hr, bd_some, if_pos w0]
