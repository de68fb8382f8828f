theorem deed_end {n D : Nat} {μ μ1 μ2 : Mem} {G : Nat → Int} (h : Inv n μ) (hD : μ 67 8 = (D : Int)) (hD6 : D < 60) (hG : DB (n + 1) G)
    (e1 : ∀ k : Nat, k ≠ 14 → μ1 k = wr (cpy μ 14 16 0 (16 * D) 16) 15 2 ((D : Int) + 1) k) (g1 : ∀ q : Nat, q < 16 → μ1 14 q = G q)
    (e2 : ∀ k : Nat, k ≠ 73 → μ2 k = wr (cpy μ1 73 74 0 (16 * D) 16) 67 8 ((D : Int) + 1) k) (g2 : ∀ q : Nat, q < 16 → μ2 73 q = G q) : Inv (n + 1) μ2 := by
  have f1 : ∀ k : Nat, k ≠ 14 → k ≠ 15 → k ≠ 16 → μ1 k = μ k := fun k k1 k2 k3 => by rw [e1 k k1, wr_cell k2, cpy_cell k3]
  have f2 : ∀ k : Nat, k ≠ 14 → k ≠ 15 → k ≠ 16 → k ≠ 67 → k ≠ 73 → k ≠ 74 → μ2 k = μ k := fun k k1 k2 k3 k4 k5 k6 => by rw [e2 k k5, wr_cell k4, cpy_cell k6, f1 k k1 k2 k3]
  have f7 : ∀ q : Nat, q ≠ 8 → μ2 67 q = μ 67 q := fun q hq => by rw [e2 67 (by omega), wr_ne (by omega), cpy_cell (by omega), f1 67 (by omega) (by omega) (by omega)]
  obtain ⟨t1, t2, t3, t4, t5⟩ := h.2.2.2.2.2.2
  refine h.deed hD hD6 (fun k hk => f2 k (by omega) (by omega) (by omega) (by omega) (by omega) (by omega)) (f7 0 (by omega)) (f7 1 (by omega)) ?_ ?_ (fun q => ?_) (fun q => ?_) ⟨fun i hi => ?_, hG.cg g2⟩ ⟨?_, ?_, ?_, ?_, fun f hf => ?_⟩
  · rw [e2 15 (by omega), wr_cell (by omega), cpy_cell (by omega), e1 15 (by omega), wr_eq]
  · rw [e2 67 (by omega), wr_eq]
  · rw [e2 16 (by omega), wr_cell (by omega), cpy_cell (by omega), e1 16 (by omega), wr_cell (by omega)]
    by_cases c : 16 * D ≤ q ∧ q < 16 * D + 16
    · rw [if_pos c, cpy_in c.1 c.2, Nat.zero_add]
    · rw [if_neg c, cpy_out (by omega)]
  · rw [e2 74 (by omega), wr_cell (by omega)]
    by_cases c : 16 * D ≤ q ∧ q < 16 * D + 16
    · rw [if_pos c, cpy_in c.1 c.2, Nat.zero_add, f1 73 (by omega) (by omega) (by omega)]
    · rw [if_neg c, cpy_out (by omega), f1 74 (by omega) (by omega) (by omega)]
  · rw [e2 14 (by omega), wr_cell (by omega), cpy_cell (by omega), g1 i hi, g2 i hi]
  · rw [f2 0 (by omega) (by omega) (by omega) (by omega) (by omega) (by omega), f7 13 (by omega)]; exact t1
  · rw [f2 0 (by omega) (by omega) (by omega) (by omega) (by omega) (by omega), f7 10 (by omega)]; exact t2
  · rw [f2 0 (by omega) (by omega) (by omega) (by omega) (by omega) (by omega), f7 11 (by omega)]; exact t3
  · rw [f2 0 (by omega) (by omega) (by omega) (by omega) (by omega) (by omega), f7 12 (by omega)]; exact t4
  · rw [f2 37 (by omega) (by omega) (by omega) (by omega) (by omega) (by omega), f2 75 (by omega) (by omega) (by omega) (by omega) (by omega) (by omega)]; exact t5 f hf
theorem x_cape {μ : Mem} {C : Nat} {p : Int} (h : μ 6 6 = (C : Int)) (hC : C ≤ 5) (hp : inR p) : f_X8_hasCape μ p = some (if 0 ≤ p ∧ p < (C : Int) then 1 else 0, μ) := by
  simp -implicitDefEqProofs (disch := omega) only [f_X8_hasCape, vl, h, hp.w, w32_nat]
  by_cases c : p < 0
  · rw [if_pos c, if_neg (by omega)]
  · rw [if_neg c]
    by_cases c1 : p < (C : Int)
    · rw [if_pos c1, if_pos (by omega)]
    · rw [if_neg c1, if_neg (by omega)]
theorem m_cape {μ : Mem} {C : Nat} {p : Int} (h : μ 67 0 = (C : Int)) (hC : C ≤ 5) (hp : inR p) : f_X10_isCape μ p = some (if 0 ≤ p ∧ p < (C : Int) then 1 else 0, μ) := by
  rw [f_X10_isCape, h, hp.w, w32_id (by omega) (by omega), m_in hp ⟨by omega, by omega⟩ ⟨by omega, by omega⟩, bd_some, ckb_ite]
  congr 2
  by_cases c : 0 ≤ p ∧ p < (C : Int)
  · rw [if_pos c, if_pos (by omega)]
  · rw [if_neg c, if_neg (by omega)]
theorem x_valley {μ : Mem} {V : Nat} {p : Int} (h : μ 6 7 = (V : Int)) (hV : V ≤ 4) (hp : inR p) : f_X8_hasValley μ p = some (if 0 ≤ p ∧ p < (V : Int) then 1 else 0, μ) := by
  simp -implicitDefEqProofs (disch := omega) only [f_X8_hasValley, vl, h, hp.w, w32_nat]
  by_cases c : p < 0
  · rw [if_pos c, if_neg (by omega)]
  · rw [if_neg c]
    by_cases c1 : p < (V : Int)
    · rw [if_pos c1, if_pos (by omega)]
    · rw [if_neg c1, if_neg (by omega)]
theorem m_valley {μ : Mem} {V : Nat} {p : Int} (h : μ 67 1 = (V : Int)) (hV : V ≤ 4) (hp : inR p) : f_X10_isValley μ p = some (if 0 ≤ p ∧ p < (V : Int) then 1 else 0, μ) := by
  rw [f_X10_isValley, h, hp.w, w32_id (by omega) (by omega), m_in hp ⟨by omega, by omega⟩ ⟨by omega, by omega⟩, bd_some, ckb_ite]
  congr 2
  by_cases c : 0 ≤ p ∧ p < (V : Int)
  · rw [if_pos c, if_pos (by omega)]
  · rw [if_neg c, if_neg (by omega)]
theorem Inv.deeds {n : Nat} {μ : Mem} (h : Inv n μ) : ∃ D : Nat, μ 67 8 = (D : Int) ∧ μ 15 2 = (D : Int) ∧ D ≤ 60 := by
  obtain ⟨d1, d2, -⟩ := h.2.2.2.2.1
  exact ⟨(μ 67 8).toNat, by omega, by rw [d2]; omega, by omega⟩
theorem w60 : w32 60 = 60 := by decide +kernel
theorem p_rope {n : Nat} {p q : Int} (hp : inR p) (hq : inR q) : Pair n (fun μ => f_X9_rope μ p q) (fun μ => f_X10_rope μ p q) := by
  intro μ h
  obtain ⟨C, V, hC0, hV0, hYX, hYM, hVX, hVM⟩ := h.yr
  have hC := hYX.1
  have hx6 := hYX.2.1
  obtain ⟨D, hD, hxD, hD60⟩ := h.deeds
  by_cases hs : 0 ≤ p ∧ p < (C : Int)
  · have sx := x_cape hx6 hC hp
    rw [if_pos hs] at sx
    have sm : ∀ μ1 : Mem, μ1 67 = μ 67 → f_X10_isCape μ1 p = some (1, μ1) := fun μ1 e => by
      rw [m_cape (C := C) (by rw [e]; exact hC0) hC hp, if_pos hs]
    have mi : ∀ μ1 : Mem, f_X10_in μ1 q 1 9 = some (if 1 ≤ q ∧ q ≤ 9 then 1 else 0, μ1) := fun μ1 => m_in hq ⟨by omega, by omega⟩ ⟨by omega, by omega⟩
    by_cases c0 : 1 ≤ q ∧ q ≤ 9
    · by_cases c1 : D = 60
      · refine pair_bad h (a := -2) ?_ ?_
        · show f_X9_rope μ p q = _
          rw [f_X9_rope, sx, bd_some, if_neg w1ne, hq.w, w32_id (a := 1) (by omega) (by omega), if_neg (by omega), w32_id (a := 9) (by omega) (by omega), if_neg (by omega), hxD, w32_nat (by omega), w60, if_neg (by omega)]
        · show f_X10_rope μ p q = _
          rw [f_X10_rope, sm μ rfl, bd_some, if_neg w1ne, hq.w, mi, bd_some, ite_w, if_pos c0, hD, w32_nat (by omega), w60, if_pos (by omega)]
      · obtain ⟨i, hi, rfl⟩ := nat_of hs
        have t2 : (2 + (i : Int)).toNat = 2 + i := by omega
        have hday := h.2.2.2.1
        refine ⟨μ 73 (2 + i), wr (wr (cpy μ 14 16 0 (16 * D) 16) 15 2 ((D : Int) + 1)) 14 (2 + i) q, wr (wr (cpy (wr (wr (cpy μ 14 16 0 (16 * D) 16) 15 2 ((D : Int) + 1)) 14 (2 + i) q) 73 74 0 (16 * D) 16) 67 8 ((D : Int) + 1)) 73 (2 + i) q, ?_, ?_, ?_⟩
        · show f_X9_rope μ (i : Int) q = _
          rw [f_X9_rope, sx, bd_some, if_neg w1ne, hq.w, w32_id (a := 1) (by omega) (by omega), if_neg (by omega), w32_id (a := 9) (by omega) (by omega), if_neg (by omega), hxD, w32_nat (by omega), w60, if_pos (by omega), x_write hxD (by omega), bd_some, ck_ok (by omega) (by omega) (by omega), vl, ck_ok (by omega) (by omega) (by omega), vm, w32_id (by omega) (by omega), t2]
          rw [wr_cell (j := 13 + 1) (k := 15) (by omega), cpy_cell (j := 13 + 1) (by omega), hday.1 (2 + i) (by omega)]
        · show f_X10_rope _ (i : Int) q = _
          rw [f_X10_rope, sm _ (by rw [wr_cell (by omega), wr_cell (by omega), cpy_cell (by omega)]), bd_some, if_neg w1ne, hq.w, mi, bd_some, ite_w, if_pos c0]
          rw [wr_cell (j := 67) (k := 14) (by omega), wr_cell (j := 67) (k := 15) (by omega), cpy_cell (j := 67) (by omega), hD, w32_nat (by omega), w60, if_neg (by omega), m_rem (D := D) (by rw [wr_cell (by omega), wr_cell (by omega), cpy_cell (by omega)]; exact hD) (by omega), bd_some, ck_ok (by omega) (by omega) (by omega), vl, ck_ok (by omega) (by omega) (by omega), vm, w32_id (by omega) (by omega), t2]
          rw [wr_cell (j := 73) (k := 67) (by omega), cpy_cell (j := 73) (by omega), wr_cell (j := 73) (k := 14) (by omega), wr_cell (j := 73) (k := 15) (by omega), cpy_cell (j := 73) (by omega)]
        · refine deed_end (G := up (μ 73) (2 + i) q) h hD (by omega) ?_ (fun k hk => wr_cell hk) (fun j hj => ?_) (fun k hk => wr_cell hk) (fun j hj => ?_)
          · obtain ⟨d1, d2, d3, d4⟩ := hday.2.up (Nat.le_succ n)
            refine ⟨by rw [up_ne (by omega)]; exact d1, by rw [up_ne (by omega)]; exact d2, fun k hk => ?_, fun v hv => by rw [up_ne (by omega)]; exact d4 v hv⟩
            rw [up_ne (i := 7 + k) (by omega)]
            by_cases e : k = i
            · subst e; rw [up_eq]; exact ⟨by omega, (d3 k hk).2⟩
            · rw [up_ne (by omega)]; exact d3 k hk
          · by_cases e : j = 2 + i
            · subst e; rw [wr_eq, up_eq]
            · rw [wr_ne (by omega), wr_cell (by omega), cpy_cell (by omega), up_ne e]; exact hday.1 j hj
          · by_cases e : j = 2 + i
            · subst e; rw [wr_eq, up_eq]
            · rw [wr_ne (by omega), wr_cell (by omega), cpy_cell (by omega), wr_cell (by omega), wr_cell (by omega), cpy_cell (by omega), up_ne e]
    · refine pair_bad h (a := -1) ?_ ?_
      · show f_X9_rope μ p q = _
        rw [f_X9_rope, sx, bd_some, if_neg w1ne, hq.w, w32_id (a := 1) (by omega) (by omega), w32_id (a := 9) (by omega) (by omega)]
        by_cases c : q < 1
        · rw [if_pos c]
        · rw [if_neg c, if_pos (by omega)]
      · show f_X10_rope μ p q = _
        rw [f_X10_rope, sm μ rfl, bd_some, if_neg w1ne, hq.w, mi, bd_some, ite_w, if_neg c0]
  · refine pair_bad h (a := -1) ?_ ?_
    · simp -implicitDefEqProofs (disch := omega) only [f_X9_rope, x_cape hx6 hC hp, if_neg hs, bd_some, if_pos w0]
    · simp -implicitDefEqProofs (disch := omega) only [f_X10_rope, m_cape hC0 hC hp, if_neg hs, bd_some, if_pos w0]
