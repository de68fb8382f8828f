theorem p_price {n : Nat} {p q : Int} (hp : inR p) (hq : inR q) : Pair n (fun μ => f_X9_price μ p q) (fun μ => f_X10_price μ p q) := by
  intro μ h
  obtain ⟨C, V, hC0, hV0, hYX, hYM, hVX, hVM⟩ := h.yr
  have hV := hVX.1
  have hx7 := hVX.2.1
  by_cases hs : 0 ≤ p ∧ p < (V : Int)
  · have sx := x_valley hx7 hV hp
    rw [if_pos hs] at sx
    have sm : ∀ μ1 : Mem, μ1 67 = μ 67 → f_X10_isValley μ1 p = some (1, μ1) := fun μ1 e => by
      rw [m_valley (V := V) (by rw [e]; exact hV0) hV hp, if_pos hs]
    have mi : ∀ μ1 : Mem, f_X10_in μ1 q 0 9 = some (if 0 ≤ q ∧ q ≤ 9 then 1 else 0, μ1) := fun μ1 => m_in hq ⟨by omega, by omega⟩ ⟨by omega, by omega⟩
    by_cases c0 : 0 ≤ q ∧ q ≤ 9
    · obtain ⟨v, hv, rfl⟩ := nat_of hs
      have hw := (hVX.2.2.1 v (by omega)).2.2.2
      refine ⟨μ 72 v, wr μ 12 v q, wr (wr μ 12 v q) 72 v q, ?_, ?_, ?_⟩
      · show f_X9_price μ (v : Int) q = _
        rw [f_X9_price, sx, bd_some, if_neg w1ne, hq.w, if_neg (by omega), w32_id (a := 9) (by omega) (by omega), if_neg (by omega), ck_ok (by omega) (by omega) (by omega), vl, ck_ok (by omega) (by omega) (by omega), vm, w32_nat (by omega), Int.toNat_natCast, hw]
      · show f_X10_price _ (v : Int) q = _
        rw [f_X10_price, sm _ (wr_cell (by omega)), bd_some, if_neg w1ne, hq.w, mi, bd_some, ite_w, if_pos c0, ck_ok (by omega) (by omega) (by omega), vl, ck_ok (by omega) (by omega) (by omega), vm, w32_nat (by omega), Int.toNat_natCast, wr_cell (j := 72) (by omega)]
      · obtain ⟨i1, i2, i3, i4, i5, i6, i7⟩ := h.up (Nat.le_succ n)
        refine ⟨i1.cg ?_, i2.cg ?_, ?_, i4.cg ?_, i5.cg ?_ ?_, i6.cg ?_, i7.cg ?_ ?_ ?_⟩
        rotate_left 2
        · obtain ⟨y1, y2, y3, y4, y5, y6, y7⟩ := i3
          have e : ∀ k : Nat, k ≠ 12 → k ≠ 72 → wr (wr μ 12 v q) 72 v q k = μ k := fun k k1 k2 => by rw [wr_cell k2, wr_cell k1]
          unfold IYear
          rw [e 67 (by omega) (by omega), e 6 (by omega) (by omega), e 7 (by omega) (by omega), e 8 (by omega) (by omega), e 9 (by omega) (by omega), e 10 (by omega) (by omega), e 11 (by omega) (by omega), e 68 (by omega) (by omega), e 69 (by omega) (by omega), e 70 (by omega) (by omega), e 71 (by omega) (by omega)]
          refine ⟨y1, y2, y3, y4, y5, y6, fun u hu => ?_⟩
          obtain ⟨z1, z2, z3, z4⟩ := y7 u hu
          refine ⟨z1, z2, z3, ?_⟩
          rw [wr_cell (j := 12) (k := 72) (by omega)]
          by_cases g : u = v
          · subst g
            rw [wr_eq, wr_eq]
            exact ⟨rfl, c0⟩
          · rw [wr_ne (by omega), wr_ne (by omega), wr_cell (j := 72) (by omega)]
            exact z4
        all_goals try (intro k hk; rw [wr_cell (by omega), wr_cell (by omega)])
        all_goals try (rw [wr_cell (by omega), wr_cell (by omega)])
    · refine pair_bad h (a := -1) ?_ ?_
      · show f_X9_price μ p q = _
        rw [f_X9_price, sx, bd_some, if_neg w1ne, hq.w, w32_id (a := 9) (by omega) (by omega)]
        by_cases c : q < 0
        · rw [if_pos c]
        · rw [if_neg c, if_pos (by omega)]
      · show f_X10_price μ p q = _
        rw [f_X10_price, sm μ rfl, bd_some, if_neg w1ne, hq.w, mi, bd_some, ite_w, if_neg c0]
  · refine pair_bad h (a := -1) ?_ ?_
    · simp -implicitDefEqProofs (disch := omega) only [f_X9_price, x_valley hx7 hV hp, if_neg hs, bd_some, if_pos w0]
    · simp -implicitDefEqProofs (disch := omega) only [f_X10_price, m_valley hV0 hV hp, if_neg hs, bd_some, if_pos w0]
/-- a fact of a valley, as both tell it -/
def vf (μ : Mem) (v : Nat) (k : Int) : Int := if k = 0 then μ 69 v else if k = 1 then μ 70 v else if k = 2 then μ 71 v else if k = 3 then μ 72 v else μ 73 (12 + v)
theorem x_vf {n : Nat} {μ : Mem} {v : Nat} {k : Int} (h : Inv n μ) (hv : v < 4) (hk : 0 ≤ k ∧ k ≤ 4) : f_X9_factOfValley μ (v : Int) k = some (vf μ v k, μ) := by
  obtain ⟨z1, z2, z3, z4⟩ := h.2.2.1.2.2.2.2.2.2 v hv
  have hd := h.2.2.2.1.1 (12 + v) (by omega)
  have t12 : (12 + (v : Int)).toNat = 12 + v := by omega
  unfold vf
  simp -implicitDefEqProofs (disch := omega) only [f_X9_factOfValley, w32_id, ck_ok, Int.toNat_natCast, t12, z1.1, z2.1, z3.1, z4.1, hd]
  by_cases c0 : k = 0
  · rw [if_pos c0, if_pos c0]
  · rw [if_neg c0, if_neg c0]
    by_cases c1 : k = 1
    · rw [if_pos c1, if_pos c1]
    · rw [if_neg c1, if_neg c1]
      by_cases c2 : k = 2
      · rw [if_pos c2, if_pos c2]
      · rw [if_neg c2, if_neg c2]
        by_cases c3 : k = 3
        · rw [if_pos c3, if_pos c3]
        · rw [if_neg c3, if_neg c3]
theorem m_vf {μ : Mem} {v : Nat} {k : Int} (hv : v < 4) (hk : 0 ≤ k ∧ k ≤ 4) : f_X10_valleyOf μ (v : Int) k = some (vf μ v k, μ) := by
  have t12 : (12 + (v : Int)).toNat = 12 + v := by omega
  unfold vf
  simp -implicitDefEqProofs (disch := omega) only [f_X10_valleyOf, w32_id, ck_ok, Int.toNat_natCast, t12]
  by_cases c0 : k = 0
  · rw [if_pos c0, if_pos c0]
  · rw [if_neg c0, if_neg c0]
    by_cases c1 : k = 1
    · rw [if_pos c1, if_pos c1]
    · rw [if_neg c1, if_neg c1]
      by_cases c2 : k = 2
      · rw [if_pos c2, if_pos c2]
      · rw [if_neg c2, if_neg c2]
        by_cases c3 : k = 3
        · rw [if_pos c3, if_pos c3]
        · rw [if_neg c3, if_neg c3]
theorem p_valley {n : Nat} {p q : Int} (hp : inR p) (hq : inR q) : Pair n (fun μ => f_X9_valley μ p q) (fun μ => f_X10_valley μ p q) := by
  intro μ h
  obtain ⟨C, V, hC0, hV0, hYX, hYM, hVX, hVM⟩ := h.yr
  have hV := hVX.1
  have hx7 := hVX.2.1
  by_cases hs : 0 ≤ p ∧ p < (V : Int)
  · have sx := x_valley hx7 hV hp
    rw [if_pos hs] at sx
    have sm : ∀ μ1 : Mem, μ1 67 = μ 67 → f_X10_isValley μ1 p = some (1, μ1) := fun μ1 e => by
      rw [m_valley (V := V) (by rw [e]; exact hV0) hV hp, if_pos hs]
    have mi : ∀ μ1 : Mem, f_X10_in μ1 q 0 4 = some (if 0 ≤ q ∧ q ≤ 4 then 1 else 0, μ1) := fun μ1 => m_in hq ⟨by omega, by omega⟩ ⟨by omega, by omega⟩
    by_cases c0 : 0 ≤ q ∧ q ≤ 4
    · obtain ⟨v, hv, rfl⟩ := nat_of hs
      have hvf : vf (wr μ 0 13 (vf μ v q)) v q = vf μ v q := by
        show (if q = 0 then wr μ 0 13 (vf μ v q) 69 v else if q = 1 then wr μ 0 13 (vf μ v q) 70 v else if q = 2 then wr μ 0 13 (vf μ v q) 71 v else if q = 3 then wr μ 0 13 (vf μ v q) 72 v else wr μ 0 13 (vf μ v q) 73 (12 + v)) = _
        rw [wr_cell (j := 69) (by omega), wr_cell (j := 70) (by omega), wr_cell (j := 71) (by omega), wr_cell (j := 72) (by omega), wr_cell (j := 73) (by omega)]
        rfl
      refine ⟨1, wr μ 0 13 (vf μ v q), wr (wr μ 0 13 (vf μ v q)) 67 10 (vf μ v q), ?_, ?_, (h.up (Nat.le_succ n)).told⟩
      · show f_X9_valley μ (v : Int) q = _
        rw [f_X9_valley, sx, bd_some, if_neg w1ne, hq.w, if_neg (by omega), w32_id (a := 4) (by omega) (by omega), if_neg (by omega), x_vf h (by omega) c0, bd_some, vm]
      · show f_X10_valley _ (v : Int) q = _
        rw [f_X10_valley, sm _ (wr_cell (by omega)), bd_some, if_neg w1ne, hq.w, mi, bd_some, ite_w, if_pos c0, m_vf (by omega) c0, bd_some, vm, hvf]
    · refine pair_bad h (a := -1) ?_ ?_
      · show f_X9_valley μ p q = _
        rw [f_X9_valley, sx, bd_some, if_neg w1ne, hq.w, w32_id (a := 4) (by omega) (by omega)]
        by_cases c : q < 0
        · rw [if_pos c]
        · rw [if_neg c, if_pos (by omega)]
      · show f_X10_valley μ p q = _
        rw [f_X10_valley, sm μ rfl, bd_some, if_neg w1ne, hq.w, mi, bd_some, ite_w, if_neg c0]
  · refine pair_bad h (a := -1) ?_ ?_
    · simp -implicitDefEqProofs (disch := omega) only [f_X9_valley, x_valley hx7 hV hp, if_neg hs, bd_some, if_pos w0]
    · simp -implicitDefEqProofs (disch := omega) only [f_X10_valley, m_valley hV0 hV hp, if_neg hs, bd_some, if_pos w0]
