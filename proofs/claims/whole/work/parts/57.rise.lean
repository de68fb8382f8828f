theorem p_rise {n : Nat} (hn : n ≤ 900) : Pair n f_X9_rise f_X10_rise := by
  intro μ h
  obtain ⟨C, V, hC0, hV0, hYX, hYM, hVX, hVM⟩ := h.yr
  have hC := hYX.1
  have hx6 := hYX.2.1
  obtain ⟨D, hD, hxD, hD60⟩ := h.deeds
  have hday := h.2.2.2.1
  have hFB := hday.2.fb (by omega)
  have hm0 := hFB.1
  have hO := hFB.2.1
  have dx : f_X1_isDown μ 13 = some (if μ 73 0 < 48 then 0 else 1, μ) := by
    have := x_down (μ := μ) (t := 13) (a := μ 13 1) (b := μ 13 2) (c := μ 13 3) (d := μ 13 4) hm0
    rw [← dy_at (fun i hi => hday.1 i hi)] at this
    exact this
  have dmm : ∀ μ1 : Mem, μ1 73 = μ 73 → f_X10_isDown μ1 = some (if μ 73 0 < 48 then 0 else 1, μ1) := fun μ1 e => by
    have := m_down (μ := μ1) (a := μ1 67 35) (b := μ1 67 36) hm0
    rw [← dm_at (fun i hi => by rw [e])] at this
    exact this
  by_cases c0 : C = 0
  · refine pair_bad h (a := -4) ?_ ?_
    · rw [f_X9_rise, hx6, c0, Int.natCast_zero, if_pos w0]
    · rw [f_X10_rise, hC0, c0, Int.natCast_zero, if_pos w0]
  · by_cases c1 : μ 73 0 < 48
    · refine pair_bad h (a := -4) ?_ ?_
      · rw [f_X9_rise, hx6, w32_nat (by omega), if_neg (by omega), dx, bd_some, if_pos c1, if_pos w0]
      · rw [f_X10_rise, hC0, w32_nat (by omega), if_neg (by omega), dmm μ rfl, bd_some, if_pos c1, if_pos w0]
    · by_cases c2 : D = 60
      · refine pair_bad h (a := -2) ?_ ?_
        · rw [f_X9_rise, hx6, w32_nat (by omega), if_neg (by omega), dx, bd_some, if_neg c1, if_neg w1ne, hxD, w32_nat (by omega), w60, if_neg (by omega)]
        · rw [f_X10_rise, hC0, w32_nat (by omega), if_neg (by omega), dmm μ rfl, bd_some, if_neg c1, if_neg w1ne, hD, w32_nat (by omega), w60, if_pos (by omega)]
      · have e1 : (1 : Int).toNat = 1 := rfl
        have ea : wr (cpy μ 14 16 0 (16 * D) 16) 15 2 ((D : Int) + 1) (13 + 1) = μ 14 := by rw [wr_cell (by omega), cpy_cell (by omega)]
        obtain ⟨S, hS, hSb⟩ : ∃ S : Int, S = (if 7 < μ 73 1 / 6 then 7 else μ 73 1 / 6) ∧ 0 ≤ S ∧ S ≤ 7 ∧ 6 * S ≤ μ 73 1 := ⟨_, rfl, by split <;> omega⟩
        have ex : f_X9_rise μ = some (6 * S, wr (wr (wr (cpy μ 14 16 0 (16 * D) 16) 15 2 ((D : Int) + 1)) 14 1 (μ 73 1 - 6 * S)) 14 0 (6 * S)) := by
          rw [f_X9_rise, hx6, w32_nat (by omega), if_neg (by omega), dx, bd_some, if_neg c1, if_neg w1ne, hxD, w32_nat (by omega), w60, if_pos (by omega), x_write hxD (by omega), bd_some, ck_ok (by omega) (by omega) (by omega), ckz_ok (by omega) (by omega) (by omega), vl, ck_ok (by omega) (by omega) (by omega), ck_ok (by omega) (by omega) (by omega), vm, ck_ok (by omega) (by omega) (by omega), vm]
          rw [w32_id (a := 1) (by omega) (by omega), w32_id (a := 0) (by omega) (by omega), e1, Int.toNat_zero, ea, hday.1 1 (by omega), zdiv_pos (by omega) (by omega) (by omega) (by omega)]
          unfold zmin
          rw [w32_id (a := 7) (by omega) (by omega), w32_id (by omega) (by omega), ← hS]
        have em : ∀ μ1 : Mem, μ1 73 = μ 73 → μ1 67 = μ 67 → f_X10_rise μ1 = some (6 * S, wr (wr (wr (cpy μ1 73 74 0 (16 * D) 16) 67 8 ((D : Int) + 1)) 73 1 (μ 73 1 - 6 * S)) 73 0 (6 * S)) := fun μ1 h3 h7 => by
          have eb : wr (cpy μ1 73 74 0 (16 * D) 16) 67 8 ((D : Int) + 1) 73 = μ 73 := by rw [wr_cell (by omega), cpy_cell (by omega), h3]
          rw [f_X10_rise, h7, hC0, w32_nat (by omega), if_neg (by omega), dmm μ1 h3, bd_some, if_neg c1, if_neg w1ne, h7, hD, w32_nat (by omega), w60, if_neg (by omega), m_rem (D := D) (by rw [h7]; exact hD) (by omega), bd_some, ck_ok (by omega) (by omega) (by omega), ckz_ok (by omega) (by omega) (by omega), jn, ck_ok (by omega) (by omega) (by omega), ckz_ok (by omega) (by omega) (by omega)]
          rw [w32_id (a := 1) (by omega) (by omega), w32_id (a := 0) (by omega) (by omega), e1, Int.toNat_zero, eb, zdiv_pos (by omega) (by omega) (by omega) (by omega), w32_id (a := 7) (by omega) (by omega), w32_id (by omega) (by omega)]
          by_cases c3 : 7 < μ 73 1 / 6
          · rw [if_pos c3] at hS
            rw [if_pos c3]; dsimp only; rw [ck_ok (by omega) (by omega) (by omega), ck_ok (by omega) (by omega) (by omega), vm, ck_ok (by omega) (by omega) (by omega), vm, ck_ok (by omega) (by omega) (by omega), wr_eq, eb, hS]
          · rw [if_neg c3] at hS
            rw [if_neg c3]; dsimp only; rw [ck_ok (by omega) (by omega) (by omega), ck_ok (by omega) (by omega) (by omega), vm, ck_ok (by omega) (by omega) (by omega), vm, ck_ok (by omega) (by omega) (by omega), wr_eq, eb, hS]
        refine ⟨6 * S, _, _, ex, em _ ?_ ?_, ?_⟩
        · rw [wr_cell (by omega), wr_cell (by omega), wr_cell (by omega), cpy_cell (by omega)]
        · rw [wr_cell (by omega), wr_cell (by omega), wr_cell (by omega), cpy_cell (by omega)]
        · refine deed_end (μ1 := wr (wr (wr (cpy μ 14 16 0 (16 * D) 16) 15 2 ((D : Int) + 1)) 14 1 (μ 73 1 - 6 * S)) 14 0 (6 * S)) (G := up (up (μ 73) 1 (μ 73 1 - 6 * S)) 0 (6 * S)) h hD (by omega) ?_ (fun k hk => by rw [wr_cell hk, wr_cell hk]) (fun j hj => ?_) (fun k hk => by rw [wr_cell hk, wr_cell hk]) (fun j hj => ?_)
          · obtain ⟨d1, d2, d3, d4⟩ := hday.2.up (Nat.le_succ n)
            refine ⟨by rw [up_eq]; omega, by rw [up_ne (by omega), up_eq]; omega, fun k hk => ?_, fun v hv => by rw [up_ne (by omega), up_ne (by omega)]; exact d4 v hv⟩
            rw [up_ne (by omega), up_ne (by omega), up_ne (by omega), up_ne (by omega)]
            exact d3 k hk
          · by_cases g0 : j = 0
            · subst g0; rw [wr_eq, up_eq]
            · rw [wr_ne (by omega), up_ne g0]
              by_cases g1 : j = 1
              · subst g1; rw [wr_eq, up_eq]
              · rw [wr_ne (by omega), wr_cell (by omega), cpy_cell (by omega), up_ne g1]; exact hday.1 j hj
          · by_cases g0 : j = 0
            · subst g0; rw [wr_eq, up_eq]
            · rw [wr_ne (by omega), up_ne g0]
              by_cases g1 : j = 1
              · subst g1; rw [wr_eq, up_eq]
              · rw [wr_ne (by omega), wr_cell (by omega), cpy_cell (by omega), wr_cell (by omega), wr_cell (by omega), wr_cell (by omega), cpy_cell (by omega), up_ne g1]
theorem p_sun {n : Nat} : Pair n f_X9_sun f_X10_sun := by
  intro μ h
  obtain ⟨C, V, hC0, hV0, hYX, hYM, hVX, hVM⟩ := h.yr
  have hC := hYX.1
  have hx6 := hYX.2.1
  have hday := h.2.2.2.1
  have e1 : (1 : Int).toNat = 1 := rfl
  by_cases c0 : C = 0
  · refine pair_bad h (a := -4) ?_ ?_
    · rw [f_X9_sun, hx6, c0, Int.natCast_zero, if_pos w0]
    · rw [f_X10_sun, hC0, c0, Int.natCast_zero, if_pos w0]
  · refine ⟨μ 73 0, wr μ 0 13 (μ 73 1), wr (wr μ 0 13 (μ 73 1)) 67 10 (μ 73 1), ?_, ?_, (h.up (Nat.le_succ n)).told⟩
    · rw [f_X9_sun, hx6, w32_nat (by omega), if_neg (by omega), ck_ok (by omega) (by omega) (by omega), vm, ck_ok (by omega) (by omega) (by omega), w32_id (a := 1) (by omega) (by omega), w32_id (a := 0) (by omega) (by omega), e1, Int.toNat_zero, hday.1 1 (by omega), wr_cell (by omega), hday.1 0 (by omega)]
    · rw [f_X10_sun, wr_cell (j := 67) (by omega), hC0, w32_nat (by omega), if_neg (by omega), ck_ok (by omega) (by omega) (by omega), vm, ck_ok (by omega) (by omega) (by omega), w32_id (a := 1) (by omega) (by omega), w32_id (a := 0) (by omega) (by omega), e1, Int.toNat_zero, wr_cell (j := 73) (by omega), wr_cell (j := 73) (by omega)]
