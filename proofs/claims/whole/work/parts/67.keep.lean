/-! undo, keep, on -/
theorem m_undo_loop {P : Nat} {x : Int} (hP : P < 60) : ∀ (m u i : Nat) (μ : Mem), i + m = 16 → m < u → f_X10_undo_L34 (P : Int) x u (i : Int) μ = some (x, cpy μ 74 73 (16 * P + i) i m) := by
  intro m
  induction m with
  | zero =>
    intro u i μ hi hu
    obtain ⟨u, rfl⟩ : ∃ v, u = v + 1 := ⟨u - 1, by omega⟩
    rw [f_X10_undo_L34, w32_nat (by omega), w32_id (a := 16) (by omega) (by omega), if_neg (by omega), cpy_none]
  | succ m ih =>
    intro u i μ hi hu
    obtain ⟨u, rfl⟩ : ∃ v, u = v + 1 := ⟨u - 1, by omega⟩
    have hi' := ih u (i + 1) (wr μ 73 i (μ 74 (16 * P + i))) (by omega) (by omega)
    rw [show ((i + 1 : Nat) : Int) = (i : Int) + 1 by omega, ← Nat.add_assoc, cpy_step (by omega)] at hi'
    rw [f_X10_undo_L34, w32_nat (by omega), w32_id (a := 16) (by omega) (by omega), if_pos (by omega), ck_ok (by omega) (by omega) (by omega), ck_ok (by omega) (by omega) (by omega), vm, w32_id (a := 16 * (P : Int) + (i : Int)) (by omega) (by omega), show (16 * (P : Int) + (i : Int)).toNat = 16 * P + i by omega, Int.toNat_natCast]
    exact hi'
theorem x_goBack {μ : Mem} {P : Nat} (hP : P ≤ 60) : f_X2_goBack μ 15 (P : Int) = some ((), wr (cpy μ 16 14 (16 * P) 0 16) 15 2 (P : Int)) := by
  rw [f_X2_goBack, w32_nat (by omega), if_neg (by omega), w60, if_neg (by omega), ckc_ok (by omega) (by omega) (by omega) (by omega) (by omega) (by omega) (by omega), vm, vm, w32_id (a := 0) (by omega) (by omega), w32_id (a := 16) (by omega) (by omega), w32_id (by omega) (by omega), show ((P : Int) * 16).toNat = 16 * P by omega]
  rfl
theorem p_undo {n : Nat} {p : Int} (hp : inR p) : Pair n (fun μ => f_X9_undo μ p) (fun μ => f_X10_undo μ p) := by
  intro μ h
  obtain ⟨D, hD, hxD, hD60⟩ := h.deeds
  have mi : ∀ μ1 : Mem, μ1 67 = μ 67 → f_X10_in μ1 (w32 p) 0 (w32 (μ1 67 8)) = some (if 0 ≤ p ∧ p ≤ (D : Int) then 1 else 0, μ1) := fun μ1 e => by
    rw [hp.w, e, hD, w32_nat (by omega)]
    exact m_in hp ⟨by omega, by omega⟩ ⟨by omega, by omega⟩
  by_cases c : 0 ≤ p ∧ p ≤ (D : Int)
  · obtain ⟨P, rfl⟩ : ∃ P : Nat, p = (P : Int) := ⟨p.toNat, by omega⟩
    have hx : f_X9_undo μ (P : Int) = if 0 < (D : Int) - (P : Int) then some ((D : Int) - (P : Int), wr (cpy μ 16 14 (16 * P) 0 16) 15 2 (P : Int)) else some ((D : Int) - (P : Int), μ) := by
      rw [f_X9_undo, hp.w, if_neg (by omega), hxD, w32_nat (i := D) (by omega), if_neg (by omega), vl, w32_id (by omega) (by omega), x_goBack (by omega), bd_some]
    have hm : ∀ μ1 : Mem, μ1 67 = μ 67 → f_X10_undo μ1 (P : Int) = if 0 < (D : Int) - (P : Int) then f_X10_undo_L34 (P : Int) ((D : Int) - (P : Int)) 100000 0 (wr μ1 67 8 (P : Int)) else some ((D : Int) - (P : Int), μ1) := fun μ1 e => by
      rw [f_X10_undo, mi μ1 e, bd_some, if_pos c, if_neg w1ne, vl, e, hD, w32_id (by omega) (by omega), vm]
    by_cases c1 : 0 < (D : Int) - (P : Int)
    · have hl := m_undo_loop (P := P) (x := (D : Int) - (P : Int)) (by omega) 16 100000 0 (wr (wr (cpy μ 16 14 (16 * P) 0 16) 15 2 (P : Int)) 67 8 (P : Int)) (by omega) (by omega)
      rw [Int.natCast_zero, Nat.add_zero] at hl
      rw [if_pos c1] at hx
      refine ⟨(D : Int) - (P : Int), wr (cpy μ 16 14 (16 * P) 0 16) 15 2 (P : Int), cpy (wr (wr (cpy μ 16 14 (16 * P) 0 16) 15 2 (P : Int)) 67 8 (P : Int)) 74 73 (16 * P) 0 16, hx, ?_, ?_⟩
      · show f_X10_undo _ (P : Int) = _
        rw [hm _ (by rw [wr_cell (by omega), cpy_cell (by omega)]), if_pos c1, hl]
      · have e : ∀ k : Nat, k ≠ 14 → k ≠ 15 → k ≠ 67 → k ≠ 73 → cpy (wr (wr (cpy μ 16 14 (16 * P) 0 16) 15 2 (P : Int)) 67 8 (P : Int)) 74 73 (16 * P) 0 16 k = μ k := fun k k1 k2 k3 k4 => by rw [cpy_cell k4, wr_cell k3, wr_cell k2, cpy_cell k1]
        have e7 : ∀ q : Nat, q ≠ 8 → cpy (wr (wr (cpy μ 16 14 (16 * P) 0 16) 15 2 (P : Int)) 67 8 (P : Int)) 74 73 (16 * P) 0 16 67 q = μ 67 q := fun q hq => by rw [cpy_cell (by omega), wr_ne (by omega), wr_cell (by omega), cpy_cell (by omega)]
        have e78 : cpy (wr (wr (cpy μ 16 14 (16 * P) 0 16) 15 2 (P : Int)) 67 8 (P : Int)) 74 73 (16 * P) 0 16 67 8 = (P : Int) := by rw [cpy_cell (by omega), wr_eq]
        have e15 : cpy (wr (wr (cpy μ 16 14 (16 * P) 0 16) 15 2 (P : Int)) 67 8 (P : Int)) 74 73 (16 * P) 0 16 15 2 = (P : Int) := by rw [cpy_cell (by omega), wr_cell (by omega), wr_eq]
        have e14 : ∀ i : Nat, i < 16 → cpy (wr (wr (cpy μ 16 14 (16 * P) 0 16) 15 2 (P : Int)) 67 8 (P : Int)) 74 73 (16 * P) 0 16 14 i = μ 16 (16 * P + i) := fun i hi => by rw [cpy_cell (by omega), wr_cell (by omega), wr_cell (by omega), cpy_in (by omega) (by omega), Nat.sub_zero]
        have e73 : ∀ i : Nat, i < 16 → cpy (wr (wr (cpy μ 16 14 (16 * P) 0 16) 15 2 (P : Int)) 67 8 (P : Int)) 74 73 (16 * P) 0 16 73 i = μ 74 (16 * P + i) := fun i hi => by rw [cpy_in (by omega) (by omega), Nat.sub_zero, wr_cell (by omega), wr_cell (by omega), cpy_cell (by omega)]
        generalize cpy (wr (wr (cpy μ 16 14 (16 * P) 0 16) 15 2 (P : Int)) 67 8 (P : Int)) 74 73 (16 * P) 0 16 = μ2 at *
        obtain ⟨i1, i2, i3, i4, i5, i6, i7⟩ := h.up (Nat.le_succ n)
        obtain ⟨d1, d2, d3⟩ := i5
        obtain ⟨f1, f2⟩ := d3 P (by omega)
        obtain ⟨t1, t2, t3, t4, t5⟩ := i7
        refine ⟨i1.cg (fun k hk => e k (by omega) (by omega) (by omega) (by omega)), i2.cg (fun k hk => e k (by omega) (by omega) (by omega) (by omega)), i3.cg (fun k hk => e k (by omega) (by omega) (by omega) (by omega)) (e7 0 (by omega)) (e7 1 (by omega)), ⟨fun i hi => ?_, f2.cg (fun i hi => e73 i hi)⟩, ⟨by rw [e78]; omega, by rw [e15, e78], fun j hj => ?_⟩, i6.cg (fun k hk => e k (by omega) (by omega) (by omega) (by omega)), ⟨?_, ?_, ?_, ?_, fun f hf => ?_⟩⟩
        · rw [e14 i hi, e73 i hi]; exact f1 i hi
        · rw [e78] at hj
          rw [e 16 (by omega) (by omega) (by omega) (by omega), e 74 (by omega) (by omega) (by omega) (by omega)]
          exact d3 j (by omega)
        · rw [e 0 (by omega) (by omega) (by omega) (by omega), e7 13 (by omega)]; exact t1
        · rw [e 0 (by omega) (by omega) (by omega) (by omega), e7 10 (by omega)]; exact t2
        · rw [e 0 (by omega) (by omega) (by omega) (by omega), e7 11 (by omega)]; exact t3
        · rw [e 0 (by omega) (by omega) (by omega) (by omega), e7 12 (by omega)]; exact t4
        · rw [e 37 (by omega) (by omega) (by omega) (by omega), e 75 (by omega) (by omega) (by omega) (by omega)]; exact t5 f hf
    · rw [if_neg c1] at hx
      have := hm μ rfl
      rw [if_neg c1] at this
      exact pair_bad h hx this
  · refine pair_bad h (a := -1) ?_ ?_
    · show f_X9_undo μ p = _
      rw [f_X9_undo, hp.w, hxD, w32_nat (i := D) (by omega)]
      by_cases c1 : p < 0
      · rw [if_pos c1]
      · rw [if_neg c1, if_pos (by omega)]
    · show f_X10_undo μ p = _
      rw [f_X10_undo, mi μ rfl, bd_some, if_neg c, if_pos w0]
theorem m_keep1 {Kc : Mem → Option (Int × Mem)} {r : Nat} (hr : r < 3) : ∀ (m u i : Nat) (μ : Mem), i + m = 16 → m < u → f_X10_keep_L36 Kc (r : Int) u (i : Int) μ = Kc (cpy μ 73 81 (i) (16 * r + i) m) := by
  intro m
  induction m with
  | zero =>
    intro u i μ hi hu
    obtain ⟨u, rfl⟩ : ∃ v, u = v + 1 := ⟨u - 1, by omega⟩
    rw [f_X10_keep_L36, w32_nat (by omega), w32_id (a := 16) (by omega) (by omega), if_neg (by omega), cpy_none]
  | succ m ih =>
    intro u i μ hi hu
    obtain ⟨u, rfl⟩ : ∃ v, u = v + 1 := ⟨u - 1, by omega⟩
    have hi' := ih u (i + 1) (wr μ 81 (16 * r + i) (μ 73 (i))) (by omega) (by omega)
    rw [show ((i + 1 : Nat) : Int) = (i : Int) + 1 by omega, show 16 * r + (i + 1) = (16 * r + i) + 1 by omega, cpy_step (by omega)] at hi'
    rw [f_X10_keep_L36, w32_nat (by omega), w32_id (a := 16) (by omega) (by omega), if_pos (by omega), ck_ok (by omega) (by omega) (by omega), ck_ok (by omega) (by omega) (by omega), vm, w32_id (a := 16 * (r : Int) + (i : Int)) (by omega) (by omega), show (16 * (r : Int) + (i : Int)).toNat = 16 * r + i by omega, Int.toNat_natCast]
    exact hi'
theorem m_keep2 {Kc : Mem → Option (Int × Mem)} {r : Nat} (hr : r < 3) : ∀ (m u i : Nat) (μ : Mem), i + m = 960 → m < u → f_X10_keep_L67 Kc (r : Int) u (i : Int) μ = Kc (cpy μ 74 82 (i) (960 * r + i) m) := by
  intro m
  induction m with
  | zero =>
    intro u i μ hi hu
    obtain ⟨u, rfl⟩ : ∃ v, u = v + 1 := ⟨u - 1, by omega⟩
    rw [f_X10_keep_L67, w32_nat (by omega), w32_id (a := 960) (by omega) (by omega), if_neg (by omega), cpy_none]
  | succ m ih =>
    intro u i μ hi hu
    obtain ⟨u, rfl⟩ : ∃ v, u = v + 1 := ⟨u - 1, by omega⟩
    have hi' := ih u (i + 1) (wr μ 82 (960 * r + i) (μ 74 (i))) (by omega) (by omega)
    rw [show ((i + 1 : Nat) : Int) = (i : Int) + 1 by omega, show 960 * r + (i + 1) = (960 * r + i) + 1 by omega, cpy_step (by omega)] at hi'
    rw [f_X10_keep_L67, w32_nat (by omega), w32_id (a := 960) (by omega) (by omega), if_pos (by omega), ck_ok (by omega) (by omega) (by omega), ck_ok (by omega) (by omega) (by omega), vm, w32_id (a := 960 * (r : Int) + (i : Int)) (by omega) (by omega), show (960 * (r : Int) + (i : Int)).toNat = 960 * r + i by omega, Int.toNat_natCast]
    exact hi'
theorem m_keep3 {r : Nat} (hr : r < 3) : ∀ (m u i : Nat) (μ : Mem), i + m = 4 → m < u → f_X10_keep_L100 (r : Int) u (i : Int) μ = some ((cpy μ 72 83 (i) (4 * r + i) m) 67 8, (cpy μ 72 83 (i) (4 * r + i) m)) := by
  intro m
  induction m with
  | zero =>
    intro u i μ hi hu
    obtain ⟨u, rfl⟩ : ∃ v, u = v + 1 := ⟨u - 1, by omega⟩
    rw [f_X10_keep_L100, w32_nat (by omega), w32_id (a := 4) (by omega) (by omega), if_neg (by omega), cpy_none]
  | succ m ih =>
    intro u i μ hi hu
    obtain ⟨u, rfl⟩ : ∃ v, u = v + 1 := ⟨u - 1, by omega⟩
    have hi' := ih u (i + 1) (wr μ 83 (4 * r + i) (μ 72 (i))) (by omega) (by omega)
    rw [show ((i + 1 : Nat) : Int) = (i : Int) + 1 by omega, show 4 * r + (i + 1) = (4 * r + i) + 1 by omega, cpy_step (by omega)] at hi'
    rw [f_X10_keep_L100, w32_nat (by omega), w32_id (a := 4) (by omega) (by omega), if_pos (by omega), ck_ok (by omega) (by omega) (by omega), ck_ok (by omega) (by omega) (by omega), vm, w32_id (a := 4 * (r : Int) + (i : Int)) (by omega) (by omega), show (4 * (r : Int) + (i : Int)).toNat = 4 * r + i by omega, Int.toNat_natCast]
    exact hi'
theorem m_on1 {Kc : Mem → Option (Int × Mem)} {r : Nat} (hr : r < 3) : ∀ (m u i : Nat) (μ : Mem), i + m = 16 → m < u → f_X10_on_L41 Kc (r : Int) u (i : Int) μ = Kc (cpy μ 81 73 (16 * r + i) (i) m) := by
  intro m
  induction m with
  | zero =>
    intro u i μ hi hu
    obtain ⟨u, rfl⟩ : ∃ v, u = v + 1 := ⟨u - 1, by omega⟩
    rw [f_X10_on_L41, w32_nat (by omega), w32_id (a := 16) (by omega) (by omega), if_neg (by omega), cpy_none]
  | succ m ih =>
    intro u i μ hi hu
    obtain ⟨u, rfl⟩ : ∃ v, u = v + 1 := ⟨u - 1, by omega⟩
    have hi' := ih u (i + 1) (wr μ 73 (i) (μ 81 (16 * r + i))) (by omega) (by omega)
    rw [show ((i + 1 : Nat) : Int) = (i : Int) + 1 by omega, show 16 * r + (i + 1) = (16 * r + i) + 1 by omega, cpy_step (by omega)] at hi'
    rw [f_X10_on_L41, w32_nat (by omega), w32_id (a := 16) (by omega) (by omega), if_pos (by omega), ck_ok (by omega) (by omega) (by omega), ck_ok (by omega) (by omega) (by omega), vm, w32_id (a := 16 * (r : Int) + (i : Int)) (by omega) (by omega), show (16 * (r : Int) + (i : Int)).toNat = 16 * r + i by omega, Int.toNat_natCast]
    exact hi'
theorem m_on2 {Kc : Mem → Option (Int × Mem)} {r : Nat} (hr : r < 3) : ∀ (m u i : Nat) (μ : Mem), i + m = 960 → m < u → f_X10_on_L72 Kc (r : Int) u (i : Int) μ = Kc (cpy μ 82 74 (960 * r + i) (i) m) := by
  intro m
  induction m with
  | zero =>
    intro u i μ hi hu
    obtain ⟨u, rfl⟩ : ∃ v, u = v + 1 := ⟨u - 1, by omega⟩
    rw [f_X10_on_L72, w32_nat (by omega), w32_id (a := 960) (by omega) (by omega), if_neg (by omega), cpy_none]
  | succ m ih =>
    intro u i μ hi hu
    obtain ⟨u, rfl⟩ : ∃ v, u = v + 1 := ⟨u - 1, by omega⟩
    have hi' := ih u (i + 1) (wr μ 74 (i) (μ 82 (960 * r + i))) (by omega) (by omega)
    rw [show ((i + 1 : Nat) : Int) = (i : Int) + 1 by omega, show 960 * r + (i + 1) = (960 * r + i) + 1 by omega, cpy_step (by omega)] at hi'
    rw [f_X10_on_L72, w32_nat (by omega), w32_id (a := 960) (by omega) (by omega), if_pos (by omega), ck_ok (by omega) (by omega) (by omega), ck_ok (by omega) (by omega) (by omega), vm, w32_id (a := 960 * (r : Int) + (i : Int)) (by omega) (by omega), show (960 * (r : Int) + (i : Int)).toNat = 960 * r + i by omega, Int.toNat_natCast]
    exact hi'
theorem m_on3 {r : Nat} (hr : r < 3) : ∀ (m u i : Nat) (μ : Mem), i + m = 4 → m < u → f_X10_on_L105 (r : Int) u (i : Int) μ = some ((cpy μ 83 72 (4 * r + i) (i) m) 67 8, (cpy μ 83 72 (4 * r + i) (i) m)) := by
  intro m
  induction m with
  | zero =>
    intro u i μ hi hu
    obtain ⟨u, rfl⟩ : ∃ v, u = v + 1 := ⟨u - 1, by omega⟩
    rw [f_X10_on_L105, w32_nat (by omega), w32_id (a := 4) (by omega) (by omega), if_neg (by omega), cpy_none]
  | succ m ih =>
    intro u i μ hi hu
    obtain ⟨u, rfl⟩ : ∃ v, u = v + 1 := ⟨u - 1, by omega⟩
    have hi' := ih u (i + 1) (wr μ 72 (i) (μ 83 (4 * r + i))) (by omega) (by omega)
    rw [show ((i + 1 : Nat) : Int) = (i : Int) + 1 by omega, show 4 * r + (i + 1) = (4 * r + i) + 1 by omega, cpy_step (by omega)] at hi'
    rw [f_X10_on_L105, w32_nat (by omega), w32_id (a := 4) (by omega) (by omega), if_pos (by omega), ck_ok (by omega) (by omega) (by omega), ck_ok (by omega) (by omega) (by omega), vm, w32_id (a := 4 * (r : Int) + (i : Int)) (by omega) (by omega), show (4 * (r : Int) + (i : Int)).toNat = 4 * r + i by omega, Int.toNat_natCast]
    exact hi'
theorem x_isKept {μ : Mem} {p : Int} (h : inR p) : f_X9_isKeptPlace μ p = some (if 0 ≤ p ∧ p ≤ 2 then 1 else 0, μ) := by
  rw [f_X9_isKeptPlace, vl, h.w, w32_id (a := 3) (by omega) (by omega)]
  congr 2
  by_cases h : p < 0
  · rw [if_pos h, if_neg (by omega)]
  · rw [if_neg h]
    by_cases h3 : p < 3
    · rw [if_pos h3, if_pos (by omega)]
    · rw [if_neg h3, if_neg (by omega)]
theorem x_wlast {μ : Mem} {D : Nat} (h : μ 15 2 = (D : Int)) (hD : D ≤ 60) : f_X2_writeLast μ 15 = some ((), cpy μ 14 16 0 (16 * D) 16) := by
  rw [f_X2_writeLast, h, w32_nat (by omega), if_neg (by omega), w60, if_neg (by omega), ckc_ok (by omega) (by omega) (by omega) (by omega) (by omega) (by omega) (by omega), vm, w32_id (a := 0) (by omega) (by omega), w32_id (a := 16) (by omega) (by omega), w32_id (by omega) (by omega), show ((D : Int) * 16).toNat = 16 * D by omega]
  rfl
theorem x_dtake {μ : Mem} {t q D : Nat} (h : μ q 2 = (D : Int)) (hD : D ≤ 60) (ht : q ≠ t + 1) : f_X2_take μ t q = some ((), wr (cpy μ (q + 1) (t + 1) 0 0 (16 * (D + 1))) t 2 (D : Int)) := by
  rw [f_X2_take, h, w32_nat (by omega), if_neg (by omega), w60, if_neg (by omega), ckc_ok (by omega) (by omega) (by omega) (by omega) (by omega) (by omega) (by omega), vm, vm, cpy_cell ht, h, w32_id (a := 0) (by omega) (by omega), w32_id (by omega) (by omega), show (((D : Int) + 1) * 16).toNat = 16 * (D + 1) by omega]
  rfl
theorem p_keep {n : Nat} {p : Int} (hp : inR p) : Pair n (fun μ => f_X9_keep μ p) (fun μ => f_X10_keep μ p) := by
  intro μ h
  obtain ⟨C, V, hC0, hV0, hYX, hYM, hVX, hVM⟩ := h.yr
  have hC := hYX.1
  have hx6 := hYX.2.1
  obtain ⟨D, hD, hxD, hD60⟩ := h.deeds
  have mi : ∀ μ1 : Mem, f_X10_in μ1 (w32 p) 0 2 = some (if 0 ≤ p ∧ p ≤ 2 then 1 else 0, μ1) := fun μ1 => by
    rw [hp.w]; exact m_in hp ⟨by omega, by omega⟩ ⟨by omega, by omega⟩
  by_cases c : 0 ≤ p ∧ p ≤ 2
  · by_cases c0 : C = 0
    · refine pair_bad h (a := -4) ?_ ?_
      · show f_X9_keep μ p = _
        rw [f_X9_keep, x_isKept hp, bd_some, if_pos c, if_neg w1ne, hx6, c0, Int.natCast_zero, if_pos w0]
      · show f_X10_keep μ p = _
        rw [f_X10_keep, mi, bd_some, if_pos c, if_neg w1ne, hC0, c0, Int.natCast_zero, if_pos w0]
    · obtain ⟨r, rfl⟩ : ∃ r : Nat, p = (r : Int) := ⟨p.toNat, by omega⟩
      have hr : r < 3 := by omega
      have hx : f_X9_keep μ (r : Int) = some ((D : Int), cpy (wr (cpy (cpy μ 14 16 0 (16 * D) 16) (15 + 1) (58 + 3 * r + 1) 0 0 (16 * (D + 1))) (58 + 3 * r) 2 (D : Int)) 12 (58 + 3 * r + 2) 0 0 4) := by
        rw [f_X9_keep, x_isKept hp, bd_some, if_pos c, if_neg w1ne, hx6, w32_nat (by omega), if_neg (by omega), x_wlast hxD hD60, bd_some, ck_ok (by omega) (by omega) (by omega), w32_nat (by omega), Int.toNat_natCast, x_dtake (by rw [cpy_cell (by omega)]; exact hxD) hD60 (by omega), bd_some, ck_ok (by omega) (by omega) (by omega), ckc_ok (by omega) (by omega) (by omega) (by omega) (by omega) (by omega) (by omega), vm, w32_id (a := 0) (by omega) (by omega), w32_id (a := 4) (by omega) (by omega), Int.toNat_zero, show (4 : Int).toNat = 4 from rfl, cpy_cell (j := 15) (by omega), wr_cell (j := 15) (by omega), cpy_cell (j := 15) (by omega), cpy_cell (j := 15) (by omega), hxD]
      have hm : ∀ μ1 : Mem, μ1 67 = μ 67 → f_X10_keep μ1 (r : Int) = some ((D : Int), cpy (cpy (cpy (wr μ1 80 r (D : Int)) 73 81 0 (16 * r) 16) 74 82 0 (960 * r) 960) 72 83 0 (4 * r) 4) := fun μ1 e => by
        have l1 := fun Kc => m_keep1 (Kc := Kc) hr 16 100000 0 (wr μ1 80 r (D : Int)) (by omega) (by omega)
        have l2 := fun Kc => m_keep2 (Kc := Kc) hr 960 100000 0 (cpy (wr μ1 80 r (D : Int)) 73 81 0 (16 * r) 16) (by omega) (by omega)
        have l3 := m_keep3 hr 4 100000 0 (cpy (cpy (wr μ1 80 r (D : Int)) 73 81 0 (16 * r) 16) 74 82 0 (960 * r) 960) (by omega) (by omega)
        rw [Int.natCast_zero, Nat.add_zero] at l1 l2 l3
        rw [f_X10_keep, mi, bd_some, if_pos c, if_neg w1ne, e, hC0, w32_nat (by omega), if_neg (by omega), ck_ok (by omega) (by omega) (by omega), vm, w32_nat (by omega), Int.toNat_natCast, hD, l1, l2, l3, cpy_cell (j := 67) (by omega), cpy_cell (j := 67) (by omega), cpy_cell (j := 67) (by omega), wr_cell (j := 67) (by omega), e, hD]
      generalize hm1 : cpy (wr (cpy (cpy μ 14 16 0 (16 * D) 16) (15 + 1) (58 + 3 * r + 1) 0 0 (16 * (D + 1))) (58 + 3 * r) 2 (D : Int)) 12 (58 + 3 * r + 2) 0 0 4 = μ1 at hx
      have a0 : ∀ k : Nat, k ≠ 16 → k ≠ 58 + 3 * r → k ≠ 58 + 3 * r + 1 → k ≠ 58 + 3 * r + 2 → μ1 k = μ k := fun k k1 k2 k3 k4 => by rw [← hm1, cpy_cell k4, wr_cell k2, cpy_cell k3, cpy_cell k1]
      have a16 : ∀ q : Nat, ¬ (16 * D ≤ q ∧ q < 16 * D + 16) → μ1 16 q = μ 16 q := fun q hq => by rw [← hm1, cpy_cell (by omega), wr_cell (by omega), cpy_cell (by omega), cpy_out (by omega)]
      have a58 : μ1 (58 + 3 * r) 2 = (D : Int) := by rw [← hm1, cpy_cell (by omega), wr_eq]
      have a59 : ∀ q : Nat, q < 16 * D → μ1 (58 + 3 * r + 1) q = μ 16 q := fun q hq => by rw [← hm1, cpy_cell (by omega), wr_cell (by omega), cpy_in (by omega) (by omega), show 0 + (q - 0) = q by omega, cpy_out (by omega)]
      have a59' : ∀ i : Nat, i < 16 → μ1 (58 + 3 * r + 1) (16 * D + i) = μ 14 i := fun i hi => by rw [← hm1, cpy_cell (by omega), wr_cell (by omega), cpy_in (by omega) (by omega), show 0 + (16 * D + i - 0) = 16 * D + i by omega, cpy_in (by omega) (by omega), show 0 + (16 * D + i - 16 * D) = i by omega]
      have a60 : ∀ v : Nat, v < 4 → μ1 (58 + 3 * r + 2) v = μ 12 v := fun v hv => by rw [← hm1, cpy_in (by omega) (by omega), show 0 + (v - 0) = v by omega, wr_cell (by omega), cpy_cell (by omega), cpy_cell (by omega)]
      refine ⟨(D : Int), μ1, cpy (cpy (cpy (wr μ1 80 r (D : Int)) 73 81 0 (16 * r) 16) 74 82 0 (960 * r) 960) 72 83 0 (4 * r) 4, hx, hm μ1 (a0 67 (by omega) (by omega) (by omega) (by omega)), ?_⟩
      have b0 : ∀ k : Nat, k ≠ 80 → k ≠ 81 → k ≠ 82 → k ≠ 83 → cpy (cpy (cpy (wr μ1 80 r (D : Int)) 73 81 0 (16 * r) 16) 74 82 0 (960 * r) 960) 72 83 0 (4 * r) 4 k = μ1 k := fun k k1 k2 k3 k4 => by rw [cpy_cell k4, cpy_cell k3, cpy_cell k2, wr_cell k1]
      have b80 : ∀ s : Nat, cpy (cpy (cpy (wr μ1 80 r (D : Int)) 73 81 0 (16 * r) 16) 74 82 0 (960 * r) 960) 72 83 0 (4 * r) 4 80 s = if s = r then (D : Int) else μ 80 s := fun s => by
        rw [cpy_cell (by omega), cpy_cell (by omega), cpy_cell (by omega)]
        by_cases e : s = r
        · subst e; rw [if_pos rfl, wr_eq]
        · rw [if_neg e, wr_ne (by omega), a0 80 (by omega) (by omega) (by omega) (by omega)]
      have b81 : ∀ q : Nat, cpy (cpy (cpy (wr μ1 80 r (D : Int)) 73 81 0 (16 * r) 16) 74 82 0 (960 * r) 960) 72 83 0 (4 * r) 4 81 q = if 16 * r ≤ q ∧ q < 16 * r + 16 then μ 73 (q - 16 * r) else μ 81 q := fun q => by
        rw [cpy_cell (by omega), cpy_cell (by omega)]
        by_cases e : 16 * r ≤ q ∧ q < 16 * r + 16
        · rw [if_pos e, cpy_in e.1 e.2, Nat.zero_add, wr_cell (by omega), a0 73 (by omega) (by omega) (by omega) (by omega)]
        · rw [if_neg e, cpy_out (by omega), wr_cell (by omega), a0 81 (by omega) (by omega) (by omega) (by omega)]
      have b82 : ∀ q : Nat, cpy (cpy (cpy (wr μ1 80 r (D : Int)) 73 81 0 (16 * r) 16) 74 82 0 (960 * r) 960) 72 83 0 (4 * r) 4 82 q = if 960 * r ≤ q ∧ q < 960 * r + 960 then μ 74 (q - 960 * r) else μ 82 q := fun q => by
        rw [cpy_cell (by omega)]
        by_cases e : 960 * r ≤ q ∧ q < 960 * r + 960
        · rw [if_pos e, cpy_in e.1 e.2, Nat.zero_add, cpy_cell (by omega), wr_cell (by omega), a0 74 (by omega) (by omega) (by omega) (by omega)]
        · rw [if_neg e, cpy_out (by omega), cpy_cell (by omega), wr_cell (by omega), a0 82 (by omega) (by omega) (by omega) (by omega)]
      have b83 : ∀ q : Nat, cpy (cpy (cpy (wr μ1 80 r (D : Int)) 73 81 0 (16 * r) 16) 74 82 0 (960 * r) 960) 72 83 0 (4 * r) 4 83 q = if 4 * r ≤ q ∧ q < 4 * r + 4 then μ 72 (q - 4 * r) else μ 83 q := fun q => by
        by_cases e : 4 * r ≤ q ∧ q < 4 * r + 4
        · rw [if_pos e, cpy_in e.1 e.2, Nat.zero_add, cpy_cell (by omega), cpy_cell (by omega), wr_cell (by omega), a0 72 (by omega) (by omega) (by omega) (by omega)]
        · rw [if_neg e, cpy_out (by omega), cpy_cell (by omega), cpy_cell (by omega), wr_cell (by omega), a0 83 (by omega) (by omega) (by omega) (by omega)]
      generalize cpy (cpy (cpy (wr μ1 80 r (D : Int)) 73 81 0 (16 * r) 16) 74 82 0 (960 * r) 960) 72 83 0 (4 * r) 4 = μ2 at *
      have e : ∀ k : Nat, k ≠ 16 → ¬ (58 ≤ k ∧ k < 67) → k ≠ 80 → k ≠ 81 → k ≠ 82 → k ≠ 83 → μ2 k = μ k := fun k k1 k2 k3 k4 k5 k6 => by rw [b0 k k3 k4 k5 k6, a0 k k1 (by omega) (by omega) (by omega)]
      obtain ⟨i1, i2, i3, i4, i5, i6, i7⟩ := h.up (Nat.le_succ n)
      obtain ⟨d1, d2, d3⟩ := i5
      obtain ⟨y1, y2, y3, y4, y5, y6, y7⟩ := i3
      refine ⟨i1.cg (fun k hk => e k (by omega) (by omega) (by omega) (by omega) (by omega) (by omega)), i2.cg (fun k hk => e k (by omega) (by omega) (by omega) (by omega) (by omega) (by omega)), IYear.cg (μ := μ) ⟨y1, y2, y3, y4, y5, y6, y7⟩ (fun k hk => e k (by omega) (by omega) (by omega) (by omega) (by omega) (by omega)) (by rw [e 67 (by omega) (by omega) (by omega) (by omega) (by omega) (by omega)]) (by rw [e 67 (by omega) (by omega) (by omega) (by omega) (by omega) (by omega)]), i4.cg (fun k hk => e k (by omega) (by omega) (by omega) (by omega) (by omega) (by omega)), ⟨?_, ?_, fun j hj => ?_⟩, fun s hs => ?_, i7.cg (fun k hk => e k (by omega) (by omega) (by omega) (by omega) (by omega) (by omega)) (fun p hp => by rw [e 0 (by omega) (by omega) (by omega) (by omega) (by omega) (by omega)]) (fun p hp => by rw [e 67 (by omega) (by omega) (by omega) (by omega) (by omega) (by omega)])⟩
      · rw [e 67 (by omega) (by omega) (by omega) (by omega) (by omega) (by omega)]; exact d1
      · rw [e 67 (by omega) (by omega) (by omega) (by omega) (by omega) (by omega), e 15 (by omega) (by omega) (by omega) (by omega) (by omega) (by omega)]; exact d2
      · rw [e 67 (by omega) (by omega) (by omega) (by omega) (by omega) (by omega), hD] at hj
        rw [e 74 (by omega) (by omega) (by omega) (by omega) (by omega) (by omega)]
        obtain ⟨f1, f2⟩ := d3 j (by omega)
        refine ⟨fun i hi => ?_, f2⟩
        rw [b0 16 (by omega) (by omega) (by omega) (by omega), a16 _ (by omega)]
        exact f1 i hi
      · by_cases c1 : s = r
        · subst c1
          rw [b80, if_pos rfl]
          refine ⟨by omega, ?_, fun _ => ⟨fun j hj => ?_, ⟨fun i hi => ?_, ?_⟩, fun v hv => ?_⟩⟩
          · rw [b0 _ (by omega) (by omega) (by omega) (by omega)]; exact a58
          · obtain ⟨f1, f2⟩ := d3 j (by omega)
            refine ⟨fun i hi => ?_, f2.cg (fun i hi => ?_)⟩
            · rw [b0 _ (by omega) (by omega) (by omega) (by omega), a59 _ (by omega), b82, if_pos (by omega), show 960 * s + (16 * j + i) - 960 * s = 16 * j + i by omega]; exact f1 i hi
            · rw [b82, if_pos (by omega), show 960 * s + (16 * j + i) - 960 * s = 16 * j + i by omega]
          · rw [b0 _ (by omega) (by omega) (by omega) (by omega), Int.toNat_natCast, a59' i hi, b81, if_pos (by omega), show 16 * s + i - 16 * s = i by omega]; exact i4.1 i hi
          · refine i4.2.cg (fun i hi => ?_)
            rw [b81, if_pos (by omega), show 16 * s + i - 16 * s = i by omega]
          · rw [b0 _ (by omega) (by omega) (by omega) (by omega), a60 v hv, b83, if_pos (by omega), show 4 * s + v - 4 * s = v by omega]
            exact (y7 v hv).2.2.2
        · obtain ⟨g1, g2, g3⟩ := i6 s hs
          rw [b80, if_neg c1, b0 (58 + 3 * s) (by omega) (by omega) (by omega) (by omega), b0 (58 + 3 * s + 1) (by omega) (by omega) (by omega) (by omega), b0 (58 + 3 * s + 2) (by omega) (by omega) (by omega) (by omega), a0 (58 + 3 * s) (by omega) (by omega) (by omega) (by omega), a0 (58 + 3 * s + 1) (by omega) (by omega) (by omega) (by omega), a0 (58 + 3 * s + 2) (by omega) (by omega) (by omega) (by omega)]
          refine ⟨g1, g2, fun h0 => ?_⟩
          obtain ⟨k1, ⟨k2, k3⟩, k4⟩ := g3 h0
          refine ⟨fun j hj => ?_, ⟨fun i hi => ?_, k3.cg (fun i hi => ?_)⟩, fun v hv => ?_⟩
          · obtain ⟨f1, f2⟩ := k1 j hj
            refine ⟨fun i hi => ?_, f2.cg (fun i hi => ?_)⟩
            · rw [b82, if_neg (by omega)]; exact f1 i hi
            · rw [b82, if_neg (by omega)]
          · rw [b81, if_neg (by omega)]; exact k2 i hi
          · rw [b81, if_neg (by omega)]
          · rw [b83, if_neg (by omega)]; exact k4 v hv
  · refine pair_bad h (a := -1) ?_ ?_
    · show f_X9_keep μ p = _
      rw [f_X9_keep, x_isKept hp, bd_some, if_neg c, if_pos w0]
    · show f_X10_keep μ p = _
      rw [f_X10_keep, mi, bd_some, if_neg c, if_pos w0]
theorem p_on {n : Nat} {p : Int} (hp : inR p) : Pair n (fun μ => f_X9_on μ p) (fun μ => f_X10_on μ p) := by
  intro μ h
  have mi : ∀ μ1 : Mem, f_X10_in μ1 (w32 p) 0 2 = some (if 0 ≤ p ∧ p ≤ 2 then 1 else 0, μ1) := fun μ1 => by
    rw [hp.w]; exact m_in hp ⟨by omega, by omega⟩ ⟨by omega, by omega⟩
  by_cases c : 0 ≤ p ∧ p ≤ 2
  · obtain ⟨r, rfl⟩ : ∃ r : Nat, p = (r : Int) := ⟨p.toNat, by omega⟩
    have hr : r < 3 := by omega
    obtain ⟨⟨s1, s2⟩, s3, s4⟩ := h.2.2.2.2.2.1 r hr
    by_cases c0 : μ 80 r < 0
    · refine pair_fnd h 1 (by omega) (by omega) ?_ (fun μ1 e => ?_)
      · show f_X9_on μ (r : Int) = _
        rw [f_X9_on, x_isKept hp, bd_some, if_pos c, if_neg w1ne, ck_ok (by omega) (by omega) (by omega), w32_nat (by omega), Int.toNat_natCast, s3, show μ 80 r = -1 by omega, if_pos rfl, bd_ret]
      · show f_X10_on μ1 (r : Int) = _
        rw [f_X10_on, mi, bd_some, if_pos c, if_neg w1ne, ck_ok (by omega) (by omega) (by omega), w32_nat (by omega), Int.toNat_natCast, e 80 (by omega) (by omega), w32_id (by omega) (by omega), if_pos c0, bd_ret]
    · obtain ⟨S, hS⟩ : ∃ S : Nat, μ 80 r = (S : Int) := ⟨(μ 80 r).toNat, by omega⟩
      have hS60 : S ≤ 60 := by omega
      have hxS : μ (58 + 3 * r) 2 = (S : Int) := by rw [s3, hS]
      have wm1' : w32 (-1) = -1 := by decide +kernel
      have hx : f_X9_on μ (r : Int) = some ((S : Int), cpy (wr (cpy (wr (cpy μ (58 + 3 * r + 1) (15 + 1) 0 0 (16 * (S + 1))) 15 2 (S : Int)) 16 14 (16 * S) 0 16) 15 2 (S : Int)) (58 + 3 * r + 2) 12 0 0 4) := by
        rw [f_X9_on, x_isKept hp, bd_some, if_pos c, if_neg w1ne, ck_ok (by omega) (by omega) (by omega), w32_nat (i := r) (by omega), Int.toNat_natCast, hxS, w32_nat (by omega), wm1', if_neg (by omega), ck_ok (by omega) (by omega) (by omega), x_dtake hxS hS60 (by omega), bd_some, wr_eq, x_goBack hS60, bd_some, ck_ok (by omega) (by omega) (by omega), ckc_ok (by omega) (by omega) (by omega) (by omega) (by omega) (by omega) (by omega), vm, w32_id (a := 0) (by omega) (by omega), w32_id (a := 4) (by omega) (by omega), Int.toNat_zero, show (4 : Int).toNat = 4 from rfl, cpy_cell (j := 15) (k' := 12) (by omega), wr_eq]
      have hm : ∀ μ1 : Mem, μ1 80 = μ 80 → f_X10_on μ1 (r : Int) = some ((S : Int), cpy (cpy (cpy (wr μ1 67 8 (S : Int)) 81 73 (16 * r) 0 16) 82 74 (960 * r) 0 960) 83 72 (4 * r) 0 4) := fun μ1 e => by
        have l1 := fun Kc => m_on1 (Kc := Kc) hr 16 100000 0 (wr μ1 67 8 (S : Int)) (by omega) (by omega)
        have l2 := fun Kc => m_on2 (Kc := Kc) hr 960 100000 0 (cpy (wr μ1 67 8 (S : Int)) 81 73 (16 * r) 0 16) (by omega) (by omega)
        have l3 := m_on3 hr 4 100000 0 (cpy (cpy (wr μ1 67 8 (S : Int)) 81 73 (16 * r) 0 16) 82 74 (960 * r) 0 960) (by omega) (by omega)
        rw [Int.natCast_zero, Nat.add_zero] at l1 l2 l3
        rw [f_X10_on, mi, bd_some, if_pos c, if_neg w1ne, ck_ok (by omega) (by omega) (by omega), e, w32_nat (i := r) (by omega), Int.toNat_natCast, hS, w32_nat (by omega), if_neg (by omega), ck_ok (by omega) (by omega) (by omega), vm, l1, l2, l3, cpy_cell (j := 67) (by omega), cpy_cell (j := 67) (by omega), cpy_cell (j := 67) (by omega), wr_eq]
      generalize hm1 : cpy (wr (cpy (wr (cpy μ (58 + 3 * r + 1) (15 + 1) 0 0 (16 * (S + 1))) 15 2 (S : Int)) 16 14 (16 * S) 0 16) 15 2 (S : Int)) (58 + 3 * r + 2) 12 0 0 4 = μ1 at hx
      have a0 : ∀ k : Nat, k ≠ 12 → k ≠ 14 → k ≠ 15 → k ≠ 16 → μ1 k = μ k := fun k k1 k2 k3 k4 => by rw [← hm1, cpy_cell k1, wr_cell k3, cpy_cell k2, wr_cell k3, cpy_cell k4]
      have a16 : ∀ q : Nat, q < 16 * (S + 1) → μ1 16 q = μ (58 + 3 * r + 1) q := fun q hq => by rw [← hm1, cpy_cell (by omega), wr_cell (by omega), cpy_cell (by omega), wr_cell (by omega), cpy_in (by omega) (by omega), show 0 + (q - 0) = q by omega]
      have a15 : μ1 15 2 = (S : Int) := by rw [← hm1, cpy_cell (by omega), wr_eq]
      have a14 : ∀ i : Nat, i < 16 → μ1 14 i = μ (58 + 3 * r + 1) (16 * S + i) := fun i hi => by rw [← hm1, cpy_cell (by omega), wr_cell (by omega), cpy_in (by omega) (by omega), wr_cell (by omega), cpy_in (by omega) (by omega), show 0 + (16 * S + (i - 0) - 0) = 16 * S + i by omega]
      have a12 : ∀ v : Nat, v < 4 → μ1 12 v = μ (58 + 3 * r + 2) v := fun v hv => by rw [← hm1, cpy_in (by omega) (by omega), show 0 + (v - 0) = v by omega, wr_cell (by omega), cpy_cell (by omega), wr_cell (by omega), cpy_cell (by omega)]
      refine ⟨(S : Int), μ1, cpy (cpy (cpy (wr μ1 67 8 (S : Int)) 81 73 (16 * r) 0 16) 82 74 (960 * r) 0 960) 83 72 (4 * r) 0 4, hx, hm μ1 (a0 80 (by omega) (by omega) (by omega) (by omega)), ?_⟩
      have b0 : ∀ k : Nat, k ≠ 67 → k ≠ 72 → k ≠ 73 → k ≠ 74 → cpy (cpy (cpy (wr μ1 67 8 (S : Int)) 81 73 (16 * r) 0 16) 82 74 (960 * r) 0 960) 83 72 (4 * r) 0 4 k = μ1 k := fun k k1 k2 k3 k4 => by rw [cpy_cell k2, cpy_cell k4, cpy_cell k3, wr_cell k1]
      have b67 : ∀ q : Nat, cpy (cpy (cpy (wr μ1 67 8 (S : Int)) 81 73 (16 * r) 0 16) 82 74 (960 * r) 0 960) 83 72 (4 * r) 0 4 67 q = if q = 8 then (S : Int) else μ 67 q := fun q => by
        rw [cpy_cell (by omega), cpy_cell (by omega), cpy_cell (by omega)]
        by_cases e : q = 8
        · subst e; rw [if_pos rfl, wr_eq]
        · rw [if_neg e, wr_ne (by omega), a0 67 (by omega) (by omega) (by omega) (by omega)]
      have b73 : ∀ i : Nat, i < 16 → cpy (cpy (cpy (wr μ1 67 8 (S : Int)) 81 73 (16 * r) 0 16) 82 74 (960 * r) 0 960) 83 72 (4 * r) 0 4 73 i = μ 81 (16 * r + i) := fun i hi => by
        rw [cpy_cell (by omega), cpy_cell (by omega), cpy_in (by omega) (by omega), Nat.sub_zero, wr_cell (by omega), a0 81 (by omega) (by omega) (by omega) (by omega)]
      have b74 : ∀ q : Nat, q < 960 → cpy (cpy (cpy (wr μ1 67 8 (S : Int)) 81 73 (16 * r) 0 16) 82 74 (960 * r) 0 960) 83 72 (4 * r) 0 4 74 q = μ 82 (960 * r + q) := fun q hq => by
        rw [cpy_cell (by omega), cpy_in (by omega) (by omega), Nat.sub_zero, cpy_cell (by omega), wr_cell (by omega), a0 82 (by omega) (by omega) (by omega) (by omega)]
      have b72 : ∀ v : Nat, v < 4 → cpy (cpy (cpy (wr μ1 67 8 (S : Int)) 81 73 (16 * r) 0 16) 82 74 (960 * r) 0 960) 83 72 (4 * r) 0 4 72 v = μ 83 (4 * r + v) := fun v hv => by
        rw [cpy_in (by omega) (by omega), Nat.sub_zero, cpy_cell (by omega), cpy_cell (by omega), wr_cell (by omega), a0 83 (by omega) (by omega) (by omega) (by omega)]
      generalize cpy (cpy (cpy (wr μ1 67 8 (S : Int)) 81 73 (16 * r) 0 16) 82 74 (960 * r) 0 960) 83 72 (4 * r) 0 4 = μ2 at *
      have e : ∀ k : Nat, ¬ (k = 12 ∨ (14 ≤ k ∧ k < 17) ∨ k = 67 ∨ (72 ≤ k ∧ k < 75)) → μ2 k = μ k := fun k hk => by rw [b0 k (by omega) (by omega) (by omega) (by omega), a0 k (by omega) (by omega) (by omega) (by omega)]
      have e7 : ∀ q : Nat, q ≠ 8 → μ2 67 q = μ 67 q := fun q hq => by rw [b67, if_neg hq]
      obtain ⟨i1, i2, i3, i4, i5, i6, i7⟩ := h.up (Nat.le_succ n)
      obtain ⟨y1, y2, y3, y4, y5, y6, y7⟩ := i3
      obtain ⟨g1, g2, g3⟩ := i6 r hr
      obtain ⟨k1, ⟨k2, k3⟩, k4⟩ := g3 (by omega)
      rw [hS, Int.toNat_natCast] at k2
      obtain ⟨t1, t2, t3, t4, t5⟩ := i7
      refine ⟨i1.cg (fun k hk => e k (by omega)), i2.cg (fun k hk => e k (by omega)), ?_, ⟨fun i hi => ?_, k3.cg (fun i hi => b73 i hi)⟩, ⟨by rw [b67, if_pos rfl]; omega, by rw [b67, if_pos rfl, b0 15 (by omega) (by omega) (by omega) (by omega), a15], fun j hj => ?_⟩, i6.cg (fun k hk => e k (by omega)), ⟨?_, ?_, ?_, ?_, fun f hf => ?_⟩⟩
      · unfold IYear
        rw [e7 0 (by omega), e7 1 (by omega), e 6 (by omega), e 7 (by omega), e 8 (by omega), e 9 (by omega), e 10 (by omega), e 11 (by omega), e 68 (by omega), e 69 (by omega), e 70 (by omega), e 71 (by omega)]
        refine ⟨y1, y2, y3, y4, y5, y6, fun v hv => ⟨(y7 v hv).1, (y7 v hv).2.1, (y7 v hv).2.2.1, ?_⟩⟩
        rw [b0 12 (by omega) (by omega) (by omega) (by omega), a12 v hv, b72 v hv]
        exact k4 v hv
      · rw [b0 14 (by omega) (by omega) (by omega) (by omega), a14 i hi, b73 i hi]; exact k2 i hi
      · rw [b67, if_pos rfl] at hj
        obtain ⟨f1, f2⟩ := k1 j (by omega)
        refine ⟨fun i hi => ?_, f2.cg (fun i hi => ?_)⟩
        · rw [b0 16 (by omega) (by omega) (by omega) (by omega), a16 _ (by omega), b74 _ (by omega)]; exact f1 i hi
        · exact b74 _ (by omega)
      · rw [e 0 (by omega), e7 13 (by omega)]; exact t1
      · rw [e 0 (by omega), e7 10 (by omega)]; exact t2
      · rw [e 0 (by omega), e7 11 (by omega)]; exact t3
      · rw [e 0 (by omega), e7 12 (by omega)]; exact t4
      · rw [e 37 (by omega), e 75 (by omega)]; exact t5 f hf
  · refine pair_bad h (a := -1) ?_ ?_
    · show f_X9_on μ p = _
      rw [f_X9_on, x_isKept hp, bd_some, if_neg c, if_pos w0]
    · show f_X10_on μ p = _
      rw [f_X10_on, mi, bd_some, if_neg c, if_pos w0]
