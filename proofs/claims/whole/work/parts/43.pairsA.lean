theorem w1ne : ¬ w32 1 = 0 := by decide +kernel
theorem w0 : w32 0 = 0 := by decide +kernel
theorem inR_lit {z : Int} (h1 : -2147483648 ≤ z) (h2 : z < 2147483648) : inR z := ⟨h1, h2⟩
/-- the refused ends: nothing but the finding changes -/
theorem pair_bad {n : Nat} {μ : Mem} (h : Inv n μ) {fx fm : Mem → Option (Int × Mem)} {a : Int} (hx : fx μ = some (a, μ)) (hm : fm μ = some (a, μ)) : PairAt n μ fx fm :=
  ⟨a, μ, μ, hx, hm, h.up (Nat.le_succ n)⟩
theorem pair_fnd {n : Nat} {μ : Mem} (h : Inv n μ) {fx fm : Mem → Option (Int × Mem)} (f : Int) (h1 : 0 ≤ f) (h2 : f < 6) (hx : fx μ = f_X9_found μ f) (hm : ∀ μ1 : Mem, (∀ k, k ≠ 0 → k ≠ 37 → μ1 k = μ k) → fm μ1 = f_X10_finds μ1 f) : PairAt n μ fx fm := by
  obtain ⟨μ1, μ2, e1, e2, e3, e4⟩ := pair_find h h1 h2
  exact ⟨-3, μ1, μ2, hx.trans e1, (hm μ1 e2).trans e3, e4⟩
theorem bd_ret {ρ : Type} (o : Option (ρ × Mem)) : (bd o fun x m => some (x, m)) = o := by
  cases o with
  | none => rfl
  | some q => rfl
theorem IRow.sz {μ : Mem} (h : IRow μ) {r : Nat} (hr : r < 6) : inR (μ 76 r) ∧ inR (μ (38 + 2 * r) 1) ∧ μ (38 + 2 * r) 1 = μ 76 r := by
  obtain ⟨h1, h2, -⟩ := h r hr
  exact ⟨⟨by omega, by omega⟩, ⟨by rw [h2]; omega, by rw [h2]; omega⟩, h2⟩
theorem nat_of {p : Int} {k : Nat} (h : 0 ≤ p ∧ p < (k : Int)) : ∃ r : Nat, r < k ∧ p = (r : Int) := ⟨p.toNat, by omega, by omega⟩
theorem x_isRow1 {μ : Mem} {r : Nat} (hr : r < 6) : f_X9_isRow μ (r : Int) = some (1, μ) := by
  rw [x_isRow ⟨by omega, by omega⟩, if_pos (by omega)]
theorem m_isRow1 {μ : Mem} {r : Nat} (hr : r < 6) : f_X10_isRow μ (r : Int) = some (1, μ) := by
  rw [m_isRow ⟨by omega, by omega⟩, if_pos (by omega)]
theorem x_isRow0 {μ : Mem} {p : Int} (hp : inR p) (h : ¬ (0 ≤ p ∧ p < ((6 : Nat) : Int))) : f_X9_isRow μ p = some (0, μ) := by
  rw [x_isRow hp, if_neg (by omega)]
theorem m_isRow0 {μ : Mem} {p : Int} (hp : inR p) (h : ¬ (0 ≤ p ∧ p < ((6 : Nat) : Int))) : f_X10_isRow μ p = some (0, μ) := by
  rw [m_isRow hp, if_neg (by omega)]
theorem p_row {n : Nat} {p q : Int} (hp : inR p) (hq : inR q) : Pair n (fun μ => f_X9_row μ p q) (fun μ => f_X10_row μ p q) := by
  intro μ h
  by_cases hr : 0 ≤ p ∧ p < ((6 : Nat) : Int)
  · obtain ⟨r, hr6, rfl⟩ := nat_of hr
    by_cases h40 : 40 < q
    · refine pair_bad h (a := -1) ?_ ?_
      · simp only [f_X9_row, x_isRow1 hr6, bd_some, hq.w, if_neg w1ne]
        rw [w32_id (a := 40) (by omega) (by omega), if_pos h40]
      · simp only [f_X10_row, m_isRow1 hr6, bd_some, hq.w, if_neg w1ne]
        rw [w32_id (a := 40) (by omega) (by omega), if_pos h40]
    · by_cases h0 : q < 0
      · refine pair_fnd h 5 (by omega) (by omega) ?_ (fun μ1 _ => ?_)
        · simp only [f_X9_row, x_isRow1 hr6, bd_some, hq.w, if_neg w1ne, bd_ret]
          rw [w32_id (a := 40) (by omega) (by omega), if_neg h40, if_pos h0]
        · simp only [f_X10_row, m_isRow1 hr6, bd_some, hq.w, if_neg w1ne, bd_ret]
          rw [w32_id (a := 40) (by omega) (by omega), if_neg h40, if_pos h0]
      · obtain ⟨i1, i2, i3, i4, i5, i6, i7⟩ := h.up (Nat.le_succ n)
        refine ⟨q, wr (fl μ (38 + 2 * r + 1) 0 40 0) (38 + 2 * r) 1 q, fl (wr (wr (fl μ (38 + 2 * r + 1) 0 40 0) (38 + 2 * r) 1 q) 76 r q) 77 (40 * r) (40 * r + 40) 0, ?_, ?_, ?_⟩
        · simp (disch := omega) only [f_X9_row, x_isRow1 hr6, bd_some, hq.w, if_neg w1ne, ck_ok, w32_nat, Int.toNat_natCast, f_X5_begin, x_fill, vm]
          rw [w32_id (a := 40) (by omega) (by omega), if_neg h40, if_neg h0]
        · simp (disch := omega) only [f_X10_row, m_isRow1 hr6, bd_some, hq.w, if_neg w1ne, ck_ok, w32_nat, Int.toNat_natCast, vm]
          rw [w32_id (a := 40) (by omega) (by omega), if_neg h40, if_neg h0]
          have hl := row_loop (p1 := q) hr6 40 100000 0 (wr (wr (fl μ (38 + 2 * r + 1) 0 40 0) (38 + 2 * r) 1 q) 76 r q) (by omega) (by omega)
          rw [Int.natCast_zero] at hl
          exact hl
        · refine ⟨fun s hs => ?_, i2.cg ?_, i3.cg ?_ ?_ ?_, i4.cg ?_, i5.cg ?_ ?_, i6.cg ?_, i7.cg ?_ ?_ ?_⟩
          · obtain ⟨g1, g2, g3⟩ := i1 s hs
            by_cases e : s = r
            · subst e
              refine ⟨?_, ?_, fun i hi => ?_⟩
              · rw [fl_out (by omega), wr_eq]; omega
              · rw [fl_out (by omega), wr_ne (by omega), wr_eq, fl_out (by omega), wr_eq]
              · rw [fl_out (by omega), wr_eq] at hi
                rw [fl_out (by omega), wr_ne (by omega), wr_ne (by omega), fl_in (by omega) (by omega), fl_in (by omega) (by omega)]
                exact ⟨rfl, by omega, by omega⟩
            · have e1 : fl (wr (wr (fl μ (38 + 2 * r + 1) 0 40 0) (38 + 2 * r) 1 q) 76 r q) 77 (40 * r) (40 * r + 40) 0 76 s = μ 76 s := by
                rw [fl_out (by omega), wr_ne (by omega), wr_ne (by omega), fl_out (by omega)]
              rw [e1]
              refine ⟨g1, ?_, fun i hi => ?_⟩
              · rw [fl_out (by omega), wr_ne (by omega), wr_ne (by omega), fl_out (by omega)]; exact g2
              · rw [fl_out (by omega), wr_ne (by omega), wr_ne (by omega), fl_out (by omega), fl_out (by omega), wr_ne (by omega), wr_ne (by omega), fl_out (by omega)]
                exact g3 i hi
          all_goals try (intro k hk; rw [fl_cell (by omega), wr_cell (by omega), wr_cell (by omega), fl_cell (by omega)])
          all_goals try (rw [fl_cell (by omega), wr_cell (by omega), wr_cell (by omega), fl_cell (by omega)])
  · refine pair_bad h (a := -1) ?_ ?_
    · simp only [f_X9_row, x_isRow0 hp hr, bd_some, if_pos w0]
    · simp only [f_X10_row, m_isRow0 hp hr, bd_some, if_pos w0]
