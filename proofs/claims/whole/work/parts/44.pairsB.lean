theorem Inv.cg {n : Nat} {μ μ' : Mem} (h : Inv n μ) (e : ∀ k : Nat, (6 ≤ k ∧ k < 13) ∨ (14 ≤ k ∧ k < 17) ∨ (37 ≤ k ∧ k < 67) ∨ (68 ≤ k ∧ k < 84) → μ' k = μ k) (e0 : ∀ p : Nat, 12 ≤ p ∧ p < 16 → μ' 0 p = μ 0 p) (e67 : ∀ p : Nat, p = 0 ∨ p = 1 ∨ p = 8 ∨ (10 ≤ p ∧ p < 14) → μ' 67 p = μ 67 p) : Inv n μ' := by
  obtain ⟨i1, i2, i3, i4, i5, i6, i7⟩ := h
  exact ⟨i1.cg (fun k hk => e k (by omega)), i2.cg (fun k hk => e k (by omega)), i3.cg (fun k hk => e k (by omega)) (e67 0 (by omega)) (e67 1 (by omega)), i4.cg (fun k hk => e k (by omega)), i5.cg (fun k hk => e k (by omega)) (e67 8 (by omega)), i6.cg (fun k hk => e k (by omega)), i7.cg (fun k hk => e k (by omega)) e0 (fun p hp => e67 p (by omega))⟩
/-- both tell the same -/
theorem Inv.told {n : Nat} {μ : Mem} {v : Int} (h : Inv n μ) : Inv n (wr (wr μ 0 13 v) 67 10 v) := by
  obtain ⟨i1, i2, i3, i4, i5, i6, i7⟩ := h
  refine ⟨i1.cg ?_, i2.cg ?_, i3.cg ?_ ?_ ?_, i4.cg ?_, i5.cg ?_ ?_, i6.cg ?_, ?_⟩
  all_goals try (intro k hk; rw [wr_cell (by omega), wr_cell (by omega)])
  all_goals try (rw [wr_ne (by omega), wr_cell (by omega)])
  obtain ⟨t1, t2, t3, t4, t5⟩ := i7
  refine ⟨?_, ?_, ?_, ?_, fun g hg => ?_⟩
  · rw [wr_cell (by omega), wr_ne (by omega), wr_ne (by omega), wr_cell (by omega)]; exact t1
  · rw [wr_cell (by omega), wr_eq, wr_eq]
  · rw [wr_cell (by omega), wr_ne (by omega), wr_ne (by omega), wr_cell (by omega)]; exact t3
  · rw [wr_cell (by omega), wr_ne (by omega), wr_ne (by omega), wr_cell (by omega)]; exact t4
  · rw [wr_cell (by omega), wr_cell (by omega), wr_cell (by omega), wr_cell (by omega)]; exact t5 g hg
/-- a place of a row is laid -/
theorem IRow.lay {μ : Mem} {r i : Nat} {v : Int} (h : IRow μ) (hr : r < 6) (hi : i < 40) (hv : inR v) : IRow (wr (wr μ (38 + 2 * r + 1) i v) 77 (40 * r + i) v) := by
  intro s hs
  obtain ⟨g1, g2, g3⟩ := h s hs
  rw [wr_cell (j := 76) (by omega), wr_cell (j := 76) (by omega), wr_cell (j := 38 + 2 * s) (by omega), wr_cell (j := 38 + 2 * s) (by omega), wr_cell (j := 38 + 2 * s + 1) (k := 77) (by omega)]
  refine ⟨g1, g2, fun j hj => ?_⟩
  by_cases e : s = r ∧ j = i
  · obtain ⟨rfl, rfl⟩ := e
    rw [wr_eq, wr_eq]
    exact ⟨rfl, hv⟩
  · rw [wr_ne (k := 38 + 2 * r + 1) (by omega), wr_ne (k := 77) (by omega), wr_cell (j := 77) (by omega)]
    exact g3 j hj
/-- what stands against a place: as the class looks at it, as the reference does -/
theorem x_place {μ : Mem} {r : Nat} {q : Int} (hr : r < 6) (h : IRow μ) (hq : inR q) : f_X9_placeRefusal μ (r : Int) q = if μ 76 r < 0 then f_X9_found μ 1 else if 0 ≤ q ∧ q < μ 76 r then some (0, μ) else f_X9_found μ 2 := by
  obtain ⟨h1, h2, h3⟩ := h.sz hr
  simp (disch := omega) only [f_X9_placeRefusal, x_isRow1 hr, bd_some, if_neg w1ne, ck_ok, w32_nat, Int.toNat_natCast, x_there h2, bd_ret, jn, hq.w, h2.w]
  rw [h3]
  by_cases c : μ 76 r < 0
  · rw [if_pos c, if_pos c, if_pos w0]
  · rw [if_neg c, if_neg c, if_neg w1ne]
    by_cases c1 : q < 0
    · rw [if_pos c1, if_neg (by omega)]
    · rw [if_neg c1]
      by_cases c2 : q < μ 76 r
      · rw [if_pos c2, if_pos (by omega)]
      · rw [if_neg c2, if_neg (by omega)]
theorem ite_w (c : Prop) [Decidable c] {α : Type} (a b : α) : (if w32 (if c then (1 : Int) else 0) = 0 then a else b) = if c then b else a := by
  by_cases h : c
  · rw [if_pos h, if_neg w1ne, if_pos h]
  · rw [if_neg h, if_pos w0, if_neg h]
theorem p_lay {n : Nat} {p q v : Int} (hp : inR p) (hq : inR q) (hv : inR v) : Pair n (fun μ => f_X9_lay μ p q v) (fun μ => f_X10_lay μ p q v) := by
  intro μ h
  by_cases hr : 0 ≤ p ∧ p < ((6 : Nat) : Int)
  · obtain ⟨r, hr6, rfl⟩ := nat_of hr
    have hI := h.1
    obtain ⟨h1, h2, h3⟩ := hI.sz hr6
    obtain ⟨⟨b1, b2⟩, -, hc⟩ := hI r hr6
    have key : ∀ μ1 : Mem, μ1 76 = μ 76 → f_X10_lay μ1 (r : Int) q v = if μ 76 r < 0 then f_X10_finds μ1 1 else if 0 ≤ q ∧ q < μ 76 r then some (1, wr (wr μ1 67 10 (μ1 77 (40 * r + q.toNat))) 77 (40 * r + q.toNat) v) else f_X10_finds μ1 2 := by
      intro μ1 e
      simp (disch := omega) only [f_X10_lay, m_isRow1 hr6, bd_some, if_neg w1ne, ck_ok, w32_nat, Int.toNat_natCast, e, h1.w, hq.w, bd_ret]
      by_cases c : μ 76 r < 0
      · rw [if_pos c, if_pos c]
      · rw [if_neg c, if_neg c, w32_id (a := μ 76 r - 1) (by omega) (by omega), m_in hq ⟨by omega, by omega⟩ ⟨by omega, by omega⟩, bd_some, ite_w]
        by_cases c1 : 0 ≤ q ∧ q ≤ μ 76 r - 1
        · rw [if_pos c1, if_pos (by omega)]
          simp (disch := omega) only [ck_ok, vm, w32_id]
          rw [show (40 * (r : Int) + q).toNat = 40 * r + q.toNat by omega]
        · rw [if_neg c1, if_neg (by omega)]
    have kx : f_X9_lay μ (r : Int) q v = if μ 76 r < 0 then f_X9_found μ 1 else if 0 ≤ q ∧ q < μ 76 r then some (1, wr (wr μ 0 13 (μ (38 + 2 * r + 1) q.toNat)) (38 + 2 * r + 1) q.toNat v) else f_X9_found μ 2 := by
      unfold f_X9_lay
      rw [x_place hr6 hI hq]
      by_cases c : μ 76 r < 0
      · rw [if_pos c, if_pos c, x_found (by omega) (by omega), bd_some, w32_id (by omega) (by omega), if_neg (by omega)]
      · rw [if_neg c, if_neg c]
        by_cases c1 : 0 ≤ q ∧ q < μ 76 r
        · rw [if_pos c1, if_pos c1, bd_some, if_pos w0]
          simp (disch := omega) only [ck_ok, vm, w32_nat, Int.toNat_natCast, hq.w]
        · rw [if_neg c1, if_neg c1, x_found (by omega) (by omega), bd_some, w32_id (by omega) (by omega), if_neg (by omega)]
    by_cases c : μ 76 r < 0
    · refine pair_fnd h 1 (by omega) (by omega) ?_ (fun μ1 e => ?_)
      · show f_X9_lay μ (r : Int) q v = _
        rw [kx, if_pos c]
      · show f_X10_lay μ1 (r : Int) q v = _
        rw [key μ1 (e 76 (by omega) (by omega)), if_pos c]
    · by_cases c1 : 0 ≤ q ∧ q < μ 76 r
      · obtain ⟨i, rfl⟩ : ∃ i : Nat, q = (i : Int) := ⟨q.toNat, by omega⟩
        refine ⟨1, _, _, by show f_X9_lay μ (r : Int) (i : Int) v = _; rw [kx, if_neg c, if_pos c1], by show f_X10_lay _ (r : Int) (i : Int) v = _; rw [key _ (by rw [wr_cell (by omega), wr_cell (by omega)]), if_neg c, if_pos c1], ?_⟩
        rw [Int.toNat_natCast, wr_cell (j := 77) (by omega), wr_cell (j := 77) (by omega), (hc i c1.2).1]
        obtain ⟨i1, i2, i3, i4, i5, i6, i7⟩ := (h.up (Nat.le_succ n)).told (v := μ 77 (40 * r + i))
        refine ⟨?_, i2.cg ?_, i3.cg ?_ ?_ ?_, i4.cg ?_, i5.cg ?_ ?_, i6.cg ?_, i7.cg ?_ ?_ ?_⟩
        · refine IRow.cg (IRow.lay (r := r) (i := i) (v := v) i1 hr6 (by omega) hv) (fun k hk => ?_)
          funext j
          by_cases e1 : k = 77 ∧ j = 40 * r + i
          · obtain ⟨rfl, rfl⟩ := e1
            rw [wr_eq, wr_eq]
          · by_cases e2 : k = 38 + 2 * r + 1 ∧ j = i
            · obtain ⟨rfl, rfl⟩ := e2
              simp (disch := omega) only [wr_ne, wr_eq]
            · simp (disch := omega) only [wr_ne]
        all_goals try (intro k hk; funext j; simp (disch := omega) only [wr_ne]; done)
        all_goals try (simp (disch := omega) only [wr_ne]; done)
        · intro p hp
          by_cases e : p = 13
          · subst e; simp (disch := omega) only [wr_ne, wr_eq]
          · simp (disch := omega) only [wr_ne]
        · intro p hp
          by_cases e : p = 10
          · subst e; simp (disch := omega) only [wr_ne, wr_eq]
          · simp (disch := omega) only [wr_ne]
      · refine pair_fnd h 2 (by omega) (by omega) ?_ (fun μ1 e => ?_)
        · show f_X9_lay μ (r : Int) q v = _
          rw [kx, if_neg c, if_neg c1]
        · show f_X10_lay μ1 (r : Int) q v = _
          rw [key μ1 (e 76 (by omega) (by omega)), if_neg c, if_neg c1]
  · refine pair_bad h (a := -1) ?_ ?_
    · simp only [f_X9_lay, f_X9_placeRefusal, x_isRow0 hp hr, bd_some, if_pos w0]
      rw [w32_id (by omega) (by omega), if_neg (by omega)]
    · simp only [f_X10_lay, m_isRow0 hp hr, bd_some, if_pos w0]
