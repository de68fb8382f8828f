theorem x_isText1 {μ : Mem} {r : Nat} (hr : r < 4) : f_X9_isText μ (r : Int) = some (1, μ) := by
  simp -implicitDefEqProofs (disch := omega) only [f_X9_isText, vl, w32_id]
  rw [if_neg (by omega), if_pos (by omega)]
theorem x_isText0 {μ : Mem} {p : Int} (hp : inR p) (h : ¬ (0 ≤ p ∧ p < ((4 : Nat) : Int))) : f_X9_isText μ p = some (0, μ) := by
  simp -implicitDefEqProofs (disch := omega) only [f_X9_isText, vl, hp.w, w32_id]
  by_cases c : p < 0
  · rw [if_pos c]
  · rw [if_neg c, if_neg (by omega)]
theorem m_isText1 {μ : Mem} {r : Nat} (hr : r < 4) : f_X10_isText μ (r : Int) = some (1, μ) := by
  unfold f_X10_isText
  rw [w32_nat (by omega), m_in ⟨by omega, by omega⟩ ⟨by omega, by omega⟩ ⟨by omega, by omega⟩, bd_some, ckb_ite, if_pos (by omega)]
theorem m_isText0 {μ : Mem} {p : Int} (hp : inR p) (h : ¬ (0 ≤ p ∧ p < ((4 : Nat) : Int))) : f_X10_isText μ p = some (0, μ) := by
  unfold f_X10_isText
  rw [hp.w, m_in hp ⟨by omega, by omega⟩ ⟨by omega, by omega⟩, bd_some, ckb_ite, if_neg (by omega)]
theorem IText.sz {μ : Mem} (h : IText μ) {r : Nat} (hr : r < 4) : inR (μ 78 r) ∧ inR (μ (50 + 2 * r) 1) ∧ μ (50 + 2 * r) 1 = μ 78 r := by
  obtain ⟨h1, h2, -⟩ := h r hr
  exact ⟨⟨by omega, by omega⟩, ⟨by rw [h2]; omega, by rw [h2]; omega⟩, h2⟩
theorem text_all {r : Nat} {p1 : Int} (hr : r < 4) (μ : Mem) : f_X10_text_L34 (r : Int) p1 100000 0 μ = some (p1, fl μ 79 (60 * r) (60 * r + 60) 32) := by
  have hl := text_loop (p1 := p1) hr 60 100000 0 μ (by omega) (by omega)
  rw [Int.natCast_zero, Nat.add_zero] at hl
  exact hl
theorem zi32 : zi2b 32 = 32 := by decide +kernel
theorem p_text {n : Nat} {p q : Int} (hp : inR p) (hq : inR q) : Pair n (fun μ => f_X9_text μ p q) (fun μ => f_X10_text μ p q) := by
  intro μ h
  by_cases hr : 0 ≤ p ∧ p < ((4 : Nat) : Int)
  · obtain ⟨r, hr6, rfl⟩ := nat_of hr
    by_cases h40 : 60 < q
    · refine pair_bad h (a := -1) ?_ ?_
      · simp -implicitDefEqProofs (disch := omega) only [f_X9_text, x_isText1 hr6, bd_some, hq.w, if_neg w1ne]
        rw [w32_id (a := 60) (by omega) (by omega), if_pos h40]
      · simp -implicitDefEqProofs (disch := omega) only [f_X10_text, m_isText1 hr6, bd_some, hq.w, if_neg w1ne]
        rw [w32_id (a := 60) (by omega) (by omega), if_pos h40]
    · by_cases h0 : q < 0
      · refine pair_fnd h 5 (by omega) (by omega) ?_ (fun μ1 _ => ?_)
        · simp -implicitDefEqProofs (disch := omega) only [f_X9_text, x_isText1 hr6, bd_some, hq.w, if_neg w1ne, bd_ret]
          rw [w32_id (a := 60) (by omega) (by omega), if_neg h40, if_pos h0]
        · simp -implicitDefEqProofs (disch := omega) only [f_X10_text, m_isText1 hr6, bd_some, hq.w, if_neg w1ne, bd_ret]
          rw [w32_id (a := 60) (by omega) (by omega), if_neg h40, if_pos h0]
      · obtain ⟨i1, i2, i3, i4, i5, i6, i7⟩ := h.up (Nat.le_succ n)
        refine ⟨q, wr (fl μ (50 + 2 * r + 1) 0 60 32) (50 + 2 * r) 1 q, fl (wr (wr (fl μ (50 + 2 * r + 1) 0 60 32) (50 + 2 * r) 1 q) 78 r q) 79 (60 * r) (60 * r + 60) 32, ?_, ?_, ?_⟩
        · simp -implicitDefEqProofs (disch := omega) only [f_X9_text, x_isText1 hr6, bd_some, hq.w, if_neg w1ne, ck_ok, w32_nat, Int.toNat_natCast, f_X7_begin, x_fillb, vm, zi32]
          rw [w32_id (a := 60) (by omega) (by omega), if_neg h40, if_neg h0]
        · simp -implicitDefEqProofs (disch := omega) only [f_X10_text, m_isText1 hr6, bd_some, hq.w, if_neg w1ne, ck_ok, w32_nat, Int.toNat_natCast, vm, text_all hr6]
          rw [w32_id (a := 60) (by omega) (by omega), if_neg h40, if_neg h0]
        · refine ⟨i1.cg ?_, fun s hs => ?_, i3.cg ?_ ?_ ?_, i4.cg ?_, i5.cg ?_ ?_, i6.cg ?_, i7.cg ?_ ?_ ?_⟩
          rotate_left 1
          · obtain ⟨g1, g2, g3⟩ := i2 s hs
            by_cases e : s = r
            · subst e
              refine ⟨?_, ?_, fun i hi => ?_⟩
              · rw [fl_out (by omega), wr_eq]; omega
              · rw [fl_out (by omega), wr_ne (by omega), wr_eq, fl_out (by omega), wr_eq]
              · rw [fl_out (by omega), wr_eq] at hi
                rw [fl_out (by omega), wr_ne (by omega), wr_ne (by omega), fl_in (by omega) (by omega), fl_in (by omega) (by omega)]
                exact ⟨rfl, by omega, by omega⟩
            · have e1 : fl (wr (wr (fl μ (50 + 2 * r + 1) 0 60 32) (50 + 2 * r) 1 q) 78 r q) 79 (60 * r) (60 * r + 60) 32 78 s = μ 78 s := by
                rw [fl_out (by omega), wr_ne (by omega), wr_ne (by omega), fl_out (by omega)]
              rw [e1]
              refine ⟨g1, ?_, fun i hi => ?_⟩
              · rw [fl_out (by omega), wr_ne (by omega), wr_ne (by omega), fl_out (by omega)]; exact g2
              · rw [fl_out (by omega), wr_ne (by omega), wr_ne (by omega), fl_out (by omega), fl_out (by omega), wr_ne (by omega), wr_ne (by omega), fl_out (by omega)]
                exact g3 i hi
          all_goals try (intro k hk; rw [fl_cell (by omega), wr_cell (by omega), wr_cell (by omega), fl_cell (by omega)])
          all_goals try (rw [fl_cell (by omega), wr_cell (by omega), wr_cell (by omega), fl_cell (by omega)])
  · refine pair_bad h (a := -1) ?_ ?_
    · simp -implicitDefEqProofs (disch := omega) only [f_X9_text, x_isText0 hp hr, bd_some, if_pos w0]
    · simp -implicitDefEqProofs (disch := omega) only [f_X10_text, m_isText0 hp hr, bd_some, if_pos w0]
theorem x_tthere {μ : Mem} {t : Nat} (h : inR (μ t 1)) : f_X7_isThere μ t = some (if μ t 1 < 0 then 0 else 1, μ) := by
  simp -implicitDefEqProofs (disch := omega) only [f_X7_isThere, vl, h.w]
theorem zi2b_r (a : Int) : inR (zi2b a) := ⟨Int32.le_toInt _, Int32.toInt_lt _⟩
theorem zi2b_2 (a : Int) : zi2b (zi2b a) = zi2b a := by
  unfold zi2b
  rw [show iI (iI a).toInt8.toInt32.toInt = (iI a).toInt8.toInt32 from Int32.ofInt_toInt _, Int8.toInt8_toInt32]
theorem p_put {n : Nat} {p q v : Int} (hp : inR p) (hq : inR q) : Pair n (fun μ => f_X9_put μ p q v) (fun μ => f_X10_put μ p q v) := by
  intro μ h
  by_cases hr : 0 ≤ p ∧ p < ((4 : Nat) : Int)
  · obtain ⟨r, hr6, rfl⟩ := nat_of hr
    obtain ⟨h1, h2, h3⟩ := h.2.1.sz hr6
    obtain ⟨⟨b1, b2⟩, -, hc⟩ := h.2.1 r hr6
    have keyx : f_X9_put μ (r : Int) q v = if μ 78 r < 0 then f_X9_found μ 1 else if 0 ≤ q ∧ q < μ 78 r then some (1000 + μ (50 + 2 * r + 1) q.toNat, wr μ (50 + 2 * r + 1) q.toNat (zi2b v)) else f_X9_found μ 2 := by
      simp -implicitDefEqProofs (disch := omega) only [f_X9_put, x_isText1 hr6, bd_some, if_neg w1ne, ck_ok, w32_nat, Int.toNat_natCast, x_tthere h2, bd_ret, jn, hq.w, h2.w, zi2b_2, vl, vm]
      rw [h3]
      by_cases c : μ 78 r < 0
      · rw [if_pos c, if_pos c, if_pos w0]
      · rw [if_neg c, if_neg c, if_neg w1ne]
        by_cases c1 : q < 0
        · rw [if_pos c1, if_neg (by omega)]
        · rw [if_neg c1]
          by_cases c2 : q < μ 78 r
          · rw [if_pos c2, if_pos (by omega)]; try rw [ck_ok (a := q) (by omega) (by omega) (by omega)]
            try rw [ck_ok (a := q) (by omega) (by omega) (by omega)]
            rw [Int.add_comm]
          · rw [if_neg c2, if_neg (by omega)]
    have key : ∀ μ1 : Mem, μ1 78 = μ 78 → f_X10_put μ1 (r : Int) q v = if μ 78 r < 0 then f_X10_finds μ1 1 else if 0 ≤ q ∧ q < μ 78 r then some (1000 + μ1 79 (60 * r + q.toNat), wr μ1 79 (60 * r + q.toNat) (zi2b v)) else f_X10_finds μ1 2 := by
      intro μ1 e
      simp -implicitDefEqProofs (disch := omega) only [f_X10_put, m_isText1 hr6, bd_some, if_neg w1ne, ck_ok, w32_nat, Int.toNat_natCast, e, h1.w, hq.w, bd_ret, vl, vm]
      by_cases c : μ 78 r < 0
      · rw [if_pos c, if_pos c]
      · rw [if_neg c, if_neg c, w32_id (a := μ 78 r - 1) (by omega) (by omega), m_in hq ⟨by omega, by omega⟩ ⟨by omega, by omega⟩, bd_some, ite_w]
        by_cases c1 : 0 ≤ q ∧ q ≤ μ 78 r - 1
        · rw [if_pos c1, if_pos (by omega), ck_ok (by omega) (by omega) (by omega), ck_ok (by omega) (by omega) (by omega), w32_id (by omega) (by omega), show (60 * (r : Int) + q).toNat = 60 * r + q.toNat by omega]
        · rw [if_neg c1, if_neg (by omega)]
    by_cases c : μ 78 r < 0
    · refine pair_fnd h 1 (by omega) (by omega) (by rw [keyx, if_pos c]) (fun μ1 e => by rw [key μ1 (e 78 (by omega) (by omega)), if_pos c])
    · by_cases c1 : 0 ≤ q ∧ q < μ 78 r
      · obtain ⟨i, -, rfl⟩ := nat_of (k := 60) (p := q) (by omega)
        have hw : (wr μ (50 + 2 * r + 1) i (zi2b v)) 78 = μ 78 := wr_cell (by omega)
        refine ⟨1000 + μ (50 + 2 * r + 1) i, wr μ (50 + 2 * r + 1) i (zi2b v), wr (wr μ (50 + 2 * r + 1) i (zi2b v)) 79 (60 * r + i) (zi2b v), keyx.trans (by rw [if_neg c, if_pos c1, Int.toNat_natCast]), (key _ hw).trans ?_, ?_⟩
        · rw [if_neg c, if_pos c1, Int.toNat_natCast, wr_cell (j := 79) (by omega), ← (hc i (by omega)).1]
        · obtain ⟨i1, i2, i3, i4, i5, i6, i7⟩ := h.up (Nat.le_succ n)
          refine ⟨i1.cg ?_, fun s hs => ?_, i3.cg ?_ ?_ ?_, i4.cg ?_, i5.cg ?_ ?_, i6.cg ?_, i7.cg ?_ ?_ ?_⟩
          rotate_left 1
          · obtain ⟨g1, g2, g3⟩ := i2 s hs
            rw [wr_cell (j := 78) (by omega), wr_cell (j := 78) (by omega), wr_cell (j := 50 + 2 * s) (by omega), wr_cell (j := 50 + 2 * s) (by omega), wr_cell (j := 50 + 2 * s + 1) (k := 79) (by omega)]
            refine ⟨g1, g2, fun j hj => ?_⟩
            by_cases e : s = r ∧ j = i
            · obtain ⟨rfl, rfl⟩ := e
              rw [wr_eq, wr_eq]
              exact ⟨rfl, zi2b_r v⟩
            · rw [wr_ne (k := 50 + 2 * r + 1) (by omega), wr_ne (k := 79) (by omega), wr_cell (j := 79) (by omega)]
              exact g3 j hj
          all_goals try (intro k hk; rw [wr_cell (by omega), wr_cell (by omega)])
          all_goals try (rw [wr_cell (by omega), wr_cell (by omega)])
      · refine pair_fnd h 2 (by omega) (by omega) (by rw [keyx, if_neg c, if_neg c1]) (fun μ1 e => by rw [key μ1 (e 78 (by omega) (by omega)), if_neg c, if_neg c1])
  · refine pair_bad h (a := -1) ?_ ?_
    · simp -implicitDefEqProofs (disch := omega) only [f_X9_put, x_isText0 hp hr, bd_some, if_pos w0]
    · simp -implicitDefEqProofs (disch := omega) only [f_X10_put, m_isText0 hp hr, bd_some, if_pos w0]
theorem p_asked {n : Nat} : Pair n f_X9_asked f_X10_asked := fun μ h => ⟨_, _, _, rfl, by rw [f_X10_asked, h.2.2.2.2.2.2.2.1], h.up (Nat.le_succ n)⟩
theorem p_upper {n : Nat} : Pair n f_X9_upper f_X10_upper := fun μ h => ⟨_, _, _, rfl, by rw [f_X10_upper, h.2.2.2.2.2.2.2.2.1], h.up (Nat.le_succ n)⟩
theorem p_lower {n : Nat} : Pair n f_X9_lower f_X10_lower := fun μ h => ⟨_, _, _, rfl, by rw [f_X10_lower, h.2.2.2.2.2.2.2.2.2.1], h.up (Nat.le_succ n)⟩
theorem p_finding {n : Nat} : Pair n f_X9_finding f_X10_finding := fun μ h => ⟨_, _, _, rfl, by rw [f_X10_finding, h.2.2.2.2.2.2.1], h.up (Nat.le_succ n)⟩
theorem p_findings {n : Nat} {p : Int} (hp : inR p) : Pair n (fun μ => f_X9_findings μ p) (fun μ => f_X10_findings μ p) := by
  intro μ h
  by_cases hr : 1 ≤ p ∧ p ≤ 5
  · refine ⟨μ 37 p.toNat, μ, μ, ?_, ?_, h.up (Nat.le_succ n)⟩
    · simp -implicitDefEqProofs (disch := omega) only [f_X9_findings, jn, hp.w, w32_id]
      rw [if_neg (by omega), if_neg (by omega), ck_ok (by omega) (by omega) (by omega)]
    · simp -implicitDefEqProofs (disch := omega) only [f_X10_findings, hp.w]
      rw [m_in hp ⟨by omega, by omega⟩ ⟨by omega, by omega⟩, bd_some, ite_w, if_pos hr, ck_ok (by omega) (by omega) (by omega), h.2.2.2.2.2.2.2.2.2.2 p.toNat (by omega)]
  · refine pair_bad h (a := -1) ?_ ?_
    · simp -implicitDefEqProofs (disch := omega) only [f_X9_findings, jn, hp.w, w32_id]
      by_cases c : p < 1
      · rw [if_pos c]
      · rw [if_neg c, if_pos (by omega)]
    · simp -implicitDefEqProofs (disch := omega) only [f_X10_findings, hp.w]
      rw [m_in hp ⟨by omega, by omega⟩ ⟨by omega, by omega⟩, bd_some, ite_w, if_neg hr]
