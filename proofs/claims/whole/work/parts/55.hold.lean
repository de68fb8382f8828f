theorem Inv.yr {n : Nat} {μ : Mem} (h : Inv n μ) : ∃ C V : Nat, μ 67 0 = (C : Int) ∧ μ 67 1 = (V : Int) ∧ YX μ C (μ 68) ∧ YM μ C (μ 68) ∧ VX μ V (μ 69) (μ 70) (μ 71) (μ 72) ∧ VM μ V (μ 69) (μ 70) (μ 71) (μ 72) := by
  obtain ⟨-, -, ⟨y1, y2, y3, y4, y5, y6, y7⟩, -⟩ := h
  have c : μ 67 0 = ((μ 67 0).toNat : Int) := by omega
  have v : μ 67 1 = ((μ 67 1).toNat : Int) := by omega
  have hb : VB (μ 69) (μ 70) (μ 71) (μ 72) := fun v hv => ⟨(y7 v hv).1.2, (y7 v hv).2.1.2, (y7 v hv).2.2.1.2, (y7 v hv).2.2.2.2⟩
  refine ⟨(μ 67 0).toNat, (μ 67 1).toNat, c, v, ⟨by omega, by rw [y2]; exact c, y6⟩, ⟨by omega, c, fun i hi => ⟨rfl, (y5 i hi).2⟩⟩, ⟨by omega, by rw [y4]; exact v, fun v hv => ⟨(y7 v hv).1.1, (y7 v hv).2.1.1, (y7 v hv).2.2.1.1, (y7 v hv).2.2.2.1⟩, hb⟩, ⟨by omega, v, fun v hv => ⟨rfl, rfl, rfl, rfl⟩, hb⟩⟩
theorem YM.cg {μ μ' : Mem} {C : Nat} {K : Nat → Int} (h : YM μ C K) (e0 : μ' 67 0 = μ 67 0) (e : μ' 68 = μ 68) : YM μ' C K := by
  unfold YM
  rw [e0, e]
  exact h
theorem VM.cg {μ μ' : Mem} {V : Nat} {lt fr tt wo : Nat → Int} (h : VM μ V lt fr tt wo) (e0 : μ' 67 1 = μ 67 1) (e : ∀ k : Nat, 69 ≤ k ∧ k < 73 → μ' k = μ k) : VM μ' V lt fr tt wo := by
  unfold VM
  rw [e0, e 69 (by omega), e 70 (by omega), e 71 (by omega), e 72 (by omega)]
  exact h
theorem YX.cg {μ μ' : Mem} {C : Nat} {K : Nat → Int} (h : YX μ C K) (e : ∀ k : Nat, 6 ≤ k ∧ k < 13 → μ' k = μ k) : YX μ' C K := by
  unfold YX
  rw [e 6 (by omega), e 8 (by omega)]
  exact h
theorem VX.cg {μ μ' : Mem} {V : Nat} {lt fr tt wo : Nat → Int} (h : VX μ V lt fr tt wo) (e : ∀ k : Nat, 6 ≤ k ∧ k < 13 → μ' k = μ k) : VX μ' V lt fr tt wo := by
  unfold VX
  rw [e 6 (by omega), e 9 (by omega), e 10 (by omega), e 11 (by omega), e 12 (by omega)]
  exact h
theorem dy_at {μ : Mem} {t : Nat} {F : Nat → Int} (h : ∀ i : Nat, i < 16 → μ (t + 1) i = F i) : μ = dy μ t (μ t 1) (μ t 2) (μ t 3) (μ t 4) F := by
  rw [dy_cg (G := μ (t + 1)) (fun i hi => (h i hi).symm), dy_self]
theorem dm_at {μ : Mem} {F : Nat → Int} (h : ∀ i : Nat, i < 16 → μ 73 i = F i) : μ = dm μ (μ 67 35) (μ 67 36) F := by
  rw [dm_cg (G := μ 73) (fun i hi => (h i hi).symm), dm_self]
theorem x_set {μ : Mem} {C : Nat} {p : Int} (h : μ 6 6 = (C : Int)) (hC : C ≤ 5) (hp : inR p) : f_X8_hasSet μ p = some (if 0 ≤ p ∧ p < ((2 ^ C : Nat) : Int) then 1 else 0, μ) := by
  have hz := zshl_s ⟨C, by omega⟩
  have h32 := pow5 hC
  have hpos : 0 < 2 ^ C := Nat.pow_pos (by omega)
  simp only [] at hz
  simp -implicitDefEqProofs (disch := omega) only [f_X8_hasSet, f_X8_allCapes, bd_some, vl, h, hz, hp.w, w32_id]
  by_cases c : p < 0
  · rw [if_pos c, if_neg (by omega)]
  · rw [if_neg c]
    by_cases c1 : ((2 ^ C : Nat) : Int) - 1 < p
    · rw [if_pos c1, if_neg (by omega)]
    · rw [if_neg c1, if_pos (by omega)]
theorem m_set {μ : Mem} {C : Nat} {p : Int} (h : μ 67 0 = (C : Int)) (hC : C ≤ 5) (hp : inR p) : f_X10_isSet μ p = some (if 0 ≤ p ∧ p < ((2 ^ C : Nat) : Int) then 1 else 0, μ) := by
  have hz := zshl_s ⟨C, by omega⟩
  have h32 := pow5 hC
  have hpos : 0 < 2 ^ C := Nat.pow_pos (by omega)
  simp only [] at hz
  rw [f_X10_isSet, h, hz, hp.w, w32_id (by omega) (by omega), m_in hp ⟨by omega, by omega⟩ ⟨by omega, by omega⟩, bd_some, ckb_ite]
  congr 2
  by_cases c : 0 ≤ p ∧ p < ((2 ^ C : Nat) : Int)
  · rw [if_pos c, if_pos (by omega)]
  · rw [if_neg c, if_neg (by omega)]
theorem p_hold {n : Nat} (hn : n ≤ 900) {p : Int} (hp : inR p) : Pair n (fun μ => f_X9_hold μ p) (fun μ => f_X10_hold μ p) := by
  intro μ h
  obtain ⟨C, V, hC0, hV0, hYX, hYM, hVX, hVM⟩ := h.yr
  have hC := hYX.1
  have hx6 := hYX.2.1
  by_cases hs : 0 ≤ p ∧ p < ((2 ^ C : Nat) : Int)
  · have sx := x_set hx6 hC hp
    rw [if_pos hs] at sx
    have sm : ∀ μ1 : Mem, μ1 67 = μ 67 → f_X10_isSet μ1 p = some (1, μ1) := fun μ1 e => by
      rw [m_set (C := C) (by rw [e]; exact hC0) hC hp, if_pos hs]
    by_cases c0 : C = 0
    · refine pair_bad h (a := -4) ?_ ?_
      · simp -implicitDefEqProofs (disch := omega) only [f_X9_hold, sx, bd_some, if_neg w1ne, hx6, c0, Int.natCast_zero, if_pos w0]
      · simp -implicitDefEqProofs (disch := omega) only [f_X10_hold, sm μ rfl, bd_some, if_neg w1ne, hC0, c0, Int.natCast_zero, if_pos w0]
    · obtain ⟨D, hD⟩ : ∃ D : Nat, μ 67 8 = (D : Int) := ⟨(μ 67 8).toNat, by have := h.2.2.2.2.1.1; omega⟩
      have hD60 : D ≤ 60 := by have := h.2.2.2.2.1.1; omega
      have hxD : μ 15 2 = (D : Int) := by rw [h.2.2.2.2.1.2.1, hD]
      by_cases c1 : D = 60
      · refine pair_bad h (a := -2) ?_ ?_
        · simp -implicitDefEqProofs (disch := omega) only [f_X9_hold, sx, bd_some, if_neg w1ne, hx6, w32_nat, hxD, c1]
          rw [if_neg (by omega), if_neg (by decide +kernel)]
        · simp -implicitDefEqProofs (disch := omega) only [f_X10_hold, sm μ rfl, bd_some, if_neg w1ne, hC0, w32_nat, hD, c1]
          rw [if_neg (by omega), if_pos (by decide +kernel)]
      · obtain ⟨P, hP, rfl⟩ := nat_of hs
        have hPm : (P : Int) = (msk C (fun i => P.testBit i) : Nat) := congrArg _ (nat_msk hP)
        have hday := h.2.2.2.1
        have hDB := hday.2
        have hFB := hDB.fb (by omega)
        have hGD := gth_DB hDB hVX.1 hVX.2.2.2 (μ 73 0)
        have hGB := hGD.fb (by omega)
        have hHD : DB (n + 1) (hr C (μ 68) (gth V (gnv (μ 69) (μ 70) (μ 71) (μ 72) (μ 73 0)) (μ 73)) (fun i => P.testBit i)) := by
          exact hr_DB hGD (by rw [gth_self (by omega)]; exact hDB.2.1.2) hC
        rw [hPm] at sx sm ⊢
        generalize hpb : (fun i => P.testBit i) = pb at *
        generalize hg : gth V (gnv (μ 69) (μ 70) (μ 71) (μ 72) (μ 73 0)) (μ 73) = G at *
        have ea : ∀ k : Nat, k ≠ 15 → k ≠ 16 → wr (cpy μ 14 16 0 (16 * D) 16) 15 2 ((D : Int) + 1) k = μ k := fun k k1 k2 => by rw [wr_cell k1, cpy_cell k2]
        generalize ha : wr (cpy μ 14 16 0 (16 * D) 16) 15 2 ((D : Int) + 1) = μa at *
        have hda : μa = dy μa 13 (μa 13 1) (μa 13 2) (μa 13 3) (μa 13 4) (μ 73) := dy_at (fun i hi => by rw [ea _ (by omega) (by omega)]; exact hday.1 i hi)
        have hYa : YX μa C (μ 68) := hYX.cg (fun k hk => ea k (by omega) (by omega))
        have hVa : VX μa V (μ 69) (μ 70) (μ 71) (μ 72) := hVX.cg (fun k hk => ea k (by omega) (by omega))
        have ht : f_X9_trueHour μ (msk C pb : Nat) = some (stp C (μ 68) G pb, dy μa 13 (msk C (abl (μ 68) G) : Nat) (msk C (frl (μ 68) G) : Nat) (msk C (pld (μ 68) G pb) : Nat) (msk C (fun i => pld (μ 68) G pb i && frl (μ 68) G i) : Nat) (hr C (μ 68) G pb)) := by
          have hc := x_collect (a := μa 13 1) (b := μa 13 2) (c := μa 13 3) (d := μa 13 4) (t := 13) (by omega) hVa hFB.1
          rw [← hda, hg] at hc
          rw [f_X9_trueHour, x_write hxD (by omega), bd_some, ha, hc, bd_some, x_goOn (by omega) hYa hGB, bd_some]
        refine ⟨stp C (μ 68) G pb, wr (dy μa 13 (msk C (abl (μ 68) G) : Nat) (msk C (frl (μ 68) G) : Nat) (msk C (pld (μ 68) G pb) : Nat) (msk C (fun i => pld (μ 68) G pb i && frl (μ 68) G i) : Nat) (hr C (μ 68) G pb)) 0 13 (msk C (pld (μ 68) G pb) : Nat), ?_⟩
        have ex : f_X9_hold μ (msk C pb : Nat) = some (stp C (μ 68) G pb, wr (dy μa 13 (msk C (abl (μ 68) G) : Nat) (msk C (frl (μ 68) G) : Nat) (msk C (pld (μ 68) G pb) : Nat) (msk C (fun i => pld (μ 68) G pb i && frl (μ 68) G i) : Nat) (hr C (μ 68) G pb)) 0 13 (msk C (pld (μ 68) G pb) : Nat)) := by
          rw [f_X9_hold, sx, bd_some, if_neg w1ne, hx6, w32_nat (by omega), if_neg (by omega), hxD, w32_nat (by omega), w32_id (a := 60) (by omega) (by omega), if_pos (by omega), ht, bd_some, vm, dy_3]
        have f0 : ∀ k : Nat, k ≠ 0 → k ≠ 13 → k ≠ 14 → k ≠ 15 → k ≠ 16 → wr (dy μa 13 (msk C (abl (μ 68) G) : Nat) (msk C (frl (μ 68) G) : Nat) (msk C (pld (μ 68) G pb) : Nat) (msk C (fun i => pld (μ 68) G pb i && frl (μ 68) G i) : Nat) (hr C (μ 68) G pb)) 0 13 (msk C (pld (μ 68) G pb) : Nat) k = μ k := fun k k0 k1 k2 k3 k4 => by
          rw [wr_cell k0, dy_o k1 (by omega), ea k k3 k4]
        have f1 : ∀ q : Nat, q ≠ 13 → wr (dy μa 13 (msk C (abl (μ 68) G) : Nat) (msk C (frl (μ 68) G) : Nat) (msk C (pld (μ 68) G pb) : Nat) (msk C (fun i => pld (μ 68) G pb i && frl (μ 68) G i) : Nat) (hr C (μ 68) G pb)) 0 13 (msk C (pld (μ 68) G pb) : Nat) 0 q = μ 0 q := fun q hq => by
          rw [wr_ne (by omega), dy_o (by omega) (by omega), ea 0 (by omega) (by omega)]
        have f13 : wr (dy μa 13 (msk C (abl (μ 68) G) : Nat) (msk C (frl (μ 68) G) : Nat) (msk C (pld (μ 68) G pb) : Nat) (msk C (fun i => pld (μ 68) G pb i && frl (μ 68) G i) : Nat) (hr C (μ 68) G pb)) 0 13 (msk C (pld (μ 68) G pb) : Nat) 0 13 = (msk C (pld (μ 68) G pb) : Nat) := wr_eq
        have f14 : ∀ q : Nat, q < 16 → wr (dy μa 13 (msk C (abl (μ 68) G) : Nat) (msk C (frl (μ 68) G) : Nat) (msk C (pld (μ 68) G pb) : Nat) (msk C (fun i => pld (μ 68) G pb i && frl (μ 68) G i) : Nat) (hr C (μ 68) G pb)) 0 13 (msk C (pld (μ 68) G pb) : Nat) 14 q = hr C (μ 68) G pb q := fun q hq => by
          rw [wr_cell (by omega)]; exact dy_f hq
        have f15 : wr (dy μa 13 (msk C (abl (μ 68) G) : Nat) (msk C (frl (μ 68) G) : Nat) (msk C (pld (μ 68) G pb) : Nat) (msk C (fun i => pld (μ 68) G pb i && frl (μ 68) G i) : Nat) (hr C (μ 68) G pb)) 0 13 (msk C (pld (μ 68) G pb) : Nat) 15 2 = (D : Int) + 1 := by
          rw [wr_cell (by omega), dy_o (by omega) (by omega), ← ha, wr_eq]
        have f16 : ∀ q : Nat, wr (dy μa 13 (msk C (abl (μ 68) G) : Nat) (msk C (frl (μ 68) G) : Nat) (msk C (pld (μ 68) G pb) : Nat) (msk C (fun i => pld (μ 68) G pb i && frl (μ 68) G i) : Nat) (hr C (μ 68) G pb)) 0 13 (msk C (pld (μ 68) G pb) : Nat) 16 q = if 16 * D ≤ q ∧ q < 16 * D + 16 then μ 14 (q - 16 * D) else μ 16 q := fun q => by
          rw [wr_cell (by omega), dy_o (by omega) (by omega), ← ha, wr_cell (by omega)]
          by_cases c : 16 * D ≤ q ∧ q < 16 * D + 16
          · rw [if_pos c, cpy_in c.1 c.2, Nat.zero_add]
          · rw [if_neg c, cpy_out (by omega)]
        generalize wr (dy μa 13 (msk C (abl (μ 68) G) : Nat) (msk C (frl (μ 68) G) : Nat) (msk C (pld (μ 68) G pb) : Nat) (msk C (fun i => pld (μ 68) G pb i && frl (μ 68) G i) : Nat) (hr C (μ 68) G pb)) 0 13 (msk C (pld (μ 68) G pb) : Nat) = μ1 at *
        have eb : ∀ k : Nat, k ≠ 67 → k ≠ 74 → wr (cpy μ1 73 74 0 (16 * D) 16) 67 8 ((D : Int) + 1) k = μ1 k := fun k k1 k2 => by rw [wr_cell k1, cpy_cell k2]
        have eb7 : ∀ q : Nat, q ≠ 8 → wr (cpy μ1 73 74 0 (16 * D) 16) 67 8 ((D : Int) + 1) 67 q = μ 67 q := fun q hq => by rw [wr_ne (by omega), cpy_cell (by omega), f0 67 (by omega) (by omega) (by omega) (by omega) (by omega)]
        have eb8 : wr (cpy μ1 73 74 0 (16 * D) 16) 67 8 ((D : Int) + 1) 67 8 = (D : Int) + 1 := wr_eq
        have eb74 : ∀ q : Nat, wr (cpy μ1 73 74 0 (16 * D) 16) 67 8 ((D : Int) + 1) 74 q = if 16 * D ≤ q ∧ q < 16 * D + 16 then μ 73 (q - 16 * D) else μ 74 q := fun q => by
          rw [wr_cell (by omega)]
          by_cases c : 16 * D ≤ q ∧ q < 16 * D + 16
          · rw [if_pos c, cpy_in c.1 c.2, Nat.zero_add, f0 73 (by omega) (by omega) (by omega) (by omega) (by omega)]
          · rw [if_neg c, cpy_out (by omega), f0 74 (by omega) (by omega) (by omega) (by omega) (by omega)]
        have hrem := m_rem (μ := μ1) (D := D) (by rw [f0 67 (by omega) (by omega) (by omega) (by omega) (by omega)]; exact hD) (by omega)
        generalize wr (cpy μ1 73 74 0 (16 * D) 16) 67 8 ((D : Int) + 1) = μb at *
        have gb : ∀ k : Nat, k ≠ 0 → k ≠ 13 → k ≠ 14 → k ≠ 15 → k ≠ 16 → k ≠ 67 → k ≠ 74 → μb k = μ k := fun k k0 k1 k2 k3 k4 k5 k6 => by rw [eb k k5 k6, f0 k k0 k1 k2 k3 k4]
        have hdb : μb = dm μb (μb 67 35) (μb 67 36) (μ 73) := dm_at (fun i hi => by rw [gb 73 (by omega) (by omega) (by omega) (by omega) (by omega) (by omega) (by omega)])
        have hYb : YM μb C (μ 68) := hYM.cg (eb7 0 (by omega)) (gb 68 (by omega) (by omega) (by omega) (by omega) (by omega) (by omega) (by omega))
        have hVb : VM μb V (μ 69) (μ 70) (μ 71) (μ 72) := hVM.cg (eb7 1 (by omega)) (fun k hk => gb k (by omega) (by omega) (by omega) (by omega) (by omega) (by omega) (by omega))
        have hho := m_hour (a := μb 67 35) (b := μb 67 36) hYb hVb hFB (by rw [hg]; exact hGB) pb
        rw [← hdb, hg] at hho
        refine ⟨wr (dm μb (msk C (pld (μ 68) G pb) : Nat) (msk C (fun i => pld (μ 68) G pb i && frl (μ 68) G i) : Nat) (hr C (μ 68) G pb)) 67 10 (msk C (pld (μ 68) G pb) : Nat), ex, ?_, ?_⟩
        · show f_X10_hold μ1 (msk C pb : Nat) = _
          rw [f_X10_hold, sm μ1 (f0 67 (by omega) (by omega) (by omega) (by omega) (by omega)), bd_some, if_neg w1ne, f0 67 (by omega) (by omega) (by omega) (by omega) (by omega), hC0, w32_nat (by omega), if_neg (by omega), hD, w32_nat (by omega), w32_id (a := 60) (by omega) (by omega), if_neg (by omega), hrem, bd_some, hho, bd_some, vm, dm_a]
        · obtain ⟨t1, t2, t3, t4, t5⟩ := h.2.2.2.2.2.2
          refine h.deed hD (by omega) (fun k hk => ?_) ?_ ?_ ?_ ?_ (fun q => ?_) (fun q => ?_) ⟨fun i hi => ?_, ?_⟩ ⟨?_, ?_, ?_, ?_, fun f hf => ?_⟩
          · rw [wr_cell (by omega), dm_o (by omega) (by omega), gb k (by omega) (by omega) (by omega) (by omega) (by omega) (by omega) (by omega)]
          · rw [wr_ne (by omega), dm_7 (by omega) (by omega), eb7 0 (by omega)]
          · rw [wr_ne (by omega), dm_7 (by omega) (by omega), eb7 1 (by omega)]
          · rw [wr_cell (by omega), dm_o (by omega) (by omega), eb 15 (by omega) (by omega), f15]
          · rw [wr_ne (by omega), dm_7 (by omega) (by omega), eb8]
          · rw [wr_cell (by omega), dm_o (by omega) (by omega), eb 16 (by omega) (by omega), f16]
          · rw [wr_cell (by omega), dm_o (by omega) (by omega), eb74]
          · rw [wr_cell (j := 14) (by omega), dm_o (j := 14) (by omega) (by omega), eb 14 (by omega) (by omega), f14 i hi, wr_cell (j := 73) (by omega), dm_f hi]
          · exact hHD.cg (fun i hi => by rw [wr_cell (j := 73) (by omega), dm_f hi])
          · rw [wr_cell (j := 0) (by omega), dm_o (j := 0) (by omega) (by omega), eb 0 (by omega) (by omega), f1 12 (by omega), wr_ne (by omega), dm_7 (by omega) (by omega), eb7 13 (by omega)]; exact t1
          · rw [wr_cell (j := 0) (by omega), dm_o (j := 0) (by omega) (by omega), eb 0 (by omega) (by omega), f13, wr_eq]
          · rw [wr_cell (j := 0) (by omega), dm_o (j := 0) (by omega) (by omega), eb 0 (by omega) (by omega), f1 14 (by omega), wr_ne (by omega), dm_7 (by omega) (by omega), eb7 11 (by omega)]; exact t3
          · rw [wr_cell (j := 0) (by omega), dm_o (j := 0) (by omega) (by omega), eb 0 (by omega) (by omega), f1 15 (by omega), wr_ne (by omega), dm_7 (by omega) (by omega), eb7 12 (by omega)]; exact t4
          · rw [wr_cell (j := 37) (by omega), dm_o (j := 37) (by omega) (by omega), gb 37 (by omega) (by omega) (by omega) (by omega) (by omega) (by omega) (by omega), wr_cell (j := 75) (by omega), dm_o (j := 75) (by omega) (by omega), gb 75 (by omega) (by omega) (by omega) (by omega) (by omega) (by omega) (by omega)]; exact t5 f hf
  · refine pair_bad h (a := -1) ?_ ?_
    · simp -implicitDefEqProofs (disch := omega) only [f_X9_hold, x_set hx6 hC hp, if_neg hs, bd_some, if_pos w0]
    · simp -implicitDefEqProofs (disch := omega) only [f_X10_hold, m_set hC0 hC hp, if_neg hs, bd_some, if_pos w0]
