/-! down, longest -/
def hdn (G : Nat → Int) : Nat → Nat → Nat
  | 0, i => i
  | m + 1, i => if G i < 48 then hdn G m (i + 1) else i
theorem hdn_b {G : Nat → Int} : ∀ m i : Nat, i ≤ hdn G m i ∧ hdn G m i ≤ i + m := by
  intro m
  induction m with
  | zero => intro i; simp only [hdn]; omega
  | succ m ih =>
    intro i
    unfold hdn
    have := ih (i + 1)
    split <;> omega
theorem stp_1 {C : Nat} {K F : Nat → Int} {p : Nat → Bool} (h : F 0 < 48) : 1 ≤ stp C K F p := by
  have h1 := cn_b C (fun i => pld K F p i && frl K F i)
  unfold stp
  rw [if_pos h]
  split <;> omega
theorem xq_grow {C : Nat} {K F : Nat → Int} {s : Nat → Nat → Bool} (h : 0 ≤ F 0) : ∀ i : Nat, (∀ j : Nat, j < i → xq C K s F j 0 < 48) → (i : Int) ≤ xq C K s F i 0 := by
  intro i
  induction i with
  | zero => intro _; exact h
  | succ i ih =>
    intro hh
    have h1 := ih (fun j hj => hh j (by omega))
    have h2 := stp_1 (C := C) (K := K) (p := s i) (hh i (by omega))
    show _ ≤ hr C K (xq C K s F i) (s i) 0
    rw [hr_0]
    omega
theorem x_htd_loop {n : Nat} {μ : Mem} {C P : Nat} {K F : Nat → Int} (hY : YX μ C K) (hF : DB n F) (hn : n ≤ 940) (hP : P < 2 ^ C) :
    ∀ (d u i : Nat) (μ' : Mem), i + d = 48 → d < u → Fr [20, 20 + 1] μ μ' → (∀ j : Nat, j < 16 → μ' (20 + 1) j = xq C K (fun _ b => P.testBit b) F i j) →
    ∃ μ'' : Mem, f_X3_hoursTillDown_L11 (P : Int) u (i : Int) μ' = some (((hdn (fun i => xq C K (fun _ b => P.testBit b) F i 0) d i : Nat) : Int), μ'') ∧ Fr [20, 20 + 1] μ μ'' := by
  intro d
  induction d with
  | zero =>
    intro u i μ' hi hu hf hd
    obtain ⟨u, rfl⟩ : ∃ v, u = v + 1 := ⟨u - 1, by omega⟩
    refine ⟨μ', ?_, hf⟩
    rw [f_X3_hoursTillDown_L11, w32_nat (by omega), w32_id (a := 48) (by omega) (by omega), if_neg (by omega)]
    rfl
  | succ d ih =>
    intro u i μ' hi hu hf hd
    obtain ⟨u, rfl⟩ : ∃ v, u = v + 1 := ⟨u - 1, by omega⟩
    have hB := xq_DB (s := fun _ b => P.testBit b) (K := K) hF hY.1 i
    obtain ⟨μ2, g1, g2, g3, -⟩ := x_go (t := 20) (by omega) (hY.fr hf (fun k hk => by rw [mem1] at hk; omega)) (hB.fb (by omega)) hd (fun b => P.testBit b)
    rw [← pm hP] at g1
    obtain ⟨μ3, k1, k2⟩ := ih u (i + 1) μ2 (by omega) (by omega) (hf.tr g2) g3
    rw [show ((i + 1 : Nat) : Int) = (i : Int) + 1 by omega] at k1
    rw [f_X3_hoursTillDown_L11, w32_nat (by omega), w32_id (a := 48) (by omega) (by omega), if_pos (by omega), x_dn (t := 20) (hB.fb (by omega)) hd, bd_some, hdn]
    by_cases c : xq C K (fun _ b => P.testBit b) F i 0 < 48
    · rw [if_pos c, if_pos w0, if_pos c, g1, bd_some]
      exact ⟨μ3, k1, k2⟩
    · rw [if_neg c, if_neg w1ne, if_neg c]
      exact ⟨μ', rfl, hf⟩
theorem x_htd {n : Nat} {μ : Mem} {C P : Nat} {K F : Nat → Int} (hY : YX μ C K) (hF : DB n F) (hn : n ≤ 940) (hP : P < 2 ^ C) (hd : ∀ i : Nat, i < 16 → μ 14 i = F i) :
    ∃ μ' : Mem, f_X3_hoursTillDown μ (P : Int) = some (((hdn (fun i => xq C K (fun _ b => P.testBit b) F i 0) 48 0 : Nat) : Int), μ') ∧ Fr [20, 20 + 1] μ μ' := by
  have hf : Fr [20, 20 + 1] μ (cpy μ 14 (20 + 1) 0 0 16) := fun k hk => by rw [mem1] at hk; exact cpy_cell (by omega)
  obtain ⟨μ2, g1, g2⟩ := x_htd_loop (F := F) hY hF hn hP 48 100000 0 (cpy μ 14 (20 + 1) 0 0 16) (by omega) (by omega) hf (fun j hj => by rw [cpy_in (by omega) (by omega)]; simp only [Nat.zero_add, Nat.sub_zero]; exact hd j hj)
  rw [Int.natCast_zero] at g1
  refine ⟨μ2, ?_, g2⟩
  rw [f_X3_hoursTillDown, x_tk, bd_some]
  exact g1
theorem m_dn {μ : Mem} {F : Nat → Int} (hF : FB F) (hd : ∀ i : Nat, i < 16 → μ 73 i = F i) : f_X10_isDown μ = some (if F 0 < 48 then 0 else 1, μ) := by
  have g := m_down (μ := μ) (a := μ 67 35) (b := μ 67 36) hF.1
  rw [← dm_at hd] at g
  exact g
theorem m_htd_loop {Kc : Int → Mem → Option (Int × Mem)} {n : Nat} {μ : Mem} {C V P : Nat} {K lt fr tt wo F : Nat → Int} (hY : YM μ C K) (hV : VM μ V lt fr tt wo) (hF : DB n F) (hn : n ≤ 940) (hP : P < 2 ^ C) :
    ∀ (d u i : Nat) (μ' : Mem), i + d = 48 → d < u → (∀ j : Nat, j < i → xq C K (fun _ b => P.testBit b) F j 0 < 48) → FH μ μ' → (∀ j : Nat, j < 16 → μ' 73 j = mq C V K (gnv lt fr tt wo) (fun _ b => P.testBit b) F i j) →
    ∃ μ'' : Mem, f_X10_hoursTillDown_L6 Kc (P : Int) u (i : Int) μ' = Kc ((hdn (fun i => xq C K (fun _ b => P.testBit b) F i 0) d i : Nat) : Int) μ'' ∧ FH μ μ'' := by
  have hC := hY.1
  intro d
  induction d with
  | zero =>
    intro u i μ' hi hu hg hf hd
    obtain ⟨u, rfl⟩ : ∃ v, u = v + 1 := ⟨u - 1, by omega⟩
    have hE := mq_xq (V := V) (K := K) (F := F) (g := gnv lt fr tt wo) (s := fun _ b => P.testBit b) hC i 0 (by omega)
    have hgr := xq_grow (C := C) (K := K) hF.1.1 i hg
    have c : ¬ xq C K (fun _ b => P.testBit b) F i 0 < 48 := by omega
    refine ⟨μ', ?_, hf⟩
    rw [f_X10_hoursTillDown_L6, m_dn ((mq_DB (s := fun _ b => P.testBit b) (K := K) hF hC hV.1 hV.2.2.2 i).fb (by omega)) hd, bd_some, hE, if_neg c, if_neg w1ne]
    rfl
  | succ d ih =>
    intro u i μ' hi hu hg hf hd
    obtain ⟨u, rfl⟩ : ∃ v, u = v + 1 := ⟨u - 1, by omega⟩
    have hB := mq_DB (s := fun _ b => P.testBit b) (K := K) hF hC hV.1 hV.2.2.2 i
    have hE := mq_xq (V := V) (K := K) (F := F) (g := gnv lt fr tt wo) (s := fun _ b => P.testBit b) hC i 0 (by omega)
    obtain ⟨μ2, g1, g2, g3, -⟩ := m_hr (hY.fh hf.fm) (hV.fh hf.fm) hB (by omega) hd (fun b => P.testBit b)
    rw [← pm hP] at g1
    rw [f_X10_hoursTillDown_L6, m_dn (hB.fb (by omega)) hd, bd_some, hE, hdn]
    by_cases c : xq C K (fun _ b => P.testBit b) F i 0 < 48
    · obtain ⟨μ3, k1, k2⟩ := ih u (i + 1) μ2 (by omega) (by omega) (fun j hj => by
        by_cases e : j = i
        · subst e; exact c
        · exact hg j (by omega)) (hf.tr g2) g3
      rw [show ((i + 1 : Nat) : Int) = (i : Int) + 1 by omega] at k1
      rw [if_pos c, if_pos w0, if_pos c, g1, bd_some]
      exact ⟨μ3, k1, k2⟩
    · rw [if_neg c, if_neg w1ne, if_neg c]
      exact ⟨μ', rfl, hf⟩
theorem m_htd {n : Nat} {μ : Mem} {C V P : Nat} {K lt fr tt wo F : Nat → Int} (hY : YM μ C K) (hV : VM μ V lt fr tt wo) (hF : DB n F) (hn : n ≤ 940) (hP : P < 2 ^ C) (hd : ∀ i : Nat, i < 16 → μ 73 i = F i) :
    ∃ μ' : Mem, f_X10_hoursTillDown μ (P : Int) = some (((hdn (fun i => xq C K (fun _ b => P.testBit b) F i 0) 48 0 : Nat) : Int), μ') ∧ FM μ μ' ∧ (∀ i : Nat, i < 16 → μ' 73 i = F i) ∧ μ' 67 10 = μ 67 10 := by
  have hs := sv_fm μ
  obtain ⟨μ2, g1, g2⟩ := m_htd_loop (μ := cpy μ 73 92 0 0 16) (Kc := fun x7 m8 => bd (f_X10_putBack m8) fun _u m9 => some (x7, m9)) (hY.fh hs) (hV.fh hs) hF hn hP 48 100000 0 (cpy μ 73 92 0 0 16) (by omega) (by omega) (fun j hj => by omega) FH.rf (fun j hj => by rw [cpy_cell (by omega)]; exact hd j hj)
  rw [Int.natCast_zero] at g1
  obtain ⟨q1, q2⟩ := bk_ok (F := F) g2 (fun i hi => by rw [sv_92 hi]; exact hd i hi)
  refine ⟨cpy μ2 92 73 0 0 16, ?_, hs.tr q1.fm, q2, ?_⟩
  · rw [f_X10_hoursTillDown, m_save, bd_some, g1, m_back, bd_some]
  · rw [q1.2 10 (by omega) (by omega), cpy_cell (by omega)]
theorem p_down {n : Nat} (hn : n ≤ 900) {p : Int} (hp : inR p) : Pair n (fun μ => f_X9_down μ p) (fun μ => f_X10_down μ p) := by
  intro μ h
  obtain ⟨C, V, hC0, hV0, hYX, hYM, hVX, hVM⟩ := h.yr
  have hC := hYX.1
  have hx6 := hYX.2.1
  have hday := h.2.2.2.1
  have ht := h.2.2.2.2.2.2.2.1
  by_cases hs : 0 ≤ p ∧ p < ((2 ^ C : Nat) : Int)
  · have sx := x_set hx6 hC hp
    rw [if_pos hs] at sx
    have sm : ∀ μ1 : Mem, μ1 67 = μ 67 → f_X10_isSet μ1 p = some (1, μ1) := fun μ1 e => by
      rw [m_set (C := C) (by rw [e]; exact hC0) hC hp, if_pos hs]
    by_cases c0 : C = 0
    · refine pair_bad h (a := -4) ?_ ?_
      · simp -implicitDefEqProofs (disch := omega) only [f_X9_down, sx, bd_some, if_neg w1ne, hx6, c0, Int.natCast_zero, if_pos w0]
      · simp -implicitDefEqProofs (disch := omega) only [f_X10_down, sm μ rfl, bd_some, if_neg w1ne, hC0, c0, Int.natCast_zero, if_pos w0]
    · obtain ⟨P, hP, rfl⟩ := nat_of hs
      obtain ⟨μ1, g1, g2⟩ := x_htd hYX hday.2 (by omega) hP hday.1
      have hx : FX μ μ1 := FX.of g2 (fun k hk => by simp at hk; omega)
      obtain ⟨μ2, k1, k2, k3, k4⟩ := m_htd (P := P) (hYM.hi hx.hi) (hVM.hi hx.hi) hday.2 (by omega) hP (fun i hi => by rw [hx.hi 73 (by omega)])
      refine ⟨((hdn (fun i => xq C (μ 68) (fun _ b => P.testBit b) (μ 73) i 0) 48 0 : Nat) : Int), μ1, μ2, ?_, ?_, (aside_end h hx k2 ?_ k3).up (Nat.le_succ n)⟩
      · show f_X9_down μ (P : Int) = _
        rw [f_X9_down, sx, bd_some, if_neg w1ne, hx6, w32_nat (by omega), if_neg (by omega), g1, bd_some]
      · show f_X10_down μ1 (P : Int) = _
        rw [f_X10_down, sm μ1 (hx.hi 67 (by omega)), bd_some, if_neg w1ne, hx.hi 67 (by omega), hC0, w32_nat (by omega), if_neg (by omega), k1, bd_some]
      · rw [k4, hx.hi 67 (by omega), ← ht, g2 0 (by simp)]
  · refine pair_bad h (a := -1) ?_ ?_
    · simp -implicitDefEqProofs (disch := omega) only [f_X9_down, x_set hx6 hC hp, if_neg hs, bd_some, if_pos w0]
    · simp -implicitDefEqProofs (disch := omega) only [f_X10_down, m_set hC0 hC hp, if_neg hs, bd_some, if_pos w0]
/-- the longest of the sets below i, the first; how long -/
def lgM (H : Nat → Nat) : Nat → Int
  | 0 => -1
  | i + 1 => if lgM H i < (H i : Int) then (H i : Int) else lgM H i
def lgB (H : Nat → Nat) : Nat → Nat
  | 0 => 0
  | i + 1 => if lgM H i < (H i : Int) then i else lgB H i
theorem lgM_b {H : Nat → Nat} (h : ∀ i, H i ≤ 48) (i : Nat) : -1 ≤ lgM H i ∧ lgM H i ≤ 48 := by
  induction i with
  | zero => simp [lgM]
  | succ i ih => unfold lgM; have := h i; split <;> omega
theorem x_lon_loop {n : Nat} {μ : Mem} {C : Nat} {K F : Nat → Int} {H : Nat → Nat} (hY : YX μ C K) (hF : DB n F) (hn : n ≤ 940) (hd : ∀ i : Nat, i < 16 → μ 14 i = F i) (hH : ∀ P, H P = hdn (fun i => xq C K (fun _ b => P.testBit b) F i 0) 48 0) (hb : ∀ P, H P ≤ 48) :
    ∀ (d u i : Nat) (μ' : Mem), i + d = 2 ^ C → d < u → Fr [20, 20 + 1] μ μ' → ∃ μ'' : Mem, f_X9_longest_L19 u ((lgB H i : Nat) : Int) (lgM H i) (i : Int) μ' = some (((lgB H (2 ^ C) : Nat) : Int), wr μ'' 0 13 (lgM H (2 ^ C))) ∧ Fr [20, 20 + 1] μ μ'' := by
  have hC := hY.1
  have h32 := pow5 hC
  intro d
  induction d with
  | zero =>
    intro u i μ' hi hu hf
    obtain ⟨u, rfl⟩ : ∃ v, u = v + 1 := ⟨u - 1, by omega⟩
    refine ⟨μ', ?_, hf⟩
    rw [f_X9_longest_L19, x_all (hY.fr hf (fun k hk => by rw [mem1] at hk; omega)).2.1 hC, bd_some, w32_nat (by omega), w32_id (by omega) (by omega), if_pos (by omega), show i = 2 ^ C by omega, vm]
  | succ d ih =>
    intro u i μ' hi hu hf
    obtain ⟨u, rfl⟩ : ∃ v, u = v + 1 := ⟨u - 1, by omega⟩
    have hYf := hY.fr hf (fun k hk => by rw [mem1] at hk; omega)
    obtain ⟨μ2, g1, g2⟩ := x_htd hYf hF hn (P := i) (by omega) (fun j hj => by rw [hf 14 (by simp)]; exact hd j hj)
    rw [← hH i] at g1
    have hbi := hb i
    have hlm := lgM_b hb i
    obtain ⟨μ3, k1, k2⟩ := ih u (i + 1) μ2 (by omega) (by omega) (hf.tr g2)
    rw [show ((i + 1 : Nat) : Int) = (i : Int) + 1 by omega, lgM, lgB] at k1
    refine ⟨μ3, ?_, k2⟩
    rw [f_X9_longest_L19, x_all hYf.2.1 hC, bd_some, w32_nat (i := i) (by omega), w32_id (a := ((2 ^ C : Nat) : Int) - 1) (by omega) (by omega), if_neg (by omega), g1, bd_some, jn, w32_id (a := lgM H i) (by omega) (by omega), w32_nat (i := H i) (by omega)]
    by_cases c : lgM H i < (H i : Int)
    · rw [if_pos c, if_pos c] at k1
      rw [if_pos c]; exact k1
    · rw [if_neg c, if_neg c] at k1
      rw [if_neg c]; exact k1
theorem m_lon_loop {n : Nat} {μ : Mem} {C V : Nat} {K lt fr tt wo F : Nat → Int} {H : Nat → Nat} (hY : YM μ C K) (hV : VM μ V lt fr tt wo) (hF : DB n F) (hn : n ≤ 940) (hH : ∀ P, H P = hdn (fun i => xq C K (fun _ b => P.testBit b) F i 0) 48 0) (hb : ∀ P, H P ≤ 48) :
    ∀ (d u i : Nat) (μ' : Mem), i + d = 2 ^ C → d < u → FM μ μ' → (∀ j : Nat, j < 16 → μ' 73 j = F j) → ∃ μ'' : Mem, f_X10_longest_L16 u ((lgB H i : Nat) : Int) (lgM H i) (i : Int) μ' = some (((lgB H (2 ^ C) : Nat) : Int), wr μ'' 67 10 (lgM H (2 ^ C))) ∧ FM μ μ'' ∧ ∀ j : Nat, j < 16 → μ'' 73 j = F j := by
  have hC := hY.1
  have h32 := pow5 hC
  intro d
  induction d with
  | zero =>
    intro u i μ' hi hu hf hd
    obtain ⟨u, rfl⟩ : ∃ v, u = v + 1 := ⟨u - 1, by omega⟩
    refine ⟨μ', ?_, hf, hd⟩
    rw [f_X10_longest_L16, (hY.fh hf).2.1, z_all hC, w32_nat (by omega), w32_nat (by omega), if_neg (by omega), show i = 2 ^ C by omega, vm]
  | succ d ih =>
    intro u i μ' hi hu hf hd
    obtain ⟨u, rfl⟩ : ∃ v, u = v + 1 := ⟨u - 1, by omega⟩
    obtain ⟨μ2, g1, g2, g3, -⟩ := m_htd (P := i) (hY.fh hf) (hV.fh hf) hF hn (by omega) hd
    rw [← hH i] at g1
    have hbi := hb i
    have hlm := lgM_b hb i
    obtain ⟨μ3, k1, k2, k3⟩ := ih u (i + 1) μ2 (by omega) (by omega) (hf.tr g2) g3
    rw [show ((i + 1 : Nat) : Int) = (i : Int) + 1 by omega, lgM, lgB] at k1
    refine ⟨μ3, ?_, k2, k3⟩
    rw [f_X10_longest_L16, (hY.fh hf).2.1, z_all hC, w32_nat (i := i) (by omega), w32_nat (i := 2 ^ C) (by omega), if_pos (by omega), g1, bd_some, vl, vl, w32_id (a := lgM H i) (by omega) (by omega), w32_nat (i := H i) (by omega)]
    by_cases c : lgM H i < (H i : Int)
    · rw [if_pos c, if_pos c] at k1
      rw [if_pos c, if_pos c]; exact k1
    · rw [if_neg c, if_neg c] at k1
      rw [if_neg c, if_neg c]; exact k1
theorem p_longest {n : Nat} (hn : n ≤ 900) : Pair n f_X9_longest f_X10_longest := by
  intro μ h
  obtain ⟨C, V, hC0, hV0, hYX, hYM, hVX, hVM⟩ := h.yr
  have hC := hYX.1
  have h32 := pow5 hC
  have hx6 := hYX.2.1
  have hday := h.2.2.2.1
  by_cases c0 : C = 0
  · refine pair_bad h (a := -4) ?_ ?_
    · rw [f_X9_longest, hx6, c0, Int.natCast_zero, if_pos w0]
    · rw [f_X10_longest, hC0, c0, Int.natCast_zero, if_pos w0]
  · obtain ⟨H, hH⟩ : ∃ H : Nat → Nat, ∀ P, H P = hdn (fun i => xq C (μ 68) (fun _ b => P.testBit b) (μ 73) i 0) 48 0 := ⟨_, fun _ => rfl⟩
    have hb : ∀ P, H P ≤ 48 := fun P => by rw [hH]; have := (hdn_b (G := fun i => xq C (μ 68) (fun _ b => P.testBit b) (μ 73) i 0) 48 0).2; omega
    obtain ⟨μ1, g1, g2⟩ := x_lon_loop hYX hday.2 (by omega) hday.1 hH hb (2 ^ C) 100000 0 μ (by omega) (by omega) Fr.rf
    have hx : FX μ μ1 := FX.of g2 (fun k hk => by simp at hk; omega)
    obtain ⟨μ2, k1, k2, k3⟩ := m_lon_loop (hYM.hi (hx.tell (v := lgM H (2 ^ C))).hi) (hVM.hi (hx.tell (v := lgM H (2 ^ C))).hi) hday.2 (by omega) hH hb (2 ^ C) 100000 0 (wr μ1 0 13 (lgM H (2 ^ C))) (by omega) (by omega) FM.rf (fun i hi => by rw [hx.tell.hi 73 (by omega)])
    rw [Int.natCast_zero] at g1 k1
    refine ⟨((lgB H (2 ^ C) : Nat) : Int), wr μ1 0 13 (lgM H (2 ^ C)), wr μ2 67 10 (lgM H (2 ^ C)), ?_, ?_, (aside_end h hx.tell k2.tell ?_ (fun i hi => by rw [wr_cell (by omega)]; exact k3 i hi)).up (Nat.le_succ n)⟩
    · rw [f_X9_longest, hx6, w32_nat (by omega), if_neg (by omega)]
      exact g1
    · rw [f_X10_longest, hx.tell.hi 67 (by omega), hC0, w32_nat (by omega), if_neg (by omega)]
      exact k1
    · rw [wr_eq, wr_eq]
