/-! ===== the hour of the reference ===== -/
def dm (μ : Mem) (a b : Int) (F : Nat → Int) : Mem := fun j q =>
  if j = 67 then (if q = 35 then a else if q = 36 then b else μ j q)
  else if j = 73 then (if q < 16 then F q else μ j q) else μ j q
theorem dm_a {μ : Mem} {a b : Int} {F : Nat → Int} : dm μ a b F 67 35 = a := by simp [dm]
theorem dm_b {μ : Mem} {a b : Int} {F : Nat → Int} : dm μ a b F 67 36 = b := by simp [dm]
theorem dm_f {μ : Mem} {q : Nat} {a b : Int} {F : Nat → Int} (h : q < 16) : dm μ a b F 73 q = F q := by simp [dm, h]
theorem dm_o {μ : Mem} {j : Nat} {a b : Int} {F : Nat → Int} (h : j ≠ 67) (h1 : j ≠ 73) : dm μ a b F j = μ j := by
  funext q; simp [dm, h, h1]
theorem dm_7 {μ : Mem} {q : Nat} {a b : Int} {F : Nat → Int} (h : q ≠ 35) (h1 : q ≠ 36) : dm μ a b F 67 q = μ 67 q := by
  simp [dm, h, h1]
theorem dm_wa {μ : Mem} {a b z : Int} {F : Nat → Int} : wr (dm μ a b F) 67 35 z = dm μ z b F := by
  funext j q
  by_cases e : j = 67
  · subst e
    by_cases e1 : q = 35
    · subst e1; rw [wr_eq, dm_a]
    · rw [wr_ne (by omega)]; simp [dm, e1]
  · rw [wr_ne (by omega)]; simp [dm, e]
theorem dm_wb {μ : Mem} {a b z : Int} {F : Nat → Int} : wr (dm μ a b F) 67 36 z = dm μ a z F := by
  funext j q
  by_cases e : j = 67
  · subst e
    by_cases e1 : q = 36
    · subst e1; rw [wr_eq, dm_b]
    · rw [wr_ne (by omega)]; simp [dm, e1]
  · rw [wr_ne (by omega)]; simp [dm, e]
theorem dm_wf {μ : Mem} {q : Nat} {a b z : Int} {F : Nat → Int} (h : q < 16) : wr (dm μ a b F) 73 q z = dm μ a b (up F q z) := by
  funext j p
  by_cases e : j = 73
  · subst e
    by_cases e1 : p = q
    · subst e1; rw [wr_eq, dm_f h, up_eq]
    · rw [wr_ne (by omega)]; simp [dm, up_ne e1]
  · rw [wr_ne (by omega)]; simp [dm, e]
theorem dm_self (μ : Mem) : dm μ (μ 67 35) (μ 67 36) (μ 73) = μ := by
  funext j q
  unfold dm
  by_cases e : j = 67
  · subst e
    rw [if_pos rfl]
    by_cases e1 : q = 35
    · subst e1; simp
    · by_cases e2 : q = 36
      · subst e2; simp
      · simp [e1, e2]
  · rw [if_neg e]
    by_cases e1 : j = 73
    · subst e1; simp
    · rw [if_neg e1]
theorem dm_cg {μ : Mem} {a b : Int} {F G : Nat → Int} (h : ∀ i, i < 16 → F i = G i) : dm μ a b F = dm μ a b G := by
  funext j q
  unfold dm
  by_cases e : q < 16
  · rw [h q e]
  · simp [e]
def YM (μ : Mem) (C : Nat) (K : Nat → Int) : Prop := C ≤ 5 ∧ μ 67 0 = (C : Int) ∧ ∀ i, i < 5 → μ 68 i = K i ∧ 0 ≤ K i ∧ K i ≤ 5
theorem YM.dm {μ : Mem} {C : Nat} {K : Nat → Int} (h : YM μ C K) {a b : Int} {F : Nat → Int} : YM (dm μ a b F) C K := by
  obtain ⟨h1, h2, h3⟩ := h
  refine ⟨h1, ?_, fun k hk => ?_⟩
  · rw [dm_7 (by omega) (by omega)]; exact h2
  · rw [dm_o (by omega) (by omega)]; exact h3 k hk
theorem m_isOf {μ : Mem} {C i : Nat} {K : Nat → Int} (hY : YM μ C K) (hi : i < 5) (k : Nat) (hk : 1 ≤ k ∧ k ≤ 5) : f_X10_isOf μ (i : Int) (k : Int) = some (bt (isK k (K i)), μ) := by
  obtain ⟨hC, h0, h8⟩ := hY
  obtain ⟨e, b1, b2⟩ := h8 i hi
  simp -implicitDefEqProofs (disch := omega) only [f_X10_isOf, ck_ok, jn, w32_id, Int.toNat_natCast, e, vl]
  have hk' : k = 1 ∨ k = 2 ∨ k = 3 ∨ k = 4 ∨ k = 5 := by omega
  have hK : K i = 0 ∨ K i = 1 ∨ K i = 2 ∨ K i = 3 ∨ K i = 4 ∨ K i = 5 := by omega
  rcases hk' with rfl | rfl | rfl | rfl | rfl <;> rcases hK with h | h | h | h | h | h <;> simp [h, isK, bt]
theorem m_down {μ : Mem} {a b : Int} {F : Nat → Int} (h : 0 ≤ F 0 ∧ F 0 ≤ 1000) : f_X10_isDown (dm μ a b F) = some (if F 0 < 48 then 0 else 1, dm μ a b F) := by
  obtain ⟨h1, h2⟩ := h
  simp -implicitDefEqProofs (disch := omega) only [f_X10_isDown, ck_ok, vl, w32_id, Int.toNat_zero, dm_f]
theorem bt_w {α : Type} (b : Bool) (x y : α) : (if w32 (bt b) = 0 then x else y) = if b then y else x := by
  cases b
  · rw [show bt false = 0 from rfl, if_pos w0]; rfl
  · rw [show bt true = 1 from rfl, if_neg w1ne]; rfl
theorem m_can {μ : Mem} {C i : Nat} {K F : Nat → Int} {a b : Int} (hY : YM μ C K) (hi : i < 5) (hF : FB F) : f_X10_canPull (dm μ a b F) (i : Int) = some (bt (abl K F i), dm μ a b F) := by
  have q1 := hF.1.1
  have q2 := hF.1.2
  obtain ⟨⟨b1, b2⟩, b3, b4⟩ := hF.2.2.1 i hi
  have t2 : (2 + (i : Int)).toNat = 2 + i := by omega
  have t7 : (7 + (i : Int)).toNat = 7 + i := by omega
  have ho := fun F' => m_isOf (hY.dm (a := a) (b := b) (F := F')) hi 3 (by omega)
  rw [show ((3 : Nat) : Int) = 3 from rfl] at ho
  simp -implicitDefEqProofs (disch := omega) only [f_X10_canPull, m_down hF.1, bd_some, ck_ok, w32_id, t2, t7, dm_f, ho, jn, vl, Int.toNat_zero, bt_w]
  unfold abl
  by_cases c0 : F 0 < 48
  · rw [if_pos c0, if_pos rfl]
    by_cases c1 : 0 < F (2 + i)
    · rw [if_pos c1]
      by_cases c2 : 0 < F (7 + i)
      · rw [if_pos c2]
        by_cases c3 : isK 3 (K i) = true
        · rw [if_pos c3]
          by_cases c4 : F 0 < 24
          · rw [if_pos c4]; simp [c0, c4, show 1 ≤ F (2 + i) by omega, show 1 ≤ F (7 + i) by omega, show ¬ 24 ≤ F 0 by omega, bt]
          · rw [if_neg c4]; simp [c3, show 24 ≤ F 0 by omega, bt]
        · rw [if_neg c3]; simp [c0, c3, show 1 ≤ F (2 + i) by omega, show 1 ≤ F (7 + i) by omega, bt]
      · rw [if_neg c2]; simp [show ¬ 1 ≤ F (7 + i) by omega, bt]
    · rw [if_neg c1]; simp [show ¬ 1 ≤ F (2 + i) by omega, bt]
  · rw [if_neg c0, if_neg (show ¬ ((1 : Int) = 0) by omega)]; simp [c0, bt]
theorem m_pullBy {μ : Mem} {C i : Nat} {K : Nat → Int} (hY : YM μ C K) (hi : i < 5) : f_X10_pullBy μ (i : Int) = some (1 + bt (isK 2 (K i)), μ) := by
  have ho := m_isOf hY hi 2 (by omega)
  rw [show ((2 : Nat) : Int) = 2 from rfl] at ho
  simp -implicitDefEqProofs (disch := omega) only [f_X10_pullBy, ho, bd_some, vl, bt_w]
  cases isK 2 (K i) <;> simp [bt]
theorem m_has {μ : Mem} {n i : Nat} (hn : n ≤ 5) (hi : i < n) (p : Nat → Bool) : f_X10_has μ (msk n p : Nat) (i : Int) = some (bt (p i), μ) := by
  simp -implicitDefEqProofs (disch := omega) only [f_X10_has, vl, zbit_m hn hi, w32_id]
  cases p i <;> simp [bt, w32_0, show w32 1 = 1 by decide +kernel]
theorem m_bits_loop {μ : Mem} {P : Nat} (hP : P < 32) : ∀ (m u i : Nat) (acc : Int), i + m = 8 → m < u → f_X10_bits_L4 (P : Int) u acc (i : Int) μ = some (acc + (cn 8 (fun j => P.testBit j) - cn i (fun j => P.testBit j)), μ) := by
  intro m
  induction m with
  | zero =>
    intro u i acc hi hu
    obtain ⟨u, rfl⟩ : ∃ v, u = v + 1 := ⟨u - 1, by omega⟩
    simp -implicitDefEqProofs (disch := omega) only [f_X10_bits_L4, w32_id]
    rw [if_neg (by omega), show i = 8 by omega]
    congr 2; omega
  | succ m ih =>
    intro u i acc hi hu
    obtain ⟨u, rfl⟩ : ∃ v, u = v + 1 := ⟨u - 1, by omega⟩
    have hz := zbit8_s ⟨P, hP⟩ ⟨i, by omega⟩
    have hi' := ih u (i + 1) (acc + bt (P.testBit i)) (by omega) (by omega)
    rw [show ((i + 1 : Nat) : Int) = (i : Int) + 1 by omega] at hi'
    simp -implicitDefEqProofs (disch := omega) only [f_X10_bits_L4, w32_id, vl, hz]
    rw [if_pos (by omega)]
    refine Eq.trans hi' ?_
    congr 2
    rw [show cn (i + 1) (fun j => P.testBit j) = cn i (fun j => P.testBit j) + bt (P.testBit i) from rfl]
    omega
theorem m_bits {μ : Mem} {C : Nat} (hC : C ≤ 5) (p : Nat → Bool) : f_X10_bits μ (msk C p : Nat) = some (cn C p, μ) := by
  have h := m_bits_loop (μ := μ) (msk_32 hC p) 8 100000 0 0 (by omega) (by omega)
  rw [Int.natCast_zero] at h
  rw [f_X10_bits, h]
  congr 2
  simp only [msk_bit, cn]
  rw [← cn_5 hC p]
  simp [bt, show ¬ 5 < C by omega, show ¬ 6 < C by omega, show ¬ 7 < C by omega]
theorem pul_step (i : Nat) (K : Nat → Int) (pl : Nat → Bool) : pul (i + 1) K pl = pul i K pl + (if pl i then 1 + bt (isK 2 (K i)) else 0) := by
  unfold pul
  simp only [cn]
  cases h : pl i
  · simp [bt]
  · simp [bt]; omega
theorem m_pull_loop {K' : Int → Mem → Option (Int × Mem)} {μ : Mem} {C : Nat} {K F : Nat → Int} {b : Int} {p : Nat → Bool} (hY : YM μ C K) (hF : FB F) : ∀ (m u i : Nat), i + m = C → m < u →
    f_X10_goHour_L45 K' (msk C p : Nat) u (pul i K (pld K F p)) (i : Int) (dm μ (msk i (pld K F p) : Nat) b F) = K' (pul C K (pld K F p)) (dm μ (msk C (pld K F p) : Nat) b F) := by
  have hC := hY.1
  intro m
  induction m with
  | zero =>
    intro u i hi hu
    obtain ⟨u, rfl⟩ : ∃ v, u = v + 1 := ⟨u - 1, by omega⟩
    simp -implicitDefEqProofs (disch := omega) only [f_X10_goHour_L45, w32_nat, (hY.dm (a := _) (b := _) (F := _)).2.1]
    rw [if_neg (by omega), show i = C by omega]
  | succ m ih =>
    intro u i hi hu
    obtain ⟨u, rfl⟩ : ∃ v, u = v + 1 := ⟨u - 1, by omega⟩
    have hi' := ih u (i + 1) (by omega) (by omega)
    rw [show ((i + 1 : Nat) : Int) = (i : Int) + 1 by omega] at hi'
    simp -implicitDefEqProofs (disch := omega) only [f_X10_goHour_L45, w32_nat, (hY.dm (a := _) (b := _) (F := _)).2.1, m_has hC (show i < C by omega), bd_some, jn, bt_w, m_can hY (show i < 5 by omega) hF, vl, vm, dm_a, dm_wa, m_pullBy (hY.dm (a := _) (b := _) (F := _)) (show i < 5 by omega), if_pos w0, if_neg w1ne]
    rw [if_pos (by omega), ← hi', pul_step]
    have hz := zor_0 ⟨msk i (pld K F p), msk_32 (by omega) _⟩
    by_cases c1 : p i = true
    · rw [if_pos c1]
      by_cases c2 : abl K F i = true
      · have c3 : pld K F p i = true := by simp [pld, c1, c2]
        rw [if_pos c2, if_pos c3, zor_m (by omega) _ c3]
      · have c3 : ¬ pld K F p i = true := by simp [pld, c1, c2]
        rw [if_neg c2, if_neg c3, msk_no c3]
        exact congrArg _ (by rw [show zor (msk i (pld K F p) : Nat) 0 = (msk i (pld K F p) : Nat) from hz])
    · have c3 : ¬ pld K F p i = true := by simp [pld, c1]
      rw [if_neg c1, if_neg c3, msk_no c3]
      exact congrArg _ (by rw [show zor (msk i (pld K F p) : Nat) 0 = (msk i (pld K F p) : Nat) from hz])
