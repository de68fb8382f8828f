/-! ===== bounds behind an hour ===== -/
theorem DB.cg {n : Nat} {F G : Nat → Int} (h : DB n F) (k : ∀ i : Nat, i < 16 → G i = F i) : DB n G := by
  obtain ⟨g1, g2, g3, g4⟩ := h
  refine ⟨?_, ?_, fun i hi => ?_, fun v hv => ?_⟩
  · rw [k 0 (by omega)]; exact g1
  · rw [k 1 (by omega)]; exact g2
  · rw [k (2 + i) (by omega), k (7 + i) (by omega)]; exact g3 i hi
  · rw [k (12 + v) (by omega)]; exact g4 v hv
theorem DB.fb {n : Nat} {F : Nat → Int} (h : DB n F) (hn : n ≤ 1000) : FB F := by
  obtain ⟨h1, h2, h3, h4⟩ := h
  exact ⟨⟨h1.1, by omega⟩, ⟨h2.1, by omega⟩, h3, fun v hv => ⟨(h4 v hv).1, by have := (h4 v hv).2; omega⟩⟩
theorem gth_DB {n V : Nat} {F lt fr tt wo : Nat → Int} (h : DB n F) (hV : V ≤ 4) (hW : VB lt fr tt wo) (m : Int) : DB (n + 1) (gth V (gnv lt fr tt wo m) F) := by
  obtain ⟨h1, h2, h3, h4⟩ := h
  refine ⟨?_, ?_, fun i hi => ?_, fun v hv => ?_⟩
  · rw [gth_self (by omega)]; exact h1
  · rw [gth_self (by omega)]; omega
  · rw [gth_self (by omega), gth_self (by omega)]; exact h3 i hi
  · have := h4 v hv
    have hg := gnv_b hW m hv
    unfold gth
    by_cases c : 12 ≤ 12 + v ∧ 12 + v < 12 + V
    · rw [if_pos c, show 12 + v - 12 = v by omega]; omega
    · rw [if_neg c]; omega
theorem cn_le {n : Nat} {p q : Nat → Bool} (h : ∀ i, p i = true → q i = true) : cn n p ≤ cn n q := by
  induction n with
  | zero => exact Int.le_refl _
  | succ n ih =>
    unfold cn
    have : bt (p n) ≤ bt (q n) := by
      cases hp : p n
      · exact (bt_01 (q n)).1
      · rw [h n hp]; exact Int.le_refl _
    omega
theorem stp_b (C : Nat) (K F : Nat → Int) (p : Nat → Bool) (hC : C ≤ 5) : 0 ≤ stp C K F p ∧ stp C K F p ≤ 11 := by
  have h1 := cn_b C (fun i => pld K F p i && frl K F i)
  have h2 := pul_b C K (pld K F p)
  have h3 : cn C (fun i => pld K F p i && frl K F i) ≤ cn C (pld K F p) := cn_le (fun i hi => by simp at hi; exact hi.1)
  have h4 := cn_b C (fun i => pld K F p i && isK 2 (K i))
  have h5 : pul C K (pld K F p) = cn C (pld K F p) + cn C (fun i => pld K F p i && isK 2 (K i)) := rfl
  unfold stp
  split <;> omega
theorem hr_DB {n C : Nat} {K F : Nat → Int} {p : Nat → Bool} (h : DB (n + 1) F) (h10 : F 1 ≤ 200 * n) (hC : C ≤ 5) : DB (n + 1) (hr C K F p) := by
  obtain ⟨h1, h2, h3, h4⟩ := h
  refine ⟨?_, ?_, fun i hi => ?_, fun v hv => ?_⟩
  · have := stp_b C K F p hC
    unfold hr
    rw [if_pos rfl]
    by_cases c : F 0 < 48
    · omega
    · have : stp C K F p = 0 := by unfold stp; rw [if_neg c]
      omega
  · have := pul_b C K (pld K F p)
    unfold hr
    rw [if_neg (by omega), if_pos rfl]
    split <;> omega
  · obtain ⟨⟨a1, a2⟩, a3, a4⟩ := h3 i hi
    have hab : pld K F p i = true → 1 ≤ F (2 + i) ∧ 1 ≤ F (7 + i) := by
      intro hp
      simp only [pld, abl, Bool.and_eq_true, decide_eq_true_eq] at hp
      exact hp.2.1.2
    unfold hr
    rw [if_neg (by omega), if_neg (by omega), if_neg (by omega), if_neg (by omega)]
    constructor
    · unfold wn
      by_cases c : 2 ≤ 2 + i ∧ 2 + i < 2 + C
      · rw [if_pos c, show 2 + i - 2 = i by omega]
        have := bt_01 (wrn K (F 0) (pld K F p) i)
        cases hw : wrn K (F 0) (pld K F p) i
        · rw [show bt false = 0 from rfl]; omega
        · rw [show bt true = 1 from rfl]
          have : pld K F p i = true := by simp only [wrn, Bool.and_eq_true] at hw; exact hw.1
          have := hab this
          omega
      · rw [if_neg c, if_neg (by omega)]; omega
    · unfold wn
      rw [if_neg (by omega)]
      by_cases c : 7 ≤ 7 + i ∧ 7 + i < 7 + C
      · rw [if_pos c, show 7 + i - 7 = i by omega, crw]
        have v1 := bt_01 (!(isK 5 (K i)))
        have v2 := bt_01 (isK 4 (K i))
        by_cases hp : pld K F p i = true
        · rw [if_pos hp]; have := hab hp; omega
        · rw [if_neg hp]; split <;> omega
      · rw [if_neg c]; omega
  · have := h4 v hv
    unfold hr
    rw [if_neg (by omega), if_neg (by omega), wn_self (by omega) (by omega)]
    omega
/-! ===== a deed is remembered ===== -/
theorem x_write {μ : Mem} {D : Nat} (h : μ 15 2 = (D : Int)) (hD : D < 60) : f_X2_write μ 15 = some ((), wr (cpy μ 14 16 0 (16 * D) 16) 15 2 ((D : Int) + 1)) := by
  have e : cpy μ 14 16 0 (16 * D) 16 15 = μ 15 := cpy_cell (by omega)
  have hw : f_X2_writeLast μ 15 = some ((), cpy μ 14 16 0 (16 * D) 16) := by
    rw [f_X2_writeLast, h, w32_nat (by omega), if_neg (by omega), w32_id (a := 60) (by omega) (by omega), if_neg (by omega), ckc_ok (by omega) (by omega) (by omega) (by omega) (by omega) (by omega) (by omega), vm, w32_id (a := 0) (by omega) (by omega), w32_id (a := 16) (by omega) (by omega), w32_id (by omega) (by omega), show ((D : Int) * 16).toNat = 16 * D by omega]
    rfl
  rw [f_X2_write, hw, bd_some, vm, e, h]
theorem m_rem_loop {K : Mem → Option (Unit × Mem)} {D : Nat} (hD : D < 60) : ∀ (m u i : Nat) (μ : Mem), μ 67 8 = (D : Int) → i + m = 16 → m < u → f_X10_remember_L2 K u (i : Int) μ = K (cpy μ 73 74 i (16 * D + i) m) := by
  intro m
  induction m with
  | zero =>
    intro u i μ h hi hu
    obtain ⟨u, rfl⟩ : ∃ v, u = v + 1 := ⟨u - 1, by omega⟩
    rw [f_X10_remember_L2, w32_id (by omega) (by omega), w32_id (by omega) (by omega), if_neg (by omega), cpy_none]
  | succ m ih =>
    intro u i μ h hi hu
    obtain ⟨u, rfl⟩ : ∃ v, u = v + 1 := ⟨u - 1, by omega⟩
    have hi' := ih u (i + 1) (wr μ 74 (16 * D + i) (μ 73 i)) (by rw [wr_cell (by omega)]; exact h) (by omega) (by omega)
    rw [show ((i + 1 : Nat) : Int) = (i : Int) + 1 by omega, ← Nat.add_assoc, cpy_step (by omega)] at hi'
    rw [f_X10_remember_L2, w32_id (by omega) (by omega), w32_id (a := 16) (by omega) (by omega), if_pos (by omega), ck_ok (by omega) (by omega) (by omega), h, ck_ok (by omega) (by omega) (by omega), vm, w32_id (by omega) (by omega), show (16 * (D : Int) + (i : Int)).toNat = 16 * D + i by omega, Int.toNat_natCast]
    exact hi'
theorem m_rem {μ : Mem} {D : Nat} (h : μ 67 8 = (D : Int)) (hD : D < 60) : f_X10_remember μ = some ((), wr (cpy μ 73 74 0 (16 * D) 16) 67 8 ((D : Int) + 1)) := by
  have hl := m_rem_loop (K := fun m5 => vm (wr m5 67 8 ((m5 67 8) + 1)) fun m6 => some ((), m6)) hD 16 100000 0 μ h (by omega) (by omega)
  rw [Int.natCast_zero, Nat.add_zero] at hl
  have e : cpy μ 73 74 0 (16 * D) 16 67 = μ 67 := cpy_cell (by omega)
  rw [f_X10_remember, hl, vm, e, h]
theorem Inv.deed {n D : Nat} {μ μ2 : Mem} (h : Inv n μ) (hD : μ 67 8 = (D : Int)) (hD6 : D < 60) (e : ∀ k : Nat, (6 ≤ k ∧ k < 13) ∨ (38 ≤ k ∧ k < 67) ∨ (68 ≤ k ∧ k < 73) ∨ (76 ≤ k ∧ k < 84) → μ2 k = μ k) (e0 : μ2 67 0 = μ 67 0) (e1 : μ2 67 1 = μ 67 1) (e15 : μ2 15 2 = (D : Int) + 1) (e8 : μ2 67 8 = (D : Int) + 1)
    (e16 : ∀ q : Nat, μ2 16 q = if 16 * D ≤ q ∧ q < 16 * D + 16 then μ 14 (q - 16 * D) else μ 16 q) (e74 : ∀ q : Nat, μ2 74 q = if 16 * D ≤ q ∧ q < 16 * D + 16 then μ 73 (q - 16 * D) else μ 74 q) (hd : IDay (n + 1) μ2) (ht : ITell μ2) : Inv (n + 1) μ2 := by
  obtain ⟨i1, i2, i3, i4, i5, i6, i7⟩ := h
  refine ⟨i1.cg (fun k hk => e k (by omega)), i2.cg (fun k hk => e k (by omega)), i3.cg (fun k hk => e k (by omega)) e0 e1, hd, ?_, (i6.up (Nat.le_succ n)).cg (fun k hk => e k (by omega)), ht⟩
  obtain ⟨d1, d2, d3⟩ := i5
  refine ⟨by rw [e8]; omega, by rw [e15, e8], fun j hj => ?_⟩
  rw [e8] at hj
  by_cases c : j = D
  · subst c
    refine ⟨fun i hi => ?_, ?_⟩
    · rw [e16, e74, if_pos (by omega), if_pos (by omega), show 16 * j + i - 16 * j = i by omega]; exact i4.1 i hi
    · exact DB.cg (i4.2.up (Nat.le_succ n)) (fun i hi => by
        show μ2 74 (16 * j + i) = μ 73 i
        rw [e74, if_pos (by omega), show 16 * j + i - 16 * j = i by omega])
  · obtain ⟨f1, f2⟩ := d3 j (by omega)
    have k : ∀ i : Nat, i < 16 → μ2 74 (16 * j + i) = μ 74 (16 * j + i) := fun i hi => by
      rw [e74, if_neg (by omega)]
    refine ⟨fun i hi => ?_, ?_⟩
    · rw [e16, k i hi, if_neg (by omega)]; exact f1 i hi
    · exact DB.cg (f2.up (Nat.le_succ n)) (fun i hi => k i hi)
