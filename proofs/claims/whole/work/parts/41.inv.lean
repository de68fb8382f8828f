/-! ===== the invariant between the cells of the class (0 to 66) and those of the reference (67 to 93) ===== -/
def IRow (μ : Mem) : Prop := ∀ r : Nat, r < 6 → (-1 ≤ μ 76 r ∧ μ 76 r ≤ 40) ∧ μ (38 + 2 * r) 1 = μ 76 r ∧ ∀ i : Nat, (i : Int) < μ 76 r → μ (38 + 2 * r + 1) i = μ 77 (40 * r + i) ∧ inR (μ 77 (40 * r + i))
def IText (μ : Mem) : Prop := ∀ t : Nat, t < 4 → (-1 ≤ μ 78 t ∧ μ 78 t ≤ 60) ∧ μ (50 + 2 * t) 1 = μ 78 t ∧ ∀ i : Nat, (i : Int) < μ 78 t → μ (50 + 2 * t + 1) i = μ 79 (60 * t + i) ∧ inR (μ 79 (60 * t + i))
/-- the sets of capes by bits -/
def msk : Nat → (Nat → Bool) → Nat
  | 0, _ => 0
  | n + 1, p => msk n p + (if p n then 2 ^ n else 0)
def isK (k : Nat) (z : Int) : Bool := match k with
  | 0 => true
  | 2 => decide (z = 2 ∨ z = 5)
  | 3 => decide (z = 3 ∨ z = 4)
  | k => decide (z = (k : Int))
def IYear (μ : Mem) : Prop :=
  (0 ≤ μ 67 0 ∧ μ 67 0 ≤ 5) ∧ μ 6 6 = μ 67 0 ∧ (0 ≤ μ 67 1 ∧ μ 67 1 ≤ 4) ∧ μ 6 7 = μ 67 1 ∧ (∀ i : Nat, i < 5 → μ 7 i = μ 68 i ∧ 0 ≤ μ 68 i ∧ μ 68 i ≤ 5) ∧
  (∀ k : Nat, k < 6 → μ 8 k = (msk (μ 67 0).toNat (fun i => isK k (μ 68 i)) : Nat)) ∧
  (∀ v : Nat, v < 4 → (μ 9 v = μ 69 v ∧ (μ 69 v = 0 ∨ μ 69 v = 1)) ∧ (μ 10 v = μ 70 v ∧ 0 ≤ μ 70 v ∧ μ 70 v ≤ 7) ∧ (μ 11 v = μ 71 v ∧ 0 ≤ μ 71 v ∧ μ 71 v ≤ 7) ∧ (μ 12 v = μ 72 v ∧ 0 ≤ μ 72 v ∧ μ 72 v ≤ 9))
/-- the bounds of a day's facts behind n calls -/
def DB (n : Nat) (f : Nat → Int) : Prop := (0 ≤ f 0 ∧ f 0 ≤ 58) ∧ (0 ≤ f 1 ∧ f 1 ≤ 200 * n) ∧ (∀ i : Nat, i < 5 → (0 ≤ f (2 + i) ∧ f (2 + i) ≤ 9) ∧ (0 ≤ f (7 + i) ∧ f (7 + i) ≤ 9)) ∧ ∀ v : Nat, v < 4 → 0 ≤ f (12 + v) ∧ f (12 + v) ≤ 200 * n
def IDay (n : Nat) (μ : Mem) : Prop := (∀ i : Nat, i < 16 → μ 14 i = μ 73 i) ∧ DB n (μ 73)
def IDiary (n : Nat) (μ : Mem) : Prop := (0 ≤ μ 67 8 ∧ μ 67 8 ≤ 60) ∧ μ 15 2 = μ 67 8 ∧ ∀ j : Nat, (j : Int) < μ 67 8 → (∀ i : Nat, i < 16 → μ 16 (16 * j + i) = μ 74 (16 * j + i)) ∧ DB n (fun i => μ 74 (16 * j + i))
def IKept (n : Nat) (μ : Mem) : Prop := ∀ k : Nat, k < 3 → (-1 ≤ μ 80 k ∧ μ 80 k ≤ 60) ∧ μ (58 + 3 * k) 2 = μ 80 k ∧ (0 ≤ μ 80 k →
  (∀ j : Nat, (j : Int) < μ 80 k → (∀ i : Nat, i < 16 → μ (58 + 3 * k + 1) (16 * j + i) = μ 82 (960 * k + (16 * j + i))) ∧ DB n (fun i => μ 82 (960 * k + (16 * j + i)))) ∧
  ((∀ i : Nat, i < 16 → μ (58 + 3 * k + 1) (16 * (μ 80 k).toNat + i) = μ 81 (16 * k + i)) ∧ DB n (fun i => μ 81 (16 * k + i))) ∧
  ∀ v : Nat, v < 4 → μ (58 + 3 * k + 2) v = μ 83 (4 * k + v) ∧ 0 ≤ μ 83 (4 * k + v) ∧ μ 83 (4 * k + v) ≤ 9)
def ITell (μ : Mem) : Prop := μ 0 12 = μ 67 13 ∧ μ 0 13 = μ 67 10 ∧ μ 0 14 = μ 67 11 ∧ μ 0 15 = μ 67 12 ∧ ∀ f : Nat, f < 6 → μ 37 f = μ 75 f
def Inv (n : Nat) (μ : Mem) : Prop := IRow μ ∧ IText μ ∧ IYear μ ∧ IDay n μ ∧ IDiary n μ ∧ IKept n μ ∧ ITell μ
theorem DB.up {n m : Nat} {f : Nat → Int} (h : DB n f) (hn : n ≤ m) : DB m f := by
  obtain ⟨h1, h2, h3, h4⟩ := h
  exact ⟨h1, ⟨h2.1, by omega⟩, h3, fun v hv => ⟨(h4 v hv).1, by have := (h4 v hv).2; omega⟩⟩
theorem IDay.up {n m : Nat} {μ : Mem} (h : IDay n μ) (hn : n ≤ m) : IDay m μ := ⟨h.1, h.2.up hn⟩
theorem IDiary.up {n m : Nat} {μ : Mem} (h : IDiary n μ) (hn : n ≤ m) : IDiary m μ := ⟨h.1, h.2.1, fun j hj => ⟨(h.2.2 j hj).1, (h.2.2 j hj).2.up hn⟩⟩
theorem IKept.up {n m : Nat} {μ : Mem} (h : IKept n μ) (hn : n ≤ m) : IKept m μ := fun k hk => by
  obtain ⟨h1, h2, h3⟩ := h k hk
  refine ⟨h1, h2, fun h0 => ?_⟩
  obtain ⟨g1, g2, g3⟩ := h3 h0
  exact ⟨fun j hj => ⟨(g1 j hj).1, (g1 j hj).2.up hn⟩, ⟨g2.1, g2.2.up hn⟩, g3⟩
theorem Inv.up {n m : Nat} {μ : Mem} (h : Inv n μ) (hn : n ≤ m) : Inv m μ := by
  obtain ⟨h1, h2, h3, h4, h5, h6, h7⟩ := h
  exact ⟨h1, h2, h3, h4.up hn, h5.up hn, h6.up hn, h7⟩
/-! each part of the invariant speaks of its own cells -/
theorem IRow.cg {μ μ' : Mem} (h : IRow μ) (e : ∀ k : Nat, (38 ≤ k ∧ k < 50) ∨ k = 76 ∨ k = 77 → μ' k = μ k) : IRow μ' := by
  intro r hr
  rw [e 76 (by omega), e 77 (by omega), e (38 + 2 * r) (by omega), e (38 + 2 * r + 1) (by omega)]
  exact h r hr
theorem IText.cg {μ μ' : Mem} (h : IText μ) (e : ∀ k : Nat, (50 ≤ k ∧ k < 58) ∨ k = 78 ∨ k = 79 → μ' k = μ k) : IText μ' := by
  intro r hr
  rw [e 78 (by omega), e 79 (by omega), e (50 + 2 * r) (by omega), e (50 + 2 * r + 1) (by omega)]
  exact h r hr
theorem IYear.cg {μ μ' : Mem} (h : IYear μ) (e : ∀ k : Nat, (6 ≤ k ∧ k < 13) ∨ (68 ≤ k ∧ k < 73) → μ' k = μ k) (e0 : μ' 67 0 = μ 67 0) (e1 : μ' 67 1 = μ 67 1) : IYear μ' := by
  unfold IYear
  rw [e0, e1, e 6 (by omega), e 7 (by omega), e 8 (by omega), e 9 (by omega), e 10 (by omega), e 11 (by omega), e 12 (by omega), e 68 (by omega), e 69 (by omega), e 70 (by omega), e 71 (by omega), e 72 (by omega)]
  exact h
theorem IDay.cg {n : Nat} {μ μ' : Mem} (h : IDay n μ) (e : ∀ k : Nat, k = 14 ∨ k = 73 → μ' k = μ k) : IDay n μ' := by
  unfold IDay
  rw [e 14 (by omega), e 73 (by omega)]
  exact h
theorem IDiary.cg {n : Nat} {μ μ' : Mem} (h : IDiary n μ) (e : ∀ k : Nat, k = 15 ∨ k = 16 ∨ k = 74 → μ' k = μ k) (e8 : μ' 67 8 = μ 67 8) : IDiary n μ' := by
  unfold IDiary
  rw [e8, e 15 (by omega), e 16 (by omega), e 74 (by omega)]
  exact h
theorem IKept.cg {n : Nat} {μ μ' : Mem} (h : IKept n μ) (e : ∀ k : Nat, (58 ≤ k ∧ k < 67) ∨ (80 ≤ k ∧ k < 84) → μ' k = μ k) : IKept n μ' := by
  intro k hk
  rw [e 80 (by omega), e 81 (by omega), e 82 (by omega), e 83 (by omega), e (58 + 3 * k) (by omega), e (58 + 3 * k + 1) (by omega), e (58 + 3 * k + 2) (by omega)]
  exact h k hk
theorem ITell.cg {μ μ' : Mem} (h : ITell μ) (e : ∀ k : Nat, k = 37 ∨ k = 75 → μ' k = μ k) (e0 : ∀ p : Nat, 12 ≤ p ∧ p < 16 → μ' 0 p = μ 0 p) (e1 : ∀ p : Nat, 10 ≤ p ∧ p < 14 → μ' 67 p = μ 67 p) : ITell μ' := by
  unfold ITell
  rw [e 37 (by omega), e 75 (by omega), e0 12 (by omega), e0 13 (by omega), e0 14 (by omega), e0 15 (by omega), e1 10 (by omega), e1 11 (by omega), e1 12 (by omega), e1 13 (by omega)]
  exact h
/-- what a pair of calls must do -/
def PairAt (n : Nat) (μ : Mem) (fx fm : Mem → Option (Int × Mem)) : Prop := ∃ (a : Int) (μ1 μ2 : Mem), fx μ = some (a, μ1) ∧ fm μ1 = some (a, μ2) ∧ Inv (n + 1) μ2
def Pair (n : Nat) (fx fm : Mem → Option (Int × Mem)) : Prop := ∀ μ : Mem, Inv n μ → PairAt n μ fx fm
/-! ===== leaves ===== -/
theorem x_isRow {μ : Mem} {p : Int} (h : inR p) : f_X9_isRow μ p = some (if 0 ≤ p ∧ p < 6 then 1 else 0, μ) := by
  obtain ⟨h1, h2⟩ := h
  simp (disch := omega) only [f_X9_isRow, vl, w32_id]
  congr 2
  by_cases h : p < 0
  · rw [if_pos h, if_neg (by omega)]
  · rw [if_neg h]
    by_cases h3 : p < 6
    · rw [if_pos h3, if_pos (by omega)]
    · rw [if_neg h3, if_neg (by omega)]
theorem w64_w32 (a : Int) : w64 (w32 a) = w32 a := w64_id (by have := w32_lo a; omega) (by have := w32_hi a; omega)
theorem ycmp_lt {a b : Int} : w32 (ycmp a b) < 0 ↔ w64 a < w64 b := by
  unfold ycmp
  by_cases h1 : w64 b < w64 a
  · rw [if_pos h1, w32_id (by omega) (by omega)]; omega
  · rw [if_neg h1]
    by_cases h2 : w64 a = w64 b
    · rw [if_pos h2, w32_id (by omega) (by omega)]; omega
    · rw [if_neg h2, w32_id (by omega) (by omega)]; omega
theorem ycmp_gt {a b : Int} : 0 < w32 (ycmp a b) ↔ w64 b < w64 a := by
  unfold ycmp
  by_cases h1 : w64 b < w64 a
  · rw [if_pos h1, w32_id (by omega) (by omega)]; omega
  · rw [if_neg h1]
    by_cases h2 : w64 a = w64 b
    · rw [if_pos h2, w32_id (by omega) (by omega)]; omega
    · rw [if_neg h2, w32_id (by omega) (by omega)]; omega
theorem ycmp_eq {a b : Int} : w32 (ycmp a b) = 0 ↔ w64 a = w64 b := by
  unfold ycmp
  by_cases h1 : w64 b < w64 a
  · rw [if_pos h1, w32_id (by omega) (by omega)]; omega
  · rw [if_neg h1]
    by_cases h2 : w64 a = w64 b
    · rw [if_pos h2, w32_id (by omega) (by omega)]; omega
    · rw [if_neg h2, w32_id (by omega) (by omega)]; omega
theorem m_in {μ : Mem} {a b c : Int} (ha : inR a) (hb : inR b) (hc : inR c) : f_X10_in μ a b c = some (if b ≤ a ∧ a ≤ c then 1 else 0, μ) := by
  obtain ⟨a1, a2⟩ := ha
  obtain ⟨b1, b2⟩ := hb
  obtain ⟨c1, c2⟩ := hc
  simp only [f_X10_in, vl, ycmp_lt, ycmp_gt]
  rw [w64_id (a := a) (by omega) (by omega), w64_id (a := b) (by omega) (by omega), w64_id (a := c) (by omega) (by omega)]
  congr 2
  by_cases h : a < b
  · rw [if_pos h, if_neg (by omega)]
  · rw [if_neg h]
    by_cases h3 : c < a
    · rw [if_pos h3, if_neg (by omega)]
    · rw [if_neg h3, if_pos (by omega)]
theorem ckb_ite {α : Type} {c : Prop} [Decidable c] {F : Option α} : ckb (if c then 1 else 0) F = F := by
  unfold ckb
  rw [if_pos]
  by_cases h : c <;> simp [h]
theorem m_isRow {μ : Mem} {p : Int} (h : inR p) : f_X10_isRow μ p = some (if 0 ≤ p ∧ p < 6 then 1 else 0, μ) := by
  unfold f_X10_isRow
  rw [h.w, m_in h ⟨by omega, by omega⟩ ⟨by omega, by omega⟩, bd_some, ckb_ite]
  congr 2
  by_cases h3 : 0 ≤ p ∧ p < 6
  · rw [if_pos h3, if_pos (by omega)]
  · rw [if_neg h3, if_neg (by omega)]
theorem x_there {μ : Mem} {t : Nat} (h : inR (μ t 1)) : f_X5_isThere μ t = some (if μ t 1 < 0 then 0 else 1, μ) := by
  simp only [f_X5_isThere, vl, h.w]
theorem x_found {μ : Mem} {f : Int} (h1 : 0 ≤ f) (h2 : f < 6) : f_X9_found μ f = some (-3, wr (wr μ 0 12 f) 37 f.toNat (μ 37 f.toNat + 1)) := by
  simp (disch := omega) only [f_X9_found, vm, ck_ok, w32_id, wr_cell (μ := μ) (k := 0) (j := 37) (by omega : (37 : Nat) ≠ 0)]
theorem m_finds {μ : Mem} {f : Int} (h1 : 0 ≤ f) (h2 : f < 6) : f_X10_finds μ f = some (-3, wr (wr μ 67 13 f) 75 f.toNat (μ 75 f.toNat + 1)) := by
  simp (disch := omega) only [f_X10_finds, vm, ck_ok, w32_id, wr_cell (μ := μ) (k := 67) (j := 75) (by omega : (75 : Nat) ≠ 67)]
/-- both find the same -/
theorem pair_find {n : Nat} {μ : Mem} {f : Int} (h : Inv n μ) (h1 : 0 ≤ f) (h2 : f < 6) : ∃ μ1 μ2, f_X9_found μ f = some (-3, μ1) ∧ (∀ k, k ≠ 0 → k ≠ 37 → μ1 k = μ k) ∧ f_X10_finds μ1 f = some (-3, μ2) ∧ Inv (n + 1) μ2 := by
  refine ⟨_, _, x_found h1 h2, fun k g1 g2 => by rw [wr_cell g2, wr_cell g1], m_finds h1 h2, ?_⟩
  obtain ⟨i1, i2, i3, i4, i5, i6, i7⟩ := h.up (Nat.le_succ n)
  refine ⟨i1.cg ?_, i2.cg ?_, i3.cg ?_ ?_ ?_, i4.cg ?_, i5.cg ?_ ?_, i6.cg ?_, ?_⟩
  all_goals try (intro k hk; rw [wr_cell (by omega), wr_cell (by omega), wr_cell (by omega), wr_cell (by omega)])
  all_goals try (rw [wr_cell (by omega), wr_ne (by omega), wr_cell (by omega), wr_cell (by omega)])
  obtain ⟨t1, t2, t3, t4, t5⟩ := i7
  refine ⟨?_, ?_, ?_, ?_, fun g hg => ?_⟩
  · simp [wr]
  · simp [wr]; exact t2
  · simp [wr]; exact t3
  · simp [wr]; exact t4
  · by_cases e : g = f.toNat
    · subst e
      simp [wr, t5 _ hg]
    · simp [wr, e, t5 _ hg]
