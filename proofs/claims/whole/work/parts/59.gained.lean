def bsV (F : Nat → Int) : Nat → Int
  | 0 => -1
  | i + 1 => if bsV F i < F (12 + i) then F (12 + i) else bsV F i
def bsI (F : Nat → Int) : Nat → Int
  | 0 => -9
  | i + 1 => if bsV F i < F (12 + i) then (i : Int) else bsI F i
def smG (F : Nat → Int) : Nat → Int
  | 0 => 0
  | i + 1 => smG F i + F (12 + i)
theorem bs_b {F : Nat → Int} (h : ∀ v : Nat, v < 4 → 0 ≤ F (12 + v) ∧ F (12 + v) ≤ 100000000) : ∀ i : Nat, i ≤ 4 → (-1 ≤ bsV F i ∧ bsV F i ≤ 100000000) ∧ (i = 0 ∨ ∃ b : Nat, b < i ∧ bsI F i = (b : Int) ∧ bsV F i = F (12 + b)) := by
  intro i
  induction i with
  | zero => intro _; exact ⟨⟨by simp [bsV], by simp [bsV]⟩, Or.inl rfl⟩
  | succ i ih =>
    intro hi
    obtain ⟨h1, h2⟩ := ih (by omega)
    have hf := h i (by omega)
    unfold bsV bsI
    by_cases c : bsV F i < F (12 + i)
    · rw [if_pos c, if_pos c]
      exact ⟨by omega, Or.inr ⟨i, by omega, rfl, rfl⟩⟩
    · rw [if_neg c, if_neg c]
      refine ⟨h1, Or.inr ?_⟩
      rcases h2 with h2 | ⟨b, b1, b2, b3⟩
      · subst h2
        exact absurd c (by simp only [bsV]; omega)
      · exact ⟨b, by omega, b2, b3⟩
theorem x_gained_loop {μ : Mem} {V : Nat} {F : Nat → Int} (hV : V ≤ 4) (h7 : μ 6 7 = (V : Int)) (hF : ∀ v : Nat, v < 4 → μ 14 (12 + v) = F (12 + v)) (hb : ∀ v : Nat, v < 4 → 0 ≤ F (12 + v) ∧ F (12 + v) ≤ 100000000) : ∀ (m u i : Nat), i + m = V → m < u → f_X9_gained_L10 u (smG F i) (bsI F i) (bsV F i) (i : Int) μ = some (smG F V, wr μ 0 13 (bsI F V)) := by
  intro m
  induction m with
  | zero =>
    intro u i hi hu
    obtain ⟨u, rfl⟩ : ∃ v, u = v + 1 := ⟨u - 1, by omega⟩
    rw [f_X9_gained_L10, h7, w32_nat (by omega), w32_nat (by omega), if_neg (by omega), vm, show i = V by omega]
  | succ m ih =>
    intro u i hi hu
    obtain ⟨u, rfl⟩ : ∃ v, u = v + 1 := ⟨u - 1, by omega⟩
    have hi' := ih u (i + 1) (by omega) (by omega)
    rw [show ((i + 1 : Nat) : Int) = (i : Int) + 1 by omega] at hi'
    have hfb := hb i (by omega)
    have hbv := (bs_b hb i (by omega)).1
    rw [f_X9_gained_L10, h7, w32_nat (by omega), w32_nat (by omega), if_pos (by omega), ck_ok (by omega) (by omega) (by omega), vl, vl, jn, w32_id (a := 12 + (i : Int)) (by omega) (by omega), show (12 + (i : Int)).toNat = 12 + i by omega, hF i (by omega), w32_id (a := bsV F i) (by omega) (by omega), w32_id (a := F (12 + i)) (by omega) (by omega)]
    rw [bsI, bsV, smG] at hi'
    by_cases c : bsV F i < F (12 + i)
    · rw [if_pos c, if_pos c] at hi'
      rw [if_pos c]; exact hi'
    · rw [if_neg c, if_neg c] at hi'
      rw [if_neg c]; exact hi'
theorem m_gained_loop {μ : Mem} {V : Nat} {F : Nat → Int} (hV : V ≤ 4) (h7 : μ 67 1 = (V : Int)) (hF : ∀ v : Nat, v < 4 → μ 73 (12 + v) = F (12 + v)) (hb : ∀ v : Nat, v < 4 → 0 ≤ F (12 + v) ∧ F (12 + v) ≤ 100000000) : ∀ (m u i : Nat), i + m = V → m < u → f_X10_gained_L7 u (bsI F i) (smG F i) (i : Int) μ = some (smG F V, wr μ 67 10 (bsI F V)) := by
  intro m
  induction m with
  | zero =>
    intro u i hi hu
    obtain ⟨u, rfl⟩ : ∃ v, u = v + 1 := ⟨u - 1, by omega⟩
    rw [f_X10_gained_L7, h7, w32_nat (by omega), w32_nat (by omega), if_neg (by omega), vm, show i = V by omega]
  | succ m ih =>
    intro u i hi hu
    obtain ⟨u, rfl⟩ : ∃ v, u = v + 1 := ⟨u - 1, by omega⟩
    have hi' := ih u (i + 1) (by omega) (by omega)
    rw [show ((i + 1 : Nat) : Int) = (i : Int) + 1 by omega] at hi'
    have hfb := hb i (by omega)
    obtain ⟨hbv, hbi⟩ := bs_b hb i (by omega)
    rw [bsI, smG] at hi'
    have key : ∀ s : Int, (ck (12 + (i : Int)) 16 (vl (smG F i + μ 73 (w32 (12 + (i : Int))).toNat) fun x7 => f_X10_gained_L7 u s x7 ((i : Int) + 1) μ)) = f_X10_gained_L7 u s (smG F i + F (12 + i)) ((i : Int) + 1) μ := fun s => by
      rw [ck_ok (by omega) (by omega) (by omega), vl, w32_id (a := 12 + (i : Int)) (by omega) (by omega), show (12 + (i : Int)).toNat = 12 + i by omega, hF i (by omega)]
    rw [f_X10_gained_L7, h7, w32_nat (by omega), w32_nat (by omega), if_pos (by omega), jn, jn]
    simp only [key]
    rcases hbi with rfl | ⟨b, b1, b2, b3⟩
    · rw [if_pos (show bsV F 0 < F (12 + 0) by simp only [bsV]; omega)] at hi'
      rw [show bsI F 0 = -9 from rfl]
      rw [if_pos (show w32 (-9) < 0 by decide +kernel)]
      exact hi'
    · have hfb2 := hb b (by omega)
      rw [b2, w32_nat (by omega), if_neg (by omega), ck_ok (by omega) (by omega) (by omega), ck_ok (by omega) (by omega) (by omega), w32_id (a := 12 + (i : Int)) (by omega) (by omega), w32_id (a := 12 + (b : Int)) (by omega) (by omega), show (12 + (i : Int)).toNat = 12 + i by omega, show (12 + (b : Int)).toNat = 12 + b by omega, hF i (by omega), hF b (by omega), w32_id (a := F (12 + i)) (by omega) (by omega), w32_id (a := F (12 + b)) (by omega) (by omega)]
      rw [b2, b3] at hi'
      by_cases c : F (12 + b) < F (12 + i)
      · rw [if_pos c] at hi'
        rw [if_pos c]; exact hi'
      · rw [if_neg c] at hi'
        rw [if_neg c]; exact hi'
theorem p_gained {n : Nat} (hn : n ≤ 900) : Pair n f_X9_gained f_X10_gained := by
  intro μ h
  have hday := h.2.2.2.1
  obtain ⟨C, V, hC0, hV0, hYX, hYM, hVX, hVM⟩ := h.yr
  have hb : ∀ v : Nat, v < 4 → 0 ≤ μ 73 (12 + v) ∧ μ 73 (12 + v) ≤ 100000000 := fun v hv => (hday.2.fb (by omega)).2.2.2 v hv
  have hx := x_gained_loop (F := μ 73) hVX.1 hVX.2.1 (fun v hv => hday.1 (12 + v) (by omega)) hb V 100000 0 (by omega) (by have := hVX.1; omega)
  have hm := m_gained_loop (μ := wr μ 0 13 (bsI (μ 73) V)) (F := μ 73) hVX.1 (by rw [wr_cell (by omega)]; exact hV0) (fun v hv => by rw [wr_cell (by omega)]) hb V 100000 0 (by omega) (by have := hVX.1; omega)
  rw [Int.natCast_zero] at hx hm
  exact ⟨_, _, _, hx, hm, (h.up (Nat.le_succ n)).told⟩
