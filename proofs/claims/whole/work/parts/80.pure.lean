/-! the start -/
theorem inv_0 : Inv 0 mu0 := by
  have e76 : ∀ r : Nat, r < 6 → mu0 76 r = -1 := fun r h => if_pos h
  have e78 : ∀ r : Nat, r < 4 → mu0 78 r = -1 := fun r h => if_pos h
  have e80 : ∀ r : Nat, r < 3 → mu0 80 r = -1 := fun r h => if_pos h
  have r1 : ∀ r : Nat, r < 6 → mu0 (38 + 2 * r) 1 = -1 := fun r h => by
    have c : r = 0 ∨ r = 1 ∨ r = 2 ∨ r = 3 ∨ r = 4 ∨ r = 5 := by omega
    rcases c with rfl | rfl | rfl | rfl | rfl | rfl <;> rfl
  have t1 : ∀ r : Nat, r < 4 → mu0 (50 + 2 * r) 1 = -1 := fun r h => by
    have c : r = 0 ∨ r = 1 ∨ r = 2 ∨ r = 3 := by omega
    rcases c with rfl | rfl | rfl | rfl <;> rfl
  have k1 : ∀ r : Nat, r < 3 → mu0 (58 + 3 * r) 2 = -1 := fun r h => by
    have c : r = 0 ∨ r = 1 ∨ r = 2 := by omega
    rcases c with rfl | rfl | rfl <;> rfl
  have z0 : mu0 67 0 = 0 := rfl
  have z1 : mu0 67 1 = 0 := rfl
  have z8 : mu0 67 8 = 0 := rfl
  have z68 : ∀ i : Nat, mu0 68 i = 0 := fun _ => rfl
  have z70 : ∀ i : Nat, mu0 70 i = 0 := fun _ => rfl
  have z71 : ∀ i : Nat, mu0 71 i = 0 := fun _ => rfl
  have z72 : ∀ i : Nat, mu0 72 i = 0 := fun _ => rfl
  have z73 : ∀ i : Nat, mu0 73 i = 0 := fun _ => rfl
  refine ⟨fun r hr => ⟨by rw [e76 r hr]; omega, by rw [e76 r hr, r1 r hr], fun i hi => by rw [e76 r hr] at hi; omega⟩,
    fun t ht => ⟨by rw [e78 t ht]; omega, by rw [e78 t ht, t1 t ht], fun i hi => by rw [e78 t ht] at hi; omega⟩,
    ⟨by rw [z0]; omega, rfl, by rw [z1]; omega, rfl, fun i hi => ⟨rfl, by rw [z68]; omega⟩, fun k hk => rfl, fun v hv => ⟨⟨rfl, Or.inl rfl⟩, ⟨rfl, by rw [z70]; omega⟩, ⟨rfl, by rw [z71]; omega⟩, ⟨rfl, by rw [z72]; omega⟩⟩⟩,
    ⟨fun i hi => rfl, ⟨by rw [z73]; omega, by rw [z73]; omega, fun i hi => ⟨by rw [z73]; omega, by rw [z73]; omega⟩, fun v hv => by rw [z73]; omega⟩⟩,
    ⟨by rw [z8]; omega, rfl, fun j hj => by rw [z8] at hj; omega⟩,
    fun k hk => ⟨by rw [e80 k hk]; omega, by rw [k1 k hk, e80 k hk], fun h0 => by rw [e80 k hk] at h0; omega⟩,
    ⟨rfl, rfl, rfl, rfl, fun f hf => rfl⟩⟩
theorem law_true (L : Nat) (sc : Nat → Int) (hL : L ≤ 384) (hsc : ∀ i, -2 ^ 31 ≤ sc i ∧ sc i < 2 ^ 31) : ∃ μ, f_L_law_L18 L sc 100000 0 mu0 = some (1, μ) := by
  have h := law_loop (L := L) (sc := sc) hL (fun j => ⟨by have := (hsc j).1; omega, by have := (hsc j).2; omega⟩) 64 100000 0 0 mu0 (by omega) (by omega) (by omega) (by omega) inv_0
  rw [Int.natCast_zero] at h
  exact h
