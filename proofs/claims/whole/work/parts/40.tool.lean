/-! ===== tools for the functional programs ===== -/
theorem w32_id {a : Int} (h1 : -2147483648 ≤ a) (h2 : a < 2147483648) : w32 a = a := Int32.toInt_ofInt_of_le (by omega) (by omega)
theorem w64_id {a : Int} (h1 : -9223372036854775808 ≤ a) (h2 : a < 9223372036854775808) : w64 a = a := Int64.toInt_ofInt_of_le (by omega) (by omega)
theorem w32_lo (a : Int) : -2147483648 ≤ w32 a := Int32.le_toInt _
theorem w32_hi (a : Int) : w32 a < 2147483648 := Int32.toInt_lt _
def inR (a : Int) : Prop := -2147483648 ≤ a ∧ a < 2147483648
theorem inR.w {a : Int} (h : inR a) : w32 a = a := w32_id h.1 h.2
theorem ck_ok {α : Type} {a : Int} {n : Nat} {F : Option α} (h1 : 0 ≤ a) (h2 : a < (n : Int)) (h3 : a < 2147483648) : ck a n F = F := by
  rw [ck, w32_id (by omega) h3, if_pos ⟨h1, h2⟩]
theorem ckz_ok {α : Type} {a : Int} {F : Option α} (h1 : -2147483648 ≤ a) (h2 : a < 2147483648) (h3 : a ≠ 0) : ckz a F = F := by
  rw [ckz, w32_id h1 h2, if_neg h3]
theorem ckl_ok {α : Type} {a : Int} {F : Option α} (h1 : -9223372036854775808 ≤ a) (h2 : a < 9223372036854775808) (h3 : a ≠ 0) : ckl a F = F := by
  rw [ckl, w64_id h1 h2, if_neg h3]
theorem bd_some {ρ σ : Type} {x : ρ} {μ : Mem} {k : ρ → Mem → Option (σ × Mem)} : bd (some (x, μ)) k = k x μ := rfl
theorem wr_eq {μ : Mem} {k p : Nat} {z : Int} : wr μ k p z k p = z := by simp [wr]
theorem wr_ne {μ : Mem} {k p j q : Nat} {z : Int} (h : j = k → q = p → False) : wr μ k p z j q = μ j q := by
  unfold wr
  rw [if_neg (fun e => h e.1 e.2)]
theorem wr_cell {μ : Mem} {k p j : Nat} {z : Int} (h : j ≠ k) : wr μ k p z j = μ j := wr_off h
/-- only the listed cells may differ -/
def Fr (S : List Nat) (μ μ' : Mem) : Prop := ∀ k, k ∉ S → μ' k = μ k
theorem Fr.rf {S : List Nat} {μ : Mem} : Fr S μ μ := fun _ _ => rfl
theorem Fr.tr {S : List Nat} {μ μ' μ'' : Mem} (h : Fr S μ μ') (h' : Fr S μ' μ'') : Fr S μ μ'' := fun k hk => (h' k hk).trans (h k hk)
theorem Fr.mono {S T : List Nat} {μ μ' : Mem} (h : Fr S μ μ') (hs : ∀ k, k ∈ S → k ∈ T) : Fr T μ μ' := fun k hk => h k (fun z => hk (hs k z))
theorem Fr.wr {S : List Nat} {μ μ' : Mem} {k p : Nat} {z : Int} (h : Fr S μ μ') (hk : k ∈ S) : Fr S μ (wr μ' k p z) := fun j hj => by
  rw [wr_off (fun e => hj (by rw [e]; exact hk))]
  exact h j hj
theorem toNat_cast (i : Nat) : ((i : Int)).toNat = i := Int.toNat_natCast i
theorem w32_nat {i : Nat} (h : i < 2147483648) : w32 (i : Int) = (i : Int) := w32_id (by omega) (by omega)
