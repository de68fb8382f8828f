/-! ===== filling and copying loops ===== -/
def fl (μ : Mem) (a lo hi : Nat) (z : Int) : Mem := fun j q => if j = a ∧ lo ≤ q ∧ q < hi then z else μ j q
theorem fl_in {μ : Mem} {a lo hi q : Nat} {z : Int} (h1 : lo ≤ q) (h2 : q < hi) : fl μ a lo hi z a q = z := by
  unfold fl; rw [if_pos ⟨rfl, h1, h2⟩]
theorem fl_out {μ : Mem} {a lo hi j q : Nat} {z : Int} (h : j = a → lo ≤ q → q < hi → False) : fl μ a lo hi z j q = μ j q := by
  unfold fl; rw [if_neg (fun e => h e.1 e.2.1 e.2.2)]
theorem fl_cell {μ : Mem} {a lo hi j : Nat} {z : Int} (h : j ≠ a) : fl μ a lo hi z j = μ j := by
  funext q; exact fl_out (fun e => absurd e h)
theorem fl_none {μ : Mem} {a lo : Nat} {z : Int} : fl μ a lo lo z = μ := by
  funext j q; exact fl_out (by omega)
theorem fl_step {μ : Mem} {a lo hi : Nat} {z : Int} (h : lo < hi) : fl (wr μ a lo z) a (lo + 1) hi z = fl μ a lo hi z := by
  funext j q
  by_cases e : j = a
  · subst e
    by_cases h1 : lo < q ∧ q < hi
    · rw [fl_in (by omega) h1.2, fl_in (by omega) h1.2]
    · rw [fl_out (by omega)]
      by_cases h2 : q = lo
      · subst h2; rw [wr_eq, fl_in (by omega) h]
      · rw [wr_ne (by omega), fl_out (by omega)]
  · rw [fl_cell e, wr_cell e, fl_cell e]
theorem cpy_in {μ : Mem} {k k' sp dp n q : Nat} (h1 : dp ≤ q) (h2 : q < dp + n) : cpy μ k k' sp dp n k' q = μ k (sp + (q - dp)) := by
  unfold cpy; rw [if_pos ⟨rfl, h1, h2⟩]
theorem cpy_out {μ : Mem} {k k' sp dp n j q : Nat} (h : j = k' → dp ≤ q → q < dp + n → False) : cpy μ k k' sp dp n j q = μ j q := by
  unfold cpy; rw [if_neg (fun e => h e.1 e.2.1 e.2.2)]
theorem cpy_cell {μ : Mem} {k k' sp dp n j : Nat} (h : j ≠ k') : cpy μ k k' sp dp n j = μ j := by
  funext q; exact cpy_out (fun e => absurd e h)
theorem cpy_none {μ : Mem} {k k' sp dp : Nat} : cpy μ k k' sp dp 0 = μ := by
  funext j q; exact cpy_out (by omega)
theorem cpy_step {μ : Mem} {k k' a b n : Nat} (h : k ≠ k') : cpy (wr μ k' b (μ k a)) k k' (a + 1) (b + 1) n = cpy μ k k' a b (n + 1) := by
  funext j q
  by_cases e : j = k'
  · subst e
    by_cases h1 : b < q ∧ q < b + (n + 1)
    · rw [cpy_in (by omega) (by omega), cpy_in (by omega) (by omega), wr_cell h]
      congr 1; omega
    · rw [cpy_out (by omega)]
      by_cases h2 : q = b
      · subst h2; rw [wr_eq, cpy_in (by omega) (by omega)]; congr 1; omega
      · rw [wr_ne (by omega), cpy_out (by omega)]
  · rw [cpy_cell e, wr_cell e, cpy_cell e]
theorem fill_loop {a n0 : Nat} {z : Int} (hn : n0 < 100000) : ∀ (m u i : Nat) (μ : Mem), i + m = n0 → m < u → f_J7_fill_53178_L5 a n0 z (n0 : Int) u (i : Int) μ = some ((), fl μ a i n0 z) := by
  intro m
  induction m with
  | zero =>
    intro u i μ hi hu
    obtain ⟨u, rfl⟩ : ∃ v, u = v + 1 := ⟨u - 1, by omega⟩
    simp (disch := omega) only [f_J7_fill_53178_L5, w32_id]
    rw [if_neg (by omega), show i = n0 by omega, fl_none]
  | succ m ih =>
    intro u i μ hi hu
    obtain ⟨u, rfl⟩ : ∃ v, u = v + 1 := ⟨u - 1, by omega⟩
    simp (disch := omega) only [f_J7_fill_53178_L5, w32_id, ck_ok, vm, Int.toNat_natCast]
    rw [if_pos (by omega), ← fl_step (by omega)]
    exact ih u (i + 1) _ (by omega) (by omega)
theorem x_fill {μ : Mem} {a n0 : Nat} {z : Int} (hn : n0 < 100000) : f_J7_fill_53178 μ a n0 z = some ((), fl μ a 0 n0 z) := by
  have h := fill_loop (a := a) (z := z) hn n0 100000 0 μ (Nat.zero_add n0) hn
  rw [Int.natCast_zero] at h
  exact h
theorem fillb_loop {a n0 : Nat} {z : Int} (hn : n0 < 100000) : ∀ (m u i : Nat) (μ : Mem), i + m = n0 → m < u → f_J7_fill_031fb_L5 a n0 z (n0 : Int) u (i : Int) μ = some ((), fl μ a i n0 (zi2b z)) := by
  intro m
  induction m with
  | zero =>
    intro u i μ hi hu
    obtain ⟨u, rfl⟩ : ∃ v, u = v + 1 := ⟨u - 1, by omega⟩
    simp (disch := omega) only [f_J7_fill_031fb_L5, w32_id]
    rw [if_neg (by omega), show i = n0 by omega, fl_none]
  | succ m ih =>
    intro u i μ hi hu
    obtain ⟨u, rfl⟩ : ∃ v, u = v + 1 := ⟨u - 1, by omega⟩
    simp (disch := omega) only [f_J7_fill_031fb_L5, w32_id, ck_ok, vm, Int.toNat_natCast]
    rw [if_pos (by omega), ← fl_step (by omega)]
    exact ih u (i + 1) _ (by omega) (by omega)
theorem x_fillb {μ : Mem} {a n0 : Nat} {z : Int} (hn : n0 < 100000) : f_J7_fill_031fb μ a n0 z = some ((), fl μ a 0 n0 (zi2b z)) := by
  have h := fillb_loop (a := a) (z := z) hn n0 100000 0 μ (Nat.zero_add n0) hn
  rw [Int.natCast_zero] at h
  exact h
theorem row_loop {r : Nat} {p1 : Int} (hr : r < 6) : ∀ (m u i : Nat) (μ : Mem), i + m = 40 → m < u → f_X10_row_L34 (r : Int) p1 u (i : Int) μ = some (p1, fl μ 77 (40 * r + i) (40 * r + 40) 0) := by
  intro m
  induction m with
  | zero =>
    intro u i μ hi hu
    obtain ⟨u, rfl⟩ : ∃ v, u = v + 1 := ⟨u - 1, by omega⟩
    simp (disch := omega) only [f_X10_row_L34, w32_id]
    rw [if_neg (by omega), show i = 40 by omega, fl_none]
  | succ m ih =>
    intro u i μ hi hu
    obtain ⟨u, rfl⟩ : ∃ v, u = v + 1 := ⟨u - 1, by omega⟩
    simp (disch := omega) only [f_X10_row_L34, w32_id, ck_ok, vm]
    rw [if_pos (by omega), show (40 * (r : Int) + (i : Int)).toNat = 40 * r + i by omega, ← fl_step (by omega)]
    exact ih u (i + 1) _ (by omega) (by omega)
theorem text_loop {r : Nat} {p1 : Int} (hr : r < 4) : ∀ (m u i : Nat) (μ : Mem), i + m = 60 → m < u → f_X10_text_L34 (r : Int) p1 u (i : Int) μ = some (p1, fl μ 79 (60 * r + i) (60 * r + 60) 32) := by
  intro m
  induction m with
  | zero =>
    intro u i μ hi hu
    obtain ⟨u, rfl⟩ : ∃ v, u = v + 1 := ⟨u - 1, by omega⟩
    simp (disch := omega) only [f_X10_text_L34, w32_id]
    rw [if_neg (by omega), show i = 60 by omega, fl_none]
  | succ m ih =>
    intro u i μ hi hu
    obtain ⟨u, rfl⟩ : ∃ v, u = v + 1 := ⟨u - 1, by omega⟩
    simp (disch := omega) only [f_X10_text_L34, w32_id, ck_ok, vm]
    rw [if_pos (by omega), show (60 * (r : Int) + (i : Int)).toNat = 60 * r + i by omega, ← fl_step (by omega)]
    exact ih u (i + 1) _ (by omega) (by omega)
