/-! ===== a day of the class: cell t (able, frail, pulled, lurched), cell t + 1 (sixteen facts) ===== -/
def up (F : Nat → Int) (q : Nat) (z : Int) : Nat → Int := fun i => if i = q then z else F i
theorem up_eq {F : Nat → Int} {q : Nat} {z : Int} : up F q z q = z := by simp [up]
theorem up_ne {F : Nat → Int} {q i : Nat} {z : Int} (h : i ≠ q) : up F q z i = F i := by simp [up, h]
def dy (μ : Mem) (t : Nat) (a b c d : Int) (F : Nat → Int) : Mem := fun j q =>
  if j = t then (if q = 1 then a else if q = 2 then b else if q = 3 then c else if q = 4 then d else μ j q)
  else if j = t + 1 then (if q < 16 then F q else μ j q) else μ j q
theorem dy_1 {μ : Mem} {t : Nat} {a b c d : Int} {F : Nat → Int} : dy μ t a b c d F t 1 = a := by simp [dy]
theorem dy_2 {μ : Mem} {t : Nat} {a b c d : Int} {F : Nat → Int} : dy μ t a b c d F t 2 = b := by simp [dy]
theorem dy_3 {μ : Mem} {t : Nat} {a b c d : Int} {F : Nat → Int} : dy μ t a b c d F t 3 = c := by simp [dy]
theorem dy_4 {μ : Mem} {t : Nat} {a b c d : Int} {F : Nat → Int} : dy μ t a b c d F t 4 = d := by simp [dy]
theorem dy_f {μ : Mem} {t q : Nat} {a b c d : Int} {F : Nat → Int} (h : q < 16) : dy μ t a b c d F (t + 1) q = F q := by simp [dy, h]
theorem dy_o {μ : Mem} {t j : Nat} {a b c d : Int} {F : Nat → Int} (h : j ≠ t) (h1 : j ≠ t + 1) : dy μ t a b c d F j = μ j := by
  funext q; simp [dy, h, h1]
theorem dy_w1 {μ : Mem} {t : Nat} {a b c d z : Int} {F : Nat → Int} : wr (dy μ t a b c d F) t 1 z = dy μ t z b c d F := by
  funext j q
  by_cases e : j = t
  · subst e
    by_cases e1 : q = 1
    · subst e1; rw [wr_eq, dy_1]
    · rw [wr_ne (by omega)]; simp [dy, e1]
  · rw [wr_ne (by omega)]; simp [dy, e]
theorem dy_w2 {μ : Mem} {t : Nat} {a b c d z : Int} {F : Nat → Int} : wr (dy μ t a b c d F) t 2 z = dy μ t a z c d F := by
  funext j q
  by_cases e : j = t
  · subst e
    by_cases e1 : q = 2
    · subst e1; rw [wr_eq, dy_2]
    · rw [wr_ne (by omega)]; simp [dy, e1]
  · rw [wr_ne (by omega)]; simp [dy, e]
theorem dy_w3 {μ : Mem} {t : Nat} {a b c d z : Int} {F : Nat → Int} : wr (dy μ t a b c d F) t 3 z = dy μ t a b z d F := by
  funext j q
  by_cases e : j = t
  · subst e
    by_cases e1 : q = 3
    · subst e1; rw [wr_eq, dy_3]
    · rw [wr_ne (by omega)]; simp [dy, e1]
  · rw [wr_ne (by omega)]; simp [dy, e]
theorem dy_w4 {μ : Mem} {t : Nat} {a b c d z : Int} {F : Nat → Int} : wr (dy μ t a b c d F) t 4 z = dy μ t a b c z F := by
  funext j q
  by_cases e : j = t
  · subst e
    by_cases e1 : q = 4
    · subst e1; rw [wr_eq, dy_4]
    · rw [wr_ne (by omega)]; simp [dy, e1]
  · rw [wr_ne (by omega)]; simp [dy, e]
theorem dy_wf {μ : Mem} {t q : Nat} {a b c d z : Int} {F : Nat → Int} (h : q < 16) : wr (dy μ t a b c d F) (t + 1) q z = dy μ t a b c d (up F q z) := by
  funext j p
  by_cases e : j = t + 1
  · subst e
    by_cases e1 : p = q
    · subst e1; rw [wr_eq, dy_f h, up_eq]
    · rw [wr_ne (by omega)]; simp [dy, up_ne e1]
  · rw [wr_ne (by omega)]; simp [dy, e]
theorem dy_self (μ : Mem) (t : Nat) : dy μ t (μ t 1) (μ t 2) (μ t 3) (μ t 4) (μ (t + 1)) = μ := by
  funext j q
  unfold dy
  by_cases e : j = t
  · subst e
    rw [if_pos rfl]
    by_cases e1 : q = 1
    · subst e1; simp
    · by_cases e2 : q = 2
      · subst e2; simp
      · by_cases e3 : q = 3
        · subst e3; simp
        · by_cases e4 : q = 4
          · subst e4; simp
          · simp [e1, e2, e3, e4]
  · rw [if_neg e]
    by_cases e1 : j = t + 1
    · subst e1; simp
    · rw [if_neg e1]
theorem dy_cg {μ : Mem} {t : Nat} {a b c d : Int} {F G : Nat → Int} (h : ∀ i, i < 16 → F i = G i) : dy μ t a b c d F = dy μ t a b c d G := by
  funext j q
  unfold dy
  by_cases e : q < 16
  · rw [h q e]
  · simp [e]
/-- what the class keeps of a year -/
def YX (μ : Mem) (C : Nat) (K : Nat → Int) : Prop := C ≤ 5 ∧ μ 6 6 = (C : Int) ∧ ∀ k, k < 6 → μ 8 k = (msk C (fun i => isK k (K i)) : Nat)
theorem YX.dy {μ : Mem} {C t : Nat} {K : Nat → Int} (h : YX μ C K) (ht : 13 ≤ t) {a b c d : Int} {F : Nat → Int} : YX (dy μ t a b c d F) C K := by
  obtain ⟨h1, h2, h3⟩ := h
  refine ⟨h1, ?_, fun k hk => ?_⟩
  · rw [dy_o (by omega) (by omega)]; exact h2
  · rw [dy_o (by omega) (by omega)]; exact h3 k hk
/-- the bounds of the facts that an hour looks at -/
def FB (F : Nat → Int) : Prop := (0 ≤ F 0 ∧ F 0 ≤ 1000) ∧ (0 ≤ F 1 ∧ F 1 ≤ 100000000) ∧ (∀ i : Nat, i < 5 → (0 ≤ F (2 + i) ∧ F (2 + i) ≤ 9) ∧ (0 ≤ F (7 + i) ∧ F (7 + i) ≤ 9)) ∧ ∀ v : Nat, v < 4 → 0 ≤ F (12 + v) ∧ F (12 + v) ≤ 100000000
def abl (K F : Nat → Int) (i : Nat) : Bool := decide (F 0 < 48) && (decide (1 ≤ F (2 + i)) && decide (1 ≤ F (7 + i))) && !(decide (24 ≤ F 0) && isK 3 (K i))
def frl (K F : Nat → Int) (i : Nat) : Bool := decide (F 0 < 48) && decide (F (2 + i) = 1) && !(decide (F 0 / 6 % 2 = 1) && isK 1 (K i))
theorem x_down {μ : Mem} {t : Nat} {a b c d : Int} {F : Nat → Int} (h : 0 ≤ F 0 ∧ F 0 ≤ 1000) : f_X1_isDown (dy μ t a b c d F) t = some (if F 0 < 48 then 0 else 1, dy μ t a b c d F) := by
  obtain ⟨h1, h2⟩ := h
  simp -implicitDefEqProofs (disch := omega) only [f_X1_isDown, ck_ok, vl, w32_id, Int.toNat_zero, dy_f]
theorem x_even {μ : Mem} {t : Nat} {a b c d : Int} {F : Nat → Int} (h : 0 ≤ F 0 ∧ F 0 ≤ 1000) : f_X1_isAtEvenPlace (dy μ t a b c d F) t = some (if F 0 / 6 % 2 = 1 then 0 else 1, dy μ t a b c d F) := by
  obtain ⟨h1, h2⟩ := h
  simp -implicitDefEqProofs (disch := omega) only [f_X1_isAtEvenPlace, ck_ok, ckz_ok, vl, w32_id, Int.toNat_zero, dy_f, zdiv_pos, zrem_pos]
  by_cases e : F 0 / 6 % 2 = 1
  · rw [if_pos e, if_neg (by omega)]
  · rw [if_neg e, if_pos (by omega)]
theorem x_look_loop {K' : Mem → Option (Unit × Mem)} {μ : Mem} {t C : Nat} {K F : Nat → Int} {c d : Int} (ht : 13 ≤ t) (hY : YX μ C K) (hF : FB F) : ∀ (m u i : Nat), i + m = C → m < u →
    f_X1_look_L20 K' t u (i : Int) (dy μ t (msk i (fun j => decide (1 ≤ F (2 + j)) && decide (1 ≤ F (7 + j))) : Nat) (msk i (fun j => decide (F (2 + j) = 1)) : Nat) c d F)
    = K' (dy μ t (msk C (fun j => decide (1 ≤ F (2 + j)) && decide (1 ≤ F (7 + j))) : Nat) (msk C (fun j => decide (F (2 + j) = 1)) : Nat) c d F) := by
  obtain ⟨hC, h6, -⟩ := hY
  intro m
  induction m with
  | zero =>
    intro u i hi hu
    obtain ⟨u, rfl⟩ : ∃ v, u = v + 1 := ⟨u - 1, by omega⟩
    have e6 : ∀ a b : Int, dy μ t a b c d F 6 = μ 6 := fun a b => dy_o (by omega) (by omega)
    simp -implicitDefEqProofs (disch := omega) only [f_X1_look_L20, w32_nat, e6, h6]
    rw [if_neg (by omega), show i = C by omega]
  | succ m ih =>
    intro u i hi hu
    obtain ⟨u, rfl⟩ : ∃ v, u = v + 1 := ⟨u - 1, by omega⟩
    have e6 : ∀ a b : Int, dy μ t a b c d F 6 = μ 6 := fun a b => dy_o (by omega) (by omega)
    have f1 : ∀ a b : Int, dy μ t a b c d F (t + 1) (2 + (i : Int)).toNat = F (2 + i) := fun a b => by
      rw [show (2 + (i : Int)).toNat = 2 + i by omega, dy_f (by omega)]
    have f2 : ∀ a b : Int, dy μ t a b c d F (t + 1) (7 + (i : Int)).toNat = F (7 + i) := fun a b => by
      rw [show (7 + (i : Int)).toNat = 7 + i by omega, dy_f (by omega)]
    obtain ⟨⟨b1, b2⟩, b3, b4⟩ := hF.2.2.1 i (by omega)
    have hi' := ih u (i + 1) (by omega) (by omega)
    rw [show ((i + 1 : Nat) : Int) = (i : Int) + 1 by omega] at hi'
    simp -implicitDefEqProofs (disch := omega) only [f_X1_look_L20, w32_nat, e6, h6, ck_ok, w32_id, f1, f2, vl, jn, vm, dy_w1, dy_w2, dy_1, dy_2]
    rw [if_pos (by omega)]
    by_cases c1 : F (2 + i) < 1
    · rw [if_pos c1, if_neg (by omega), ← hi', msk_no (p := fun j => decide (1 ≤ F (2 + j)) && decide (1 ≤ F (7 + j))) (by simp; omega), msk_no (p := fun j => decide (F (2 + j) = 1)) (by simp; omega)]
    · rw [if_neg c1]
      by_cases c2 : F (7 + i) < 1
      · rw [if_pos c2]
        by_cases c3 : F (2 + i) = 1
        · rw [if_pos c3, ← hi', msk_no (p := fun j => decide (1 ≤ F (2 + j)) && decide (1 ≤ F (7 + j))) (by simp; omega), zor_m (by omega) (fun j => decide (F (2 + j) = 1)) (by simp [c3])]
        · rw [if_neg c3, ← hi', msk_no (p := fun j => decide (1 ≤ F (2 + j)) && decide (1 ≤ F (7 + j))) (by simp; omega), msk_no (p := fun j => decide (F (2 + j) = 1)) (by simp [c3])]
      · rw [if_neg c2]
        by_cases c3 : F (2 + i) = 1
        · rw [if_pos c3, ← hi', zor_m (by omega) (fun j => decide (1 ≤ F (2 + j)) && decide (1 ≤ F (7 + j))) (by simp; omega), zor_m (by omega) (fun j => decide (F (2 + j) = 1)) (by simp [c3])]
        · rw [if_neg c3, ← hi', zor_m (by omega) (fun j => decide (1 ≤ F (2 + j)) && decide (1 ≤ F (7 + j))) (by simp; omega), msk_no (p := fun j => decide (F (2 + j) = 1)) (by simp [c3])]
theorem msk_0 {n : Nat} {p : Nat → Bool} (h : ∀ i, i < n → p i = false) : msk n p = 0 := by
  induction n with
  | zero => rfl
  | succ n ih => rw [msk, ih (fun i hi => h i (by omega)), h n (by omega)]; simp
theorem x_look {μ : Mem} {t C : Nat} {K F : Nat → Int} {a b c d : Int} (ht : 13 ≤ t) (hY : YX μ C K) (hF : FB F) : f_X1_look (dy μ t a b c d F) t = some ((), dy μ t (msk C (abl K F) : Nat) (msk C (frl K F) : Nat) c d F) := by
  have hl := fun K' => x_look_loop (K' := K') (μ := μ) (c := c) (d := d) ht hY hF C 100000 0 (by omega) (by have := hY.1; omega)
  simp only [msk, Int.natCast_zero] at hl
  have hd := fun a b => x_down (μ := μ) (t := t) (a := a) (b := b) (c := c) (d := d) hF.1
  have q1 := hF.1.1
  have q2 := hF.1.2
  simp -implicitDefEqProofs (disch := omega) only [f_X1_look, vm, dy_w1, dy_w2, hd, bd_some]
  by_cases c0 : F 0 < 48
  · rw [if_pos c0, if_pos w0, hl]
    have e8 : ∀ a b : Int, dy μ t a b c d F 8 = μ 8 := fun a b => dy_o (by omega) (by omega)
    have he := fun a b => x_even (μ := μ) (t := t) (a := a) (b := b) (c := c) (d := d) hF.1
    simp -implicitDefEqProofs (disch := omega) only [ck_ok, jn, w32_id, Int.toNat_zero, dy_f, he, bd_some, e8, dy_1, dy_2, dy_w1, dy_w2, vm, hY.2.2 3 (by omega), hY.2.2 1 (by omega), show (3 : Int).toNat = 3 from rfl, show (1 : Int).toNat = 1 from rfl, zandn_m hY.1]
    by_cases c1 : F 0 < 24
    · rw [if_pos c1]
      by_cases c2 : F 0 / 6 % 2 = 1
      · rw [if_pos c2, if_pos rfl]
        congr 3
        · congr 2; funext i; simp [abl, c0, show ¬ 24 ≤ F 0 by omega]
        · congr 2; funext i; simp [frl, c0, c2]
      · rw [if_neg c2, if_neg (show ¬ ((1 : Int) = 0) by omega)]
        congr 3
        · congr 2; funext i; simp [abl, c0, show ¬ 24 ≤ F 0 by omega]
        · congr 2; funext i; simp [frl, c0, c2]
    · rw [if_neg c1]
      by_cases c2 : F 0 / 6 % 2 = 1
      · rw [if_pos c2, if_pos rfl]
        congr 3
        · congr 2; funext i; simp [abl, c0, show 24 ≤ F 0 by omega]
        · congr 2; funext i; simp [frl, c0, c2]
      · rw [if_neg c2, if_neg (show ¬ ((1 : Int) = 0) by omega)]
        congr 3
        · congr 2; funext i; simp [abl, c0, show 24 ≤ F 0 by omega]
        · congr 2; funext i; simp [frl, c0, c2]
  · rw [if_neg c0, if_neg w1ne, msk_0 (p := abl K F) (fun i _ => by simp [abl, c0]), msk_0 (p := frl K F) (fun i _ => by simp [frl, c0])]
    rfl
