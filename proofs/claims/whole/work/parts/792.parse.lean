/-! ===== a year's text, read by both ===== -/
theorem w32_wrap {a : Int} (h1 : -4294967296 ≤ a) (h2 : a < -2147483648) : w32 a = a + 4294967296 := by
  have e : w32 a = a.bmod 4294967296 := Int32.toInt_ofInt
  rw [e, Int.bmod_def]
  split <;> omega
def kz (c : Int) : Int := if c = 99 then 0 else if c = 104 then 1 else if c = 115 then 2 else if c = 110 then 3 else if c = 108 then 4 else if c = 103 then 5 else -9
theorem kz_b (c : Int) : kz c = -9 ∨ (0 ≤ kz c ∧ kz c ≤ 5) := by
  unfold kz
  repeat' split
  all_goals omega
def fgr (B : Nat → Int) (S i : Nat) : Int := if i < S then (if B i - 48 < 0 then -9 else if 9 < B i - 48 then -9 else B i - 48) else -9
theorem fgr_b (B : Nat → Int) (S i : Nat) : fgr B S i = -9 ∨ (0 ≤ fgr B S i ∧ fgr B S i ≤ 9) := by
  unfold fgr
  repeat' split
  all_goals omega
/-- the fault of an item that begins at a place -/
def sF (B : Nat → Int) (S a n v : Nat) : Option Nat :=
  if kz (B a) = -9 then
    if (B a = 118 ∨ B a = 100) ∧ 0 < n ∧ v < 4 then
      if 0 ≤ fgr B S (a + 1) ∧ fgr B S (a + 1) ≤ 7 then
        if fgr B S (a + 1) ≤ fgr B S (a + 2) ∧ fgr B S (a + 2) ≤ 7 then
          if 1 ≤ fgr B S (a + 3) then none else some (a + 3)
        else some (a + 2)
      else some (a + 1)
    else some a
  else if n < 5 ∧ v = 0 then
    if fgr B S (a + 1) = -9 then some (a + 1) else if fgr B S (a + 2) = -9 then some (a + 2) else none
  else some a
def upC (B : Nat → Int) (S a n : Nat) (c : Nat → Int) : Nat → Int := up (up (up c (3 * n) (kz (B a))) (3 * n + 1) (fgr B S (a + 1))) (3 * n + 2) (fgr B S (a + 2))
def upW (B : Nat → Int) (S a v : Nat) (w : Nat → Int) : Nat → Int := up (up (up (up w (4 * v) (if B a = 118 then 1 else 0)) (4 * v + 1) (fgr B S (a + 1))) (4 * v + 2) (fgr B S (a + 2))) (4 * v + 3) (fgr B S (a + 3))
/-- what is read from a place on: the fault, how many capes, valleys, their figures -/
def pa (B : Nat → Int) (S : Nat) : Nat → Nat → Nat → Nat → (Nat → Int) → (Nat → Int) → Option Nat × Nat × Nat × (Nat → Int) × (Nat → Int)
  | 0, _, n, v, c, w => (none, n, v, c, w)
  | f + 1, a, n, v, c, w =>
    if a < S then
      if B a = 32 then pa B S f (a + 1) n v c w
      else match sF B S a n v with
        | some p => (some p, n, v, c, w)
        | none => if kz (B a) = -9 then pa B S f (a + 4) n (v + 1) c (upW B S a v w) else pa B S f (a + 3) (n + 1) v (upC B S a n c) w
    else (none, n, v, c, w)
theorem fgr_S {B : Nat → Int} {S i : Nat} (h : fgr B S i ≠ -9) : i < S := by
  unfold fgr at h
  by_cases c : i < S
  · exact c
  · rw [if_neg c] at h; exact absurd rfl h
/-! the class -/
theorem x_kind_step {μ : Mem} {c : Int} (hc : inR c) (u i : Nat) (hi : i < 6) : f_X4_kindOf_L2 c (u + 1) (i : Int) μ = if letZ i = c then some ((i : Int), μ) else f_X4_kindOf_L2 c u ((i : Int) + 1) μ := by
  have hl : ∀ j : Fin 6, w32 (letZ (j : Nat)) = letZ (j : Nat) := by decide +kernel
  have := hl ⟨i, hi⟩
  dsimp only at this
  rw [f_X4_kindOf_L2, w32_nat (by omega), w32_id (a := 6) (by omega) (by omega), if_pos (by omega), ck_ok (by omega) (by omega) (by omega), Int.toNat_natCast, this, hc.w]
theorem x_kind {μ : Mem} {c : Int} (hc : inR c) : f_X4_kindOf μ c = some (kz c, μ) := by
  have s := fun u i hi => x_kind_step (μ := μ) hc u i hi
  have e6 : f_X4_kindOf_L2 c (99993 + 1) 6 μ = some (-9, μ) := by
    rw [f_X4_kindOf_L2, if_neg (by decide +kernel)]
  have h5 := s 99994 5 (by omega)
  have h4 := s 99995 4 (by omega)
  have h3 := s 99996 3 (by omega)
  have h2 := s 99997 2 (by omega)
  have h1 := s 99998 1 (by omega)
  have h0 := s 99999 0 (by omega)
  rw [show ((5 : Nat) : Int) = 5 from rfl, show letZ 5 = 103 from rfl, show (5 : Int) + 1 = 6 from rfl] at h5
  rw [show ((4 : Nat) : Int) = 4 from rfl, show letZ 4 = 108 from rfl, show (4 : Int) + 1 = 5 from rfl] at h4
  rw [show ((3 : Nat) : Int) = 3 from rfl, show letZ 3 = 110 from rfl, show (3 : Int) + 1 = 4 from rfl] at h3
  rw [show ((2 : Nat) : Int) = 2 from rfl, show letZ 2 = 115 from rfl, show (2 : Int) + 1 = 3 from rfl] at h2
  rw [show ((1 : Nat) : Int) = 1 from rfl, show letZ 1 = 104 from rfl, show (1 : Int) + 1 = 2 from rfl] at h1
  rw [Int.natCast_zero, show letZ 0 = 99 from rfl, show (0 : Int) + 1 = 1 from rfl] at h0
  rw [f_X4_kindOf, show (100000 : Nat) = 99999 + 1 from rfl, h0, show (99999 : Nat) = 99998 + 1 from rfl, h1, show (99998 : Nat) = 99997 + 1 from rfl, h2, show (99997 : Nat) = 99996 + 1 from rfl, h3, show (99996 : Nat) = 99995 + 1 from rfl, h4, show (99995 : Nat) = 99994 + 1 from rfl, h5, show (99994 : Nat) = 99993 + 1 from rfl, e6]
  unfold kz
  by_cases c0 : c = 99
  · subst c0; rfl
  rw [if_neg (fun z => c0 z.symm), if_neg c0]
  by_cases c1 : c = 104
  · subst c1; rfl
  rw [if_neg (fun z => c1 z.symm), if_neg c1]
  by_cases c2 : c = 115
  · subst c2; rfl
  rw [if_neg (fun z => c2 z.symm), if_neg c2]
  by_cases c3 : c = 110
  · subst c3; rfl
  rw [if_neg (fun z => c3 z.symm), if_neg c3]
  by_cases c4 : c = 108
  · subst c4; rfl
  rw [if_neg (fun z => c4 z.symm), if_neg c4]
  by_cases c5 : c = 103
  · subst c5; rfl
  rw [if_neg (fun z => c5 z.symm), if_neg c5]
def TX (μ : Mem) (q S : Nat) (B : Nat → Int) : Prop := 37 ≤ q ∧ S ≤ 60 ∧ μ q 1 = (S : Int) ∧ ∀ i : Nat, i < S → μ (q + 1) i = B i ∧ inR (B i)
theorem TX.fr {μ μ' : Mem} {q S : Nat} {B : Nat → Int} (h : TX μ q S B) (e : Fr [3, 4, 5] μ μ') : TX μ' q S B := by
  obtain ⟨h1, h2, h3, h4⟩ := h
  refine ⟨h1, h2, ?_, fun i hi => ?_⟩
  · rw [e q (by simp; omega)]; exact h3
  · rw [e (q + 1) (by simp; omega)]; exact h4 i hi
theorem x_fig {μ : Mem} {q S p : Nat} {B : Nat → Int} (h : TX μ q S B) (hp : p < 100) : f_X4_figureAt μ q (p : Int) = some (fgr B S p, μ) := by
  obtain ⟨h1, h2, h3, h4⟩ := h
  rw [f_X4_figureAt, h3, w32_nat (i := p) (by omega), w32_nat (i := S) (by omega)]
  unfold fgr
  by_cases c : p < S
  · obtain ⟨e1, e2, e3⟩ := h4 p c
    rw [if_pos (by omega), if_pos c, ck_ok (by omega) (by omega) (by omega), Int.toNat_natCast, e1, vl, vl, w32_id (a := 9) (by omega) (by omega)]
    congr 2
    by_cases c1 : B p - 48 < -2147483648
    · rw [w32_wrap (by omega) c1, if_neg (by omega), if_pos (by omega), if_pos (by omega)]
    · rw [w32_id (a := B p - 48) (by omega) (by omega)]
  · rw [if_neg (by omega), if_neg c]
def MX (μ : Mem) (n v : Nat) (c w : Nat → Int) : Prop := μ 3 2 = (n : Int) ∧ μ 3 3 = (v : Int) ∧ (∀ q : Nat, q < 3 * n → μ 4 q = c q) ∧ ∀ q : Nat, q < 4 * v → μ 5 q = w q
theorem x_fcape {μ : Mem} {q S a n v : Nat} {B c w : Nat → Int} (h : TX μ q S B) (hm : MX μ n v c w) (hn : n ≤ 5) (hv : v ≤ 4) (ha : a < S) (hk : kz (B a) ≠ -9) :
    ∃ μ' : Mem, f_X4_faultInCape μ q (a : Int) = some (fsz (sF B S a n v) (-9), μ') ∧ Fr [3, 4, 5] μ μ' ∧ (sF B S a n v = none → MX μ' (n + 1) v (upC B S a n c) w) := by
  obtain ⟨m1, m2, m3, m4⟩ := hm
  have hS := h.2.1
  unfold sF
  rw [if_neg hk, f_X4_faultInCape, m1, m2, w32_nat (i := n) (by omega), w32_nat (i := v) (by omega), w32_id (a := 5) (by omega) (by omega)]
  by_cases c1 : n < 5
  · by_cases c2 : v = 0
    · obtain ⟨b1, b2⟩ := h.2.2.2 a ha
      have g1 := fgr_b B S (a + 1)
      have g2 := fgr_b B S (a + 2)
      rw [if_pos (by omega), if_neg (by omega), vl, ck_ok (by omega) (by omega) (by omega), w32_nat (i := a) (by omega), Int.toNat_natCast, b1, x_kind b2, bd_some, ck_ok (by omega) (by omega) (by omega), vm, w32_id (a := (n : Int) * 3) (by omega) (by omega), show ((n : Int) * 3).toNat = 3 * n by omega, show (100000 : Nat) = 99997 + 1 + 1 + 1 from rfl]
      have f1 : Fr [3, 4, 5] μ (wr μ 4 (3 * n) (kz (B a))) := Fr.rf.wr (by simp)
      rw [f_X4_faultInCape_L42, w32_id (a := 1) (by omega) (by omega), w32_id (a := 3) (by omega) (by omega), if_pos (by omega), show (a : Int) + 1 = ((a + 1 : Nat) : Int) by omega, x_fig (h.fr f1) (by omega), bd_some, w32_id (a := fgr B S (a + 1)) (by omega) (by omega), wm9, if_pos (show n < 5 ∧ v = 0 from ⟨c1, c2⟩)]
      by_cases c3 : fgr B S (a + 1) = -9
      · rw [if_pos c3, if_pos c3]
        exact ⟨_, rfl, f1, fun hh => by simp at hh⟩
      · have f2 : Fr [3, 4, 5] μ (wr (wr μ 4 (3 * n) (kz (B a))) 4 (3 * n + 1) (fgr B S (a + 1))) := f1.wr (by simp)
        rw [if_neg c3, if_neg c3, ck_ok (by omega) (by omega) (by omega), vm, w32_id (a := (n : Int) * 3 + 1) (by omega) (by omega), show ((n : Int) * 3 + 1).toNat = 3 * n + 1 by omega]
        rw [f_X4_faultInCape_L42, show (1 : Int) + 1 = 2 from rfl, w32_id (a := 2) (by omega) (by omega), w32_id (a := 3) (by omega) (by omega), if_pos (by omega), show (a : Int) + 2 = ((a + 2 : Nat) : Int) by omega, x_fig (h.fr f2) (by omega), bd_some, w32_id (a := fgr B S (a + 2)) (by omega) (by omega), wm9]
        by_cases c4 : fgr B S (a + 2) = -9
        · rw [if_pos c4, if_pos c4]
          exact ⟨_, rfl, f2, fun hh => by simp at hh⟩
        · have f3 : Fr [3, 4, 5] μ (wr (wr (wr μ 4 (3 * n) (kz (B a))) 4 (3 * n + 1) (fgr B S (a + 1))) 4 (3 * n + 2) (fgr B S (a + 2))) := f2.wr (by simp)
          rw [if_neg c4, if_neg c4, ck_ok (by omega) (by omega) (by omega), vm, w32_id (a := (n : Int) * 3 + 2) (by omega) (by omega), show ((n : Int) * 3 + 2).toNat = 3 * n + 2 by omega]
          rw [f_X4_faultInCape_L42, show (2 : Int) + 1 = 3 from rfl, if_neg (by omega), vm, wr_cell (j := 3) (by omega), wr_cell (j := 3) (by omega), wr_cell (j := 3) (by omega), m1]
          refine ⟨_, rfl, f3.wr (by simp), fun _ => ⟨by rw [wr_eq]; omega, by rw [wr_ne (by omega), wr_cell (by omega), wr_cell (by omega), wr_cell (by omega)]; exact m2, fun q' hq => ?_, fun q' hq => by rw [wr_cell (by omega), wr_cell (by omega), wr_cell (by omega), wr_cell (by omega)]; exact m4 q' hq⟩⟩
          rw [wr_cell (j := 4) (by omega)]
          unfold upC
          by_cases d2 : q' = 3 * n + 2
          · subst d2; rw [wr_eq, up_eq]
          · rw [wr_ne (by omega), up_ne d2]
            by_cases d1 : q' = 3 * n + 1
            · subst d1; rw [wr_eq, up_eq]
            · rw [wr_ne (by omega), up_ne d1]
              by_cases d0 : q' = 3 * n
              · subst d0; rw [wr_eq, up_eq]
              · rw [wr_ne (by omega), up_ne d0]; exact m3 q' (by omega)
    · rw [if_pos (by omega), if_pos (by omega), if_neg (show ¬ (n < 5 ∧ v = 0) from fun z => c2 z.2)]
      exact ⟨μ, rfl, Fr.rf, fun hh => by simp at hh⟩
  · rw [if_neg (by omega), if_neg (show ¬ (n < 5 ∧ v = 0) from fun z => c1 z.1)]
    exact ⟨μ, rfl, Fr.rf, fun hh => by simp at hh⟩
theorem x_fval {μ : Mem} {q S a n v : Nat} {B c w : Nat → Int} (h : TX μ q S B) (hm : MX μ n v c w) (hn : n ≤ 5) (hv : v ≤ 4) (ha : a < S) (hk : kz (B a) = -9) :
    ∃ μ' : Mem, f_X4_faultInValley μ q (a : Int) = some (fsz (sF B S a n v) (-9), μ') ∧ Fr [3, 4, 5] μ μ' ∧ (sF B S a n v = none → MX μ' n (v + 1) c (upW B S a v w)) := by
  obtain ⟨m1, m2, m3, m4⟩ := hm
  have hS := h.2.1
  obtain ⟨b1, b2⟩ := h.2.2.2 a ha
  unfold sF
  rw [if_pos hk, f_X4_faultInValley, ck_ok (by omega) (by omega) (by omega), w32_nat (i := a) (by omega), Int.toNat_natCast, b1, vl, jn, b2.w, w32_id (a := 118) (by omega) (by omega), w32_id (a := 100) (by omega) (by omega)]
  dsimp only
  rw [m1, m2, w32_nat (i := n) (by omega), w32_nat (i := v) (by omega), w32_id (a := 4) (by omega) (by omega)]
  by_cases c0 : B a = 118 ∨ B a = 100
  · have e0 : ∀ (F G : Option (Int × Mem)), (if B a = 118 then F else if B a = 100 then F else G) = F := fun F G => by
      by_cases d : B a = 118
      · rw [if_pos d]
      · rw [if_neg d, if_pos (by omega)]
    rw [e0]
    by_cases c1 : 0 < n
    · by_cases c2 : v < 4
      · have g1 := fgr_b B S (a + 1)
        have g2 := fgr_b B S (a + 2)
        have g3 := fgr_b B S (a + 3)
        rw [if_neg (by omega), if_pos (by omega), vl, vl, ck_ok (by omega) (by omega) (by omega), vm, w32_id (a := (v : Int) * 4) (by omega) (by omega), show ((v : Int) * 4).toNat = 4 * v by omega, show (100000 : Nat) = 99996 + 1 + 1 + 1 + 1 from rfl]
        have f1 : Fr [3, 4, 5] μ (wr μ 5 (4 * v) (if B a = 118 then 1 else 0)) := Fr.rf.wr (by simp)
        rw [f_X4_faultInValley_L67, if_pos (by decide +kernel), show (a : Int) + 1 = ((a + 1 : Nat) : Int) by omega, x_fig (h.fr f1) (by omega), bd_some, f_X4_leastFigure, if_pos rfl, bd_some, w0, w32_id (a := fgr B S (a + 1)) (by omega) (by omega), show (if w32 1 = w32 3 then (9 : Int) else 7) = 7 by decide +kernel, vl, w32_id (a := 7) (by omega) (by omega), if_pos (show (B a = 118 ∨ B a = 100) ∧ 0 < n ∧ v < 4 from ⟨c0, c1, c2⟩)]
        by_cases c3 : 0 ≤ fgr B S (a + 1) ∧ fgr B S (a + 1) ≤ 7
        · have f2 : Fr [3, 4, 5] μ (wr (wr μ 5 (4 * v) (if B a = 118 then 1 else 0)) 5 (4 * v + 1) (fgr B S (a + 1))) := f1.wr (by simp)
          rw [if_pos c3, if_neg (by omega), if_neg (by omega), ck_ok (by omega) (by omega) (by omega), vm, w32_id (a := (v : Int) * 4 + 1) (by omega) (by omega), show ((v : Int) * 4 + 1).toNat = 4 * v + 1 by omega]
          rw [f_X4_faultInValley_L67, show (1 : Int) + 1 = 2 from rfl, if_pos (by decide +kernel), show (a : Int) + 2 = ((a + 2 : Nat) : Int) by omega, x_fig (h.fr f2) (by omega), bd_some, f_X4_leastFigure, if_neg (by decide +kernel), if_pos rfl, ck_ok (by omega) (by omega) (by omega), bd_some, w32_id (a := (v : Int) * 4 + 1) (by omega) (by omega), show ((v : Int) * 4 + 1).toNat = 4 * v + 1 by omega, wr_eq, w32_id (a := fgr B S (a + 1)) (by omega) (by omega), w32_id (a := fgr B S (a + 2)) (by omega) (by omega), show (if w32 2 = w32 3 then (9 : Int) else 7) = 7 by decide +kernel, vl, w32_id (a := 7) (by omega) (by omega)]
          by_cases c4 : fgr B S (a + 1) ≤ fgr B S (a + 2) ∧ fgr B S (a + 2) ≤ 7
          · have f3 : Fr [3, 4, 5] μ (wr (wr (wr μ 5 (4 * v) (if B a = 118 then 1 else 0)) 5 (4 * v + 1) (fgr B S (a + 1))) 5 (4 * v + 2) (fgr B S (a + 2))) := f2.wr (by simp)
            rw [if_pos c4, if_neg (by omega), if_neg (by omega), ck_ok (by omega) (by omega) (by omega), vm, w32_id (a := (v : Int) * 4 + 2) (by omega) (by omega), show ((v : Int) * 4 + 2).toNat = 4 * v + 2 by omega]
            rw [f_X4_faultInValley_L67, show (2 : Int) + 1 = 3 from rfl, if_pos (by decide +kernel), show (a : Int) + 3 = ((a + 3 : Nat) : Int) by omega, x_fig (h.fr f3) (by omega), bd_some, f_X4_leastFigure, if_neg (by decide +kernel), if_neg (by decide +kernel), bd_some, w32_id (a := fgr B S (a + 3)) (by omega) (by omega), w32_id (a := 1) (by omega) (by omega), show (if w32 3 = w32 3 then (9 : Int) else 7) = 9 by decide +kernel, vl, w32_id (a := 9) (by omega) (by omega)]
            by_cases c5 : 1 ≤ fgr B S (a + 3)
            · have f4 : Fr [3, 4, 5] μ (wr (wr (wr (wr μ 5 (4 * v) (if B a = 118 then 1 else 0)) 5 (4 * v + 1) (fgr B S (a + 1))) 5 (4 * v + 2) (fgr B S (a + 2))) 5 (4 * v + 3) (fgr B S (a + 3))) := f3.wr (by simp)
              rw [if_pos c5, if_neg (by omega), if_neg (by omega), ck_ok (by omega) (by omega) (by omega), vm, w32_id (a := (v : Int) * 4 + 3) (by omega) (by omega), show ((v : Int) * 4 + 3).toNat = 4 * v + 3 by omega]
              rw [f_X4_faultInValley_L67, show (3 : Int) + 1 = 4 from rfl, if_neg (by decide +kernel), vm, wr_cell (j := 3) (by omega), wr_cell (j := 3) (by omega), wr_cell (j := 3) (by omega), wr_cell (j := 3) (by omega), m2]
              refine ⟨_, rfl, f4.wr (by simp), fun _ => ⟨by rw [wr_ne (by omega), wr_cell (by omega), wr_cell (by omega), wr_cell (by omega), wr_cell (by omega)]; exact m1, by rw [wr_eq]; omega, fun q' hq => by rw [wr_cell (by omega), wr_cell (by omega), wr_cell (by omega), wr_cell (by omega), wr_cell (by omega)]; exact m3 q' hq, fun q' hq => ?_⟩⟩
              rw [wr_cell (j := 5) (by omega)]
              unfold upW
              by_cases d3 : q' = 4 * v + 3
              · subst d3; rw [wr_eq, up_eq]
              · rw [wr_ne (by omega), up_ne d3]
                by_cases d2 : q' = 4 * v + 2
                · subst d2; rw [wr_eq, up_eq]
                · rw [wr_ne (by omega), up_ne d2]
                  by_cases d1 : q' = 4 * v + 1
                  · subst d1; rw [wr_eq, up_eq]
                  · rw [wr_ne (by omega), up_ne d1]
                    by_cases d0 : q' = 4 * v
                    · subst d0; rw [wr_eq, up_eq]
                    · rw [wr_ne (by omega), up_ne d0]; exact m4 q' (by omega)
            · rw [if_neg c5, if_pos (by omega)]
              exact ⟨_, rfl, f3, fun hh => by simp at hh⟩
          · rw [if_neg c4]
            by_cases c6 : fgr B S (a + 2) < fgr B S (a + 1)
            · rw [if_pos c6]
              exact ⟨_, rfl, f2, fun hh => by simp at hh⟩
            · rw [if_neg c6, if_pos (by omega)]
              exact ⟨_, rfl, f2, fun hh => by simp at hh⟩
        · rw [if_neg c3]
          by_cases c6 : fgr B S (a + 1) < 0
          · rw [if_pos c6]
            exact ⟨_, rfl, f1, fun hh => by simp at hh⟩
          · rw [if_neg c6, if_pos (by omega)]
            exact ⟨_, rfl, f1, fun hh => by simp at hh⟩
      · rw [if_neg (by omega), if_neg (by omega), if_neg (show ¬ ((B a = 118 ∨ B a = 100) ∧ 0 < n ∧ v < 4) from fun z => c2 z.2.2)]
        exact ⟨μ, rfl, Fr.rf, fun hh => by simp at hh⟩
    · rw [if_pos (by omega), if_neg (show ¬ ((B a = 118 ∨ B a = 100) ∧ 0 < n ∧ v < 4) from fun z => c1 z.2.1)]
      exact ⟨μ, rfl, Fr.rf, fun hh => by simp at hh⟩
  · rw [if_neg (fun z => c0 (Or.inl z)), if_neg (fun z => c0 (Or.inr z)), if_neg (show ¬ ((B a = 118 ∨ B a = 100) ∧ 0 < n ∧ v < 4) from fun z => c0 z.1)]
    exact ⟨μ, rfl, Fr.rf, fun hh => by simp at hh⟩
theorem sF_b {B : Nat → Int} {S a n v p : Nat} (h : sF B S a n v = some p) : p ≤ a + 3 := by
  unfold sF at h
  repeat' split at h
  all_goals first | (have := Option.some.inj h; omega) | (simp at h)
/-- an item that is no fault ends within the text; there is room for it -/
theorem sF_n {B : Nat → Int} {S a n v : Nat} (h : sF B S a n v = none) : (kz (B a) = -9 → a + 4 ≤ S ∧ v < 4 ∧ (0 ≤ fgr B S (a + 1) ∧ fgr B S (a + 1) ≤ 7) ∧ (0 ≤ fgr B S (a + 2) ∧ fgr B S (a + 2) ≤ 7) ∧ (0 ≤ fgr B S (a + 3) ∧ fgr B S (a + 3) ≤ 9)) ∧ (kz (B a) ≠ -9 → a + 3 ≤ S ∧ n < 5 ∧ (0 ≤ fgr B S (a + 1) ∧ fgr B S (a + 1) ≤ 9) ∧ (0 ≤ fgr B S (a + 2) ∧ fgr B S (a + 2) ≤ 9)) := by
  have g1 := fgr_b B S (a + 1)
  have g2 := fgr_b B S (a + 2)
  have g3 := fgr_b B S (a + 3)
  unfold sF at h
  refine ⟨fun hk => ?_, fun hk => ?_⟩
  · rw [if_pos hk] at h
    by_cases c0 : (B a = 118 ∨ B a = 100) ∧ 0 < n ∧ v < 4
    · rw [if_pos c0] at h
      by_cases c1 : 0 ≤ fgr B S (a + 1) ∧ fgr B S (a + 1) ≤ 7
      · rw [if_pos c1] at h
        by_cases c2 : fgr B S (a + 1) ≤ fgr B S (a + 2) ∧ fgr B S (a + 2) ≤ 7
        · rw [if_pos c2] at h
          by_cases c3 : 1 ≤ fgr B S (a + 3)
          · have := fgr_S (B := B) (S := S) (i := a + 3) (by omega)
            exact ⟨by omega, c0.2.2, c1, by omega, by omega⟩
          · rw [if_neg c3] at h; simp at h
        · rw [if_neg c2] at h; simp at h
      · rw [if_neg c1] at h; simp at h
    · rw [if_neg c0] at h; simp at h
  · rw [if_neg hk] at h
    by_cases c0 : n < 5 ∧ v = 0
    · rw [if_pos c0] at h
      by_cases c1 : fgr B S (a + 1) = -9
      · rw [if_pos c1] at h; simp at h
      · rw [if_neg c1] at h
        by_cases c2 : fgr B S (a + 2) = -9
        · rw [if_pos c2] at h; simp at h
        · have := fgr_S (B := B) (S := S) (i := a + 2) c2
          exact ⟨by omega, c0.1, by omega, by omega⟩
    · rw [if_neg c0] at h; simp at h
theorem x_read_loop {Kc : Mem → Option (Int × Mem)} {μ : Mem} {q S : Nat} {B : Nat → Int} (h : TX μ q S B) : ∀ (f a n v u : Nat) (c w : Nat → Int) (μ' : Mem), a ≤ S → S < f + a → f < u → n ≤ 5 → v ≤ 4 → Fr [3, 4, 5] μ μ' → MX μ' n v c w →
    ∃ μ'' : Mem, f_X4_faultIn_L12 Kc q u (a : Int) μ' = (match (pa B S f a n v c w).1 with | some p => some ((p : Int), μ'') | none => Kc μ'') ∧ Fr [3, 4, 5] μ μ'' ∧ ((pa B S f a n v c w).1 = none → MX μ'' (pa B S f a n v c w).2.1 (pa B S f a n v c w).2.2.1 (pa B S f a n v c w).2.2.2.1 (pa B S f a n v c w).2.2.2.2) := by
  have hS := h.2.1
  intro f
  induction f with
  | zero => intro a n v u c w μ' ha hf; omega
  | succ f ih =>
    intro a n v u c w μ' ha hf hu hn hv hfr hm
    obtain ⟨u, rfl⟩ : ∃ x, u = x + 1 := ⟨u - 1, by omega⟩
    have hT := h.fr hfr
    rw [f_X4_faultIn_L12, hT.2.2.1, w32_nat (i := a) (by omega), w32_nat (i := S) (by omega), pa]
    by_cases c0 : a < S
    · obtain ⟨b1, b2⟩ := hT.2.2.2 a c0
      rw [if_pos (by omega), if_pos c0, ck_ok (by omega) (by omega) (by omega), Int.toNat_natCast, b1, vl, b2.w, w32_id (a := 32) (by omega) (by omega)]
      by_cases c1 : B a = 32
      · rw [if_pos c1, if_pos c1, show (a : Int) + 1 = ((a + 1 : Nat) : Int) by omega]
        exact ih (a + 1) n v u c w μ' (by omega) (by omega) (by omega) hn hv hfr hm
      · rw [if_neg c1, if_neg c1, x_kind b2, bd_some, wm9, vl, jn]
        have hkb := kz_b (B a)
        rw [w32_id (a := kz (B a)) (by omega) (by omega)]
        by_cases c2 : kz (B a) = -9
        · obtain ⟨μ2, g1, g2, g3⟩ := x_fval hT hm hn hv c0 c2
          rw [if_pos c2, if_pos w0, g1, bd_some, if_pos w0]
          cases hsf : sF B S a n v with
          | some p =>
            have hpb := sF_b hsf
            rw [show fsz (some p) (-9) = (p : Int) from rfl]
            dsimp only
            rw [w32_nat (i := p) (by omega), if_neg (by omega)]
            exact ⟨μ2, rfl, hfr.tr g2, fun hh => by simp at hh⟩
          | none =>
            obtain ⟨k1, k2, -⟩ := (sF_n hsf).1 c2
            rw [show fsz (none : Option Nat) (-9) = -9 from rfl]
            dsimp only
            rw [wm9, if_pos rfl, vl, vl, show (a : Int) + 4 = ((a + 4 : Nat) : Int) by omega]
            simp only [c2, if_true]
            exact ih (a + 4) n (v + 1) u c (upW B S a v w) μ2 (by omega) (by omega) (by omega) hn (by omega) (hfr.tr g2) (g3 hsf)
        · obtain ⟨μ2, g1, g2, g3⟩ := x_fcape hT hm hn hv c0 c2
          rw [if_neg c2, if_neg w1ne, g1, bd_some, if_neg w1ne]
          cases hsf : sF B S a n v with
          | some p =>
            have hpb := sF_b hsf
            rw [show fsz (some p) (-9) = (p : Int) from rfl]
            dsimp only
            rw [w32_nat (i := p) (by omega), if_neg (by omega)]
            exact ⟨μ2, rfl, hfr.tr g2, fun hh => by simp at hh⟩
          | none =>
            obtain ⟨k1, k2, -⟩ := (sF_n hsf).2 c2
            rw [show fsz (none : Option Nat) (-9) = -9 from rfl]
            dsimp only
            rw [wm9, if_pos rfl, vl, vl, show (a : Int) + 3 = ((a + 3 : Nat) : Int) by omega]
            simp only [c2, if_false]
            exact ih (a + 3) (n + 1) v u (upC B S a n c) w μ2 (by omega) (by omega) (by omega) (by omega) hv (hfr.tr g2) (g3 hsf)
    · rw [if_neg (by omega), if_neg c0]
      exact ⟨μ', rfl, hfr, fun _ => hm⟩
def paR (B : Nat → Int) (S : Nat) : Option Nat × Nat × Nat × (Nat → Int) × (Nat → Int) := pa B S 100 0 0 0 (fun _ => 0) (fun _ => 0)
/-- the fault: -9, none -/
def paF (B : Nat → Int) (S : Nat) : Int := match (paR B S).1 with
  | some p => (p : Int)
  | none => if (paR B S).2.1 = 0 then (S : Int) else -9
theorem pa_n {B : Nat → Int} {S : Nat} : ∀ (f a n v : Nat) (c w : Nat → Int), n ≤ 5 → v ≤ 4 → (pa B S f a n v c w).2.1 ≤ 5 ∧ (pa B S f a n v c w).2.2.1 ≤ 4 := by
  intro f
  induction f with
  | zero => intro a n v c w hn hv; exact ⟨hn, hv⟩
  | succ f ih =>
    intro a n v c w hn hv
    rw [pa]
    by_cases c0 : a < S
    · rw [if_pos c0]
      by_cases c1 : B a = 32
      · rw [if_pos c1]; exact ih _ _ _ _ _ hn hv
      · rw [if_neg c1]
        cases hsf : sF B S a n v with
        | some p => exact ⟨hn, hv⟩
        | none =>
          by_cases c2 : kz (B a) = -9
          · have := (sF_n hsf).1 c2
            simp only [c2, if_true]
            exact ih _ _ _ _ _ hn (by omega)
          · have := (sF_n hsf).2 c2
            simp only [c2, if_false]
            exact ih _ _ _ _ _ (by omega) hv
    · rw [if_neg c0]; exact ⟨hn, hv⟩
theorem x_read {μ : Mem} {q S : Nat} {B : Nat → Int} (h : TX μ q S B) :
    ∃ μ' : Mem, f_X4_faultIn μ q = some (paF B S, μ') ∧ Fr [3, 4, 5] μ μ' ∧ ((paR B S).1 = none → MX μ' (paR B S).2.1 (paR B S).2.2.1 (paR B S).2.2.2.1 (paR B S).2.2.2.2) := by
  have hS := h.2.1
  have f0 : Fr [3, 4, 5] μ (wr (wr μ 3 2 0) 3 3 0) := (Fr.rf.wr (by simp)).wr (by simp)
  obtain ⟨μ2, g1, g2, g3⟩ := x_read_loop (Kc := fun m25 => vl (if w32 (m25 3 2) = 0 then (m25 q 1) else (-9)) fun v26 => some (v26, m25)) h 100 0 0 0 100000 (fun _ => 0) (fun _ => 0) (wr (wr μ 3 2 0) 3 3 0) (by omega) (by omega) (by omega) (by omega) (by omega) f0 ⟨by rw [wr_ne (by omega), wr_eq]; rfl, by rw [wr_eq]; rfl, fun q' hq => by omega, fun q' hq => by omega⟩
  rw [Int.natCast_zero] at g1
  refine ⟨μ2, ?_, g2, g3⟩
  rw [f_X4_faultIn, vm, vm, g1]
  unfold paF
  change (match (paR B S).1 with | some p => some ((p : Int), μ2) | none => vl (if w32 (μ2 3 2) = 0 then (μ2 q 1) else (-9)) fun v26 => some (v26, μ2)) = _
  cases hr : (paR B S).1 with
  | some p => rfl
  | none =>
    have hm := g3 hr
    have hn := (pa_n (B := B) (S := S) 100 0 0 0 (fun _ => 0) (fun _ => 0) (by omega) (by omega)).1
    have hm1 : μ2 3 2 = ((paR B S).2.1 : Int) := hm.1
    have hn1 : (paR B S).2.1 ≤ 5 := hn
    dsimp only
    rw [hm1, w32_nat (by omega), (h.fr g2).2.2.1, vl]
    by_cases c : (paR B S).2.1 = 0
    · rw [if_pos (by omega), if_pos c]
    · rw [if_neg (by omega), if_neg c]
