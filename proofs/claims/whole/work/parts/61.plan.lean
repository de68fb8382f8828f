/-! ===== what stands against a plan ===== -/
theorem Inv.cn {n : Nat} {μ : Mem} (h : Inv n μ) : μ 6 6 = μ 67 0 ∧ μ 6 7 = μ 67 1 := ⟨h.2.2.1.2.1, h.2.2.1.2.2.2.1⟩
theorem x_rowref {n : Nat} {μ : Mem} {C : Nat} {p : Int} (h : Inv n μ) (hC0 : μ 67 0 = (C : Int)) (hC : C ≤ 5) (hp : inR p) :
    f_X9_rowRefusal μ p = if 0 ≤ p ∧ p < ((6 : Nat) : Int) then (if C = 0 then some (-4, μ) else if μ 76 p.toNat < 0 then f_X9_found μ 1 else some (0, μ)) else some (-1, μ) := by
  by_cases hr : 0 ≤ p ∧ p < ((6 : Nat) : Int)
  · obtain ⟨r, hr6, rfl⟩ := nat_of hr
    obtain ⟨h1, h2, h3⟩ := h.1.sz hr6
    rw [if_pos hr, f_X9_rowRefusal, x_isRow1 hr6, bd_some, if_neg w1ne, h.cn.1, hC0, w32_nat (by omega), Int.toNat_natCast]
    by_cases c0 : C = 0
    · rw [if_pos (by omega), if_pos c0]
    · rw [if_neg (by omega), if_neg c0, ck_ok (by omega) (by omega) (by omega), w32_nat (by omega), Int.toNat_natCast, x_there h2, bd_some, h3]
      by_cases c1 : μ 76 r < 0
      · rw [if_pos c1, if_pos c1, if_pos w0, bd_ret]
      · rw [if_neg c1, if_neg c1, if_neg w1ne]
  · rw [if_neg hr, f_X9_rowRefusal, x_isRow0 hp hr, bd_some, if_pos w0]
theorem x_plan_loop {μ : Mem} {C r N : Nat} (h6 : μ 6 6 = (C : Int)) (hC : C ≤ 5) (hr : r < 6) (hN : N ≤ 12) (h1 : μ (38 + 2 * r) 1 = (N : Int)) (hR : ∀ i : Nat, i < N → inR (μ (38 + 2 * r + 1) i)) : ∀ (d u i : Nat), i + d = N → d < u →
    ((∀ j : Nat, i ≤ j → j < N → 0 ≤ μ (38 + 2 * r + 1) j ∧ μ (38 + 2 * r + 1) j < ((2 ^ C : Nat) : Int)) → f_X9_planRefusal_L37 (r : Int) u (i : Int) μ = some (0, μ)) ∧
    ((∃ j : Nat, i ≤ j ∧ j < N ∧ ¬ (0 ≤ μ (38 + 2 * r + 1) j ∧ μ (38 + 2 * r + 1) j < ((2 ^ C : Nat) : Int))) → f_X9_planRefusal_L37 (r : Int) u (i : Int) μ = f_X9_found μ 3) := by
  intro d
  induction d with
  | zero =>
    intro u i hi hu
    obtain ⟨u, rfl⟩ : ∃ v, u = v + 1 := ⟨u - 1, by omega⟩
    refine ⟨fun _ => ?_, fun ⟨j, j1, j2, _⟩ => by omega⟩
    rw [f_X9_planRefusal_L37, w32_nat (i := r) (by omega), Int.toNat_natCast, h1, w32_nat (by omega), w32_nat (by omega), if_neg (by omega)]
  | succ d ih =>
    intro u i hi hu
    obtain ⟨u, rfl⟩ : ∃ v, u = v + 1 := ⟨u - 1, by omega⟩
    obtain ⟨ia, ib⟩ := ih u (i + 1) (by omega) (by omega)
    rw [show ((i + 1 : Nat) : Int) = (i : Int) + 1 by omega] at ia ib
    rw [f_X9_planRefusal_L37, w32_nat (i := r) (by omega), Int.toNat_natCast, h1, w32_nat (i := i) (by omega), w32_nat (i := N) (by omega), if_pos (by omega), ck_ok (by omega) (by omega) (by omega), Int.toNat_natCast, x_set h6 hC (hR i (by omega)), bd_some, bd_ret]
    by_cases c : 0 ≤ μ (38 + 2 * r + 1) i ∧ μ (38 + 2 * r + 1) i < ((2 ^ C : Nat) : Int)
    · rw [if_pos c, if_neg w1ne]
      refine ⟨fun hh => ia (fun j j1 j2 => hh j (by omega) j2), fun ⟨j, j1, j2, j3⟩ => ib ⟨j, ?_, j2, j3⟩⟩
      by_cases e : j = i
      · subst e; exact absurd c j3
      · omega
    · rw [if_neg c, if_pos w0]
      exact ⟨fun hh => absurd (hh i (by omega) (by omega)) c, fun _ => rfl⟩
theorem m_plan_loop {Kc : Int → Mem → Option (Int × Mem)} {μ : Mem} {C r N : Nat} (h0 : μ 67 0 = (C : Int)) (hC : C ≤ 5) (hr : r < 6) (hN : N ≤ 12) (h1 : μ 76 r = (N : Int)) (hR : ∀ i : Nat, i < N → inR (μ 77 (40 * r + i))) : ∀ (d u i : Nat), i + d = N → d < u →
    f_X10_planRefused_L55 Kc (r : Int) u 0 (i : Int) μ = Kc 0 μ ∧
    ((∀ j : Nat, i ≤ j → j < N → 0 ≤ μ 77 (40 * r + j) ∧ μ 77 (40 * r + j) < ((2 ^ C : Nat) : Int)) → f_X10_planRefused_L55 Kc (r : Int) u 1 (i : Int) μ = Kc 1 μ) ∧
    ((∃ j : Nat, i ≤ j ∧ j < N ∧ ¬ (0 ≤ μ 77 (40 * r + j) ∧ μ 77 (40 * r + j) < ((2 ^ C : Nat) : Int))) → f_X10_planRefused_L55 Kc (r : Int) u 1 (i : Int) μ = Kc 0 μ) := by
  intro d
  induction d with
  | zero =>
    intro u i hi hu
    obtain ⟨u, rfl⟩ : ∃ v, u = v + 1 := ⟨u - 1, by omega⟩
    have e : ∀ x : Int, f_X10_planRefused_L55 Kc (r : Int) (u + 1) x (i : Int) μ = Kc x μ := fun x => by
      rw [f_X10_planRefused_L55, ck_ok (by omega) (by omega) (by omega), w32_nat (i := r) (by omega), Int.toNat_natCast, h1, w32_nat (by omega), w32_nat (by omega), if_neg (by omega)]
    exact ⟨e 0, fun _ => e 1, fun ⟨j, j1, j2, _⟩ => by omega⟩
  | succ d ih =>
    intro u i hi hu
    obtain ⟨u, rfl⟩ : ∃ v, u = v + 1 := ⟨u - 1, by omega⟩
    obtain ⟨i0, ia, ib⟩ := ih u (i + 1) (by omega) (by omega)
    rw [show ((i + 1 : Nat) : Int) = (i : Int) + 1 by omega] at i0 ia ib
    have e0 : f_X10_planRefused_L55 Kc (r : Int) (u + 1) 0 (i : Int) μ = Kc 0 μ := by
      rw [f_X10_planRefused_L55, ck_ok (by omega) (by omega) (by omega), w32_nat (i := r) (by omega), Int.toNat_natCast, h1, w32_nat (by omega), w32_nat (by omega), if_pos (by omega), jn, jn, if_pos w0]
      exact i0
    have e1 : f_X10_planRefused_L55 Kc (r : Int) (u + 1) 1 (i : Int) μ = if 0 ≤ μ 77 (40 * r + i) ∧ μ 77 (40 * r + i) < ((2 ^ C : Nat) : Int) then f_X10_planRefused_L55 Kc (r : Int) u 1 ((i : Int) + 1) μ else f_X10_planRefused_L55 Kc (r : Int) u 0 ((i : Int) + 1) μ := by
      rw [f_X10_planRefused_L55, ck_ok (by omega) (by omega) (by omega), w32_nat (i := r) (by omega), Int.toNat_natCast, h1, w32_nat (by omega), w32_nat (by omega), if_pos (by omega), jn, jn, if_neg w1ne, ck_ok (by omega) (by omega) (by omega), w32_id (a := 40 * (r : Int) + (i : Int)) (by omega) (by omega), show (40 * (r : Int) + (i : Int)).toNat = 40 * r + i by omega, m_set h0 hC (hR i (by omega)), bd_some, ite_w]
    refine ⟨e0, fun hh => ?_, fun ⟨j, j1, j2, j3⟩ => ?_⟩
    · rw [e1, if_pos (hh i (by omega) (by omega))]
      exact ia (fun j j1 j2 => hh j (by omega) j2)
    · rw [e1]
      by_cases c : 0 ≤ μ 77 (40 * r + i) ∧ μ 77 (40 * r + i) < ((2 ^ C : Nat) : Int)
      · rw [if_pos c]
        refine ib ⟨j, ?_, j2, j3⟩
        by_cases e : j = i
        · subst e; exact absurd c j3
        · omega
      · rw [if_neg c]; exact i0
theorem wm1 : ¬ w32 (-1) = 0 := by decide +kernel
theorem wm3 : ¬ w32 (-3) = 0 := by decide +kernel
theorem wm4 : ¬ w32 (-4) = 0 := by decide +kernel
/-- a pair behind what stands against a plan -/
theorem plan_pair {n : Nat} {μ : Mem} {p : Int} (h : Inv n μ) (hp : inR p) {ax am : Mem → Option (Int × Mem)}
    (go : ∀ C V r N : Nat, p = (r : Int) → r < 6 → N ≤ 12 → 0 < C → μ 67 0 = (C : Int) → μ 67 1 = (V : Int) → YX μ C (μ 68) → YM μ C (μ 68) → VX μ V (μ 69) (μ 70) (μ 71) (μ 72) → VM μ V (μ 69) (μ 70) (μ 71) (μ 72) → μ 76 r = (N : Int) → μ (38 + 2 * r) 1 = (N : Int) →
      (∀ i : Nat, i < N → μ (38 + 2 * r + 1) i = μ 77 (40 * r + i)) → (∀ i : Nat, i < N → μ 77 (40 * r + i) = (msk C (fun b => (μ 77 (40 * r + i)).toNat.testBit b) : Nat)) → ∃ a μ1 μ2, ax μ = some (a, μ1) ∧ (∀ k : Nat, 67 ≤ k → μ1 k = μ k) ∧ am μ1 = some (a, μ2) ∧ Inv (n + 1) μ2) :
    PairAt n μ (fun m => bd (f_X9_planRefusal m p) fun r2 m1 => if w32 r2 = 0 then ax m1 else some (r2, m1)) (fun m => bd (f_X10_planRefused m p) fun r2 m1 => if w32 r2 = 0 then am m1 else some (r2, m1)) := by
  obtain ⟨C, V, hC0, hV0, hYX, hYM, hVX, hVM⟩ := h.yr
  have hC := hYX.1
  have fnd : ∀ f : Int, 0 ≤ f → f < 6 → f_X9_planRefusal μ p = f_X9_found μ f → (∀ μ1 : Mem, (∀ k, k ≠ 0 → k ≠ 37 → μ1 k = μ k) → f_X10_planRefused μ1 p = f_X10_finds μ1 f) → PairAt n μ (fun m => bd (f_X9_planRefusal m p) fun r2 m1 => if w32 r2 = 0 then ax m1 else some (r2, m1)) (fun m => bd (f_X10_planRefused m p) fun r2 m1 => if w32 r2 = 0 then am m1 else some (r2, m1)) := by
    intro f f0 f6 hx hm
    refine pair_fnd h f f0 f6 ?_ (fun μ1 e => ?_)
    · show bd (f_X9_planRefusal μ p) _ = _
      rw [hx, x_found f0 f6, bd_some, if_neg wm3]
    · show bd (f_X10_planRefused μ1 p) _ = _
      rw [hm μ1 e, m_finds f0 f6, bd_some, if_neg wm3]
  by_cases hr : 0 ≤ p ∧ p < ((6 : Nat) : Int)
  · obtain ⟨r, hr6, rfl⟩ := nat_of hr
    obtain ⟨z1, z2, z3⟩ := h.1.sz hr6
    obtain ⟨⟨b1, b2⟩, -, hc⟩ := h.1 r hr6
    have hx := x_rowref h hC0 hC hp
    rw [if_pos hr, Int.toNat_natCast] at hx
    by_cases c0 : C = 0
    · rw [if_pos c0] at hx
      refine pair_bad h (a := -4) ?_ ?_
      · show bd (f_X9_planRefusal μ (r : Int)) _ = _
        rw [f_X9_planRefusal, hx, bd_some, if_neg wm4, bd_some, if_neg wm4]
      · show bd (f_X10_planRefused μ (r : Int)) _ = _
        rw [f_X10_planRefused, m_isRow1 hr6, bd_some, if_neg w1ne, hC0, c0, Int.natCast_zero, if_pos w0, bd_some, if_neg wm4]
    · rw [if_neg c0] at hx
      by_cases c1 : μ 76 r < 0
      · rw [if_pos c1] at hx
        refine fnd 1 (by omega) (by omega) ?_ (fun μ1 e => ?_)
        · rw [f_X9_planRefusal, hx, x_found (by omega) (by omega), bd_some, if_neg wm3]
        · rw [f_X10_planRefused, m_isRow1 hr6, bd_some, if_neg w1ne, e 67 (by omega) (by omega), hC0, w32_nat (by omega), if_neg (by omega), ck_ok (by omega) (by omega) (by omega), e 76 (by omega) (by omega), w32_nat (by omega), Int.toNat_natCast, z1.w, if_pos c1, bd_ret]
      · rw [if_neg c1] at hx
        obtain ⟨N, hN⟩ : ∃ N : Nat, μ 76 r = (N : Int) := ⟨(μ 76 r).toNat, by omega⟩
        have hxN : μ (38 + 2 * r) 1 = (N : Int) := by rw [z3, hN]
        by_cases c2 : 12 < N
        · refine fnd 5 (by omega) (by omega) ?_ (fun μ1 e => ?_)
          · rw [f_X9_planRefusal, hx, bd_some, if_pos w0, ck_ok (by omega) (by omega) (by omega), w32_nat (i := r) (by omega), Int.toNat_natCast, hxN, w32_nat (by omega), w32_id (a := 12) (by omega) (by omega), if_pos (by omega), bd_ret]
          · rw [f_X10_planRefused, m_isRow1 hr6, bd_some, if_neg w1ne, e 67 (by omega) (by omega), hC0, w32_nat (by omega), if_neg (by omega), ck_ok (by omega) (by omega) (by omega), e 76 (by omega) (by omega), w32_nat (by omega), Int.toNat_natCast, hN, w32_nat (by omega), if_neg (by omega), ck_ok (by omega) (by omega) (by omega), w32_id (a := 12) (by omega) (by omega), if_pos (by omega), bd_ret]
        · have hxe : ∀ i : Nat, i < N → μ (38 + 2 * r + 1) i = μ 77 (40 * r + i) := fun i hi => (hc i (by omega)).1
          have hRm : ∀ i : Nat, i < N → inR (μ 77 (40 * r + i)) := fun i hi => (hc i (by omega)).2
          have hRx : ∀ i : Nat, i < N → inR (μ (38 + 2 * r + 1) i) := fun i hi => by rw [hxe i hi]; exact hRm i hi
          obtain ⟨xa, xb⟩ := x_plan_loop (r := r) (N := N) hYX.2.1 hC hr6 (by omega) hxN hRx N 100000 0 (by omega) (by omega)
          have mm := fun (Kc : Int → Mem → Option (Int × Mem)) (μ1 : Mem) (e67 : μ1 67 0 = μ 67 0) (e76 : μ1 76 = μ 76) (e77 : μ1 77 = μ 77) => m_plan_loop (Kc := Kc) (μ := μ1) (C := C) (r := r) (N := N) (by rw [e67]; exact hC0) hC hr6 (by omega) (by rw [e76]; exact hN) (by rw [e77]; exact hRm) N 100000 0 (by omega) (by omega)
          have xx : f_X9_planRefusal μ (r : Int) = f_X9_planRefusal_L37 (r : Int) 100000 0 μ := by
            rw [f_X9_planRefusal, hx, bd_some, if_pos w0, ck_ok (by omega) (by omega) (by omega), w32_nat (i := r) (by omega), Int.toNat_natCast, hxN, w32_nat (by omega), w32_id (a := 12) (by omega) (by omega), if_neg (by omega)]
          have mx : ∀ μ1 : Mem, μ1 67 0 = μ 67 0 → μ1 76 = μ 76 → f_X10_planRefused μ1 (r : Int) = f_X10_planRefused_L55 (fun x21 m22 => if w32 x21 = 0 then (bd (f_X10_finds m22 3) fun r25 m24 => some (r25, m24)) else (some (0, m22))) (r : Int) 100000 1 0 μ1 := fun μ1 e67 e76 => by
            rw [f_X10_planRefused, m_isRow1 hr6, bd_some, if_neg w1ne, e67, hC0, w32_nat (by omega), if_neg (by omega), ck_ok (by omega) (by omega) (by omega), e76, w32_nat (i := r) (by omega), Int.toNat_natCast, hN, w32_nat (by omega), if_neg (by omega), ck_ok (by omega) (by omega) (by omega), w32_id (a := 12) (by omega) (by omega), if_neg (by omega)]
          rw [Int.natCast_zero] at xa xb
          by_cases c3 : ∀ i : Nat, i < N → 0 ≤ μ 77 (40 * r + i) ∧ μ 77 (40 * r + i) < ((2 ^ C : Nat) : Int)
          · have xok : f_X9_planRefusal μ (r : Int) = some (0, μ) := by
              rw [xx]
              exact xa (fun j _ j2 => by rw [hxe j j2]; exact c3 j j2)
            obtain ⟨a, μ1, μ2, g1, g2, g3, g4⟩ := go C V r N rfl hr6 (by omega) (by omega) hC0 hV0 hYX hYM hVX hVM hN hxN hxe (fun i hi => by
              obtain ⟨q1, q2⟩ := c3 i hi
              have := pm (C := C) (P := (μ 77 (40 * r + i)).toNat) (by omega)
              rw [← this]; omega)
            refine ⟨a, μ1, μ2, ?_, ?_, g4⟩
            · show bd (f_X9_planRefusal μ (r : Int)) _ = _
              rw [xok, bd_some, if_pos w0, g1]
            · show bd (f_X10_planRefused μ1 (r : Int)) _ = _
              have m1 := (mm (fun x21 m22 => if w32 x21 = 0 then (bd (f_X10_finds m22 3) fun r25 m24 => some (r25, m24)) else (some (0, m22))) μ1 (by rw [g2 67 (by omega)]) (g2 76 (by omega)) (g2 77 (by omega))).2.1 (fun j _ j2 => by rw [g2 77 (by omega)]; exact c3 j j2)
              rw [Int.natCast_zero] at m1
              rw [mx μ1 (by rw [g2 67 (by omega)]) (g2 76 (by omega)), m1, if_neg w1ne, bd_some, if_pos w0, g3]
          · obtain ⟨j, j1, j2⟩ : ∃ j : Nat, j < N ∧ ¬ (0 ≤ μ 77 (40 * r + j) ∧ μ 77 (40 * r + j) < ((2 ^ C : Nat) : Int)) := by
              apply Classical.byContradiction
              intro hh
              exact c3 (fun i hi => Classical.byContradiction (fun hq => hh ⟨i, hi, hq⟩))
            refine fnd 3 (by omega) (by omega) ?_ (fun μ1 e => ?_)
            · rw [xx]
              exact xb ⟨j, by omega, j1, by rw [hxe j j1]; exact j2⟩
            · have m1 := (mm (fun x21 m22 => if w32 x21 = 0 then (bd (f_X10_finds m22 3) fun r25 m24 => some (r25, m24)) else (some (0, m22))) μ1 (by rw [e 67 (by omega) (by omega)]) (e 76 (by omega) (by omega)) (e 77 (by omega) (by omega))).2.2 ⟨j, by omega, j1, by rw [e 77 (by omega) (by omega)]; exact j2⟩
              rw [Int.natCast_zero] at m1
              rw [mx μ1 (by rw [e 67 (by omega) (by omega)]) (e 76 (by omega) (by omega)), m1, if_pos w0, bd_ret]
  · refine pair_bad h (a := -1) ?_ ?_
    · show bd (f_X9_planRefusal μ p) _ = _
      rw [f_X9_planRefusal, f_X9_rowRefusal, x_isRow0 hp hr, bd_some, if_pos w0, bd_some, if_neg wm1, bd_some, if_neg wm1]
    · show bd (f_X10_planRefused μ p) _ = _
      rw [f_X10_planRefused, m_isRow0 hp hr, bd_some, if_pos w0, bd_some, if_neg wm1]
