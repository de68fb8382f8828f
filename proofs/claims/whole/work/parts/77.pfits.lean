theorem x_wtf {n N P r : Nat} {μ : Mem} {C : Nat} {K F R : Nat → Int} (hY : YX μ C K) (hF : DB n F) (hn : n ≤ 900) (hN : N ≤ 3) (hP : P < 2 ^ C) (hr : r < 6) (h1 : μ (38 + 2 * r) 1 = (N : Int)) (hR : ∀ k : Nat, k < N → μ (38 + 2 * r + 1) k = R k ∧ inR (R k)) (hd : ∀ i : Nat, i < 16 → μ 14 i = F i) :
    ∃ μa : Mem, f_X6_waysThatFit μ (P : Int) (38 + 2 * r) = some (((ct (ftV C K F P R N) (2 ^ (C * N)) : Nat) : Int), μa) ∧ FX μ μa ∧ μa 0 = μ 0 ∧ μa 22 7 = (slv (ftV C K F P R N) (ulV C P N) P (2 ^ (C * N)) : Nat) ∧ (ct (ftV C K F P R N) (2 ^ (C * N)) ≠ 0 → ∀ k : Nat, k < N → μa 25 k = (dg C N (ff (ftV C K F P R N) (2 ^ (C * N))) k : Nat)) := by
  have b0 : ∀ k : Nat, k ≠ 22 → k ≠ 27 → wr (wr (cpy (wr μ 22 3 (N : Int)) 14 27 0 0 16) 22 6 0) 22 7 (P : Int) k = μ k := fun k h1 h2 => by rw [wr_cell h1, wr_cell h1, cpy_cell h2, wr_cell h1]
  have hx0 : FX μ (wr (wr (cpy (wr μ 22 3 (N : Int)) 14 27 0 0 16) 22 6 0) 22 7 (P : Int)) := ⟨fun k hk => b0 k (by omega) (by omega), fun q _ => by rw [b0 0 (by omega) (by omega)]⟩
  obtain ⟨μa, g1, g2, -, o1, o2, o3⟩ := x_fit_seek (C := C) (K := K) (F := F) (R := R) (P := P) (q := 38 + 2 * r) hF hn hN hP (by omega) N 0 0 9 (wr (wr (cpy (wr μ 22 3 (N : Int)) 14 27 0 0 16) 22 6 0) 22 7 (P : Int)) (by omega) (by omega) (hY.fx hx0) (by rw [wr_ne (by omega), wr_ne (by omega), cpy_cell (by omega), wr_eq]) (fun k hk => by rw [b0 _ (by omega) (by omega)]; exact hR k hk) rfl (fun _ j hj => by
    rw [wr_cell (by omega), wr_cell (by omega), cpy_in (by omega) (by omega)]; simp only [Nat.zero_add, Nat.sub_zero]
    rw [wr_cell (by omega)]; exact hd j hj) (fun k hk => by omega) (Nat.pow_pos (by omega)) ⟨by rw [wr_ne (by omega), wr_eq, Nat.zero_mul]; rfl, by rw [wr_eq, Nat.zero_mul]; rfl, fun hz => by rw [Nat.zero_mul] at hz; exact absurd rfl hz⟩
  rw [Nat.zero_add, Nat.one_mul, ← Nat.pow_mul] at o1 o2 o3
  refine ⟨μa, ?_, hx0.tr (g2.fx (by omega)), by rw [g2.1 0 (by omega) (by omega) (by omega) (by omega), b0 0 (by omega) (by omega)], o2, o3⟩
  rw [Int.natCast_zero, show ulV C P 0 0 = 0 from rfl, Int.natCast_zero] at g1
  rw [f_X6_waysThatFit, h1, x_begin, bd_some, vm, vm, g1, bd_some, o1]
theorem x_minref {n : Nat} {μ : Mem} {C : Nat} {p : Int} (h : Inv n μ) (hC0 : μ 67 0 = (C : Int)) (hC : C ≤ 5) (hp : inR p) :
    f_X9_minutesRefusal μ p = if 0 ≤ p ∧ p < ((6 : Nat) : Int) then (if C = 0 then some (-4, μ) else if μ 76 p.toNat < 0 then f_X9_found μ 1 else if 3 < μ 76 p.toNat then f_X9_found μ 5 else some (0, μ)) else some (-1, μ) := by
  have hx := x_rowref h hC0 hC hp
  rw [f_X9_minutesRefusal, hx]
  by_cases hr : 0 ≤ p ∧ p < ((6 : Nat) : Int)
  · obtain ⟨r, hr6, rfl⟩ := nat_of hr
    obtain ⟨z1, z2, z3⟩ := h.1.sz hr6
    rw [if_pos hr, if_pos hr, Int.toNat_natCast]
    by_cases c0 : C = 0
    · rw [if_pos c0, if_pos c0, bd_some, if_neg wm4]
    · rw [if_neg c0, if_neg c0]
      by_cases c1 : μ 76 r < 0
      · rw [if_pos c1, if_pos c1, x_found (by omega) (by omega), bd_some, if_neg wm3]
      · rw [if_neg c1, if_neg c1, bd_some, if_pos w0, ck_ok (by omega) (by omega) (by omega), w32_nat (by omega), Int.toNat_natCast, z3, z1.w, w32_id (a := 3) (by omega) (by omega), bd_ret]
  · rw [if_neg hr, if_neg hr, bd_some, if_neg wm1]
theorem m_seen {n : Nat} {μ μ1 : Mem} {C r : Nat} (h : Inv n μ) (hC0 : μ 67 0 = (C : Int)) (hC : C ≤ 5) (hr6 : r < 6) (e67 : μ1 67 0 = μ 67 0) (e76 : μ1 76 = μ 76) :
    f_X10_seenRefused μ1 (r : Int) = if C = 0 then some (-4, μ1) else if μ 76 r < 0 then f_X10_finds μ1 1 else if 3 < μ 76 r then f_X10_finds μ1 5 else some (0, μ1) := by
  obtain ⟨z1, z2, z3⟩ := h.1.sz hr6
  rw [f_X10_seenRefused, e67, hC0, w32_nat (i := C) (by omega), e76, w32_nat (i := r) (by omega), Int.toNat_natCast, z1.w]
  by_cases c0 : C = 0
  · rw [if_pos (by omega), if_pos c0]
  · rw [if_neg (by omega), if_neg c0, ck_ok (by omega) (by omega) (by omega)]
    by_cases c1 : μ 76 r < 0
    · rw [if_pos c1, if_pos c1, bd_ret]
    · rw [if_neg c1, if_neg c1, ck_ok (by omega) (by omega) (by omega), w32_id (a := 3) (by omega) (by omega), bd_ret]
theorem p_fits {n : Nat} (hn : n ≤ 900) {p q t : Int} (hp : inR p) (hq : inR q) (ht : inR t) : Pair n (fun μ => f_X9_fits μ p q t) (fun μ => f_X10_fits μ p q t) := by
  intro μ h
  obtain ⟨C, V, hC0, hV0, hYX, hYM, hVX, hVM⟩ := h.yr
  have hC := hYX.1
  have h32 := pow5 hC
  have hx6 := hYX.2.1
  have hday := h.2.2.2.1
  have htl := h.2.2.2.2.2.2.2.1
  have sm : ∀ μ1 : Mem, μ1 67 = μ 67 → f_X10_isSet μ1 p = some (if 0 ≤ p ∧ p < ((2 ^ C : Nat) : Int) then 1 else 0, μ1) := fun μ1 e => m_set (C := C) (by rw [e]; exact hC0) hC hp
  by_cases hs : 0 ≤ p ∧ p < ((2 ^ C : Nat) : Int)
  · by_cases hto : 0 ≤ t ∧ t < ((6 : Nat) : Int)
    · by_cases hr : 0 ≤ q ∧ q < ((6 : Nat) : Int)
      · obtain ⟨P, hP, rfl⟩ := nat_of hs
        obtain ⟨r, hr6, rfl⟩ := nat_of hr
        obtain ⟨s, hs6, rfl⟩ := nat_of hto
        have hx := x_minref h hC0 hC hq
        rw [if_pos hr, Int.toNat_natCast] at hx
        have hm := fun μ1 e67 e76 => m_seen (μ1 := μ1) h hC0 hC hr6 e67 e76
        have ex0 : f_X9_fits μ (P : Int) (r : Int) (s : Int) = bd (f_X9_minutesRefusal μ (r : Int)) fun r8 m7 => if w32 r8 = 0 then (ck (r : Int) 6 (vl (m7 (38 + 2 * (w32 (r : Int)).toNat) 1) fun x11 => ck (r : Int) 6 (bd (f_X6_waysThatFit m7 (P : Int) (38 + 2 * (w32 (r : Int)).toNat)) fun r14 m13 => if 0 < w32 r14 then (ck (s : Int) 6 (bd (f_X5_take m13 (38 + 2 * (w32 (s : Int)).toNat) 25 3 x11) fun _u m17 => some (r14, m17))) else (some (r14, m13))))) else (some (r8, m7)) := by
          rw [f_X9_fits, x_set hx6 hC hp, if_pos hs, bd_some, if_neg w1ne, x_isRow1 hs6, bd_some, if_neg w1ne]
        have em0 : ∀ μ1 : Mem, μ1 67 = μ 67 → f_X10_fits μ1 (P : Int) (r : Int) (s : Int) = bd (f_X10_seenRefused μ1 (r : Int)) fun r11 m10 => if w32 r11 = 0 then (bd (f_X10_save m10) fun _u m13 => ck (r : Int) 6 (vl (m13 76 (w32 (r : Int)).toNat) fun x15 => f_X10_fits_L60 (fun x29 x30 m31 => if 0 < w32 x29 then (bd (f_X10_layPlan m31 (s : Int) x30 x15) fun _u m33 => some (x29, m33)) else (some (x29, m31))) (P : Int) (r : Int) x15 100000 0 0 0 m13)) else (some (r11, m10)) := fun μ1 e => by
          rw [f_X10_fits, sm μ1 e, if_pos hs, bd_some, if_neg w1ne, m_isRow1 hr6, bd_some, if_neg w1ne, m_isRow1 hs6, bd_some, if_neg w1ne]
        by_cases c0 : C = 0
        · rw [if_pos c0] at hx
          refine pair_bad h (a := -4) ?_ ?_
          · show f_X9_fits μ (P : Int) (r : Int) (s : Int) = _
            rw [ex0, hx, bd_some, if_neg wm4]
          · show f_X10_fits μ (P : Int) (r : Int) (s : Int) = _
            rw [em0 μ rfl, hm μ rfl rfl, if_pos c0, bd_some, if_neg wm4]
        · rw [if_neg c0] at hx
          by_cases c1 : μ 76 r < 0
          · rw [if_pos c1] at hx
            refine pair_fnd h 1 (by omega) (by omega) ?_ (fun μ1 e => ?_)
            · show f_X9_fits μ (P : Int) (r : Int) (s : Int) = _
              rw [ex0, hx, x_found (by omega) (by omega), bd_some, if_neg wm3]
            · show f_X10_fits μ1 (P : Int) (r : Int) (s : Int) = _
              rw [em0 μ1 (e 67 (by omega) (by omega)), hm μ1 (by rw [e 67 (by omega) (by omega)]) (e 76 (by omega) (by omega)), if_neg c0, if_pos c1, m_finds (by omega) (by omega), bd_some, if_neg wm3]
          · rw [if_neg c1] at hx
            by_cases c2 : 3 < μ 76 r
            · rw [if_pos c2] at hx
              refine pair_fnd h 5 (by omega) (by omega) ?_ (fun μ1 e => ?_)
              · show f_X9_fits μ (P : Int) (r : Int) (s : Int) = _
                rw [ex0, hx, x_found (by omega) (by omega), bd_some, if_neg wm3]
              · show f_X10_fits μ1 (P : Int) (r : Int) (s : Int) = _
                rw [em0 μ1 (e 67 (by omega) (by omega)), hm μ1 (by rw [e 67 (by omega) (by omega)]) (e 76 (by omega) (by omega)), if_neg c0, if_neg c1, if_pos c2, m_finds (by omega) (by omega), bd_some, if_neg wm3]
            · rw [if_neg c2] at hx
              obtain ⟨z1, z2, z3⟩ := h.1.sz hr6
              obtain ⟨⟨b1, b2⟩, -, hc⟩ := h.1 r hr6
              obtain ⟨N, hN0⟩ : ∃ N : Nat, μ 76 r = (N : Int) := ⟨(μ 76 r).toNat, by omega⟩
              have hN : N ≤ 3 := by omega
              have h15 := pow15 hC hN
              have hRR : ∀ k : Nat, k < N → inR (μ 77 (40 * r + k)) := fun k hk => (hc k (by omega)).2
              obtain ⟨μa, g1, hxa, hxa0, g4, g5⟩ := x_wtf (P := P) (r := r) (R := fun k => μ 77 (40 * r + k)) hYX hday.2 hn hN hP hr6 (by rw [z3]; exact hN0) (fun k hk => hc k (by omega)) hday.1
              have kf : ∀ (μ1 : Mem), (∀ k : Nat, 67 ≤ k → μ1 k = μ k) → ∀ Kc : Int → Int → Mem → Option (Int × Mem), ∃ μb : Mem, f_X10_fits_L60 Kc (P : Int) (r : Int) (N : Int) 100000 0 0 0 (cpy μ1 73 92 0 0 16) = Kc (ct (ftV C (μ 68) (μ 73) P (fun k => μ 77 (40 * r + k)) N) (2 ^ (C * N)) : Nat) (ff (ftV C (μ 68) (μ 73) P (fun k => μ 77 (40 * r + k)) N) (2 ^ (C * N)) : Nat) μb ∧ FM μ1 μb ∧ (∀ i : Nat, i < 16 → μb 73 i = μ 73 i) ∧ μb 67 10 = μ 67 10 := fun μ1 hh Kc => by
                have hs' := sv_fm μ1
                obtain ⟨μb, k1, k2, k3⟩ := m_fit_loop (Kc := Kc) (μs := cpy μ1 73 92 0 0 16) (N := N) (P := P) (r := r) (F := μ 73) (R := fun k => μ 77 (40 * r + k)) ((hYM.hi hh).fh hs') ((hVM.hi hh).fh hs') hday.2 hn hN hP hr6 (by rw [cpy_cell (by omega), hh 76 (by omega)]; exact hN0) (fun k hk => ⟨by rw [cpy_cell (by omega), hh 77 (by omega)], hRR k hk⟩) (fun i hi => by rw [sv_92 hi, hh 73 (by omega)]) (2 ^ (C * N)) 100000 0 (cpy μ1 73 92 0 0 16) (by omega) (by omega) FH.rf (fun i hi => by rw [cpy_cell (by omega), hh 73 (by omega)])
                rw [Int.natCast_zero, show ct (ftV C (μ 68) (μ 73) P (fun k => μ 77 (40 * r + k)) N) 0 = 0 from rfl, show ff (ftV C (μ 68) (μ 73) P (fun k => μ 77 (40 * r + k)) N) 0 = 0 from rfl, Int.natCast_zero] at k1
                exact ⟨μb, k1, hs'.tr k2.fm, k3, by rw [k2.2 10 (by omega) (by omega), cpy_cell (by omega), hh 67 (by omega)]⟩
              have hctl := ct_le (f := ftV C (μ 68) (μ 73) P (fun k => μ 77 (40 * r + k)) N) (2 ^ (C * N))
              have hffl := ff_le (f := ftV C (μ 68) (μ 73) P (fun k => μ 77 (40 * r + k)) N) (2 ^ (C * N))
              generalize ftV C (μ 68) (μ 73) P (fun k => μ 77 (40 * r + k)) N = f at *
              have em1 : ∀ μ1 : Mem, (∀ k : Nat, 67 ≤ k → μ1 k = μ k) → f_X10_fits μ1 (P : Int) (r : Int) (s : Int) = f_X10_fits_L60 (fun x29 x30 m31 => if 0 < w32 x29 then (bd (f_X10_layPlan m31 (s : Int) x30 (N : Int)) fun _u m33 => some (x29, m33)) else (some (x29, m31))) (P : Int) (r : Int) (N : Int) 100000 0 0 0 (cpy μ1 73 92 0 0 16) := fun μ1 e => by
                rw [em0 μ1 (e 67 (by omega)), hm μ1 (by rw [e 67 (by omega)]) (e 76 (by omega)), if_neg c0, if_neg c1, if_neg c2, bd_some, if_pos w0, m_save, bd_some, ck_ok (by omega) (by omega) (by omega), cpy_cell (j := 76) (by omega), e 76 (by omega), w32_nat (i := r) (by omega), Int.toNat_natCast, hN0, vl]
              have ex1 : f_X9_fits μ (P : Int) (r : Int) (s : Int) = if 0 < ct f (2 ^ (C * N)) then some ((ct f (2 ^ (C * N)) : Int), wr (cpy μa 25 (38 + 2 * s + 1) 0 0 N) (38 + 2 * s) 1 (N : Int)) else some ((ct f (2 ^ (C * N)) : Int), μa) := by
                rw [ex0, hx, bd_some, if_pos w0, ck_ok (by omega) (by omega) (by omega), w32_nat (i := r) (by omega), Int.toNat_natCast, vl, ck_ok (by omega) (by omega) (by omega), g1, bd_some, w32_nat (i := ct f (2 ^ (C * N))) (by omega), z3, hN0, w32_nat (i := s) (by omega), Int.toNat_natCast, ck_ok (by omega) (by omega) (by omega), x_rtake hN, bd_some]
                by_cases c3 : 0 < ct f (2 ^ (C * N))
                · rw [if_pos (by omega), if_pos c3]
                · rw [if_neg (by omega), if_neg c3]
              by_cases c3 : 0 < ct f (2 ^ (C * N))
              · rw [if_pos c3] at ex1
                have hh : ∀ k : Nat, 67 ≤ k → wr (cpy μa 25 (38 + 2 * s + 1) 0 0 N) (38 + 2 * s) 1 (N : Int) k = μ k := fun k hk => by rw [wr_cell (by omega), cpy_cell (by omega), hxa.hi k hk]
                obtain ⟨μb, k1, k2, k3, k4⟩ := kf _ hh (fun x29 x30 m31 => if 0 < w32 x29 then (bd (f_X10_layPlan m31 (s : Int) x30 (N : Int)) fun _u m33 => some (x29, m33)) else (some (x29, m31)))
                obtain ⟨μ2, l1, l2⟩ := pl_end (μb := μb) (b := ff f (2 ^ (C * N))) h hC0 hC hs6 hN (by omega) hxa hxa0 (g5 (by omega)) k2 k4 k3
                refine ⟨(ct f (2 ^ (C * N)) : Int), _, μ2, ex1, ?_, l2.up (Nat.le_succ n)⟩
                show f_X10_fits _ (P : Int) (r : Int) (s : Int) = _
                rw [em1 _ hh, k1, w32_nat (by omega), if_pos (by omega), l1, bd_some]
              · rw [if_neg c3] at ex1
                obtain ⟨μb, k1, k2, k3, k4⟩ := kf _ hxa.hi (fun x29 x30 m31 => if 0 < w32 x29 then (bd (f_X10_layPlan m31 (s : Int) x30 (N : Int)) fun _u m33 => some (x29, m33)) else (some (x29, m31)))
                refine ⟨(ct f (2 ^ (C * N)) : Int), μa, μb, ex1, ?_, (aside_end h hxa k2 (by rw [k4, hxa0, htl]) k3).up (Nat.le_succ n)⟩
                show f_X10_fits _ (P : Int) (r : Int) (s : Int) = _
                rw [em1 _ hxa.hi, k1, w32_nat (by omega), if_neg (by omega)]
      · have hx := x_minref h hC0 hC hq
        rw [if_neg hr] at hx
        refine pair_bad h (a := -1) ?_ ?_
        · show f_X9_fits μ p q t = _
          rw [f_X9_fits, x_set hx6 hC hp, if_pos hs, bd_some, if_neg w1ne, x_isRow ht, if_pos (show 0 ≤ t ∧ t < 6 by omega), bd_some, if_neg w1ne, hx, bd_some, if_neg wm1]
        · show f_X10_fits μ p q t = _
          rw [f_X10_fits, sm μ rfl, if_pos hs, bd_some, if_neg w1ne, m_isRow0 hq hr, bd_some, if_pos w0]
    · refine pair_bad h (a := -1) ?_ ?_
      · show f_X9_fits μ p q t = _
        rw [f_X9_fits, x_set hx6 hC hp, if_pos hs, bd_some, if_neg w1ne, x_isRow0 ht hto, bd_some, if_pos w0]
      · show f_X10_fits μ p q t = _
        rw [f_X10_fits, sm μ rfl, if_pos hs, bd_some, if_neg w1ne, m_isRow hq, bd_some, ite_w, m_isRow0 ht hto, bd_some, if_pos w0]
        split <;> rfl
  · refine pair_bad h (a := -1) ?_ ?_
    · show f_X9_fits μ p q t = _
      rw [f_X9_fits, x_set hx6 hC hp, if_neg hs, bd_some, if_pos w0]
    · show f_X10_fits μ p q t = _
      rw [f_X10_fits, sm μ rfl, if_neg hs, bd_some, if_pos w0]
/-! slipped -/
def uq (s : Nat → Nat) (P : Nat) : Nat → Nat
  | 0 => 0
  | k + 1 => uq s P k ||| (P &&& (31 ^^^ s k))
theorem uq_ul {C N e P : Nat} : ∀ k : Nat, k ≤ N → uq (dg C N e) P k = ulV C P k (e / 2 ^ (C * (N - k))) := by
  intro k
  induction k with
  | zero => intro _; rfl
  | succ k ih =>
    intro hk
    rw [uq, ulV, ih (by omega), dv (by omega)]
    have : dg C N e k = e / 2 ^ (C * (N - (k + 1))) % 2 ^ C := by
      unfold dg
      rw [show N - 1 - k = N - (k + 1) by omega]
    rw [this]
theorem m_uq_loop {μ : Mem} {C N e P : Nat} (h : μ 67 0 = (C : Int)) (hC : C ≤ 5) (hN : N ≤ 3) (he : e < 2 ^ 31) (hP : P < 32) : ∀ (d u i : Nat), i + d = N → d < u → ∀ Kc, f_X10_slipped_L78 Kc (P : Int) (N : Int) (e : Int) u (uq (dg C N e) P i : Nat) (i : Int) μ = Kc (uq (dg C N e) P N : Nat) μ := by
  have h32 := pow5 hC
  intro d
  induction d with
  | zero =>
    intro u i hi hu Kc
    obtain ⟨u, rfl⟩ : ∃ v, u = v + 1 := ⟨u - 1, by omega⟩
    rw [f_X10_slipped_L78, w32_nat (i := i) (by omega), w32_nat (i := N) (by omega), if_neg (by omega), show i = N by omega]
  | succ d ih =>
    intro u i hi hu Kc
    obtain ⟨u, rfl⟩ : ∃ v, u = v + 1 := ⟨u - 1, by omega⟩
    have k1 := ih u (i + 1) (by omega) (by omega) Kc
    rw [show ((i + 1 : Nat) : Int) = (i : Int) + 1 by omega, uq] at k1
    have hdl : dg C N e i < 2 ^ C := dg_lt
    have hu2 : uq (dg C N e) P i < 32 := by rw [uq_ul i (by omega)]; exact ulV_32 hP _ _
    rw [f_X10_slipped_L78, w32_nat (i := i) (by omega), w32_nat (i := N) (by omega), if_pos (by omega), m_setOf h hC hN (by omega) he, bd_some, (sub_32 (i := P) (M := dg C N e i) (by omega) (by omega)).1, show zor (uq (dg C N e) P i : Nat) ((P &&& (31 ^^^ dg C N e i) : Nat) : Int) = ((uq (dg C N e) P i ||| (P &&& (31 ^^^ dg C N e i)) : Nat) : Int) from zor_32 ⟨uq (dg C N e) P i, hu2⟩ ⟨P &&& (31 ^^^ dg C N e i), Nat.lt_of_le_of_lt Nat.and_le_left (by omega)⟩, vl]
    exact k1
theorem m_sli_loop {Kc : Int → Int → Mem → Option (Int × Mem)} {n N P r : Nat} {μs : Mem} {C V : Nat} {K lt fr tt wo F R : Nat → Int} (hY : YM μs C K) (hV : VM μs V lt fr tt wo) (hF : DB n F) (hn : n ≤ 900) (hN : N ≤ 3) (hP : P < 2 ^ C) (hr : r < 6) (h76 : μs 76 r = (N : Int)) (hR : ∀ k : Nat, k < N → μs 77 (40 * r + k) = R k ∧ inR (R k)) (h92 : ∀ i : Nat, i < 16 → μs 92 i = F i) :
    ∀ (d u i : Nat) (μ' : Mem), i + d = 2 ^ (C * N) → d < u → FH μs μ' → (∀ j : Nat, j < 16 → μ' 73 j = F j) →
    ∃ μ'' : Mem, f_X10_slipped_L50 Kc (P : Int) (r : Int) (N : Int) u (slv (ftV C K F P R N) (ulV C P N) P i : Nat) (bt (decide (ct (ftV C K F P R N) i ≠ 0))) (i : Int) μ' = Kc (slv (ftV C K F P R N) (ulV C P N) P (2 ^ (C * N)) : Nat) (bt (decide (ct (ftV C K F P R N) (2 ^ (C * N)) ≠ 0))) μ'' ∧ FH μs μ'' ∧ ∀ j : Nat, j < 16 → μ'' 73 j = F j := by
  have hC := hY.1
  have h32 := pow5 hC
  have h15 := pow15 hC hN
  intro d
  induction d with
  | zero =>
    intro u i μ' hi hu hf hd
    obtain ⟨u, rfl⟩ : ∃ v, u = v + 1 := ⟨u - 1, by omega⟩
    refine ⟨μ', ?_, hf, hd⟩
    rw [f_X10_slipped_L50, m_codes (hY.fh hf.fm).2.1 hC hN, bd_some, w32_nat (i := i) (by omega), w32_nat (i := 2 ^ (C * N)) (by omega), if_neg (by omega), show i = 2 ^ (C * N) by omega]
  | succ d ih =>
    intro u i μ' hi hu hf hd
    obtain ⟨u, rfl⟩ : ∃ v, u = v + 1 := ⟨u - 1, by omega⟩
    obtain ⟨μ2, g1, g2, g3⟩ := m_iso (e := i) hY hV hF hn hN (by omega) hP hr h76 hR h92 hf hd
    obtain ⟨μ3, k1, k2, k3⟩ := ih u (i + 1) μ2 (by omega) (by omega) g2 g3
    rw [show ((i + 1 : Nat) : Int) = (i : Int) + 1 by omega, ct, slv] at k1
    have hul := fun Kc => m_uq_loop (μ := μ2) (e := i) (P := P) (hY.fh g2.fm).2.1 hC hN (by omega) (by omega) N 100000 0 (by omega) (by omega) Kc
    rw [Int.natCast_zero, show uq (dg C N i) P 0 = 0 from rfl, Int.natCast_zero, uq_ul N (by omega), Nat.sub_self, Nat.mul_zero, Nat.pow_zero, Nat.div_one] at hul
    have hU := ulV_32 (C := C) (P := P) (by omega) N i
    have hsl := slv_le (f := ftV C K F P R N) (U := ulV C P N) (P := P) i
    refine ⟨μ3, ?_, k2, k3⟩
    rw [f_X10_slipped_L50, m_codes (hY.fh hf.fm).2.1 hC hN, bd_some, w32_nat (i := i) (by omega), w32_nat (i := 2 ^ (C * N)) (by omega), if_pos (by omega), g1, bd_some, jn, bt_w]
    cases hz : ftV C K F P R N i with
    | false =>
      rw [hz] at k1
      exact k1
    | true =>
      rw [hz] at k1
      rw [if_pos rfl, hul, vl, show zand (slv (ftV C K F P R N) (ulV C P N) P i : Nat) (ulV C P N i : Nat) = ((slv (ftV C K F P R N) (ulV C P N) P i &&& ulV C P N i : Nat) : Int) from zand_s ⟨slv (ftV C K F P R N) (ulV C P N) P i, by omega⟩ ⟨ulV C P N i, hU⟩]
      simp only [if_true] at k1
      rw [show decide (ct (ftV C K F P R N) i + 1 ≠ 0) = true by simp] at k1
      exact k1
theorem p_slipped {n : Nat} (hn : n ≤ 900) {p q : Int} (hp : inR p) (hq : inR q) : Pair n (fun μ => f_X9_slipped μ p q) (fun μ => f_X10_slipped μ p q) := by
  intro μ h
  obtain ⟨C, V, hC0, hV0, hYX, hYM, hVX, hVM⟩ := h.yr
  have hC := hYX.1
  have h32 := pow5 hC
  have hx6 := hYX.2.1
  have hday := h.2.2.2.1
  have htl := h.2.2.2.2.2.2.2.1
  have sm : ∀ μ1 : Mem, μ1 67 = μ 67 → f_X10_isSet μ1 p = some (if 0 ≤ p ∧ p < ((2 ^ C : Nat) : Int) then 1 else 0, μ1) := fun μ1 e => m_set (C := C) (by rw [e]; exact hC0) hC hp
  by_cases hs : 0 ≤ p ∧ p < ((2 ^ C : Nat) : Int)
  · by_cases hr : 0 ≤ q ∧ q < ((6 : Nat) : Int)
    · obtain ⟨P, hP, rfl⟩ := nat_of hs
      obtain ⟨r, hr6, rfl⟩ := nat_of hr
      have hx := x_minref h hC0 hC hq
      rw [if_pos hr, Int.toNat_natCast] at hx
      have hm := fun μ1 e67 e76 => m_seen (μ1 := μ1) h hC0 hC hr6 e67 e76
      have ex0 : f_X9_slipped μ (P : Int) (r : Int) = bd (f_X9_minutesRefusal μ (r : Int)) fun r5 m4 => if w32 r5 = 0 then (ck (r : Int) 6 (bd (f_X6_waysThatFit m4 (P : Int) (38 + 2 * (w32 (r : Int)).toNat)) fun r9 m8 => vl (if 0 < w32 r9 then (m8 22 7) else 0) fun v10 => some (v10, m8))) else (some (r5, m4)) := by
        rw [f_X9_slipped, x_set hx6 hC hp, if_pos hs, bd_some, if_neg w1ne]
      have em0 : ∀ μ1 : Mem, μ1 67 = μ 67 → f_X10_slipped μ1 (P : Int) (r : Int) = bd (f_X10_seenRefused μ1 (r : Int)) fun r8 m7 => if w32 r8 = 0 then (bd (f_X10_save m7) fun _u m10 => ck (r : Int) 6 (vl (m10 76 (w32 (r : Int)).toNat) fun x12 => f_X10_slipped_L50 (fun x30 x31 m32 => vl (if w32 x31 = 0 then 0 else x30) fun v33 => some (v33, m32)) (P : Int) (r : Int) x12 100000 (P : Int) 0 0 m10)) else (some (r8, m7)) := fun μ1 e => by
        rw [f_X10_slipped, sm μ1 e, if_pos hs, bd_some, if_neg w1ne, m_isRow1 hr6, bd_some, if_neg w1ne]
      by_cases c0 : C = 0
      · rw [if_pos c0] at hx
        refine pair_bad h (a := -4) ?_ ?_
        · show f_X9_slipped μ (P : Int) (r : Int) = _
          rw [ex0, hx, bd_some, if_neg wm4]
        · show f_X10_slipped μ (P : Int) (r : Int) = _
          rw [em0 μ rfl, hm μ rfl rfl, if_pos c0, bd_some, if_neg wm4]
      · rw [if_neg c0] at hx
        by_cases c1 : μ 76 r < 0
        · rw [if_pos c1] at hx
          refine pair_fnd h 1 (by omega) (by omega) ?_ (fun μ1 e => ?_)
          · show f_X9_slipped μ (P : Int) (r : Int) = _
            rw [ex0, hx, x_found (by omega) (by omega), bd_some, if_neg wm3]
          · show f_X10_slipped μ1 (P : Int) (r : Int) = _
            rw [em0 μ1 (e 67 (by omega) (by omega)), hm μ1 (by rw [e 67 (by omega) (by omega)]) (e 76 (by omega) (by omega)), if_neg c0, if_pos c1, m_finds (by omega) (by omega), bd_some, if_neg wm3]
        · rw [if_neg c1] at hx
          by_cases c2 : 3 < μ 76 r
          · rw [if_pos c2] at hx
            refine pair_fnd h 5 (by omega) (by omega) ?_ (fun μ1 e => ?_)
            · show f_X9_slipped μ (P : Int) (r : Int) = _
              rw [ex0, hx, x_found (by omega) (by omega), bd_some, if_neg wm3]
            · show f_X10_slipped μ1 (P : Int) (r : Int) = _
              rw [em0 μ1 (e 67 (by omega) (by omega)), hm μ1 (by rw [e 67 (by omega) (by omega)]) (e 76 (by omega) (by omega)), if_neg c0, if_neg c1, if_pos c2, m_finds (by omega) (by omega), bd_some, if_neg wm3]
          · rw [if_neg c2] at hx
            obtain ⟨z1, z2, z3⟩ := h.1.sz hr6
            obtain ⟨⟨b1, b2⟩, -, hc⟩ := h.1 r hr6
            obtain ⟨N, hN0⟩ : ∃ N : Nat, μ 76 r = (N : Int) := ⟨(μ 76 r).toNat, by omega⟩
            have hN : N ≤ 3 := by omega
            have h15 := pow15 hC hN
            have hRR : ∀ k : Nat, k < N → inR (μ 77 (40 * r + k)) := fun k hk => (hc k (by omega)).2
            obtain ⟨μa, g1, hxa, hxa0, g4, g5⟩ := x_wtf (P := P) (r := r) (R := fun k => μ 77 (40 * r + k)) hYX hday.2 hn hN hP hr6 (by rw [z3]; exact hN0) (fun k hk => hc k (by omega)) hday.1
            have hh := hxa.hi
            have hs' := sv_fm μa
            obtain ⟨μb, k1, k2, k3⟩ := m_sli_loop (Kc := fun x30 x31 m32 => vl (if w32 x31 = 0 then 0 else x30) fun v33 => some (v33, m32)) (μs := cpy μa 73 92 0 0 16) (N := N) (P := P) (r := r) (F := μ 73) (R := fun k => μ 77 (40 * r + k)) ((hYM.hi hh).fh hs') ((hVM.hi hh).fh hs') hday.2 hn hN hP hr6 (by rw [cpy_cell (by omega), hh 76 (by omega)]; exact hN0) (fun k hk => ⟨by rw [cpy_cell (by omega), hh 77 (by omega)], hRR k hk⟩) (fun i hi => by rw [sv_92 hi, hh 73 (by omega)]) (2 ^ (C * N)) 100000 0 (cpy μa 73 92 0 0 16) (by omega) (by omega) FH.rf (fun i hi => by rw [cpy_cell (by omega), hh 73 (by omega)])
            have hctl := ct_le (f := ftV C (μ 68) (μ 73) P (fun k => μ 77 (40 * r + k)) N) (2 ^ (C * N))
            rw [Int.natCast_zero, show slv (ftV C (μ 68) (μ 73) P (fun k => μ 77 (40 * r + k)) N) (ulV C P N) P 0 = P from rfl, show bt (decide (ct (ftV C (μ 68) (μ 73) P (fun k => μ 77 (40 * r + k)) N) 0 ≠ 0)) = 0 from rfl] at k1
            generalize ftV C (μ 68) (μ 73) P (fun k => μ 77 (40 * r + k)) N = f at *
            refine ⟨if 0 < ct f (2 ^ (C * N)) then (slv f (ulV C P N) P (2 ^ (C * N)) : Nat) else 0, μa, μb, ?_, ?_, (aside_end h hxa (hs'.tr k2.fm) (by rw [k2.2 10 (by omega) (by omega), cpy_cell (by omega), hh 67 (by omega), hxa0, htl]) k3).up (Nat.le_succ n)⟩
            · show f_X9_slipped μ (P : Int) (r : Int) = _
              rw [ex0, hx, bd_some, if_pos w0, ck_ok (by omega) (by omega) (by omega), w32_nat (i := r) (by omega), Int.toNat_natCast, g1, bd_some, vl, w32_nat (i := ct f (2 ^ (C * N))) (by omega), g4]
              by_cases c3 : 0 < ct f (2 ^ (C * N))
              · rw [if_pos (by omega), if_pos c3]
              · rw [if_neg (by omega), if_neg c3]
            · show f_X10_slipped μa (P : Int) (r : Int) = _
              rw [em0 μa (hh 67 (by omega)), hm μa (by rw [hh 67 (by omega)]) (hh 76 (by omega)), if_neg c0, if_neg c1, if_neg c2, bd_some, if_pos w0, m_save, bd_some, ck_ok (by omega) (by omega) (by omega), cpy_cell (j := 76) (by omega), hh 76 (by omega), w32_nat (i := r) (by omega), Int.toNat_natCast, hN0, vl, k1, vl, bt_w]
              by_cases c3 : 0 < ct f (2 ^ (C * N))
              · rw [if_pos (by simp; omega), if_pos c3]
              · rw [if_neg (by simp; omega), if_neg c3]
    · have hx := x_minref h hC0 hC hq
      rw [if_neg hr] at hx
      refine pair_bad h (a := -1) ?_ ?_
      · show f_X9_slipped μ p q = _
        rw [f_X9_slipped, x_set hx6 hC hp, if_pos hs, bd_some, if_neg w1ne, hx, bd_some, if_neg wm1]
      · show f_X10_slipped μ p q = _
        rw [f_X10_slipped, sm μ rfl, if_pos hs, bd_some, if_neg w1ne, m_isRow0 hq hr, bd_some, if_pos w0]
  · refine pair_bad h (a := -1) ?_ ?_
    · show f_X9_slipped μ p q = _
      rw [f_X9_slipped, x_set hx6 hC hp, if_neg hs, bd_some, if_pos w0]
    · show f_X10_slipped μ p q = _
      rw [f_X10_slipped, sm μ rfl, if_neg hs, bd_some, if_pos w0]
