/-! cape, mark, count, digest -/
theorem x_lk1 {μ : Mem} {t C : Nat} {K F : Nat → Int} (ht : 13 ≤ t) (hY : YX μ C K) (hF : FB F) (hd : ∀ i : Nat, i < 16 → μ (t + 1) i = F i) :
    ∃ μ' : Mem, f_X1_look μ t = some ((), μ') ∧ Fr [t] μ μ' ∧ μ' t 1 = (msk C (abl K F) : Nat) ∧ μ' t 2 = (msk C (frl K F) : Nat) := by
  have g := x_look (μ := μ) (a := μ t 1) (b := μ t 2) (c := μ t 3) (d := μ t 4) ht hY hF
  rw [← dy_at hd] at g
  refine ⟨_, g, fun k hk => ?_, dy_1, dy_2⟩
  simp only [List.mem_cons, List.not_mem_nil, or_false] at hk
  by_cases e : k = t + 1
  · subst e
    funext q
    by_cases c : q < 16
    · rw [dy_f c, hd q c]
    · simp [dy, c]
  · exact dy_o hk e
theorem Inv.fr13 {n : Nat} {μ μ' : Mem} (h : Inv n μ) (hf : Fr [13] μ μ') : Inv n μ' :=
  aside_end h (FX.of hf (fun k hk => by simp at hk; omega)) FM.rf (by rw [hf 67 (by simp), hf 0 (by simp)]; exact h.2.2.2.2.2.2.2.1.symm) (fun i _ => by rw [hf 73 (by simp)])
theorem bit_m {C i : Nat} (hi : i < C) : (2 ^ i : Nat) = msk C (fun b => decide (b = i)) := by
  apply Nat.eq_of_testBit_eq
  intro j
  rw [msk_bit, Nat.testBit_two_pow]
  by_cases e : j = i
  · subst e; simp [hi]
  · simp [e, show ¬ i = j from fun z => e z.symm]
theorem cn_one {C i : Nat} (hi : i < C) (a : Nat → Bool) : cn C (fun b => a b && decide (b = i)) = bt (a i) := by
  have low : ∀ m : Nat, m ≤ i → cn m (fun b => a b && decide (b = i)) = 0 := by
    intro m
    induction m with
    | zero => intro _; rfl
    | succ m ih => intro hm; rw [cn, ih (by omega), show (a m && decide (m = i)) = false by simp [show ¬ m = i by omega]]; rfl
  have high : ∀ m : Nat, i < m → cn m (fun b => a b && decide (b = i)) = bt (a i) := by
    intro m
    induction m with
    | zero => intro hm; omega
    | succ m ih =>
      intro hm
      rw [cn]
      by_cases e : m = i
      · subst e; rw [low m (by omega)]; simp
      · rw [ih (by omega), show (a m && decide (m = i)) = false by simp [e]]; simp [bt]
  exact high C hi
def cfv (K F : Nat → Int) (i : Nat) (k : Int) : Int := if k = 0 then K i else if k = 1 then F (2 + i) else if k = 2 then F (7 + i) else if abl K F i then 1 + bt (isK 2 (K i)) else 0
theorem Inv.fb {n : Nat} {μ : Mem} (h : Inv n μ) (hn : n ≤ 900) : FB (μ 73) := h.2.2.2.1.2.fb (by omega)
theorem x_cf {n : Nat} {μ : Mem} {C i : Nat} {k : Int} (h : Inv n μ) (hn : n ≤ 900) (hC0 : μ 67 0 = (C : Int)) (hi : i < C) (hk : 0 ≤ k ∧ k ≤ 3) : ∃ μ' : Mem, f_X9_factOfCape μ (i : Int) k = some (cfv (μ 68) (μ 73) i k, μ') ∧ Fr [13] μ μ' := by
  obtain ⟨C', V, c0, v0, hYX, hYM, hVX, hVM⟩ := h.yr
  have : C' = C := by omega
  subst this
  have hC := hYX.1
  have hday := h.2.2.2.1
  have h7 := (h.2.2.1.2.2.2.2.1 i (by omega)).1
  have t2 : (2 + (i : Int)).toNat = 2 + i := by omega
  have t7 : (7 + (i : Int)).toNat = 7 + i := by omega
  unfold cfv
  rw [f_X9_factOfCape, w32_id (a := k) (by omega) (by omega)]
  by_cases c0 : k = 0
  · rw [if_pos c0, if_pos c0, ck_ok (by omega) (by omega) (by omega), w32_nat (by omega), Int.toNat_natCast, h7]
    exact ⟨μ, rfl, Fr.rf⟩
  · rw [if_neg c0, if_neg c0]
    by_cases c1 : k = 1
    · rw [if_pos c1, if_pos c1, ck_ok (by omega) (by omega) (by omega), w32_id (by omega) (by omega), t2, hday.1 (2 + i) (by omega)]
      exact ⟨μ, rfl, Fr.rf⟩
    · rw [if_neg c1, if_neg c1]
      by_cases c2 : k = 2
      · rw [if_pos c2, if_pos c2, ck_ok (by omega) (by omega) (by omega), w32_id (by omega) (by omega), t7, hday.1 (7 + i) (by omega)]
        exact ⟨μ, rfl, Fr.rf⟩
      · rw [if_neg c2, if_neg c2]
        obtain ⟨μ2, g1, g2, g3, -⟩ := x_lk1 (t := 13) (by omega) hYX (h.fb hn) hday.1
        refine ⟨μ2, ?_, g2⟩
        have hz := zshl_s ⟨i, by omega⟩
        simp only [] at hz
        rw [g1, bd_some, g3, hz, bit_m hi, zand_m hC, x_pull (hYX.fr g2 (fun k hk => by simp at hk; omega)), bd_some]
        congr 2
        unfold pul
        rw [cn_one hi, show (fun b => abl (μ 68) (μ 73) b && decide (b = i) && isK 2 (μ 68 b)) = (fun b => (abl (μ 68) (μ 73) b && isK 2 (μ 68 b)) && decide (b = i)) from by funext b; cases abl (μ 68) (μ 73) b <;> cases isK 2 (μ 68 b) <;> cases decide (b = i) <;> rfl, cn_one hi (fun b => abl (μ 68) (μ 73) b && isK 2 (μ 68 b))]
        cases abl (μ 68) (μ 73) i <;> simp [bt]
theorem m_canE {μ : Mem} {C i : Nat} {K F : Nat → Int} (hY : YM μ C K) (hi : i < 5) (hF : FB F) (hd : ∀ j : Nat, j < 16 → μ 73 j = F j) : f_X10_canPull μ (i : Int) = some (bt (abl K F i), μ) := by
  have g := m_can (μ := μ) (a := μ 67 35) (b := μ 67 36) hY hi hF
  rw [← dm_at hd] at g
  exact g
theorem m_cf {μ : Mem} {C i : Nat} {K F : Nat → Int} {k : Int} (hY : YM μ C K) (hi : i < 5) (hF : FB F) (hd : ∀ j : Nat, j < 16 → μ 73 j = F j) (hk : 0 ≤ k ∧ k ≤ 3) : f_X10_capeOf μ (i : Int) k = some (cfv K F i k, μ) := by
  have t2 : (2 + (i : Int)).toNat = 2 + i := by omega
  have t7 : (7 + (i : Int)).toNat = 7 + i := by omega
  unfold cfv
  rw [f_X10_capeOf, w32_id (a := k) (by omega) (by omega)]
  by_cases c0 : k = 0
  · rw [if_pos c0, if_pos c0, ck_ok (by omega) (by omega) (by omega), w32_nat (by omega), Int.toNat_natCast, (hY.2.2 i hi).1]
  · rw [if_neg c0, if_neg c0]
    by_cases c1 : k = 1
    · rw [if_pos c1, if_pos c1, ck_ok (by omega) (by omega) (by omega), w32_id (by omega) (by omega), t2, hd (2 + i) (by omega)]
    · rw [if_neg c1, if_neg c1]
      by_cases c2 : k = 2
      · rw [if_pos c2, if_pos c2, ck_ok (by omega) (by omega) (by omega), w32_id (by omega) (by omega), t7, hd (7 + i) (by omega)]
      · rw [if_neg c2, if_neg c2, m_canE hY hi hF hd, bd_some, bt_w, m_pullBy hY hi, bd_some]
        cases abl K F i <;> rfl
theorem p_cape {n : Nat} (hn : n ≤ 900) {p q : Int} (hp : inR p) (hq : inR q) : Pair n (fun μ => f_X9_cape μ p q) (fun μ => f_X10_cape μ p q) := by
  intro μ h
  obtain ⟨C, V, hC0, hV0, hYX, hYM, hVX, hVM⟩ := h.yr
  have hC := hYX.1
  have hx6 := hYX.2.1
  by_cases hs : 0 ≤ p ∧ p < (C : Int)
  · have sx := x_cape hx6 hC hp
    rw [if_pos hs] at sx
    have sm : ∀ μ1 : Mem, μ1 67 = μ 67 → f_X10_isCape μ1 p = some (1, μ1) := fun μ1 e => by
      rw [m_cape (C := C) (by rw [e]; exact hC0) hC hp, if_pos hs]
    have mi : ∀ μ1 : Mem, f_X10_in μ1 q 0 3 = some (if 0 ≤ q ∧ q ≤ 3 then 1 else 0, μ1) := fun μ1 => m_in hq ⟨by omega, by omega⟩ ⟨by omega, by omega⟩
    by_cases c0 : 0 ≤ q ∧ q ≤ 3
    · obtain ⟨i, hi, rfl⟩ := nat_of hs
      obtain ⟨μ1, g1, g2⟩ := x_cf h hn hC0 hi c0
      have hx : FX μ μ1 := FX.of g2 (fun k hk => by simp at hk; omega)
      refine ⟨1, wr μ1 0 13 (cfv (μ 68) (μ 73) i q), wr (wr μ1 0 13 (cfv (μ 68) (μ 73) i q)) 67 10 (cfv (μ 68) (μ 73) i q), ?_, ?_, ((h.fr13 g2).up (Nat.le_succ n)).told⟩
      · show f_X9_cape μ (i : Int) q = _
        rw [f_X9_cape, sx, bd_some, if_neg w1ne, hq.w, if_neg (by omega), w32_id (a := 3) (by omega) (by omega), if_neg (by omega), g1, bd_some, vm]
      · show f_X10_cape _ (i : Int) q = _
        rw [f_X10_cape, sm _ (hx.tell.hi 67 (by omega)), bd_some, if_neg w1ne, hq.w, mi, bd_some, ite_w, if_pos c0, m_cf (hYM.hi hx.tell.hi) (by omega) (h.fb hn) (fun j _ => by rw [hx.tell.hi 73 (by omega)]) c0, bd_some, vm]
    · refine pair_bad h (a := -1) ?_ ?_
      · show f_X9_cape μ p q = _
        rw [f_X9_cape, sx, bd_some, if_neg w1ne, hq.w, w32_id (a := 3) (by omega) (by omega)]
        by_cases c : q < 0
        · rw [if_pos c]
        · rw [if_neg c, if_pos (by omega)]
      · show f_X10_cape μ p q = _
        rw [f_X10_cape, sm μ rfl, bd_some, if_neg w1ne, hq.w, mi, bd_some, ite_w, if_neg c0]
  · refine pair_bad h (a := -1) ?_ ?_
    · simp -implicitDefEqProofs (disch := omega) only [f_X9_cape, x_cape hx6 hC hp, if_neg hs, bd_some, if_pos w0]
    · simp -implicitDefEqProofs (disch := omega) only [f_X10_cape, m_cape hC0 hC hp, if_neg hs, bd_some, if_pos w0]
theorem cn_not (n : Nat) (p : Nat → Bool) : cn n (fun i => !(p i)) = n - cn n p := by
  induction n with
  | zero => rfl
  | succ n ih =>
    rw [cn, cn, ih]
    cases p n <;> simp [bt] <;> omega
theorem m_weak_loop {μ : Mem} {C i : Nat} {K : Nat → Int} (hY : YM μ C K) (hi : i < 5) (h2 : isK 2 (K i) = true) : ∀ (d u j : Nat), j + d = C → d < u → f_X10_weaker_L4 (i : Int) u (cn j (fun b => !(isK 2 (K b)))) (j : Int) μ = some (cn C (fun b => !(isK 2 (K b))), μ) := by
  have hC := hY.1
  intro d
  induction d with
  | zero =>
    intro u j hj hu
    obtain ⟨u, rfl⟩ : ∃ v, u = v + 1 := ⟨u - 1, by omega⟩
    rw [f_X10_weaker_L4, hY.2.1, w32_nat (by omega), w32_nat (by omega), if_neg (by omega), show j = C by omega]
  | succ d ih =>
    intro u j hj hu
    obtain ⟨u, rfl⟩ : ∃ v, u = v + 1 := ⟨u - 1, by omega⟩
    have hj' := ih u (j + 1) (by omega) (by omega)
    rw [show ((j + 1 : Nat) : Int) = (j : Int) + 1 by omega, cn] at hj'
    have b1 := bt_01 (isK 2 (K j))
    rw [f_X10_weaker_L4, hY.2.1, w32_nat (i := j) (by omega), w32_nat (i := C) (by omega), if_pos (by omega), m_pullBy hY (show j < 5 by omega), bd_some, m_pullBy hY hi, bd_some, vl, vl, h2, show (1 : Int) + bt true = 2 from rfl, w32_id (a := 2) (by omega) (by omega), w32_id (a := 1 + bt (isK 2 (K j))) (by omega) (by omega)]
    refine Eq.trans (congrArg (fun z => f_X10_weaker_L4 (i : Int) u z ((j : Int) + 1) μ) ?_) hj'
    cases isK 2 (K j) <;> simp [bt]
theorem m_evn {G : Int} (h : 0 ≤ G ∧ G ≤ 1000) : (if w32 (zrem (zdiv G 6) 2) = 0 then (1 : Int) else 0) = if G / 6 % 2 = 1 then 0 else 1 := by
  rw [zdiv_pos (by omega) (by omega) (by omega) (by omega), zrem_pos (by omega) (by omega) (by omega) (by omega), w32_id (by omega) (by omega)]
  by_cases c : G / 6 % 2 = 1
  · rw [if_neg (by omega), if_pos c]
  · rw [if_pos (by omega), if_neg c]
theorem p_mark {n : Nat} (hn : n ≤ 900) {p q : Int} (hp : inR p) (hq : inR q) : Pair n (fun μ => f_X9_mark μ p q) (fun μ => f_X10_mark μ p q) := by
  intro μ h
  obtain ⟨C, V, hC0, hV0, hYX, hYM, hVX, hVM⟩ := h.yr
  have hC := hYX.1
  have hx6 := hYX.2.1
  have hday := h.2.2.2.1
  have hFB := h.fb hn
  by_cases hs : 0 ≤ p ∧ p < (C : Int)
  · have sx := x_cape hx6 hC hp
    rw [if_pos hs] at sx
    have sm : ∀ μ1 : Mem, μ1 67 = μ 67 → f_X10_isCape μ1 p = some (1, μ1) := fun μ1 e => by
      rw [m_cape (C := C) (by rw [e]; exact hC0) hC hp, if_pos hs]
    have mi : ∀ μ1 : Mem, f_X10_in μ1 q 1 5 = some (if 1 ≤ q ∧ q ≤ 5 then 1 else 0, μ1) := fun μ1 => m_in hq ⟨by omega, by omega⟩ ⟨by omega, by omega⟩
    by_cases c0 : 1 ≤ q ∧ q ≤ 5
    · obtain ⟨i, hi, rfl⟩ := nat_of hs
      obtain ⟨k, rfl⟩ : ∃ k : Nat, q = (k : Int) := ⟨q.toNat, by omega⟩
      have hzb := zbit_m hC hi (fun i => isK k (μ 68 i))
      by_cases c1 : isK k (μ 68 i) = true
      · obtain ⟨⟨r1, r2⟩, r3, r4⟩ := hFB.2.2.1 i (by omega)
        have q0 := hFB.1
        have t2 : (2 + (i : Int)).toNat = 2 + i := by omega
        have t7 : (7 + (i : Int)).toNat = 7 + i := by omega
        have ex : f_X9_mark μ (i : Int) (k : Int) = f_X9_markOf μ (i : Int) (k : Int) := by
          rw [f_X9_mark, sx, bd_some, if_neg w1ne, w32_nat (by omega), if_pos (by omega), w32_id (a := 6) (by omega) (by omega), if_pos (by omega), ck_ok (by omega) (by omega) (by omega), Int.toNat_natCast, hYX.2.2 k (by omega), hzb, c1, if_neg (by decide +kernel), bd_ret]
        have em : f_X10_mark μ (i : Int) (k : Int) = (if w32 (k : Int) = 1 then (bd (f_X10_isDown μ) fun r12 m11 => if w32 r12 = 0 then (ck 0 16 (ckz 6 (ckz 2 (vl (if w32 (zrem (zdiv (m11 73 (w32 0).toNat) 6) 2) = 0 then 1 else 0) fun v15 => some (v15, m11))))) else (some (0, m11))) else (if w32 (k : Int) = 2 then (bd (f_X10_weaker μ (i : Int)) fun r20 m19 => some (r20, m19)) else (if w32 (k : Int) = 3 then (ck 0 16 (if w32 (μ 73 (w32 0).toNat) < w32 24 then (ck 0 16 (some (24 - (μ 73 (w32 0).toNat), μ))) else (some (0, μ)))) else (if w32 (k : Int) = 4 then (ck (7 + (i : Int)) 16 (ckz 2 (some (zdiv (10 - (μ 73 (w32 (7 + (i : Int))).toNat)) 2, μ)))) else (ck (7 + (i : Int)) 16 (if 0 < w32 (μ 73 (w32 (7 + (i : Int))).toNat) then (ck (2 + (i : Int)) 16 (some (μ 73 (w32 (2 + (i : Int))).toNat, μ))) else (some (0, μ)))))))) := by
          rw [f_X10_mark, sm μ rfl, bd_some, if_neg w1ne, w32_nat (i := k) (by omega), mi, bd_some, if_pos c0, if_neg w1ne, m_isOf hYM (by omega) k (by omega), bd_some, c1, show bt true = 1 from rfl, if_neg w1ne]
        have e4 : f_X9_markOf μ (i : Int) (k : Int) = f_X10_mark μ (i : Int) (k : Int) ∧ ∃ a, f_X10_mark μ (i : Int) (k : Int) = some (a, μ) := by
          rw [em, f_X9_markOf, w32_nat (i := k) (by omega)]
          have hk' : k = 1 ∨ k = 2 ∨ k = 3 ∨ k = 4 ∨ k = 5 := by omega
          rcases hk' with rfl | rfl | rfl | rfl | rfl
          · have p1 : ((1 : Nat) : Int) = 1 := by omega
            simp only [if_pos p1]
            rw [x_dn (t := 13) hFB hday.1, m_dn hFB (fun _ _ => rfl), bd_some, bd_some]
            by_cases g : μ 73 0 < 48
            · have he := x_even (μ := μ) (t := 13) (a := μ 13 1) (b := μ 13 2) (c := μ 13 3) (d := μ 13 4) hFB.1
              rw [← dy_at hday.1] at he
              rw [if_pos g, if_pos w0, if_pos w0, he, bd_some, ck_ok (by omega) (by omega) (by omega), ckz_ok (by omega) (by omega) (by omega), ckz_ok (by omega) (by omega) (by omega), w32_id (a := 0) (by omega) (by omega), Int.toNat_zero, m_evn q0, vl, vl]
              by_cases g2 : μ 73 0 / 6 % 2 = 1
              · rw [if_pos g2, if_pos w0]; exact ⟨rfl, _, rfl⟩
              · rw [if_neg g2, if_neg w1ne]; exact ⟨rfl, _, rfl⟩
            · rw [if_neg g, if_neg w1ne, if_neg w1ne]; exact ⟨rfl, _, rfl⟩
          · have hw := m_weak_loop (μ := μ) hYM (by omega) c1 C 100000 0 (by omega) (by omega)
            rw [Int.natCast_zero, show cn 0 (fun b => !(isK 2 (μ 68 b))) = 0 from rfl, cn_not] at hw
            have n1 : ¬ ((2 : Nat) : Int) = 1 := by omega
            have p2 : ((2 : Nat) : Int) = 2 := by omega
            simp only [if_neg n1, if_pos p2]
            rw [f_X10_weaker, hw, bd_some, ck_ok (by omega) (by omega) (by omega), w32_id (a := 2) (by omega) (by omega), show (2 : Int).toNat = 2 from rfl, hYX.2.2 2 (by omega), x_bits_m hC, bd_some, hx6]
            exact ⟨rfl, _, rfl⟩
          · have n1 : ¬ ((3 : Nat) : Int) = 1 := by omega
            have n2 : ¬ ((3 : Nat) : Int) = 2 := by omega
            have p3 : ((3 : Nat) : Int) = 3 := by omega
            simp only [if_neg n1, if_neg n2, if_pos p3]
            rw [ck_ok (by omega) (by omega) (by omega), ck_ok (by omega) (by omega) (by omega), w32_id (a := 0) (by omega) (by omega), Int.toNat_zero, hday.1 0 (by omega), w32_id (a := 24) (by omega) (by omega), w32_id (a := μ 73 0) (by omega) (by omega), ck_ok (by omega) (by omega) (by omega)]
            unfold zmax
            rw [w32_id (a := 0) (by omega) (by omega), w32_id (a := 24 - μ 73 0) (by omega) (by omega)]
            by_cases g : μ 73 0 < 24
            · rw [if_pos g, if_pos (by omega)]; exact ⟨rfl, _, rfl⟩
            · rw [if_neg g, if_neg (by omega)]; exact ⟨rfl, _, rfl⟩
          · have n1 : ¬ ((4 : Nat) : Int) = 1 := by omega
            have n2 : ¬ ((4 : Nat) : Int) = 2 := by omega
            have n3 : ¬ ((4 : Nat) : Int) = 3 := by omega
            have p4 : ((4 : Nat) : Int) = 4 := by omega
            simp only [if_neg n1, if_neg n2, if_neg n3, if_pos p4]
            rw [ck_ok (by omega) (by omega) (by omega), ckz_ok (by omega) (by omega) (by omega), ck_ok (by omega) (by omega) (by omega), ckz_ok (by omega) (by omega) (by omega), w32_id (by omega) (by omega), t7, hday.1 (7 + i) (by omega), show 9 - μ 73 (7 + i) + 1 = 10 - μ 73 (7 + i) by omega]
            exact ⟨rfl, _, rfl⟩
          · have n1 : ¬ ((5 : Nat) : Int) = 1 := by omega
            have n2 : ¬ ((5 : Nat) : Int) = 2 := by omega
            have n3 : ¬ ((5 : Nat) : Int) = 3 := by omega
            have n4 : ¬ ((5 : Nat) : Int) = 4 := by omega
            simp only [if_neg n1, if_neg n2, if_neg n3, if_neg n4]
            rw [ck_ok (by omega) (by omega) (by omega), ck_ok (by omega) (by omega) (by omega), w32_id (a := 7 + (i : Int)) (by omega) (by omega), w32_id (a := 2 + (i : Int)) (by omega) (by omega), t7, t2, hday.1 (7 + i) (by omega), hday.1 (2 + i) (by omega), w32_id (a := μ 73 (7 + i)) (by omega) (by omega), ck_ok (by omega) (by omega) (by omega)]
            by_cases g : μ 73 (7 + i) < 1
            · have g' : ¬ 0 < μ 73 (7 + i) := by omega
              rw [w32_id (a := 1) (by omega) (by omega)]
              simp only [if_pos g, if_neg g']
              exact ⟨trivial, _, rfl⟩
            · have g' : 0 < μ 73 (7 + i) := by omega
              rw [w32_id (a := 1) (by omega) (by omega)]
              simp only [if_neg g, if_pos g']
              rw [ck_ok (by omega) (by omega) (by omega)]
              exact ⟨rfl, _, rfl⟩
        obtain ⟨e5, a, e6⟩ := e4
        exact pair_bad h (a := a) (ex.trans (e5.trans e6)) e6
      · have c1' : isK k (μ 68 i) = false := by simpa using c1
        refine pair_fnd h 3 (by omega) (by omega) ?_ (fun μ1 e => ?_)
        · show f_X9_mark μ (i : Int) (k : Int) = _
          rw [f_X9_mark, sx, bd_some, if_neg w1ne, w32_nat (by omega), if_pos (by omega), w32_id (a := 6) (by omega) (by omega), if_pos (by omega), ck_ok (by omega) (by omega) (by omega), Int.toNat_natCast, hYX.2.2 k (by omega), hzb, c1', if_pos (by decide +kernel), bd_ret]
        · show f_X10_mark μ1 (i : Int) (k : Int) = _
          rw [f_X10_mark, sm μ1 (e 67 (by omega) (by omega)), bd_some, if_neg w1ne, w32_nat (i := k) (by omega), mi, bd_some, if_pos c0, if_neg w1ne, m_isOf (hYM.cg (by rw [e 67 (by omega) (by omega)]) (e 68 (by omega) (by omega))) (by omega) k (by omega), bd_some, c1', show bt false = 0 from rfl, if_pos w0, bd_ret]
    · refine pair_bad h (a := -1) ?_ ?_
      · show f_X9_mark μ p q = _
        rw [f_X9_mark, sx, bd_some, if_neg w1ne, hq.w, w32_id (a := 6) (by omega) (by omega)]
        by_cases c : 0 < q
        · rw [if_pos c, if_neg (by omega)]
        · rw [if_neg c]
      · show f_X10_mark μ p q = _
        rw [f_X10_mark, sm μ rfl, bd_some, if_neg w1ne, hq.w, mi, bd_some, ite_w, if_neg c0]
  · refine pair_bad h (a := -1) ?_ ?_
    · simp -implicitDefEqProofs (disch := omega) only [f_X9_mark, x_cape hx6 hC hp, if_neg hs, bd_some, if_pos w0]
    · simp -implicitDefEqProofs (disch := omega) only [f_X10_mark, m_cape hC0 hC hp, if_neg hs, bd_some, if_pos w0]
