/-! lots -/
theorem x_th {n D : Nat} {μ : Mem} {C V : Nat} {K lt fr tt wo F : Nat → Int} (hY : YX μ C K) (hV : VX μ V lt fr tt wo) (hF : DB n F) (hn : n < 990) (hD : μ 15 2 = (D : Int)) (hD6 : D < 60) (hd : ∀ i : Nat, i < 16 → μ 14 i = F i) (p : Nat → Bool) :
    ∃ μ' : Mem, f_X9_trueHour μ (msk C p : Nat) = some (stp C K F p, μ') ∧ Fr [13, 14, 15, 16] μ μ' ∧ (∀ i : Nat, i < 16 → μ' 14 i = hr C K (gth V (gnv lt fr tt wo (F 0)) F) p i) ∧ μ' 15 2 = (D : Int) + 1 ∧ ∀ q : Nat, μ' 16 q = if 16 * D ≤ q ∧ q < 16 * D + 16 then F (q - 16 * D) else μ 16 q := by
  have hC := hY.1
  have ea : ∀ k : Nat, k ≠ 15 → k ≠ 16 → wr (cpy μ 14 16 0 (16 * D) 16) 15 2 ((D : Int) + 1) k = μ k := fun k k1 k2 => by rw [wr_cell k1, cpy_cell k2]
  have e15 : wr (cpy μ 14 16 0 (16 * D) 16) 15 2 ((D : Int) + 1) 15 2 = (D : Int) + 1 := wr_eq
  have e16 : ∀ q : Nat, wr (cpy μ 14 16 0 (16 * D) 16) 15 2 ((D : Int) + 1) 16 q = if 16 * D ≤ q ∧ q < 16 * D + 16 then F (q - 16 * D) else μ 16 q := fun q => by
    rw [wr_cell (by omega)]
    by_cases c : 16 * D ≤ q ∧ q < 16 * D + 16
    · rw [if_pos c, cpy_in c.1 c.2, Nat.zero_add]; exact hd _ (by omega)
    · rw [if_neg c, cpy_out (by omega)]
  have hw := x_write hD hD6
  generalize wr (cpy μ 14 16 0 (16 * D) 16) 15 2 ((D : Int) + 1) = μa at *
  have hda : μa = dy μa 13 (μa 13 1) (μa 13 2) (μa 13 3) (μa 13 4) F := dy_at (fun i hi => by rw [ea _ (by omega) (by omega)]; exact hd i hi)
  have hYa : YX μa C K := hY.cg (fun k hk => ea k (by omega) (by omega))
  have hVa : VX μa V lt fr tt wo := hV.cg (fun k hk => ea k (by omega) (by omega))
  have hE : E12 (gth V (gnv lt fr tt wo (F 0)) F) F := E12.gth E12.rf
  have hc := x_collect (a := μa 13 1) (b := μa 13 2) (c := μa 13 3) (d := μa 13 4) (t := 13) (by omega) hVa (hF.fb (by omega)).1
  rw [← hda] at hc
  have e0 : f_X9_trueHour μ (msk C p : Nat) = bd (f_X1_goOn (dy μa 13 (μa 13 1) (μa 13 2) (μa 13 3) (μa 13 4) (gth V (gnv lt fr tt wo (F 0)) F)) 13 (msk C p : Nat)) fun r4 m3 => some (r4, m3) := by
    rw [f_X9_trueHour, hw, bd_some, hc, bd_some]
  rw [x_goOn (by omega) hYa ((gth_DB hF hV.1 hV.2.2.2 (F 0)).fb (by omega)), bd_some, e_stp hC hE] at e0
  refine ⟨_, e0, fun k hk => ?_, fun i hi => ?_, ?_, fun q => ?_⟩
  · simp only [List.mem_cons, List.not_mem_nil, or_false, not_or] at hk
    rw [dy_o (by omega) (by omega)]
    exact ea k (by omega) (by omega)
  · exact dy_f hi
  · rw [dy_o (by omega) (by omega)]; exact e15
  · rw [dy_o (by omega) (by omega)]; exact e16 q
theorem mq_1 {n C V : Nat} {K F lt fr tt wo : Nat → Int} {s : Nat → Nat → Bool} (h : DB n F) (hC : C ≤ 5) (hV : V ≤ 4) (hW : VB lt fr tt wo) (k : Nat) (hk : k ≤ 20) : DB (n + 1) (mq C V K (gnv lt fr tt wo) s F k) := by
  have hb : ∀ k : Nat, mq C V K (gnv lt fr tt wo) s F k 1 ≤ F 1 + 5 * k ∧ ∀ v : Nat, v < 4 → mq C V K (gnv lt fr tt wo) s F k (12 + v) ≤ F (12 + v) + 9 * k := by
    intro k
    induction k with
    | zero => exact ⟨by show F 1 ≤ _; omega, fun v _ => by show F (12 + v) ≤ _; omega⟩
    | succ k ih =>
      refine ⟨?_, fun v hv => ?_⟩
      · have h1 : mq C V K (gnv lt fr tt wo) s F (k + 1) 1 ≤ mq C V K (gnv lt fr tt wo) s F k 1 + 5 := by
          show hr C K (gth V (gnv lt fr tt wo (mq C V K (gnv lt fr tt wo) s F k 0)) (mq C V K (gnv lt fr tt wo) s F k)) (s k) 1 ≤ _
          unfold hr
          rw [if_neg (by omega), if_pos rfl, gth_self (by omega)]
          split <;> omega
        omega
      · have h1 : mq C V K (gnv lt fr tt wo) s F (k + 1) (12 + v) ≤ mq C V K (gnv lt fr tt wo) s F k (12 + v) + 9 := by
          by_cases c : v < V
          · rw [mq_gain hC k c]
            have := gnv_b hW (xq C K s F k 0) hv
            omega
          · show hr C K (gth V (gnv lt fr tt wo (mq C V K (gnv lt fr tt wo) s F k 0)) (mq C V K (gnv lt fr tt wo) s F k)) (s k) (12 + v) ≤ _
            rw [hr_g hC, gth_self (by omega)]
            omega
        have := ih.2 v hv
        omega
  obtain ⟨d1, d2, d3, d4⟩ := mq_DB (s := s) (K := K) h hC hV hW k
  obtain ⟨b1, b2⟩ := hb k
  have f1 := h.2.1.2
  refine ⟨d1, ⟨d2.1, by omega⟩, d3, fun v hv => ⟨(d4 v hv).1, ?_⟩⟩
  have := b2 v hv
  have := (h.2.2.2 v hv).2
  omega
/-- the numbers of a seed -/
def lotN (A M seed : Nat) : Nat → Nat
  | 0 => seed
  | k + 1 => (A * lotN A M seed k) % M
theorem lotN_z {A M seed : Nat} : lotN A M seed 0 = seed := by rw [lotN]
theorem lotN_s {A M seed k : Nat} : lotN A M seed (k + 1) = (A * lotN A M seed k) % M := by rw [lotN]
theorem lotN_lt {A M seed : Nat} (h : seed < M) : ∀ k : Nat, lotN A M seed k < M := by
  intro k
  cases k with
  | zero => rw [lotN_z]; exact h
  | succ k => rw [lotN_s]; exact Nat.mod_lt _ (by omega)
def lotS (A M C seed : Nat) (k b : Nat) : Bool := (lotN A M seed (k + 1) / 32 % 2 ^ C).testBit b
theorem lot_step {x y m : Nat} (hx : x < m) (hy : y = 48271 * x) (hm : m = 2147483647) : yrem (48271 * (x : Int)) 2147483647 = ((y % m : Nat) : Int) := by
  have e := yrem_n (a := y) (b := m) (by omega) (by omega) (by omega)
  rw [show 48271 * (x : Int) = (y : Int) by omega, show (2147483647 : Int) = (m : Int) by omega]
  exact e
def wentN (C V : Nat) (K : Nat → Int) (g : Int → Nat → Int) (s : Nat → Nat → Bool) (F : Nat → Int) : Nat → Int
  | 0 => 0
  | k + 1 => wentN C V K g s F k + stp C K (mq C V K g s F k) (s k)
theorem x_lot_loop {n N D seed A M : Nat} (hA : A = 48271) (hM : M = 2147483647) {μ : Mem} {C V : Nat} {K lt fr tt wo F : Nat → Int} (hs : seed < M) (hY : YX μ C K) (hV : VX μ V lt fr tt wo) (hF : DB n F) (hn : n ≤ 900) (hN : N ≤ 20) (hD : D + N ≤ 60) :
    ∀ (d u i : Nat) (μ' : Mem), i + d = N → d < u → Fr [13, 14, 15, 16] μ μ' → μ' 15 2 = ((D + i : Nat) : Int) → (∀ j : Nat, j < 16 → μ' 14 j = mq C V K (gnv lt fr tt wo) (lotS A M C seed) F i j) → (∀ q : Nat, q < 16 * D → μ' 16 q = μ 16 q) → (∀ k q : Nat, k < i → q < 16 → μ' 16 (16 * (D + k) + q) = mq C V K (gnv lt fr tt wo) (lotS A M C seed) F k q) →
    ∃ μ'' : Mem, f_X9_lots_L66 (N : Int) u (lotN A M seed i : Nat) (wentN C V K (gnv lt fr tt wo) (lotS A M C seed) F i) (i : Int) μ' = some (wentN C V K (gnv lt fr tt wo) (lotS A M C seed) F N, μ'') ∧ Fr [13, 14, 15, 16] μ μ'' ∧ μ'' 15 2 = ((D + N : Nat) : Int) ∧ (∀ j : Nat, j < 16 → μ'' 14 j = mq C V K (gnv lt fr tt wo) (lotS A M C seed) F N j) ∧ (∀ q : Nat, q < 16 * D → μ'' 16 q = μ 16 q) ∧ ∀ k q : Nat, k < N → q < 16 → μ'' 16 (16 * (D + k) + q) = mq C V K (gnv lt fr tt wo) (lotS A M C seed) F k q := by
  have hC := hY.1
  have h32 := pow5 hC
  intro d
  induction d with
  | zero =>
    intro u i μ' hi hu hf h15 hd hq hp
    obtain ⟨u, rfl⟩ : ∃ v, u = v + 1 := ⟨u - 1, by omega⟩
    have e : i = N := by omega
    subst e
    refine ⟨μ', ?_, hf, h15, hd, hq, hp⟩
    rw [f_X9_lots_L66, if_neg (by omega)]
  | succ d ih =>
    intro u i μ' hi hu hf h15 hd hq hp
    obtain ⟨u, rfl⟩ : ∃ v, u = v + 1 := ⟨u - 1, by omega⟩
    have hl := lotN_lt (A := A) hs i
    have hl1 := lotN_lt (A := A) hs (i + 1)
    have hYf := hY.fr hf (fun k hk => by simp at hk; omega)
    have hVf := hV.fr hf (fun k hk => by simp at hk; omega)
    have hB := mq_DB (s := lotS A M C seed) (K := K) hF hC hV.1 hV.2.2.2 i
    obtain ⟨μ2, g1, g2, g3, g4, g5⟩ := x_th (D := D + i) hYf hVf hB (by omega) h15 (by omega) hd (lotS A M C seed i)
    obtain ⟨μ3, k1, k2⟩ := ih u (i + 1) μ2 (by omega) (by omega) (hf.tr g2) (by rw [g4]; omega) g3 (fun q hq' => by rw [g5, if_neg (by omega)]; exact hq q hq') (fun k q hk hq' => by
      rw [g5]
      by_cases c : k = i
      · subst c; rw [if_pos (by omega), show 16 * (D + k) + q - 16 * (D + k) = q by omega]
      · rw [if_neg (by omega)]; exact hp k q (by omega) hq')
    rw [show ((i + 1 : Nat) : Int) = (i : Int) + 1 by omega, wentN] at k1
    refine ⟨μ3, ?_, k2⟩
    have hset : ((lotN A M seed (i + 1) / 32 % 2 ^ C : Nat) : Int) = (msk C (lotS A M C seed i) : Nat) := pm (Nat.mod_lt _ (Nat.pow_pos (by omega)))
    have hyr : Unit → yrem (48271 * ((lotN A M seed i : Nat) : Int)) 2147483647 = ((lotN A M seed (i + 1) : Nat) : Int) := fun _ => by
      rw [lotN_s]
      exact lot_step hl (by rw [hA]) hM
    have hyd := ydiv_n (a := lotN A M seed (i + 1)) (b := 32) (by omega) (by omega) (by omega)
    rw [show ((32 : Nat) : Int) = 32 from rfl] at hyd
    rw [f_X9_lots_L66, w32_nat (i := i) (by omega), w32_nat (i := N) (by omega), if_pos (by omega), ckl_ok (by omega) (by omega) (by omega), hyr (), vl, ckl_ok (by omega) (by omega) (by omega), x_all hYf.2.1 hC, bd_some, hyd, zand_n (by omega) hC, hset, g1, bd_some, vl]
    exact k1
theorem m_lot_loop {n N D seed A M : Nat} (hA : A = 48271) (hM : M = 2147483647) {μ : Mem} {C V : Nat} {K lt fr tt wo F : Nat → Int} (hs : seed < M) (hY : YM μ C K) (hV : VM μ V lt fr tt wo) (hF : DB n F) (hn : n ≤ 900) (hN : N ≤ 20) (hD : D + N ≤ 60) :
    ∀ (d u i : Nat) (μ' : Mem), i + d = N → d < u → (∀ k : Nat, k ≠ 67 → k ≠ 73 → k ≠ 74 → μ' k = μ k) → (∀ p : Nat, p ≠ 8 → p ≠ 35 → p ≠ 36 → μ' 67 p = μ 67 p) → μ' 67 8 = ((D + i : Nat) : Int) → (∀ j : Nat, j < 16 → μ' 73 j = mq C V K (gnv lt fr tt wo) (lotS A M C seed) F i j) → (∀ q : Nat, q < 16 * D → μ' 74 q = μ 74 q) → (∀ k q : Nat, k < i → q < 16 → μ' 74 (16 * (D + k) + q) = mq C V K (gnv lt fr tt wo) (lotS A M C seed) F k q) →
    ∃ μ'' : Mem, f_X10_lots_L59 (N : Int) u (lotN A M seed i : Nat) (wentN C V K (gnv lt fr tt wo) (lotS A M C seed) F i) (i : Int) μ' = some (wentN C V K (gnv lt fr tt wo) (lotS A M C seed) F N, μ'') ∧ (∀ k : Nat, k ≠ 67 → k ≠ 73 → k ≠ 74 → μ'' k = μ k) ∧ (∀ p : Nat, p ≠ 8 → p ≠ 35 → p ≠ 36 → μ'' 67 p = μ 67 p) ∧ μ'' 67 8 = ((D + N : Nat) : Int) ∧ (∀ j : Nat, j < 16 → μ'' 73 j = mq C V K (gnv lt fr tt wo) (lotS A M C seed) F N j) ∧ (∀ q : Nat, q < 16 * D → μ'' 74 q = μ 74 q) ∧ ∀ k q : Nat, k < N → q < 16 → μ'' 74 (16 * (D + k) + q) = mq C V K (gnv lt fr tt wo) (lotS A M C seed) F k q := by
  have hC := hY.1
  have h32 := pow5 hC
  have hpp : 0 < 2 ^ C := Nat.pow_pos (by omega)
  intro d
  induction d with
  | zero =>
    intro u i μ' hi hu hf hf7 h15 hd hq hp
    obtain ⟨u, rfl⟩ : ∃ v, u = v + 1 := ⟨u - 1, by omega⟩
    have e : i = N := by omega
    subst e
    refine ⟨μ', ?_, hf, hf7, h15, hd, hq, hp⟩
    rw [f_X10_lots_L59, if_neg (by omega)]
  | succ d ih =>
    intro u i μ' hi hu hf hf7 h15 hd hq hp
    obtain ⟨u, rfl⟩ : ∃ v, u = v + 1 := ⟨u - 1, by omega⟩
    have hl := lotN_lt (A := A) hs i
    have hl1 := lotN_lt (A := A) hs (i + 1)
    have hB := mq_DB (s := lotS A M C seed) (K := K) hF hC hV.1 hV.2.2.2 i
    have hrem := m_rem (μ := μ') (D := D + i) h15 (by omega)
    have r0 : ∀ k : Nat, k ≠ 67 → k ≠ 74 → wr (cpy μ' 73 74 0 (16 * (D + i)) 16) 67 8 (((D + i : Nat) : Int) + 1) k = μ' k := fun k h1 h2 => by rw [wr_cell h1, cpy_cell h2]
    have r7 : ∀ p : Nat, p ≠ 8 → wr (cpy μ' 73 74 0 (16 * (D + i)) 16) 67 8 (((D + i : Nat) : Int) + 1) 67 p = μ' 67 p := fun p h1 => by rw [wr_ne (by omega), cpy_cell (by omega)]
    have r8 : wr (cpy μ' 73 74 0 (16 * (D + i)) 16) 67 8 (((D + i : Nat) : Int) + 1) 67 8 = ((D + i : Nat) : Int) + 1 := wr_eq
    have r74 : ∀ q : Nat, wr (cpy μ' 73 74 0 (16 * (D + i)) 16) 67 8 (((D + i : Nat) : Int) + 1) 74 q = if 16 * (D + i) ≤ q ∧ q < 16 * (D + i) + 16 then mq C V K (gnv lt fr tt wo) (lotS A M C seed) F i (q - 16 * (D + i)) else μ' 74 q := fun q => by
      rw [wr_cell (by omega)]
      by_cases c : 16 * (D + i) ≤ q ∧ q < 16 * (D + i) + 16
      · rw [if_pos c, cpy_in c.1 c.2, Nat.zero_add]; exact hd _ (by omega)
      · rw [if_neg c, cpy_out (by omega)]
    generalize wr (cpy μ' 73 74 0 (16 * (D + i)) 16) 67 8 (((D + i : Nat) : Int) + 1) = μr at *
    have hYr : YM μr C K := hY.cg (by rw [r7 0 (by omega), hf7 0 (by omega) (by omega) (by omega)]) (by rw [r0 68 (by omega) (by omega), hf 68 (by omega) (by omega) (by omega)])
    have hVr : VM μr V lt fr tt wo := hV.cg (by rw [r7 1 (by omega), hf7 1 (by omega) (by omega) (by omega)]) (fun k hk => by rw [r0 k (by omega) (by omega), hf k (by omega) (by omega) (by omega)])
    obtain ⟨μ2, g1, g2, g3, -⟩ := m_hr hYr hVr hB (by omega) (fun j hj => by rw [r0 73 (by omega) (by omega)]; exact hd j hj) (lotS A M C seed i)
    obtain ⟨μ3, k1, k2⟩ := ih u (i + 1) μ2 (by omega) (by omega) (fun k h1 h2 h3 => by rw [g2.1 k h1 h2, r0 k h1 h3, hf k h1 h2 h3]) (fun p h1 h2 h3 => by rw [g2.2 p h2 h3, r7 p h1, hf7 p h1 h2 h3]) (by rw [g2.2 8 (by omega) (by omega), r8]; omega) g3 (fun q hq' => by rw [g2.1 74 (by omega) (by omega), r74, if_neg (by omega)]; exact hq q hq') (fun k q hk hq' => by
      rw [g2.1 74 (by omega) (by omega), r74]
      by_cases c : k = i
      · subst c; rw [if_pos (by omega), show 16 * (D + k) + q - 16 * (D + k) = q by omega]
      · rw [if_neg (by omega)]; exact hp k q (by omega) hq')
    rw [show ((i + 1 : Nat) : Int) = (i : Int) + 1 by omega, wentN] at k1
    refine ⟨μ3, ?_, k2⟩
    have hE := mq_xq (V := V) (K := K) (F := F) (g := gnv lt fr tt wo) (s := lotS A M C seed) hC i
    have hset : ((lotN A M seed (i + 1) / 32 % 2 ^ C : Nat) : Int) = (msk C (lotS A M C seed i) : Nat) := pm (Nat.mod_lt _ (Nat.pow_pos (by omega)))
    have hyr : Unit → yrem (((lotN A M seed i : Nat) : Int) * 48271) 2147483647 = ((lotN A M seed (i + 1) : Nat) : Int) := fun _ => by
      rw [lotN_s, Int.mul_comm]
      exact lot_step hl (by rw [hA]) hM
    have hyd := ydiv_n (a := lotN A M seed (i + 1)) (b := 32) (by omega) (by omega) (by omega)
    rw [show ((32 : Nat) : Int) = 32 from rfl] at hyd
    rw [f_X10_lots_L59, w32_nat (i := i) (by omega), w32_nat (i := N) (by omega), if_pos (by omega), ckl_ok (by omega) (by omega) (by omega), hyr (), vl, hrem, bd_some, ckl_ok (by omega) (by omega) (by omega), hYr.2.1, z_all hC, w32_nat (i := 2 ^ C) (by omega), ckl_ok (by omega) (by omega) (by omega), hyd, yrem_n (a := lotN A M seed (i + 1) / 32) (b := 2 ^ C) (by omega) hpp (by omega), hset, g1, bd_some, vl]
    exact k1
theorem p_lots {n : Nat} (hn : n ≤ 900) {p q : Int} (hp : inR p) (hq : inR q) : Pair n (fun μ => f_X9_lots μ p q) (fun μ => f_X10_lots μ p q) := by
  intro μ h
  obtain ⟨C, V, hC0, hV0, hYX, hYM, hVX, hVM⟩ := h.yr
  have hC := hYX.1
  have h32 := pow5 hC
  have hx6 := hYX.2.1
  have hday := h.2.2.2.1
  obtain ⟨D, hD, hxD, hD60⟩ := h.deeds
  obtain ⟨A, hA⟩ : ∃ A : Nat, A = 48271 := ⟨_, rfl⟩
  obtain ⟨M, hM⟩ : ∃ M : Nat, M = 2147483647 := ⟨_, rfl⟩
  have mi : ∀ μ1 : Mem, f_X10_in μ1 (w32 p) 1 20 = some (if 1 ≤ p ∧ p ≤ 20 then 1 else 0, μ1) := fun μ1 => by
    rw [hp.w]; exact m_in hp ⟨by omega, by omega⟩ ⟨by omega, by omega⟩
  have mj : ∀ μ1 : Mem, f_X10_in μ1 (w32 q) 1 2147483646 = some (if 1 ≤ q ∧ q ≤ 2147483646 then 1 else 0, μ1) := fun μ1 => by
    rw [hq.w]; exact m_in hq ⟨by omega, by omega⟩ ⟨by omega, by omega⟩
  have xs : ∀ F G : Option (Int × Mem), (if w32 (ycmp (w32 q) 2147483647) < 0 then F else G) = if q < 2147483647 then F else G := fun F G => by
    simp only [ycmp_lt]
    have q1 := hq.1
    have q2 := hq.2
    rw [hq.w, w64_id (a := q) (by omega) (by omega), w64_id (a := 2147483647) (by omega) (by omega)]
  by_cases c1 : 1 ≤ p ∧ p ≤ 20
  · by_cases c2 : 1 ≤ q ∧ q ≤ 2147483646
    · by_cases c0 : C = 0
      · refine pair_bad h (a := -4) ?_ ?_
        · show f_X9_lots μ p q = _
          rw [f_X9_lots, hp.w, w32_id (a := 1) (by omega) (by omega), if_neg (by omega), w32_id (a := 20) (by omega) (by omega), if_neg (by omega), xs, hq.w, if_neg (by omega), if_pos (by omega), hx6, c0, Int.natCast_zero, if_pos w0]
        · show f_X10_lots μ p q = _
          rw [f_X10_lots, mi, bd_some, if_pos c1, if_neg w1ne, mj, bd_some, if_pos c2, if_neg w1ne, hC0, c0, Int.natCast_zero, if_pos w0]
      · obtain ⟨N, rfl⟩ : ∃ N : Nat, p = (N : Int) := ⟨p.toNat, by omega⟩
        obtain ⟨S, rfl⟩ : ∃ S : Nat, q = (S : Int) := ⟨q.toNat, by omega⟩
        have hN : N ≤ 20 := by omega
        by_cases c3 : 60 < D + N
        · refine pair_bad h (a := -2) ?_ ?_
          · show f_X9_lots μ (N : Int) (S : Int) = _
            rw [f_X9_lots, hp.w, w32_id (a := 1) (by omega) (by omega), if_neg (by omega), w32_id (a := 20) (by omega) (by omega), if_neg (by omega), xs, hq.w, if_neg (by omega), if_pos (by omega), hx6, w32_nat (i := C) (by omega), if_neg (by omega), hxD, w60, w32_id (a := (D : Int) + (N : Int)) (by omega) (by omega), if_pos (by omega)]
          · show f_X10_lots μ (N : Int) (S : Int) = _
            rw [f_X10_lots, mi, bd_some, if_pos c1, if_neg w1ne, mj, bd_some, if_pos c2, if_neg w1ne, hC0, w32_nat (i := C) (by omega), if_neg (by omega), hD, w60, w32_id (a := (D : Int) + (N : Int)) (by omega) (by omega), if_pos (by omega)]
        · have hDN : D + N ≤ 60 := by omega
          obtain ⟨μ1, g1, g2, g3, g4, g5, g6⟩ := x_lot_loop (D := D) (seed := S) hA hM (by omega) hYX hVX hday.2 hn hN hDN N 100000 0 μ (by omega) (by omega) Fr.rf hxD hday.1 (fun _ _ => rfl) (fun k q hk => by omega)
          rw [Int.natCast_zero, lotN_z, wentN] at g1
          have hh : ∀ k : Nat, ¬ (13 ≤ k ∧ k < 17) → μ1 k = μ k := fun k hk => g2 k (by simp; omega)
          have hh' : ∀ k : Nat, 67 ≤ k → μ1 k = μ k := fun k hk => hh k (by omega)
          obtain ⟨μ2, k1, k2, k3, k4, k5, k6, k7⟩ := m_lot_loop (D := D) (seed := S) hA hM (by omega) (hYM.hi hh') (hVM.hi hh') hday.2 hn hN hDN N 100000 0 μ1 (by omega) (by omega) (fun _ _ _ _ => rfl) (fun _ _ _ _ => rfl) (by rw [hh' 67 (by omega)]; exact hD) (fun j hj => by rw [hh' 73 (by omega)]; rfl) (fun _ _ => rfl) (fun k q hk => by omega)
          rw [Int.natCast_zero, lotN_z, wentN] at k1
          refine ⟨wentN C V (μ 68) (gnv (μ 69) (μ 70) (μ 71) (μ 72)) (lotS A M C S) (μ 73) N, μ1, μ2, ?_, ?_, ?_⟩
          · show f_X9_lots μ (N : Int) (S : Int) = _
            rw [f_X9_lots, hp.w, w32_id (a := 1) (by omega) (by omega), if_neg (by omega), w32_id (a := 20) (by omega) (by omega), if_neg (by omega), xs, hq.w, if_neg (by omega), if_pos (by omega), hx6, w32_nat (i := C) (by omega), if_neg (by omega), hxD, w60, w32_id (a := (D : Int) + (N : Int)) (by omega) (by omega), if_neg (by omega), vl, g1]
          · show f_X10_lots μ1 (N : Int) (S : Int) = _
            rw [f_X10_lots, mi, bd_some, if_pos c1, if_neg w1ne, mj, bd_some, if_pos c2, if_neg w1ne, hh' 67 (by omega), hC0, w32_nat (i := C) (by omega), if_neg (by omega), hD, w60, w32_id (a := (D : Int) + (N : Int)) (by omega) (by omega), if_neg (by omega), hq.w, vl, k1]
          · have e : ∀ k : Nat, ¬ ((13 ≤ k ∧ k < 17) ∨ k = 67 ∨ k = 73 ∨ k = 74) → μ2 k = μ k := fun k hk => by rw [k2 k (by omega) (by omega) (by omega), hh k (by omega)]
            have e7 : ∀ p : Nat, p ≠ 8 → p ≠ 35 → p ≠ 36 → μ2 67 p = μ 67 p := fun p h1 h2 h3 => by rw [k3 p h1 h2 h3, hh' 67 (by omega)]
            obtain ⟨i1, i2, i3, i4, i5, i6, i7⟩ := h
            obtain ⟨d1, d2, d3⟩ := i5
            obtain ⟨t1, t2, t3, t4, t5⟩ := i7
            have hB := fun k hk => mq_1 (s := lotS A M C S) (K := μ 68) i4.2 hC hVX.1 hVX.2.2.2 k hk
            refine ⟨i1.cg (fun k hk => e k (by omega)), i2.cg (fun k hk => e k (by omega)), i3.cg (fun k hk => e k (by omega)) (e7 0 (by omega) (by omega) (by omega)) (e7 1 (by omega) (by omega) (by omega)), ⟨fun i hi => ?_, (hB N hN).cg k5⟩, ⟨by rw [k4]; omega, by rw [k4, k2 15 (by omega) (by omega) (by omega)]; exact g3, fun j hj => ?_⟩, (i6.up (Nat.le_succ n)).cg (fun k hk => e k (by omega)), ⟨?_, ?_, ?_, ?_, fun f hf => ?_⟩⟩
            · rw [k2 14 (by omega) (by omega) (by omega), g4 i hi, k5 i hi]
            · rw [k4] at hj
              by_cases c : j < D
              · obtain ⟨f1, f2⟩ := d3 j (by omega)
                have e74 : ∀ i : Nat, i < 16 → μ2 74 (16 * j + i) = μ 74 (16 * j + i) := fun i hi => by rw [k6 _ (by omega), hh' 74 (by omega)]
                refine ⟨fun i hi => ?_, (f2.up (Nat.le_succ n)).cg (fun i hi => e74 i hi)⟩
                rw [k2 16 (by omega) (by omega) (by omega), g5 _ (by omega), e74 i hi]
                exact f1 i hi
              · obtain ⟨w, rfl⟩ : ∃ w : Nat, j = D + w := ⟨j - D, by omega⟩
                refine ⟨fun i hi => ?_, (hB w (by omega)).cg (fun i hi => k7 w i (by omega) hi)⟩
                rw [k2 16 (by omega) (by omega) (by omega), g6 w i (by omega) hi, k7 w i (by omega) hi]
            · rw [e 0 (by omega), e7 13 (by omega) (by omega) (by omega)]; exact t1
            · rw [e 0 (by omega), e7 10 (by omega) (by omega) (by omega)]; exact t2
            · rw [e 0 (by omega), e7 11 (by omega) (by omega) (by omega)]; exact t3
            · rw [e 0 (by omega), e7 12 (by omega) (by omega) (by omega)]; exact t4
            · rw [e 37 (by omega), e 75 (by omega)]; exact t5 f hf
    · refine pair_bad h (a := -1) ?_ ?_
      · show f_X9_lots μ p q = _
        rw [f_X9_lots, hp.w, w32_id (a := 1) (by omega) (by omega), if_neg (by omega), w32_id (a := 20) (by omega) (by omega), if_neg (by omega), xs, hq.w]
        by_cases c3 : q < 1
        · rw [if_pos c3]
        · rw [if_neg c3, if_neg (by omega)]
      · show f_X10_lots μ p q = _
        rw [f_X10_lots, mi, bd_some, if_pos c1, if_neg w1ne, mj, bd_some, if_neg c2, if_pos w0]
  · refine pair_bad h (a := -1) ?_ ?_
    · show f_X9_lots μ p q = _
      rw [f_X9_lots, hp.w, w32_id (a := 1) (by omega) (by omega), w32_id (a := 20) (by omega) (by omega)]
      by_cases c3 : p < 1
      · rw [if_pos c3]
      · rw [if_neg c3, if_pos (by omega)]
    · show f_X10_lots μ p q = _
      rw [f_X10_lots, mi, bd_some, if_neg c1, if_pos w0]
