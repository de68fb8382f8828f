def okG (C N : Nat) (H : Nat → Int) (z0 : Int) (rd : Int → Int) (lo : Nat) (μ : Mem) : Prop := (lo = 0 ∧ μ 22 4 = z0) ∨ ∃ b : Nat, fb H lo b ∧ μ 22 4 = rd (H b) ∧ ∀ k : Nat, k < N → μ 25 k = (dg C N b k : Nat)
theorem okG_cg {C N : Nat} {H : Nat → Int} {z0 : Int} {rd : Int → Int} {lo : Nat} {μ μ' : Mem} (h : okG C N H z0 rd lo μ) (e4 : μ' 22 4 = μ 22 4) (e25 : μ' 25 = μ 25) : okG C N H z0 rd lo μ' := by
  unfold okG
  rw [e4, e25]
  exact h
theorem okG_take {C N e : Nat} {H : Nat → Int} {z0 : Int} {rd : Int → Int} {μ : Mem} (hN : N ≤ 3) (hs : ∀ e' : Nat, e' < e → H e' < H e) (hp : ∀ k : Nat, k < N → μ 24 k = (dg C N e k : Nat)) : okG C N H z0 rd (e + 1) (cpy (wr μ 22 4 (rd (H e))) 24 25 0 0 3) := by
  refine Or.inr ⟨e, ⟨by omega, fun e' he => ?_, hs⟩, ?_, fun k hk => ?_⟩
  · by_cases g : e' = e
    · subst g; exact Int.le_refl _
    · exact Int.le_of_lt (hs e' (by omega))
  · rw [cpy_cell (by omega), wr_eq]
  · rw [cpy_in (by omega) (by omega)]; simp only [Nat.zero_add, Nat.sub_zero]
    rw [wr_cell (by omega)]; exact hp k hk
theorem okG_skip {C N lo hi : Nat} {H : Nat → Int} {z0 : Int} {rd : Int → Int} {μ : Mem} (h : okG C N H z0 rd lo μ) (hl : lo ≤ hi) (hs : ∀ e : Nat, lo ≤ e → e < hi → ∃ e' : Nat, e' < lo ∧ H e ≤ H e') : okG C N H z0 rd hi μ := by
  rcases h with ⟨h1, h2⟩ | ⟨b, ⟨b1, b2, b3⟩, b4, b5⟩
  · by_cases c : hi = 0
    · exact Or.inl ⟨c, h2⟩
    · obtain ⟨e', e1, -⟩ := hs 0 (by omega) (by omega)
      omega
  · refine Or.inr ⟨b, ⟨by omega, fun e he => ?_, b3⟩, b4, b5⟩
    by_cases c : e < lo
    · exact b2 e c
    · obtain ⟨e', e1, e2⟩ := hs e (by omega) he
      have := b2 e' e1
      omega
theorem hr_pld {C : Nat} {K F : Nat → Int} {p q : Nat → Bool} (h : pld K F p = pld K F q) : hr C K F p = hr C K F q := by
  unfold hr stp
  rw [h]
theorem blk {a hiA B e : Nat} (hB : 0 < B) (h1 : a * B ≤ e) (h2 : e < hiA * B) : e = (e / B) * B + e % B ∧ e % B < B ∧ a ≤ e / B ∧ e / B < hiA :=
  ⟨(Nat.div_add_mod' e B).symm, Nat.mod_lt _ hB, (Nat.le_div_iff_mul_le hB).mpr h1, (Nat.div_lt_iff_lt_mul hB).mpr h2⟩
theorem blk_lt {y a B r : Nat} (h : y < a) (hr : r < B) : y * B + r < a * B := by
  have : (y + 1) * B ≤ a * B := Nat.mul_le_mul_right B h
  rw [Nat.add_mul, Nat.one_mul] at this
  omega
theorem pld_and {C M j : Nat} {K F : Nat → Int} (hM : M = msk C (abl K F)) (hj : j < 2 ^ C) : pld K F (fun b => (j &&& M).testBit b) = pld K F (fun b => j.testBit b) := by
  funext i
  show ((j &&& M).testBit i && abl K F i) = (j.testBit i && abl K F i)
  rw [Nat.testBit_and, hM, msk_bit]
  by_cases c : i < C
  · simp [c]
  · have : j.testBit i = false := Nat.testBit_lt_two_pow (Nat.lt_of_lt_of_le hj (Nat.pow_le_pow_right (by omega) (by omega)))
    simp [this]
theorem Gv_blk {C V : Nat} {K F : Nat → Int} {g : Int → Nat → Int} {d c j j' m r : Nat} (hj : j < 2 ^ C) (hj' : j' < 2 ^ C) (h : m = 0 ∨ pld K (Sd C K F d c) (fun b => j.testBit b) = pld K (Sd C K F d c) (fun b => j'.testBit b)) (hrr : r < (2 ^ C) ^ m) :
    Gv C V K F g (d + 1 + m) ((c * 2 ^ C + j) * (2 ^ C) ^ m + r) = Gv C V K F g (d + 1 + m) ((c * 2 ^ C + j') * (2 ^ C) ^ m + r) := by
  have hW : 0 < 2 ^ C := Nat.pow_pos (by omega)
  obtain ⟨a1, a2⟩ := chd (c := c) hW hj
  obtain ⟨b1, b2⟩ := chd (c := c) hW hj'
  have hg : Gv C V K F g (d + 1) (c * 2 ^ C + j) = Gv C V K F g (d + 1) (c * 2 ^ C + j') := by rw [Gv, Gv, a1, b1]
  rcases h with h | h
  · subst h
    rw [Nat.pow_zero] at hrr
    rw [Nat.pow_zero, Nat.mul_one, Nat.mul_one, show r = 0 by omega]
    exact hg
  · exact Gv_cg (by rw [Sd, Sd, a1, a2, b1, b2]; exact hr_pld h) hg m r hrr
theorem dg_ch {C d c s k : Nat} (hk : k < d) (hs : s < 2 ^ C) : dg C (d + 1) (c * 2 ^ C + s) k = dg C d c k := by
  have hW : 0 < 2 ^ C := Nat.pow_pos (by omega)
  unfold dg
  rw [show C * (d + 1 - 1 - k) = C + C * (d - 1 - k) by rw [show d + 1 - 1 - k = (d - 1 - k) + 1 by omega, Nat.mul_succ, Nat.add_comm], Nat.pow_add, ← Nat.div_div_eq_div_mul, (chd hW hs).1]
theorem dg_la {C d c s : Nat} (hs : s < 2 ^ C) : dg C (d + 1) (c * 2 ^ C + s) d = s := by
  have hW : 0 < 2 ^ C := Nat.pow_pos (by omega)
  unfold dg
  rw [show C * (d + 1 - 1 - d) = 0 by rw [show d + 1 - 1 - d = 0 by omega, Nat.mul_zero], Nat.pow_zero, Nat.div_one, (chd hW hs).2]
theorem sub_32 {i M : Nat} (hi : i < 32) (hM : M < 32) : zand (i : Int) (zxor (M : Int) (-1)) = ((i &&& (31 ^^^ M) : Nat) : Int) ∧ ((i &&& (31 ^^^ M)) = 0 → i ≤ M) ∧ ((i &&& (31 ^^^ M)) ≠ 0 → (i &&& M) < i) ∧ (i &&& M) ≤ i ∧ (i &&& M) ≤ M ∧ (i &&& (31 ^^^ M)) < 32 := by
  refine ⟨zandn_s ⟨i, hi⟩ ⟨M, hM⟩, sub_le ⟨i, hi⟩ ⟨M, hM⟩, (inter_le ⟨i, hi⟩ ⟨M, hM⟩).2.2, (inter_le ⟨i, hi⟩ ⟨M, hM⟩).2.1, Nat.and_le_right, Nat.lt_of_le_of_lt Nat.and_le_left hi⟩
theorem x_best_seek {n N : Nat} {C V : Nat} {K lt fr tt wo F : Nat → Int} (hF : DB n F) (hn : n ≤ 900) (hN : N ≤ 3) (hW : VB lt fr tt wo) : ∀ (m d c u : Nat) (μ : Mem), d + m = N → m < u → YX μ C K → VX μ V lt fr tt wo → μ 22 3 = (N : Int) → (d < N → ∀ j : Nat, j < 16 → μ (26 + 2 * d + 1) j = Sd C K F d c j) → (∀ k : Nat, k < d → μ 24 k = (dg C d c k : Nat)) → okG C N (Gv C V K F (gnv lt fr tt wo) N) (-1) (fun x => x) (c * (2 ^ C) ^ m) μ →
    ∃ μ' : Mem, f_X6_seekMost u μ (d : Int) (Gv C V K F (gnv lt fr tt wo) d c) = some ((), μ') ∧ FS (26 + 2 * d) d μ μ' ∧ (d < N → μ' (26 + 2 * d + 1) = μ (26 + 2 * d + 1)) ∧ okG C N (Gv C V K F (gnv lt fr tt wo) N) (-1) (fun x => x) ((c + 1) * (2 ^ C) ^ m) μ' := by
  intro m
  induction m with
  | zero =>
    intro d c u μ hdm hu hY hV h3 hday hpl hok
    obtain ⟨u, rfl⟩ : ∃ v, u = v + 1 := ⟨u - 1, by omega⟩
    have hdN : d = N := by omega
    subst hdN
    rw [Nat.pow_zero, Nat.mul_one] at hok ⊢
    have hG := Gv_b (C := C) (K := K) (F := F) hV.1 hW d c
    have st : f_X6_seekMost (u + 1) μ (d : Int) (Gv C V K F (gnv lt fr tt wo) d c) = if w32 (μ 22 4) < Gv C V K F (gnv lt fr tt wo) d c then some ((), cpy (wr μ 22 4 (Gv C V K F (gnv lt fr tt wo) d c)) 24 25 0 0 3) else some ((), μ) := by
      rw [f_X6_seekMost, f_X6_seekMost_B, jn, h3, if_neg (by omega), w32_id (a := Gv C V K F (gnv lt fr tt wo) d c) (by omega) (by omega)]
      dsimp only
      rw [x_setF, bd_some]
    have tk : (∀ e' : Nat, e' < c → Gv C V K F (gnv lt fr tt wo) d e' < Gv C V K F (gnv lt fr tt wo) d c) → w32 (μ 22 4) < Gv C V K F (gnv lt fr tt wo) d c → ∃ μ' : Mem, f_X6_seekMost (u + 1) μ (d : Int) (Gv C V K F (gnv lt fr tt wo) d c) = some ((), μ') ∧ FS (26 + 2 * d) d μ μ' ∧ (d < d → μ' (26 + 2 * d + 1) = μ (26 + 2 * d + 1)) ∧ okG C d (Gv C V K F (gnv lt fr tt wo) d) (-1) (fun x => x) (c + 1) μ' := fun hs hlt => by
      refine ⟨_, st.trans (if_pos hlt), ⟨fun k h1 h2 h3 h4 => ?_, fun p h1 _ _ => ?_, fun k hk => ?_⟩, fun hh => by omega, okG_take (rd := fun x => x) hN hs hpl⟩
      · rw [cpy_cell h3, wr_cell h1]
      · rw [cpy_cell (by omega), wr_ne (by omega)]
      · rw [cpy_cell (by omega), wr_cell (by omega)]
    rcases hok with ⟨h1, h2⟩ | ⟨b, ⟨b1, b2, b3⟩, b4, b5⟩
    · refine tk (fun e' he => by omega) ?_
      rw [h2, w32_id (by omega) (by omega)]; omega
    · have hGb := Gv_b (C := C) (K := K) (F := F) hV.1 hW d b
      dsimp only at b4
      by_cases cc : Gv C V K F (gnv lt fr tt wo) d b < Gv C V K F (gnv lt fr tt wo) d c
      · refine tk (fun e' he => ?_) ?_
        · have := b2 e' he; omega
        · rw [b4, w32_id (by omega) (by omega)]; exact cc
      · refine ⟨μ, ?_, FS.rf, fun _ => rfl, okG_skip (Or.inr ⟨b, ⟨b1, b2, b3⟩, b4, b5⟩) (Nat.le_succ c) (fun e e1 e2 => ⟨b, b1, ?_⟩)⟩
        · rw [st, if_neg]
          rw [b4, w32_id (by omega) (by omega)]; exact cc
        · rw [show e = c by omega]; omega
  | succ m ih =>
    intro d c u μ hdm hu hY hV h3 hday hpl hok
    obtain ⟨u, rfl⟩ : ∃ v, u = v + 1 := ⟨u - 1, by omega⟩
    have hC := hY.1
    have h32 := pow5 hC
    have hWp : 0 < 2 ^ C := Nat.pow_pos (by omega)
    have hBp : 0 < (2 ^ C) ^ m := Nat.pow_pos hWp
    have hdN : d < N := by omega
    have hD := Sd_DB (K := K) hF hC d c
    obtain ⟨μ8, a1, a2, a3, a4⟩ := x_lk1 (t := 26 + 2 * d) (by omega) hY (hD.fb (by omega)) (hday hdN)
    have hday8 : ∀ j : Nat, j < 16 → μ8 (26 + 2 * d + 1) j = Sd C K F d c j := fun j hj => by rw [a2 _ (by simp)]; exact hday hdN j hj
    have e8 : ∀ k : Nat, k ≠ 26 + 2 * d → μ8 k = μ k := fun k hk => a2 k (by simp; exact hk)
    have hY8 : YX μ8 C K := hY.cg (fun k hk => e8 k (by omega))
    have hV8 : VX μ8 V lt fr tt wo := hV.cg (fun k hk => e8 k (by omega))
    obtain ⟨M, hM⟩ : ∃ M : Nat, M = if d + 1 = N then 0 else msk C (abl K (Sd C K F d c)) := ⟨_, rfl⟩
    have hM32 : M < 2 ^ C := by rw [hM]; split; exact hWp; exact msk_lt _ _
    obtain ⟨X, hX⟩ : ∃ X : Int, X = Gv C V K F (gnv lt fr tt wo) d c + sg V (gnv lt fr tt wo (Sd C K F d c 0)) := ⟨_, rfl⟩
    have hXg : ∀ s : Nat, s < 2 ^ C → Gv C V K F (gnv lt fr tt wo) (d + 1) (c * 2 ^ C + s) = X := fun s hs => by rw [Gv, (chd hWp hs).1, hX]
    have same : ∀ j r : Nat, j < 2 ^ C → r < (2 ^ C) ^ m → Gv C V K F (gnv lt fr tt wo) N ((c * 2 ^ C + j) * (2 ^ C) ^ m + r) = Gv C V K F (gnv lt fr tt wo) N ((c * 2 ^ C + (j &&& M)) * (2 ^ C) ^ m + r) := fun j r hj hrr => by
      rw [show N = d + 1 + m by omega]
      refine Gv_blk hj (Nat.lt_of_le_of_lt Nat.and_le_left hj) ?_ hrr
      by_cases c1 : d + 1 = N
      · exact Or.inl (by omega)
      · rw [if_neg c1] at hM
        exact Or.inr (pld_and hM hj).symm
    have skip : ∀ (i hi : Nat) (μ' : Mem), i ≤ hi → hi ≤ 2 ^ C → (∀ j : Nat, i ≤ j → j < hi → (j &&& M) < i) → okG C N (Gv C V K F (gnv lt fr tt wo) N) (-1) (fun x => x) ((c * 2 ^ C + i) * (2 ^ C) ^ m) μ' → okG C N (Gv C V K F (gnv lt fr tt wo) N) (-1) (fun x => x) ((c * 2 ^ C + hi) * (2 ^ C) ^ m) μ' := fun i hi μ' h1 h2 hj hq => by
      refine okG_skip hq (Nat.mul_le_mul_right _ (by omega)) (fun e e1 e2 => ?_)
      obtain ⟨q1, q2, q3, q4⟩ := blk hBp e1 e2
      obtain ⟨j, hjj⟩ : ∃ j : Nat, e / (2 ^ C) ^ m = c * 2 ^ C + j := ⟨e / (2 ^ C) ^ m - c * 2 ^ C, by omega⟩
      rw [hjj] at q1 q3 q4
      refine ⟨(c * 2 ^ C + (j &&& M)) * (2 ^ C) ^ m + e % (2 ^ C) ^ m, blk_lt (by have := hj j (by omega) (by omega); omega) q2, ?_⟩
      rw [← same j (e % (2 ^ C) ^ m) (by omega) q2, ← q1]
      exact Int.le_refl _
    have loop : ∀ (t v i : Nat) (μ' : Mem), i + t = 2 ^ C → t < v → FS (28 + 2 * d) d μ8 μ' → okG C N (Gv C V K F (gnv lt fr tt wo) N) (-1) (fun x => x) ((c * 2 ^ C + i) * (2 ^ C) ^ m) μ' →
        ∃ μ'' : Mem, f_X6_seekMost_L80 (f_X6_seekMost u) (d : Int) (M : Int) X v (i : Int) μ' = some ((), μ'') ∧ FS (28 + 2 * d) d μ8 μ'' ∧ okG C N (Gv C V K F (gnv lt fr tt wo) N) (-1) (fun x => x) ((c * 2 ^ C + 2 ^ C) * (2 ^ C) ^ m) μ'' := by
      intro t
      induction t with
      | zero =>
        intro v i μ' hi hv hf hq
        obtain ⟨v, rfl⟩ : ∃ w, v = w + 1 := ⟨v - 1, by omega⟩
        refine ⟨μ', ?_, hf, ?_⟩
        · rw [f_X6_seekMost_L80, w32_nat (i := M) (by omega), w32_nat (i := i) (by omega), if_pos (by omega)]
        · rw [← show i = 2 ^ C by omega, show c * i + i = c * i + i from rfl]
          rw [show i = 2 ^ C by omega] at hq ⊢
          exact hq
      | succ t iht =>
        intro v i μ' hi hv hf hq
        obtain ⟨v, rfl⟩ : ∃ w, v = w + 1 := ⟨v - 1, by omega⟩
        obtain ⟨s1, s2, s3, s4, s5, s6⟩ := sub_32 (i := i) (M := M) (by omega) (by omega)
        by_cases c1 : M < i
        · refine ⟨μ', ?_, hf, skip i (2 ^ C) μ' (by omega) (Nat.le_refl _) (fun j _ _ => ?_) hq⟩
          · rw [f_X6_seekMost_L80, w32_nat (i := M) (by omega), w32_nat (i := i) (by omega), if_pos (by omega)]
          · have : (j &&& M) ≤ M := Nat.and_le_right
            omega
        · by_cases c2 : (i &&& (31 ^^^ M)) = 0
          · have hY' : YX μ' C K := hY8.cg (fun k hk => hf.1 k (by omega) (by omega) (by omega) (by omega))
            have hV' : VX μ' V lt fr tt wo := hV8.cg (fun k hk => hf.1 k (by omega) (by omega) (by omega) (by omega))
            obtain ⟨μ2, g1, g2, g3, g4, g5⟩ := x_step (F := Sd C K F d c) (N := N) (d := d) (s := i) hY' hD (by omega) hN (by rw [hf.2.1 3 (by omega) (by omega) (by omega), e8 22 (by omega)]; exact h3) hdN (by omega) (fun j hj => by rw [hf.1 _ (by omega) (by omega) (by omega) (by omega)]; exact hday8 j hj)
            have hf2 := hf.tr g2
            obtain ⟨μ3, k1, k2, -, k4⟩ := ih (d + 1) (c * 2 ^ C + i) u μ2 (by omega) (by omega) (hY'.cg (fun k hk => g2.1 k (by omega) (by omega) (by omega) (by omega))) (hV'.cg (fun k hk => g2.1 k (by omega) (by omega) (by omega) (by omega))) (by rw [hf2.2.1 3 (by omega) (by omega) (by omega), e8 22 (by omega)]; exact h3) (fun hh j hj => by
              rw [g5 hh j hj, Sd, (chd hWp (show i < 2 ^ C by omega)).1, (chd hWp (show i < 2 ^ C by omega)).2]) (fun k hk => by
              by_cases g : k = d
              · subst g; rw [g3, dg_la (by omega)]
              · rw [hf2.2.2 k (by omega), e8 24 (by omega), hpl k (by omega), dg_ch (by omega) (by omega)]) (okG_cg hq (by rw [g4 22 (by omega)]) (g4 25 (by omega)))
            rw [hXg i (by omega)] at k1
            have hf3 : FS (28 + 2 * d) d μ8 μ3 := hf2.tr (k2.mono (by omega) (by omega))
            obtain ⟨μ4, l1, l2, l3⟩ := iht v (i + 1) μ3 (by omega) (by omega) hf3 k4
            rw [show ((i + 1 : Nat) : Int) = (i : Int) + 1 by omega] at l1
            refine ⟨μ4, ?_, l2, l3⟩
            rw [f_X6_seekMost_L80, w32_nat (i := M) (by omega), w32_nat (i := i) (by omega), if_neg (by omega), jn, s1, c2, Int.natCast_zero, if_pos w0, g1, bd_some, show (d : Int) + 1 = ((d + 1 : Nat) : Int) by omega, k1, bd_some]
            exact l1
          · obtain ⟨μ4, l1, l2, l3⟩ := iht v (i + 1) μ' (by omega) (by omega) hf (skip i (i + 1) μ' (by omega) (by omega) (fun j j1 j2 => by rw [show j = i by omega]; exact s3 c2) hq)
            rw [show ((i + 1 : Nat) : Int) = (i : Int) + 1 by omega] at l1
            refine ⟨μ4, ?_, l2, l3⟩
            rw [f_X6_seekMost_L80, w32_nat (i := M) (by omega), w32_nat (i := i) (by omega), if_neg (by omega), jn, s1, w32_nat (by omega), if_neg (by omega)]
            exact l1
    have h0 := hD.1
    have hok8 : okG C N (Gv C V K F (gnv lt fr tt wo) N) (-1) (fun x => x) ((c * 2 ^ C + 0) * (2 ^ C) ^ m) μ8 := by
      rw [Nat.add_zero, Nat.mul_assoc, ← Nat.pow_succ']
      exact okG_cg hok (by rw [e8 22 (by omega)]) (e8 25 (by omega))
    obtain ⟨μ9, l1, l2, l3⟩ := loop (2 ^ C) 100000 0 μ8 (by omega) (by omega) FS.rf hok8
    rw [Int.natCast_zero] at l1
    have hf9 : FS (26 + 2 * d) d μ μ9 := FS.tr ⟨fun k k1 k2 k3 k4 => e8 k (by omega), fun p _ _ _ => by rw [e8 22 (by omega)], fun k hk => by rw [e8 24 (by omega)]⟩ (l2.mono (by omega) (Nat.le_refl _))
    refine ⟨μ9, ?_, hf9, fun _ => ?_, ?_⟩
    · rw [f_X6_seekMost, f_X6_seekMost_B, jn, h3, w32_nat (i := d) (by omega), w32_nat (i := N) (by omega), if_pos (by omega), w32_id (a := 3) (by omega) (by omega), if_pos (by omega), ck_ok (by omega) (by omega) (by omega), Int.toNat_natCast, a1, bd_some, e8 22 (by omega), h3, a3]
      have ev : (if (d : Int) = w32 ((N : Int) - 1) then (0 : Int) else (msk C (abl K (Sd C K F d c)) : Nat)) = (M : Int) := by
        rw [w32_id (by omega) (by omega), hM]
        by_cases c1 : d + 1 = N
        · rw [if_pos (by omega), if_pos c1]; rfl
        · rw [if_neg (by omega), if_neg c1]
      rw [ev, vl, ck_ok (by omega) (by omega) (by omega), w32_id (a := 0) (by omega) (by omega), Int.toNat_zero, hday8 0 (by omega), x_gall hV8 ⟨by omega, by omega⟩, bd_some, vl, ← hX]
      exact l1
    · rw [l2.1 _ (by omega) (by omega) (by omega) (by omega), e8 _ (by omega)]
    · rw [Nat.pow_succ', ← Nat.mul_assoc, Nat.add_mul, Nat.one_mul]
      exact l3
