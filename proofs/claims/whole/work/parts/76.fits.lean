/-! fits, slipped -/
def ftV (C : Nat) (K F : Nat → Int) (P : Nat) (R : Nat → Int) : Nat → Nat → Bool
  | 0, _ => true
  | d + 1, c => ftV C K F P R d (c / 2 ^ C) && (decide ((c % 2 ^ C) &&& (31 ^^^ P) = 0) && decide (Sd C K F (d + 1) c 0 = R d))
def ulV (C P : Nat) : Nat → Nat → Nat
  | 0, _ => 0
  | d + 1, c => ulV C P d (c / 2 ^ C) ||| (P &&& (31 ^^^ (c % 2 ^ C)))
theorem ftV_no {C P : Nat} {K F R : Nat → Int} {k y : Nat} (h' : ftV C K F P R k y = false) : ∀ m r : Nat, r < (2 ^ C) ^ m → ftV C K F P R (k + m) (y * (2 ^ C) ^ m + r) = false := by
  have hW : 0 < 2 ^ C := Nat.pow_pos (by omega)
  intro m
  induction m with
  | zero =>
    intro r hrr
    rw [Nat.pow_zero] at hrr
    rw [Nat.pow_zero, Nat.mul_one, show r = 0 by omega]
    exact h'
  | succ m ih =>
    intro r hrr
    obtain ⟨a1, a2, a3⟩ := pl_div (y := y) hW hrr
    show (ftV C K F P R (k + m) _ && _) = false
    rw [a1, ih _ a3]
    rfl
def ct (f : Nat → Bool) : Nat → Nat
  | 0 => 0
  | i + 1 => if f i then ct f i + 1 else ct f i
def slv (f : Nat → Bool) (U : Nat → Nat) (P : Nat) : Nat → Nat
  | 0 => P
  | i + 1 => if f i then slv f U P i &&& U i else slv f U P i
def ff (f : Nat → Bool) : Nat → Nat
  | 0 => 0
  | i + 1 => if f i && decide (ct f i = 0) then i else ff f i
theorem ct_le {f : Nat → Bool} (i : Nat) : ct f i ≤ i := by
  induction i with
  | zero => exact Nat.le_refl _
  | succ i ih => rw [ct]; split <;> omega
theorem slv_le {f : Nat → Bool} {U : Nat → Nat} {P : Nat} (i : Nat) : slv f U P i ≤ P := by
  induction i with
  | zero => exact Nat.le_refl _
  | succ i ih =>
    rw [slv]
    split
    · exact Nat.le_trans Nat.and_le_left ih
    · exact ih
theorem ff_le {f : Nat → Bool} (i : Nat) : ff f i ≤ i := by
  induction i with
  | zero => exact Nat.le_refl _
  | succ i ih => rw [ff]; split <;> omega
theorem no_ct {f : Nat → Bool} {U : Nat → Nat} {P lo : Nat} : ∀ d : Nat, (∀ e : Nat, lo ≤ e → e < lo + d → f e = false) → ct f (lo + d) = ct f lo ∧ slv f U P (lo + d) = slv f U P lo ∧ ff f (lo + d) = ff f lo := by
  intro d
  induction d with
  | zero => intro _; exact ⟨rfl, rfl, rfl⟩
  | succ d ih =>
    intro h
    obtain ⟨a, b, c⟩ := ih (fun e e1 e2 => h e e1 (by omega))
    have := h (lo + d) (by omega) (by omega)
    rw [show lo + (d + 1) = (lo + d) + 1 by omega, ct, slv, ff, this]
    exact ⟨a, b, c⟩
theorem ulV_32 {C P : Nat} (hP : P < 32) : ∀ d c : Nat, ulV C P d c < 32 := by
  intro d
  induction d with
  | zero => intro c; show 0 < 32; omega
  | succ d ih =>
    intro c
    rw [ulV]
    exact Nat.or_lt_two_pow (n := 5) (ih _) (Nat.lt_of_le_of_lt Nat.and_le_left hP)
theorem zor_32 : ∀ a b : Fin 32, zor ((a : Nat) : Int) ((b : Nat) : Int) = (((a : Nat) ||| (b : Nat) : Nat) : Int) := by decide +kernel
def okF (C N P : Nat) (f : Nat → Bool) (U : Nat → Nat) (lo : Nat) (μ : Mem) : Prop := μ 22 6 = (ct f lo : Nat) ∧ μ 22 7 = (slv f U P lo : Nat) ∧ (ct f lo ≠ 0 → ∀ k : Nat, k < N → μ 25 k = (dg C N (ff f lo) k : Nat))
theorem okF_cg {C N P : Nat} {f : Nat → Bool} {U : Nat → Nat} {lo : Nat} {μ μ' : Mem} (h : okF C N P f U lo μ) (e : μ' 22 = μ 22) (e25 : μ' 25 = μ 25) : okF C N P f U lo μ' := by
  unfold okF
  rw [e, e25]
  exact h
theorem okF_skip {C N P : Nat} {f : Nat → Bool} {U : Nat → Nat} {lo hi : Nat} {μ : Mem} (h : okF C N P f U lo μ) (hl : lo ≤ hi) (hs : ∀ e : Nat, lo ≤ e → e < hi → f e = false) : okF C N P f U hi μ := by
  obtain ⟨a, b, c⟩ := no_ct (f := f) (U := U) (P := P) (lo := lo) (hi - lo) (fun e e1 e2 => hs e e1 (by omega))
  rw [show lo + (hi - lo) = hi by omega] at a b c
  unfold okF
  rw [a, b, c]
  exact h
theorem x_fit_seek {n N P q : Nat} {C : Nat} {K F R : Nat → Int} (hF : DB n F) (hn : n ≤ 900) (hN : N ≤ 3) (hP : P < 2 ^ C) (hq : 37 ≤ q) : ∀ (m d c u : Nat) (μ : Mem), d + m = N → m < u → YX μ C K → μ 22 3 = (N : Int) → (∀ k : Nat, k < N → μ (q + 1) k = R k ∧ inR (R k)) → ftV C K F P R d c = true → (d < N → ∀ j : Nat, j < 16 → μ (26 + 2 * d + 1) j = Sd C K F d c j) → (∀ k : Nat, k < d → μ 24 k = (dg C d c k : Nat)) → c < 2 ^ (C * d) → okF C N P (ftV C K F P R N) (ulV C P N) (c * (2 ^ C) ^ m) μ →
    ∃ μ' : Mem, f_X6_seekFitting u μ (d : Int) (P : Int) (ulV C P d c : Nat) q = some ((), μ') ∧ FS (26 + 2 * d) d μ μ' ∧ (d < N → μ' (26 + 2 * d + 1) = μ (26 + 2 * d + 1)) ∧ okF C N P (ftV C K F P R N) (ulV C P N) ((c + 1) * (2 ^ C) ^ m) μ' := by
  intro m
  induction m with
  | zero =>
    intro d c u μ hdm hu hY h3 hR hcv hday hpl hcl hok
    obtain ⟨u, rfl⟩ : ∃ v, u = v + 1 := ⟨u - 1, by omega⟩
    have hC := hY.1
    have h32 := pow5 hC
    have hdN : d = N := by omega
    subst hdN
    have h15 := pow15 hC hN
    rw [Nat.pow_zero, Nat.mul_one] at hok ⊢
    obtain ⟨o1, o2, o3⟩ := hok
    have hct := ct_le (f := ftV C K F P R d) c
    have hsl := slv_le (f := ftV C K F P R d) (U := ulV C P d) (P := P) c
    have hU := ulV_32 (C := C) (P := P) (by omega) d c
    have fin : ∀ μ1 : Mem, μ1 22 6 = (ct (ftV C K F P R d) c : Nat) → μ1 22 7 = (slv (ftV C K F P R d) (ulV C P d) P c : Nat) → wr (wr μ1 22 6 (μ1 22 6 + 1)) 22 7 (zand (wr μ1 22 6 (μ1 22 6 + 1) 22 7) (ulV C P d c : Nat)) = wr (wr μ1 22 6 (ct (ftV C K F P R d) (c + 1) : Nat)) 22 7 (slv (ftV C K F P R d) (ulV C P d) P (c + 1) : Nat) := fun μ1 e6 e7 => by
      rw [wr_ne (p := 6) (q := 7) (by omega), e6, e7, show zand (slv (ftV C K F P R d) (ulV C P d) P c : Nat) (ulV C P d c : Nat) = ((slv (ftV C K F P R d) (ulV C P d) P c &&& ulV C P d c : Nat) : Int) from zand_s ⟨slv (ftV C K F P R d) (ulV C P d) P c, by omega⟩ ⟨ulV C P d c, hU⟩, ct, slv, if_pos hcv, if_pos hcv]
      rfl
    have st : f_X6_seekFitting (u + 1) μ (d : Int) (P : Int) (ulV C P d c : Nat) q = if ct (ftV C K F P R d) c = 0 then some ((), wr (wr (cpy (wr μ 22 4 0) 24 25 0 0 3) 22 6 (ct (ftV C K F P R d) (c + 1) : Nat)) 22 7 (slv (ftV C K F P R d) (ulV C P d) P (c + 1) : Nat)) else some ((), wr (wr μ 22 6 (ct (ftV C K F P R d) (c + 1) : Nat)) 22 7 (slv (ftV C K F P R d) (ulV C P d) P (c + 1) : Nat)) := by
      rw [f_X6_seekFitting, f_X6_seekFitting_B, jn, h3, if_neg (by omega)]
      dsimp only
      rw [jn, o1, w32_nat (by omega)]
      by_cases c0 : ct (ftV C K F P R d) c = 0
      · rw [if_pos (by omega), if_pos c0, x_setF, bd_some]
        dsimp only
        rw [vm, vm, fin _ (by rw [cpy_cell (by omega), wr_ne (by omega)]; exact o1) (by rw [cpy_cell (by omega), wr_ne (by omega)]; exact o2)]
      · rw [if_neg (by omega), if_neg c0]
        dsimp only
        rw [vm, vm, fin μ o1 o2]
    by_cases c0 : ct (ftV C K F P R d) c = 0
    · rw [if_pos c0] at st
      refine ⟨_, st, ⟨fun k h1 h2 h3 h4 => ?_, fun p h1 h2 h3 => ?_, fun k hk => ?_⟩, fun hh => by omega, ⟨?_, ?_, fun _ k hk => ?_⟩⟩
      · rw [wr_cell h1, wr_cell h1, cpy_cell h3, wr_cell h1]
      · rw [wr_ne (by omega), wr_ne (by omega), cpy_cell (by omega), wr_ne (by omega)]
      · rw [wr_cell (by omega), wr_cell (by omega), cpy_cell (by omega), wr_cell (by omega)]
      · rw [wr_ne (by omega), wr_eq]
      · rw [wr_eq]
      · rw [wr_cell (by omega), wr_cell (by omega), cpy_in (by omega) (by omega)]; simp only [Nat.zero_add, Nat.sub_zero]
        rw [wr_cell (by omega), ff, hcv, c0]
        exact hpl k hk
    · rw [if_neg c0] at st
      refine ⟨_, st, ⟨fun k h1 h2 h3 h4 => ?_, fun p h1 h2 h3 => ?_, fun k hk => ?_⟩, fun hh => by omega, ⟨?_, ?_, fun _ k hk => ?_⟩⟩
      · rw [wr_cell h1, wr_cell h1]
      · rw [wr_ne (by omega), wr_ne (by omega)]
      · rw [wr_cell (by omega), wr_cell (by omega)]
      · rw [wr_ne (by omega), wr_eq]
      · rw [wr_eq]
      · rw [wr_cell (by omega), wr_cell (by omega), ff, if_neg (by simp [c0])]
        exact o3 c0 k hk
  | succ m ih =>
    intro d c u μ hdm hu hY h3 hR hcv hday hpl hcl hok
    obtain ⟨u, rfl⟩ : ∃ v, u = v + 1 := ⟨u - 1, by omega⟩
    have hC := hY.1
    have h32 := pow5 hC
    have hWp : 0 < 2 ^ C := Nat.pow_pos (by omega)
    have hBp : 0 < (2 ^ C) ^ m := Nat.pow_pos hWp
    have hdN : d < N := by omega
    have hD := Sd_DB (K := K) hF hC d c
    obtain ⟨μ8, a1, a2, a3, a4⟩ := x_lk1 (t := 26 + 2 * d) (by omega) hY (hD.fb (by omega)) (hday hdN)
    have hday8 : ∀ j : Nat, j < 16 → μ8 (26 + 2 * d + 1) j = Sd C K F d c j := fun j hj => by rw [a2 _ (by simp)]; exact hday hdN j hj
    have e8 : ∀ k : Nat, k ≠ 26 + 2 * d → μ8 k = μ k := fun k hk => a2 k (by simp; exact hk)
    have hY8 : YX μ8 C K := hY.cg (fun k hk => e8 k (by omega))
    have hmin : ∀ i : Nat, i < 2 ^ C → Sd C K F (d + 1) (c * 2 ^ C + i) 0 = Sd C K F d c 0 + stp C K (Sd C K F d c) (fun b => i.testBit b) := fun i hi => by
      rw [Sd, (chd hWp hi).1, (chd hWp hi).2, hr_0]
    have hFv : ∀ i : Nat, i < 2 ^ C → ftV C K F P R (d + 1) (c * 2 ^ C + i) = (decide (i &&& (31 ^^^ P) = 0) && decide (Sd C K F (d + 1) (c * 2 ^ C + i) 0 = R d)) := fun i hi => by
      rw [ftV, (chd hWp hi).1, (chd hWp hi).2, hcv, Bool.true_and]
    have skip : ∀ (i hi : Nat) (μ' : Mem), i ≤ hi → hi ≤ 2 ^ C → (∀ j : Nat, i ≤ j → j < hi → ftV C K F P R (d + 1) (c * 2 ^ C + j) = false) → okF C N P (ftV C K F P R N) (ulV C P N) ((c * 2 ^ C + i) * (2 ^ C) ^ m) μ' → okF C N P (ftV C K F P R N) (ulV C P N) ((c * 2 ^ C + hi) * (2 ^ C) ^ m) μ' := fun i hi μ' h1 h2 hj hq => by
      refine okF_skip hq (Nat.mul_le_mul_right _ (by omega)) (fun e e1 e2 => ?_)
      obtain ⟨q1, q2, q3, q4⟩ := blk hBp e1 e2
      obtain ⟨j, hjj⟩ : ∃ j : Nat, e / (2 ^ C) ^ m = c * 2 ^ C + j := ⟨e / (2 ^ C) ^ m - c * 2 ^ C, by omega⟩
      rw [hjj] at q1 q3 q4
      have hs := ftV_no (hj j (by omega) (by omega)) m (e % (2 ^ C) ^ m) q2
      rw [show d + 1 + m = N by omega, ← q1] at hs
      exact hs
    have loop : ∀ (t v i : Nat) (μ' : Mem), i + t = 2 ^ C → t < v → FS (28 + 2 * d) d μ8 μ' → okF C N P (ftV C K F P R N) (ulV C P N) ((c * 2 ^ C + i) * (2 ^ C) ^ m) μ' →
        ∃ μ'' : Mem, f_X6_seekFitting_L64 (f_X6_seekFitting u) (d : Int) (P : Int) (ulV C P d c : Nat) q v (i : Int) μ' = some ((), μ'') ∧ FS (28 + 2 * d) d μ8 μ'' ∧ okF C N P (ftV C K F P R N) (ulV C P N) ((c * 2 ^ C + 2 ^ C) * (2 ^ C) ^ m) μ'' := by
      intro t
      induction t with
      | zero =>
        intro v i μ' hi hv hf hq'
        obtain ⟨v, rfl⟩ : ∃ w, v = w + 1 := ⟨v - 1, by omega⟩
        refine ⟨μ', ?_, hf, ?_⟩
        · rw [f_X6_seekFitting_L64, w32_nat (i := P) (by omega), w32_nat (i := i) (by omega), if_pos (by omega)]
        · rw [show i = 2 ^ C by omega] at hq'
          exact hq'
      | succ t iht =>
        intro v i μ' hi hv hf hq'
        obtain ⟨v, rfl⟩ : ∃ w, v = w + 1 := ⟨v - 1, by omega⟩
        obtain ⟨s1, s2, s3, s4, s5, s6⟩ := sub_32 (i := i) (M := P) (by omega) (by omega)
        by_cases c1 : P < i
        · refine ⟨μ', ?_, hf, skip i (2 ^ C) μ' (by omega) (Nat.le_refl _) (fun j j1 j2 => ?_) hq'⟩
          · rw [f_X6_seekFitting_L64, w32_nat (i := P) (by omega), w32_nat (i := i) (by omega), if_pos (by omega)]
          · rw [hFv j j2, show decide (j &&& (31 ^^^ P) = 0) = false from decide_eq_false (fun w => by have := (sub_32 (i := j) (M := P) (by omega) (by omega)).2.1 w; omega)]
            rfl
        · have hY' : YX μ' C K := hY8.cg (fun k hk => hf.1 k (by omega) (by omega) (by omega) (by omega))
          by_cases c2 : (i &&& (31 ^^^ P)) = 0
          · have hbh := x_bh (t := 26 + 2 * d) (by omega) hY' (hD.fb (by omega)) (fun j hj => by rw [hf.1 _ (by omega) (by omega) (by omega) (by omega)]; exact hday8 j hj) (by rw [hf.1 _ (by omega) (by omega) (by omega) (by omega)]; exact a3) (by rw [hf.1 _ (by omega) (by omega) (by omega) (by omega)]; exact a4) (fun b => i.testBit b)
            rw [← pm (C := C) (P := i) (by omega), ← hmin i (by omega)] at hbh
            obtain ⟨r1, r2⟩ := hR d hdN
            have eR : μ' (q + 1) d = R d := by rw [hf.1 _ (by omega) (by omega) (by omega) (by omega), e8 _ (by omega)]; exact r1
            have hb1 := (Sd_DB (K := K) hF hC (d + 1) (c * 2 ^ C + i)).1
            have st : f_X6_seekFitting_L64 (f_X6_seekFitting u) (d : Int) (P : Int) (ulV C P d c : Nat) q (v + 1) (i : Int) μ' = if Sd C K F (d + 1) (c * 2 ^ C + i) 0 = R d then (bd (f_X6_step μ' (d : Int) (i : Int)) fun _u m21 => bd (f_X6_seekFitting u m21 ((d : Int) + 1) (P : Int) (zor (ulV C P d c : Nat) (zand (P : Int) (zxor (i : Int) (-1)))) q) fun _u m22 => f_X6_seekFitting_L64 (f_X6_seekFitting u) (d : Int) (P : Int) (ulV C P d c : Nat) q v ((i : Int) + 1) m22) else f_X6_seekFitting_L64 (f_X6_seekFitting u) (d : Int) (P : Int) (ulV C P d c : Nat) q v ((i : Int) + 1) μ' := by
              rw [f_X6_seekFitting_L64, w32_nat (i := P) (by omega), w32_nat (i := i) (by omega), if_neg (by omega), jn, s1, c2, Int.natCast_zero, if_pos w0, w32_nat (i := d) (by omega), Int.toNat_natCast, hbh, bd_some, ck_ok (by omega) (by omega) (by omega), eR, r2.w, w32_id (a := Sd C K F (d + 1) (c * 2 ^ C + i) 0) (by omega) (by omega)]
            rw [st]
            by_cases c3 : Sd C K F (d + 1) (c * 2 ^ C + i) 0 = R d
            · rw [if_pos c3]
              obtain ⟨μ2, g1, g2, g3, g4, g5⟩ := x_step (F := Sd C K F d c) (N := N) (d := d) (s := i) hY' hD (by omega) hN (by rw [hf.2.1 3 (by omega) (by omega) (by omega), e8 22 (by omega)]; exact h3) hdN (by omega) (fun j hj => by rw [hf.1 _ (by omega) (by omega) (by omega) (by omega)]; exact hday8 j hj)
              have hf2 := hf.tr g2
              have hY2 : YX μ2 C K := hY'.cg (fun k hk => g2.1 k (by omega) (by omega) (by omega) (by omega))
              have hU := ulV_32 (C := C) (P := P) (by omega) d c
              have hUc : zor (ulV C P d c : Nat) (zand (P : Int) (zxor (i : Int) (-1))) = (ulV C P (d + 1) (c * 2 ^ C + i) : Nat) := by
                rw [(sub_32 (i := P) (M := i) (by omega) (by omega)).1, show zor (ulV C P d c : Nat) ((P &&& (31 ^^^ i) : Nat) : Int) = ((ulV C P d c ||| (P &&& (31 ^^^ i)) : Nat) : Int) from zor_32 ⟨ulV C P d c, hU⟩ ⟨P &&& (31 ^^^ i), Nat.lt_of_le_of_lt Nat.and_le_left (by omega)⟩, ulV, (chd hWp (show i < 2 ^ C by omega)).1, (chd hWp (show i < 2 ^ C by omega)).2]
              have hcl' : c * 2 ^ C + i < 2 ^ (C * (d + 1)) := by
                rw [Nat.mul_succ, Nat.pow_add]
                exact blk_lt hcl (by omega)
              obtain ⟨μ3, k1, k2, -, k4⟩ := ih (d + 1) (c * 2 ^ C + i) u μ2 (by omega) (by omega) hY2 (by rw [hf2.2.1 3 (by omega) (by omega) (by omega), e8 22 (by omega)]; exact h3) (fun k hk => by rw [hf2.1 _ (by omega) (by omega) (by omega) (by omega), e8 _ (by omega)]; exact hR k hk) (by rw [hFv i (by omega), c2, c3]; simp) (fun hh j hj => by
                rw [g5 hh j hj, Sd, (chd hWp (show i < 2 ^ C by omega)).1, (chd hWp (show i < 2 ^ C by omega)).2]) (fun k hk => by
                by_cases g : k = d
                · subst g; rw [g3, dg_la (by omega)]
                · rw [hf2.2.2 k (by omega), e8 24 (by omega), hpl k (by omega), dg_ch (by omega) (by omega)]) hcl' (okF_cg hq' (g4 22 (by omega)) (g4 25 (by omega)))
              have hf3 : FS (28 + 2 * d) d μ8 μ3 := hf2.tr (k2.mono (by omega) (by omega))
              obtain ⟨μ4, l1, l2, l3⟩ := iht v (i + 1) μ3 (by omega) (by omega) hf3 k4
              rw [show ((i + 1 : Nat) : Int) = (i : Int) + 1 by omega] at l1
              refine ⟨μ4, ?_, l2, l3⟩
              rw [g1, bd_some, hUc, show (d : Int) + 1 = ((d + 1 : Nat) : Int) by omega, k1, bd_some]
              exact l1
            · rw [if_neg c3]
              obtain ⟨μ4, l1, l2, l3⟩ := iht v (i + 1) μ' (by omega) (by omega) hf (skip i (i + 1) μ' (by omega) (by omega) (fun j j1 j2 => by rw [show j = i by omega, hFv i (by omega)]; simp [c3]) hq')
              rw [show ((i + 1 : Nat) : Int) = (i : Int) + 1 by omega] at l1
              exact ⟨μ4, l1, l2, l3⟩
          · obtain ⟨μ4, l1, l2, l3⟩ := iht v (i + 1) μ' (by omega) (by omega) hf (skip i (i + 1) μ' (by omega) (by omega) (fun j j1 j2 => by rw [show j = i by omega, hFv i (by omega)]; simp [c2]) hq')
            rw [show ((i + 1 : Nat) : Int) = (i : Int) + 1 by omega] at l1
            refine ⟨μ4, ?_, l2, l3⟩
            rw [f_X6_seekFitting_L64, w32_nat (i := P) (by omega), w32_nat (i := i) (by omega), if_neg (by omega), jn, s1, w32_nat (by omega), if_neg (by omega)]
            exact l1
    have hok8 : okF C N P (ftV C K F P R N) (ulV C P N) ((c * 2 ^ C + 0) * (2 ^ C) ^ m) μ8 := by
      rw [Nat.add_zero, Nat.mul_assoc, ← Nat.pow_succ']
      exact okF_cg hok (e8 22 (by omega)) (e8 25 (by omega))
    obtain ⟨μ9, l1, l2, l3⟩ := loop (2 ^ C) 100000 0 μ8 (by omega) (by omega) FS.rf hok8
    rw [Int.natCast_zero] at l1
    have hf9 : FS (26 + 2 * d) d μ μ9 := FS.tr ⟨fun k k1 k2 k3 k4 => e8 k (by omega), fun p _ _ _ => by rw [e8 22 (by omega)], fun k hk => by rw [e8 24 (by omega)]⟩ (l2.mono (by omega) (Nat.le_refl _))
    refine ⟨μ9, ?_, hf9, fun _ => ?_, ?_⟩
    · rw [f_X6_seekFitting, f_X6_seekFitting_B, jn, h3, w32_nat (i := d) (by omega), w32_nat (i := N) (by omega), if_pos (by omega), w32_id (a := 3) (by omega) (by omega), if_pos (by omega), ck_ok (by omega) (by omega) (by omega), Int.toNat_natCast, a1, bd_some]
      exact l1
    · rw [l2.1 _ (by omega) (by omega) (by omega) (by omega), e8 _ (by omega)]
    · rw [Nat.pow_succ', ← Nat.mul_assoc, Nat.add_mul, Nat.one_mul]
      exact l3
/-! the reference -/
def fq (C : Nat) (K : Nat → Int) (s : Nat → Nat) (F : Nat → Int) (P : Nat) (R : Nat → Int) : Nat → Bool
  | 0 => true
  | k + 1 => fq C K s F P R k && (decide (s k &&& (31 ^^^ P) = 0) && decide (xq C K (fun k b => (s k).testBit b) F (k + 1) 0 = R k))
theorem fq_Fv {C N e P : Nat} {K F R : Nat → Int} : ∀ k : Nat, k ≤ N → fq C K (dg C N e) F P R k = ftV C K F P R k (e / 2 ^ (C * (N - k))) := by
  intro k
  induction k with
  | zero => intro _; rfl
  | succ k ih =>
    intro hk
    have hx := xq_Sd (C := C) (K := K) (F := F) (N := N) (e := e) (k + 1) hk
    rw [fq, ftV, ih (by omega), dv (by omega), ← hx]
    have : dg C N e k = e / 2 ^ (C * (N - (k + 1))) % 2 ^ C := by
      unfold dg
      rw [show N - 1 - k = N - (k + 1) by omega]
    rw [this]
    rfl
theorem m_iso_loop {n N e P r : Nat} {μs : Mem} {C V : Nat} {K lt fr tt wo F R : Nat → Int} (hY : YM μs C K) (hV : VM μs V lt fr tt wo) (hF : DB n F) (hn : n ≤ 900) (hN : N ≤ 3) (he : e < 2 ^ 31) (hP : P < 2 ^ C) (hr : r < 6) (hR : ∀ k : Nat, k < N → μs 77 (40 * r + k) = R k ∧ inR (R k)) :
    ∀ (d u i : Nat) (μ' : Mem), i + d = N → d < u → FH μs μ' → (fq C K (dg C N e) F P R i = true → ∀ j : Nat, j < 16 → μ' 73 j = mq C V K (gnv lt fr tt wo) (sd C N e) F i j) → (fq C K (dg C N e) F P R i = false → fq C K (dg C N e) F P R N = false) →
    ∃ μ'' : Mem, (∀ Kc, f_X10_isSo_L14 Kc (P : Int) (r : Int) (e : Int) (N : Int) u (bt (fq C K (dg C N e) F P R i)) (i : Int) μ' = Kc (bt (fq C K (dg C N e) F P R N)) μ'') ∧ FH μs μ'' := by
  have hC := hY.1
  have h32 := pow5 hC
  intro d
  induction d with
  | zero =>
    intro u i μ' hi hu hf hd hfl
    obtain ⟨u, rfl⟩ : ∃ v, u = v + 1 := ⟨u - 1, by omega⟩
    refine ⟨μ', fun Kc => ?_, hf⟩
    rw [f_X10_isSo_L14, w32_nat (by omega), w32_nat (by omega), if_neg (by omega), show i = N by omega]
  | succ d ih =>
    intro u i μ' hi hu hf hd hfl
    obtain ⟨u, rfl⟩ : ∃ v, u = v + 1 := ⟨u - 1, by omega⟩
    by_cases c0 : fq C K (dg C N e) F P R i = true
    · have hE := mq_xq (V := V) (K := K) (F := F) (g := gnv lt fr tt wo) (s := sd C N e) hC (i + 1)
      obtain ⟨μ2, g1, g2, g3, -⟩ := m_hr (hY.fh hf.fm) (hV.fh hf.fm) (mq_DB (s := sd C N e) (K := K) hF hC hV.1 hV.2.2.2 i) (by omega) (hd c0) (sd C N e i)
      have hm : ((dg C N e i : Nat) : Int) = (msk C (sd C N e i) : Nat) := pm dg_lt
      have hdl : dg C N e i < 2 ^ C := dg_lt
      have hmn : μ2 73 0 = xq C K (sd C N e) F (i + 1) 0 := by rw [g3 0 (by omega)]; exact hE 0 (by omega)
      have hb := (xq_DB (s := sd C N e) (K := K) hF hC (i + 1)).1
      obtain ⟨r1, r2⟩ := hR i (by omega)
      have e77 : μ2 77 (40 * r + i) = R i := by rw [g2.1 77 (by omega) (by omega), hf.1 77 (by omega) (by omega)]; exact r1
      have hnx : fq C K (dg C N e) F P R (i + 1) = (decide (dg C N e i &&& (31 ^^^ P) = 0) && decide (xq C K (sd C N e) F (i + 1) 0 = R i)) := by
        rw [fq, c0, Bool.true_and]
        rfl
      have hfl' : fq C K (dg C N e) F P R (i + 1) = false → fq C K (dg C N e) F P R N = false := fun hz => by
        have : ∀ t : Nat, fq C K (dg C N e) F P R (i + 1 + t) = false := by
          intro t
          induction t with
          | zero => exact hz
          | succ t iht => rw [show i + 1 + (t + 1) = (i + 1 + t) + 1 by omega, fq, iht]; rfl
        have h2 := this (N - (i + 1))
        rw [show i + 1 + (N - (i + 1)) = N by omega] at h2
        exact h2
      obtain ⟨μ3, k1, k2⟩ := ih u (i + 1) μ2 (by omega) (by omega) (hf.tr g2) (fun _ j hj => g3 j hj) hfl'
      refine ⟨μ3, fun Kc => ?_, k2⟩
      have k1' := k1 Kc
      rw [show ((i + 1 : Nat) : Int) = (i : Int) + 1 by omega, hnx] at k1'
      rw [f_X10_isSo_L14, w32_nat (i := i) (by omega), w32_nat (i := N) (by omega), if_pos (by omega), c0, show bt true = 1 from rfl, if_neg w1ne, m_setOf (hY.fh hf.fm).2.1 hC hN (by omega) he, bd_some, (sub_32 (i := dg C N e i) (M := P) (by omega) (by omega)).1, hm, g1, bd_some, jn, jn, ck_ok (by omega) (by omega) (by omega), ck_ok (by omega) (by omega) (by omega), w32_id (a := 0) (by omega) (by omega), Int.toNat_zero, hmn, w32_id (a := 40 * (r : Int) + (i : Int)) (by omega) (by omega), show (40 * (r : Int) + (i : Int)).toNat = 40 * r + i by omega, e77, r2.w, w32_id (a := xq C K (sd C N e) F (i + 1) 0) (by omega) (by omega), w32_nat (i := dg C N e i &&& (31 ^^^ P)) (by have : dg C N e i &&& (31 ^^^ P) ≤ dg C N e i := Nat.and_le_left; omega)]
      by_cases c2 : dg C N e i &&& (31 ^^^ P) = 0
      · rw [if_pos (by omega)]
        by_cases c3 : xq C K (sd C N e) F (i + 1) 0 = R i
        · rw [decide_eq_true c2, decide_eq_true c3] at k1'
          rw [if_pos c3]
          exact k1'
        · rw [decide_eq_true c2, decide_eq_false c3] at k1'
          rw [if_neg c3]
          exact k1'
      · rw [decide_eq_false c2] at k1'
        rw [if_neg (by omega)]
        exact k1'
    · have c0' : fq C K (dg C N e) F P R i = false := by simpa using c0
      refine ⟨μ', fun Kc => ?_, hf⟩
      rw [f_X10_isSo_L14, w32_nat (i := i) (by omega), w32_nat (i := N) (by omega), if_pos (by omega), c0', show bt false = 0 from rfl, if_pos w0, hfl c0']
      rfl
theorem m_iso {n N e P r : Nat} {μs μ : Mem} {C V : Nat} {K lt fr tt wo F R : Nat → Int} (hY : YM μs C K) (hV : VM μs V lt fr tt wo) (hF : DB n F) (hn : n ≤ 900) (hN : N ≤ 3) (he : e < 2 ^ 31) (hP : P < 2 ^ C) (hr : r < 6) (h76 : μs 76 r = (N : Int)) (hR : ∀ k : Nat, k < N → μs 77 (40 * r + k) = R k ∧ inR (R k)) (h92 : ∀ i : Nat, i < 16 → μs 92 i = F i) (hf : FH μs μ) (hd : ∀ j : Nat, j < 16 → μ 73 j = F j) :
    ∃ μ' : Mem, f_X10_isSo μ (P : Int) (r : Int) (e : Int) = some (bt (ftV C K F P R N e), μ') ∧ FH μs μ' ∧ ∀ j : Nat, j < 16 → μ' 73 j = F j := by
  obtain ⟨μ2, g1, g2⟩ := m_iso_loop (e := e) (P := P) hY hV hF hn hN he hP hr hR N 100000 0 μ (by omega) (by omega) hf (fun _ => hd) (fun hz => by simp [fq] at hz)
  have hfv : fq C K (dg C N e) F P R N = ftV C K F P R N e := by rw [fq_Fv N (by omega), Nat.sub_self, Nat.mul_zero, Nat.pow_zero, Nat.div_one]
  rw [Int.natCast_zero, hfv, show bt (fq C K (dg C N e) F P R 0) = 1 from rfl] at g1
  obtain ⟨q1, q2⟩ := bk_ok (F := F) g2 h92
  refine ⟨_, ?_, q1, q2⟩
  rw [f_X10_isSo, ck_ok (by omega) (by omega) (by omega), vl, w32_nat (i := r) (by omega), Int.toNat_natCast, hf.1 76 (by omega) (by omega), h76, g1, m_back, bd_some]
  unfold ckb
  rw [if_pos]
  cases ftV C K F P R N e <;> simp [bt]
theorem m_fit_loop {Kc : Int → Int → Mem → Option (Int × Mem)} {n N P r : Nat} {μs : Mem} {C V : Nat} {K lt fr tt wo F R : Nat → Int} (hY : YM μs C K) (hV : VM μs V lt fr tt wo) (hF : DB n F) (hn : n ≤ 900) (hN : N ≤ 3) (hP : P < 2 ^ C) (hr : r < 6) (h76 : μs 76 r = (N : Int)) (hR : ∀ k : Nat, k < N → μs 77 (40 * r + k) = R k ∧ inR (R k)) (h92 : ∀ i : Nat, i < 16 → μs 92 i = F i) :
    ∀ (d u i : Nat) (μ' : Mem), i + d = 2 ^ (C * N) → d < u → FH μs μ' → (∀ j : Nat, j < 16 → μ' 73 j = F j) →
    ∃ μ'' : Mem, f_X10_fits_L60 Kc (P : Int) (r : Int) (N : Int) u (ct (ftV C K F P R N) i : Nat) (ff (ftV C K F P R N) i : Nat) (i : Int) μ' = Kc (ct (ftV C K F P R N) (2 ^ (C * N)) : Nat) (ff (ftV C K F P R N) (2 ^ (C * N)) : Nat) μ'' ∧ FH μs μ'' ∧ ∀ j : Nat, j < 16 → μ'' 73 j = F j := by
  have hC := hY.1
  have h15 := pow15 hC hN
  intro d
  induction d with
  | zero =>
    intro u i μ' hi hu hf hd
    obtain ⟨u, rfl⟩ : ∃ v, u = v + 1 := ⟨u - 1, by omega⟩
    refine ⟨μ', ?_, hf, hd⟩
    rw [f_X10_fits_L60, m_codes (hY.fh hf.fm).2.1 hC hN, bd_some, w32_nat (i := i) (by omega), w32_nat (i := 2 ^ (C * N)) (by omega), if_neg (by omega), show i = 2 ^ (C * N) by omega]
  | succ d ih =>
    intro u i μ' hi hu hf hd
    obtain ⟨u, rfl⟩ : ∃ v, u = v + 1 := ⟨u - 1, by omega⟩
    obtain ⟨μ2, g1, g2, g3⟩ := m_iso (e := i) hY hV hF hn hN (by omega) hP hr h76 hR h92 hf hd
    obtain ⟨μ3, k1, k2, k3⟩ := ih u (i + 1) μ2 (by omega) (by omega) g2 g3
    rw [show ((i + 1 : Nat) : Int) = (i : Int) + 1 by omega, ct, ff] at k1
    have hct := ct_le (f := ftV C K F P R N) i
    refine ⟨μ3, ?_, k2, k3⟩
    rw [f_X10_fits_L60, m_codes (hY.fh hf.fm).2.1 hC hN, bd_some, w32_nat (i := i) (by omega), w32_nat (i := 2 ^ (C * N)) (by omega), if_pos (by omega), g1, bd_some, vl, vl, vl, bt_w, bt_w, w32_nat (i := ct (ftV C K F P R N) i) (by omega)]
    cases hz : ftV C K F P R N i with
    | false =>
      rw [hz] at k1
      simp only [Bool.false_and, Bool.false_eq_true, if_false] at k1 ⊢
      rw [Int.add_zero]
      exact k1
    | true =>
      rw [hz] at k1
      simp only [Bool.true_and, if_true, decide_eq_true_eq] at k1 ⊢
      rw [show ((ct (ftV C K F P R N) i + 1 : Nat) : Int) = (ct (ftV C K F P R N) i : Int) + 1 by omega] at k1
      by_cases c0 : ct (ftV C K F P R N) i = 0
      · rw [if_pos c0] at k1
        rw [if_pos (by omega)]
        exact k1
      · rw [if_neg c0] at k1
        rw [if_neg (by omega)]
        exact k1
