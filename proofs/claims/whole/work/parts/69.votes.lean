/-! votes, choice, parts -/
def Gn (C : Nat) (K F : Nat → Int) (g : Int → Nat → Int) (P v : Nat) : Int := g (F 0) v + g (F 0 + stp C K F (fun b => P.testBit b)) v
theorem Gn_b {C : Nat} {K F lt fr tt wo : Nat → Int} (h : VB lt fr tt wo) (P : Nat) {v : Nat} (hv : v < 4) : 0 ≤ Gn C K F (gnv lt fr tt wo) P v ∧ Gn C K F (gnv lt fr tt wo) P v ≤ 18 := by
  have h1 := gnv_b h (F 0) hv
  have h2 := gnv_b h (F 0 + stp C K F (fun b => P.testBit b)) hv
  unfold Gn
  omega
theorem x_wei_in {μ : Mem} {V P : Nat} {lt fr tt wo : Nat → Int} {m m' : Int} (hV : VX μ V lt fr tt wo) (hm : 0 ≤ m ∧ m ≤ 1000) (hm' : 0 ≤ m' ∧ m' ≤ 1000) (hP : P < 32) : ∀ (d u i : Nat) (μ' : Mem), i + d = V → d < u → (∀ k : Nat, k ≠ 35 → μ' k = μ k) →
    ∃ μ'' : Mem, (∀ Kc, f_X0_weigh_L53 Kc m (P : Int) m' u (i : Int) μ' = Kc μ'') ∧ (∀ k : Nat, k ≠ 35 → μ'' k = μ k) ∧ (∀ v : Nat, i ≤ v → v < V → μ'' 35 (4 * P + v) = gnv lt fr tt wo m v + gnv lt fr tt wo m' v) ∧ (∀ q : Nat, ¬ (4 * P + i ≤ q ∧ q < 4 * P + V) → μ'' 35 q = μ' 35 q) := by
  have hV4 := hV.1
  intro d
  induction d with
  | zero =>
    intro u i μ' hi hu hf
    obtain ⟨u, rfl⟩ : ∃ v, u = v + 1 := ⟨u - 1, by omega⟩
    refine ⟨μ', fun Kc => ?_, hf, fun v h1 h2 => by omega, fun q _ => rfl⟩
    rw [f_X0_weigh_L53, hf 6 (by omega), hV.2.1, w32_nat (by omega), w32_nat (by omega), if_neg (by omega)]
  | succ d ih =>
    intro u i μ' hi hu hf
    obtain ⟨u, rfl⟩ : ∃ v, u = v + 1 := ⟨u - 1, by omega⟩
    have hV' : VX μ' V lt fr tt wo := hV.cg (fun k hk => hf k (by omega))
    obtain ⟨μ3, k1, k2, k3, k4⟩ := ih u (i + 1) (wr μ' 35 (4 * P + i) (gnv lt fr tt wo m i + gnv lt fr tt wo m' i)) (by omega) (by omega) (fun k hk => by rw [wr_cell hk]; exact hf k hk)
    refine ⟨μ3, fun Kc => ?_, k2, fun v h1 h2 => ?_, fun q hq => ?_⟩
    · have k1' := k1 Kc
      rw [show ((i + 1 : Nat) : Int) = (i : Int) + 1 by omega] at k1'
      rw [f_X0_weigh_L53, hf 6 (by omega), hV.2.1, w32_nat (i := i) (by omega), w32_nat (i := V) (by omega), if_pos (by omega), x_gain hV' (by omega) hm, bd_some, x_gain hV' (by omega) hm', bd_some, ck_ok (by omega) (by omega) (by omega), vm, w32_id (a := (P : Int) * 4 + (i : Int)) (by omega) (by omega), show ((P : Int) * 4 + (i : Int)).toNat = 4 * P + i by omega]
      exact k1'
    · by_cases e : v = i
      · subst e; rw [k4 _ (by omega), wr_eq]
      · exact k3 v (by omega) h2
    · rw [k4 q (by omega), wr_ne (by omega)]
theorem x_wei_out {n : Nat} {μ : Mem} {C V : Nat} {K F lt fr tt wo : Nat → Int} (hY : YX μ C K) (hV : VX μ V lt fr tt wo) (hF : DB n F) (hn : n ≤ 900) (hd : ∀ i : Nat, i < 16 → μ (33 + 1) i = F i) (h1 : μ 33 1 = (msk C (abl K F) : Nat)) (h2 : μ 33 2 = (msk C (frl K F) : Nat)) :
    ∀ (d u i : Nat) (μ' : Mem), i + d = 2 ^ C → d < u → (∀ k : Nat, k ≠ 35 → μ' k = μ k) → (∀ P v : Nat, P < i → v < V → μ' 35 (4 * P + v) = Gn C K F (gnv lt fr tt wo) P v) →
    ∃ μ'' : Mem, f_X0_weigh_L29 (F 0) u (i : Int) μ' = some ((), μ'') ∧ (∀ k : Nat, k ≠ 35 → μ'' k = μ k) ∧ (∀ P v : Nat, P < 2 ^ C → v < V → μ'' 35 (4 * P + v) = Gn C K F (gnv lt fr tt wo) P v) := by
  have hC := hY.1
  have h32 := pow5 hC
  have hV4 := hV.1
  intro d
  induction d with
  | zero =>
    intro u i μ' hi hu hf hg
    obtain ⟨u, rfl⟩ : ∃ v, u = v + 1 := ⟨u - 1, by omega⟩
    refine ⟨μ', ?_, hf, fun P v hP hv => hg P v (by omega) hv⟩
    rw [f_X0_weigh_L29, x_all (by rw [hf 6 (by omega)]; exact hY.2.1) hC, bd_some, w32_nat (by omega), w32_id (by omega) (by omega), if_pos (by omega)]
  | succ d ih =>
    intro u i μ' hi hu hf hg
    obtain ⟨u, rfl⟩ : ∃ v, u = v + 1 := ⟨u - 1, by omega⟩
    have hs := stp_b C K F (fun b => i.testBit b) hC
    have h0 := hF.1
    have hb := x_bh (t := 33) (by omega) (hY.cg (μ' := μ') (fun k hk => hf k (by omega))) (hF.fb (by omega)) (fun j hj => by rw [hf (33 + 1) (by omega)]; exact hd j hj) (by rw [hf 33 (by omega)]; exact h1) (by rw [hf 33 (by omega)]; exact h2) (fun b => i.testBit b)
    rw [← pm (C := C) (P := i) (by omega)] at hb
    obtain ⟨μ2, g1, g2, g3, g4⟩ := x_wei_in (P := i) (m := F 0) (m' := F 0 + stp C K F (fun b => i.testBit b)) hV ⟨by omega, by omega⟩ ⟨by omega, by omega⟩ (by omega) V 100000 0 μ' (by omega) (by omega) hf
    rw [Int.natCast_zero] at g1
    obtain ⟨μ3, k1, k2, k3⟩ := ih u (i + 1) μ2 (by omega) (by omega) g2 (fun P v hP hv => by
      by_cases e : P = i
      · subst e; exact g3 v (by omega) hv
      · rw [g4 _ (by omega)]; exact hg P v (by omega) hv)
    rw [show ((i + 1 : Nat) : Int) = (i : Int) + 1 by omega] at k1
    refine ⟨μ3, ?_, k2, k3⟩
    rw [f_X0_weigh_L29, x_all (by rw [hf 6 (by omega)]; exact hY.2.1) hC, bd_some, w32_nat (i := i) (by omega), w32_id (a := ((2 ^ C : Nat) : Int) - 1) (by omega) (by omega), if_neg (by omega), hb, bd_some, g1]
    exact k1
theorem x_wei {n : Nat} {μ : Mem} {C V : Nat} {K F lt fr tt wo : Nat → Int} (hY : YX μ C K) (hV : VX μ V lt fr tt wo) (hF : DB n F) (hn : n ≤ 900) (hd : ∀ i : Nat, i < 16 → μ 14 i = F i) :
    ∃ μ' : Mem, f_X0_weigh μ = some ((), μ') ∧ Fr [33, 34, 35] μ μ' ∧ (∀ P v : Nat, P < 2 ^ C → v < V → μ' 35 (4 * P + v) = Gn C K F (gnv lt fr tt wo) P v) := by
  have hf : Fr [34] μ (cpy μ 14 (33 + 1) 0 0 16) := fun k hk => by simp at hk; exact cpy_cell (by omega)
  have hd1 : ∀ i : Nat, i < 16 → cpy μ 14 (33 + 1) 0 0 16 (33 + 1) i = F i := fun j hj => by rw [cpy_in (by omega) (by omega)]; simp only [Nat.zero_add, Nat.sub_zero]; exact hd j hj
  have hY1 := hY.fr hf (fun k hk => by simp at hk; omega)
  have hV1 := hV.fr hf (fun k hk => by simp at hk; omega)
  obtain ⟨μ2, g1, g2, g3, g4⟩ := x_lk1 (t := 33) (by omega) hY1 (hF.fb (by omega)) hd1
  obtain ⟨μ3, k1, k2, k3⟩ := x_wei_out (hY1.fr g2 (fun k hk => by simp at hk; omega)) (hV1.fr g2 (fun k hk => by simp at hk; omega)) hF hn (fun i hi => by rw [g2 (33 + 1) (by simp)]; exact hd1 i hi) g3 g4 (2 ^ C) 100000 0 μ2 (by omega) (by have := pow5 hY.1; omega) (fun _ _ => rfl) (fun P v h1 => by omega)
  rw [Int.natCast_zero] at k1
  refine ⟨μ3, ?_, fun k hk => ?_, k3⟩
  · rw [f_X0_weigh, x_tk, bd_some, g1, bd_some, ck_ok (by omega) (by omega) (by omega), vl, w32_id (a := 0) (by omega) (by omega), Int.toNat_zero, g2 (33 + 1) (by simp), hd1 0 (by omega)]
    exact k1
  · simp only [List.mem_cons, List.not_mem_nil, or_false, not_or] at hk
    rw [k2 k (by omega), g2 k (by simp; omega), cpy_cell (by omega)]
def FG (μ μ' : Mem) : Prop := (∀ k : Nat, k ≠ 67 → k ≠ 73 → k ≠ 93 → μ' k = μ k) ∧ ∀ p : Nat, p ≠ 35 → p ≠ 36 → μ' 67 p = μ 67 p
theorem FG.rf {μ : Mem} : FG μ μ := ⟨fun _ _ _ _ => rfl, fun _ _ _ => rfl⟩
theorem FG.fm {μ μ' : Mem} (h : FG μ μ') : FM μ μ' := ⟨fun k hk => h.1 k (by omega) (by omega) (by omega), fun p hp => h.2 p (by omega) (by omega)⟩
theorem FH.fg {μ μ' : Mem} (h : FH μ μ') : FG μ μ' := ⟨fun k h1 h2 _ => h.1 k h1 h2, h.2⟩
theorem FG.tr {μ μ' μ'' : Mem} (h : FG μ μ') (h' : FG μ' μ'') : FG μ μ'' := ⟨fun k h1 h2 h3 => (h'.1 k h1 h2 h3).trans (h.1 k h1 h2 h3), fun p h1 h2 => (h'.2 p h1 h2).trans (h.2 p h1 h2)⟩
theorem FG.of {μ μ' : Mem} (h : ∀ k : Nat, k ≠ 73 → k ≠ 93 → μ' k = μ k) : FG μ μ' := ⟨fun k _ h1 h2 => h k h1 h2, fun p _ _ => by rw [h 67 (by omega) (by omega)]⟩
theorem m_fg_in {V P : Nat} {G : Nat → Int} (hV : V ≤ 4) (hP : P < 32) : ∀ (d u i : Nat) (μ' : Mem), i + d = V → d < u → μ' 67 1 = (V : Int) → (∀ v : Nat, v < V → μ' 73 (12 + v) - μ' 92 (12 + v) = G v) →
    ∃ μ'' : Mem, (∀ Kc, f_X10_findGains_L30 Kc (P : Int) u (i : Int) μ' = Kc μ'') ∧ (∀ k : Nat, k ≠ 93 → μ'' k = μ' k) ∧ (∀ v : Nat, i ≤ v → v < V → μ'' 93 (4 * P + v) = G v) ∧ (∀ q : Nat, ¬ (4 * P + i ≤ q ∧ q < 4 * P + V) → μ'' 93 q = μ' 93 q) := by
  intro d
  induction d with
  | zero =>
    intro u i μ' hi hu h1 hf
    obtain ⟨u, rfl⟩ : ∃ v, u = v + 1 := ⟨u - 1, by omega⟩
    refine ⟨μ', fun Kc => ?_, fun _ _ => rfl, fun v h1 h2 => by omega, fun q _ => rfl⟩
    rw [f_X10_findGains_L30, h1, w32_nat (by omega), w32_nat (by omega), if_neg (by omega)]
  | succ d ih =>
    intro u i μ' hi hu h1 hf
    obtain ⟨u, rfl⟩ : ∃ v, u = v + 1 := ⟨u - 1, by omega⟩
    obtain ⟨μ3, k1, k2, k3, k4⟩ := ih u (i + 1) (wr μ' 93 (4 * P + i) (G i)) (by omega) (by omega) (by rw [wr_cell (by omega)]; exact h1) (fun v hv => by rw [wr_cell (by omega), wr_cell (by omega)]; exact hf v hv)
    refine ⟨μ3, fun Kc => ?_, fun k hk => by rw [k2 k hk, wr_cell hk], fun v h1 h2 => ?_, fun q hq => ?_⟩
    · have k1' := k1 Kc
      rw [show ((i + 1 : Nat) : Int) = (i : Int) + 1 by omega] at k1'
      rw [f_X10_findGains_L30, h1, w32_nat (i := i) (by omega), w32_nat (i := V) (by omega), if_pos (by omega), ck_ok (by omega) (by omega) (by omega), ck_ok (by omega) (by omega) (by omega), ck_ok (by omega) (by omega) (by omega), vm, w32_id (a := 4 * (P : Int) + (i : Int)) (by omega) (by omega), w32_id (a := 12 + (i : Int)) (by omega) (by omega), show (4 * (P : Int) + (i : Int)).toNat = 4 * P + i by omega, show (12 + (i : Int)).toNat = 12 + i by omega, hf i (by omega)]
      exact k1'
    · by_cases e : v = i
      · subst e; rw [k4 _ (by omega), wr_eq]
      · exact k3 v (by omega) h2
    · rw [k4 q (by omega), wr_ne (by omega)]
theorem m_fg_out {n : Nat} {μs : Mem} {C V : Nat} {K F lt fr tt wo : Nat → Int} (hY : YM μs C K) (hV : VM μs V lt fr tt wo) (hF : DB n F) (hn : n ≤ 900) (h92 : ∀ i : Nat, i < 16 → μs 92 i = F i) :
    ∀ (d u i : Nat) (μ' : Mem), i + d = 2 ^ C → d < u → FG μs μ' → (∀ j : Nat, j < 16 → μ' 73 j = F j) → (∀ P v : Nat, P < i → v < V → μ' 93 (4 * P + v) = Gn C K F (gnv lt fr tt wo) P v) →
    ∃ μ'' : Mem, f_X10_findGains_L6 u (i : Int) μ' = some ((), μ'') ∧ FG μs μ'' ∧ (∀ j : Nat, j < 16 → μ'' 73 j = F j) ∧ (∀ P v : Nat, P < 2 ^ C → v < V → μ'' 93 (4 * P + v) = Gn C K F (gnv lt fr tt wo) P v) := by
  have hC := hY.1
  have h32 := pow5 hC
  have hV4 := hV.1
  intro d
  induction d with
  | zero =>
    intro u i μ' hi hu hf hd hg
    obtain ⟨u, rfl⟩ : ∃ v, u = v + 1 := ⟨u - 1, by omega⟩
    refine ⟨μ', ?_, hf, hd, fun P v hP hv => hg P v (by omega) hv⟩
    rw [f_X10_findGains_L6, (hY.fh hf.fm).2.1, z_all hC, w32_nat (by omega), w32_nat (by omega), if_neg (by omega)]
  | succ d ih =>
    intro u i μ' hi hu hf hd hg
    obtain ⟨u, rfl⟩ : ∃ v, u = v + 1 := ⟨u - 1, by omega⟩
    have hY' := hY.fh hf.fm
    have hV' := hV.fh hf.fm
    obtain ⟨μ1, a1, a2, a3, -⟩ := m_hr hY' hV' hF (by omega) hd (fun b => i.testBit b)
    obtain ⟨μ2, b1, b2, b3, -⟩ := m_hr (hY'.fh a2.fm) (hV'.fh a2.fm) (hrm_DB (K := K) (p := fun b => i.testBit b) hF hC hV4 hV.2.2.2 (F 0)) (by omega) a3 (fun b => i.testBit b)
    rw [← pm (C := C) (P := i) (by omega)] at a1 b1
    have f2 := hf.tr (a2.tr b2).fg
    have e92 : ∀ j : Nat, j < 16 → μ2 92 j = F j := fun j hj => by rw [f2.1 92 (by omega) (by omega) (by omega)]; exact h92 j hj
    have hE : E12 (gth V (gnv lt fr tt wo (F 0)) F) F := E12.gth E12.rf
    obtain ⟨μ3, c1, c2, c3, c4⟩ := m_fg_in (P := i) (G := fun v => Gn C K F (gnv lt fr tt wo) i v) hV4 (by omega) V 100000 0 μ2 (by omega) (by omega) (by rw [f2.2 1 (by omega) (by omega)]; exact hV.2.1) (fun v hv => by
      rw [e92 (12 + v) (by omega), b3 (12 + v) (by omega), hr_g hC, gth, if_pos (by omega), hr_g hC, hr_0, e_stp hC hE, hE 0 (by omega), gth, if_pos (by omega), show 12 + v - 12 = v by omega]
      unfold Gn
      omega)
    rw [Int.natCast_zero] at c1
    have f3 : FG μs (cpy μ3 92 73 0 0 16) := f2.tr (FG.of (fun k h1 h2 => by rw [cpy_cell h1, c2 k h2]))
    obtain ⟨μ4, k1, k2, k3, k4⟩ := ih u (i + 1) (cpy μ3 92 73 0 0 16) (by omega) (by omega) f3 (fun j hj => by
      rw [cpy_in (by omega) (by omega)]; simp only [Nat.zero_add, Nat.sub_zero]
      rw [c2 92 (by omega)]; exact e92 j hj) (fun P v hP hv => by
      rw [cpy_cell (by omega)]
      by_cases e : P = i
      · subst e; exact c3 v (by omega) hv
      · rw [c4 _ (by omega), b2.1 93 (by omega) (by omega), a2.1 93 (by omega) (by omega)]; exact hg P v (by omega) hv)
    rw [show ((i + 1 : Nat) : Int) = (i : Int) + 1 by omega] at k1
    refine ⟨μ4, ?_, k2, k3, k4⟩
    rw [f_X10_findGains_L6, hY'.2.1, z_all hC, w32_nat (i := i) (by omega), w32_nat (i := 2 ^ C) (by omega), if_pos (by omega), a1, bd_some, b1, bd_some, c1, m_back, bd_some]
    exact k1
theorem m_fg {n : Nat} {μ : Mem} {C V : Nat} {K F lt fr tt wo : Nat → Int} (hY : YM μ C K) (hV : VM μ V lt fr tt wo) (hF : DB n F) (hn : n ≤ 900) (hd : ∀ i : Nat, i < 16 → μ 73 i = F i) :
    ∃ μ' : Mem, f_X10_findGains μ = some ((), μ') ∧ FM μ μ' ∧ (∀ i : Nat, i < 16 → μ' 73 i = F i) ∧ μ' 67 10 = μ 67 10 ∧ (∀ P v : Nat, P < 2 ^ C → v < V → μ' 93 (4 * P + v) = Gn C K F (gnv lt fr tt wo) P v) := by
  have hs := sv_fm μ
  obtain ⟨μ2, k1, k2, k3, k4⟩ := m_fg_out (hY.fh hs) (hV.fh hs) hF hn (fun i hi => by rw [sv_92 hi]; exact hd i hi) (2 ^ C) 100000 0 (cpy μ 73 92 0 0 16) (by omega) (by have := pow5 hY.1; omega) FG.rf (fun j hj => by rw [cpy_cell (by omega)]; exact hd j hj) (fun P v h1 => by omega)
  rw [Int.natCast_zero] at k1
  refine ⟨μ2, ?_, hs.tr k2.fm, k3, ?_, k4⟩
  · rw [f_X10_findGains, m_save, bd_some, k1]
  · rw [k2.2 10 (by omega) (by omega), cpy_cell (by omega)]
def vt (G : Nat → Nat → Int) (A B v : Nat) : Bool := decide (G B v < G A v)
theorem x_vot_loop {μ : Mem} {V A B : Nat} {G : Nat → Nat → Int} (h7 : μ 6 7 = (V : Int)) (hV : V ≤ 4) (hA : A < 32) (hB : B < 32) (hgA : ∀ v : Nat, v < V → μ 35 (4 * A + v) = G A v ∧ 0 ≤ G A v ∧ G A v ≤ 18) (hgB : ∀ v : Nat, v < V → μ 35 (4 * B + v) = G B v ∧ 0 ≤ G B v ∧ G B v ≤ 18) :
    ∀ (d u i : Nat), i + d = V → d < u → f_X0_votersFor_L6 (A : Int) (B : Int) u (msk i (vt G A B) : Nat) (i : Int) μ = some (((msk V (vt G A B) : Nat) : Int), μ) := by
  intro d
  induction d with
  | zero =>
    intro u i hi hu
    obtain ⟨u, rfl⟩ : ∃ v, u = v + 1 := ⟨u - 1, by omega⟩
    rw [f_X0_votersFor_L6, h7, w32_nat (by omega), w32_nat (by omega), if_neg (by omega), show i = V by omega]
  | succ d ih =>
    intro u i hi hu
    obtain ⟨u, rfl⟩ : ∃ v, u = v + 1 := ⟨u - 1, by omega⟩
    have hi' := ih u (i + 1) (by omega) (by omega)
    rw [show ((i + 1 : Nat) : Int) = (i : Int) + 1 by omega] at hi'
    obtain ⟨a1, a2, a3⟩ := hgA i (by omega)
    obtain ⟨b1, b2, b3⟩ := hgB i (by omega)
    rw [f_X0_votersFor_L6, h7, w32_nat (i := i) (by omega), w32_nat (i := V) (by omega), if_pos (by omega), ck_ok (by omega) (by omega) (by omega), ck_ok (by omega) (by omega) (by omega), jn, w32_id (a := (A : Int) * 4 + (i : Int)) (by omega) (by omega), w32_id (a := (B : Int) * 4 + (i : Int)) (by omega) (by omega), show ((A : Int) * 4 + (i : Int)).toNat = 4 * A + i by omega, show ((B : Int) * 4 + (i : Int)).toNat = 4 * B + i by omega, a1, b1, w32_id (a := G A i) (by omega) (by omega), w32_id (a := G B i) (by omega) (by omega)]
    by_cases c : G B i < G A i
    · rw [if_pos c, vl, zor_m (by omega) (vt G A B) (by simp [vt, c])]; exact hi'
    · rw [msk_no (show ¬ vt G A B i = true by simp [vt, c])] at hi'
      rw [if_neg c]; exact hi'
theorem x_vot {μ : Mem} {V A B : Nat} {G : Nat → Nat → Int} (h7 : μ 6 7 = (V : Int)) (hV : V ≤ 4) (hA : A < 32) (hB : B < 32) (hgA : ∀ v : Nat, v < V → μ 35 (4 * A + v) = G A v ∧ 0 ≤ G A v ∧ G A v ≤ 18) (hgB : ∀ v : Nat, v < V → μ 35 (4 * B + v) = G B v ∧ 0 ≤ G B v ∧ G B v ≤ 18) :
    f_X0_votersFor μ (A : Int) (B : Int) = some (((msk V (vt G A B) : Nat) : Int), μ) := by
  have hl := x_vot_loop h7 hV hA hB hgA hgB V 100000 0 (by omega) (by omega)
  rw [Int.natCast_zero, show msk 0 (vt G A B) = 0 from rfl, Int.natCast_zero] at hl
  rw [f_X0_votersFor, hl]
theorem m_vot_loop {μ : Mem} {V A B : Nat} {G : Nat → Nat → Int} (h7 : μ 67 1 = (V : Int)) (hV : V ≤ 4) (hA : A < 32) (hB : B < 32) (hgA : ∀ v : Nat, v < V → μ 93 (4 * A + v) = G A v ∧ 0 ≤ G A v ∧ G A v ≤ 18) (hgB : ∀ v : Nat, v < V → μ 93 (4 * B + v) = G B v ∧ 0 ≤ G B v ∧ G B v ≤ 18) :
    ∀ (d u i : Nat), i + d = V → d < u → f_X10_votersFor_L5 (A : Int) (B : Int) u (msk i (vt G A B) : Nat) (i : Int) μ = some (((msk V (vt G A B) : Nat) : Int), μ) := by
  intro d
  induction d with
  | zero =>
    intro u i hi hu
    obtain ⟨u, rfl⟩ : ∃ v, u = v + 1 := ⟨u - 1, by omega⟩
    rw [f_X10_votersFor_L5, h7, w32_nat (by omega), w32_nat (by omega), if_neg (by omega), show i = V by omega]
  | succ d ih =>
    intro u i hi hu
    obtain ⟨u, rfl⟩ : ∃ v, u = v + 1 := ⟨u - 1, by omega⟩
    have hi' := ih u (i + 1) (by omega) (by omega)
    rw [show ((i + 1 : Nat) : Int) = (i : Int) + 1 by omega] at hi'
    obtain ⟨a1, a2, a3⟩ := hgA i (by omega)
    obtain ⟨b1, b2, b3⟩ := hgB i (by omega)
    rw [f_X10_votersFor_L5, h7, w32_nat (i := i) (by omega), w32_nat (i := V) (by omega), if_pos (by omega), ck_ok (by omega) (by omega) (by omega), ck_ok (by omega) (by omega) (by omega), vl, vl, w32_id (a := 4 * (A : Int) + (i : Int)) (by omega) (by omega), w32_id (a := 4 * (B : Int) + (i : Int)) (by omega) (by omega), show (4 * (A : Int) + (i : Int)).toNat = 4 * A + i by omega, show (4 * (B : Int) + (i : Int)).toNat = 4 * B + i by omega, a1, b1, w32_id (a := G A i) (by omega) (by omega), w32_id (a := G B i) (by omega) (by omega)]
    by_cases c : G B i < G A i
    · rw [if_pos c, zor_m (by omega) (vt G A B) (by simp [vt, c])]; exact hi'
    · rw [msk_no (show ¬ vt G A B i = true by simp [vt, c])] at hi'
      rw [if_neg c, show zor (msk i (vt G A B) : Nat) 0 = (msk i (vt G A B) : Nat) from zor_0 ⟨msk i (vt G A B), msk_32 (by omega) _⟩]; exact hi'
theorem m_vot {μ : Mem} {V A B : Nat} {G : Nat → Nat → Int} (h7 : μ 67 1 = (V : Int)) (hV : V ≤ 4) (hA : A < 32) (hB : B < 32) (hgA : ∀ v : Nat, v < V → μ 93 (4 * A + v) = G A v ∧ 0 ≤ G A v ∧ G A v ≤ 18) (hgB : ∀ v : Nat, v < V → μ 93 (4 * B + v) = G B v ∧ 0 ≤ G B v ∧ G B v ≤ 18) :
    f_X10_votersFor μ (A : Int) (B : Int) = some (((msk V (vt G A B) : Nat) : Int), μ) := by
  have hl := m_vot_loop h7 hV hA hB hgA hgB V 100000 0 (by omega) (by omega)
  rw [Int.natCast_zero, show msk 0 (vt G A B) = 0 from rfl, Int.natCast_zero] at hl
  rw [f_X10_votersFor, hl]
theorem p_votes {n : Nat} (hn : n ≤ 900) {p q : Int} (hp : inR p) (hq : inR q) : Pair n (fun μ => f_X9_votes μ p q) (fun μ => f_X10_votes μ p q) := by
  intro μ h
  obtain ⟨C, V, hC0, hV0, hYX, hYM, hVX, hVM⟩ := h.yr
  have hC := hYX.1
  have h32 := pow5 hC
  have hx6 := hYX.2.1
  have hday := h.2.2.2.1
  have sm : ∀ (z : Int), inR z → ∀ μ1 : Mem, μ1 67 = μ 67 → f_X10_isSet μ1 z = some (if 0 ≤ z ∧ z < ((2 ^ C : Nat) : Int) then 1 else 0, μ1) := fun z hz μ1 e => m_set (C := C) (by rw [e]; exact hC0) hC hz
  by_cases hs : 0 ≤ p ∧ p < ((2 ^ C : Nat) : Int)
  · by_cases hs2 : 0 ≤ q ∧ q < ((2 ^ C : Nat) : Int)
    · by_cases c0 : C = 0
      · refine pair_bad h (a := -4) ?_ ?_
        · show f_X9_votes μ p q = _
          rw [f_X9_votes, x_set hx6 hC hp, if_pos hs, bd_some, if_neg w1ne, x_set hx6 hC hq, if_pos hs2, bd_some, if_neg w1ne, hx6, c0, Int.natCast_zero, if_pos w0]
        · show f_X10_votes μ p q = _
          rw [f_X10_votes, sm p hp μ rfl, if_pos hs, bd_some, if_neg w1ne, sm q hq μ rfl, if_pos hs2, bd_some, if_neg w1ne, hC0, c0, Int.natCast_zero, if_pos w0]
      · obtain ⟨A, hA, rfl⟩ := nat_of hs
        obtain ⟨B, hB, rfl⟩ := nat_of hs2
        obtain ⟨μ1, g1, g2, g3⟩ := x_wei hYX hVX hday.2 hn hday.1
        have hx : FX μ μ1 := FX.of g2 (fun k hk => by simp at hk; omega)
        obtain ⟨G, hG⟩ : ∃ G : Nat → Nat → Int, G = Gn C (μ 68) (μ 73) (gnv (μ 69) (μ 70) (μ 71) (μ 72)) := ⟨_, rfl⟩
        have hGb : ∀ P v : Nat, v < V → 0 ≤ G P v ∧ G P v ≤ 18 := fun P v hv => by rw [hG]; exact Gn_b hVX.2.2.2 P (by have := hVX.1; omega)
        rw [← hG] at g3
        have ev := x_vot (μ := μ1) (V := V) (A := A) (B := B) (G := G) (by rw [g2 6 (by simp)]; exact hVX.2.1) hVX.1 (by omega) (by omega) (fun v hv => ⟨g3 A v hA hv, hGb A v hv⟩) (fun v hv => ⟨g3 B v hB hv, hGb B v hv⟩)
        have hh := (hx.tell (v := ((msk V (vt G A B) : Nat) : Int))).hi
        obtain ⟨μ2, k1, k2, k3, k4, k5⟩ := m_fg (hYM.hi hh) (hVM.hi hh) hday.2 hn (fun i hi => by rw [hh 73 (by omega)])
        rw [← hG] at k5
        have em := m_vot (μ := μ2) (V := V) (A := A) (B := B) (G := G) (by rw [k2.2 1 (by omega), hh 67 (by omega)]; exact hV0) hVX.1 (by omega) (by omega) (fun v hv => ⟨k5 A v hA hv, hGb A v hv⟩) (fun v hv => ⟨k5 B v hB hv, hGb B v hv⟩)
        refine ⟨cn V (vt G A B), wr μ1 0 13 ((msk V (vt G A B) : Nat) : Int), wr μ2 67 10 ((msk V (vt G A B) : Nat) : Int), ?_, ?_, (aside_end h hx.tell k2.tell (by rw [wr_eq, wr_eq]) (fun i hi => by rw [wr_cell (by omega)]; exact k3 i hi)).up (Nat.le_succ n)⟩
        · show f_X9_votes μ (A : Int) (B : Int) = _
          rw [f_X9_votes, x_set hx6 hC hp, if_pos hs, bd_some, if_neg w1ne, x_set hx6 hC hq, if_pos hs2, bd_some, if_neg w1ne, hx6, w32_nat (i := C) (by omega), if_neg (by omega), g1, bd_some, ev, bd_some, vm, wr_eq, x_bits_m (by have := hVX.1; omega), bd_some]
        · show f_X10_votes _ (A : Int) (B : Int) = _
          rw [f_X10_votes, sm _ hp _ (hh 67 (by omega)), if_pos hs, bd_some, if_neg w1ne, sm _ hq _ (hh 67 (by omega)), if_pos hs2, bd_some, if_neg w1ne, hh 67 (by omega), hC0, w32_nat (i := C) (by omega), if_neg (by omega), k1, bd_some, em, bd_some, vm, wr_eq, m_bits (by have := hVX.1; omega), bd_some]
    · refine pair_bad h (a := -1) ?_ ?_
      · show f_X9_votes μ p q = _
        rw [f_X9_votes, x_set hx6 hC hp, if_pos hs, bd_some, if_neg w1ne, x_set hx6 hC hq, if_neg hs2, bd_some, if_pos w0]
      · show f_X10_votes μ p q = _
        rw [f_X10_votes, sm p hp μ rfl, if_pos hs, bd_some, if_neg w1ne, sm q hq μ rfl, if_neg hs2, bd_some, if_pos w0]
  · refine pair_bad h (a := -1) ?_ ?_
    · show f_X9_votes μ p q = _
      rw [f_X9_votes, x_set hx6 hC hp, if_neg hs, bd_some, if_pos w0]
    · show f_X10_votes μ p q = _
      rw [f_X10_votes, sm p hp μ rfl, if_neg hs, bd_some, if_pos w0]
