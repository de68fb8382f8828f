theorem x_all {μ : Mem} {C : Nat} (h : μ 6 6 = (C : Int)) (hC : C ≤ 5) : f_X8_allCapes μ = some (((2 ^ C : Nat) : Int) - 1, μ) := by
  have hz := zshl_s ⟨C, by omega⟩
  simp only [] at hz
  rw [f_X8_allCapes, h, hz]
theorem z_all {C : Nat} (hC : C ≤ 5) : zshl 1 (C : Int) = ((2 ^ C : Nat) : Int) := zshl_s ⟨C, by omega⟩
def cb (C P : Nat) : Int := cn C (fun i => P.testBit i)
theorem cb_b (C P : Nat) : 0 ≤ cb C P ∧ cb C P ≤ C := cn_b C _
/-- the best of the sets below i: the fewest that are calm, of these the first -/
def rb (C : Nat) (calm : Nat → Bool) : Nat → Option Nat
  | 0 => none
  | i + 1 => match rb C calm i with
    | none => if calm i then some i else none
    | some b => if calm i && decide (cb C i < cb C b) then some i else some b
def rbF (C : Nat) (o : Option Nat) : Int := match o with
  | none => 6
  | some b => cb C b
theorem rb_lt {C : Nat} {calm : Nat → Bool} : ∀ (i b : Nat), rb C calm i = some b → b < i := by
  intro i
  induction i with
  | zero => intro b h; simp [rb] at h
  | succ i ih =>
    intro b h
    unfold rb at h
    cases hr : rb C calm i with
    | none =>
      rw [hr] at h
      simp only at h
      split at h
      · have := Option.some.inj h; omega
      · simp at h
    | some c =>
      rw [hr] at h
      simp only at h
      have := ih c hr
      split at h
      · have := Option.some.inj h; omega
      · have := Option.some.inj h; omega
def clm (C : Nat) (K : Nat → Int) (s : Nat → Nat → Bool) (F : Nat → Int) (N P : Nat) : Bool := (fst (lq C K s (rnw C (fun i => P.testBit i) F)) N 0).isNone
theorem fsz_9 {o : Option Nat} : fsz o (-9) = -9 ↔ o.isNone = true := by
  cases o with
  | none => simp [fsz]
  | some k => simp [fsz]
theorem fsz_1 {o : Option Nat} : fsz o (-1) < 0 ↔ o.isNone = true := by
  cases o with
  | none => simp [fsz]
  | some k => simp [fsz]
theorem fsz_b {L : Nat → Nat} {N : Nat} {z : Int} (hN : N ≤ 40) (hz : -10 ≤ z ∧ z ≤ 0) : -10 ≤ fsz (fst L N 0) z ∧ fsz (fst L N 0) z ≤ 40 := by
  cases h : fst L N 0 with
  | none => simp only [fsz]; omega
  | some k => have := fst_b _ _ _ h; simp only [fsz]; omega
theorem x_few_loop {Kc : Int → Int → Mem → Option (Int × Mem)} {n N q : Nat} {μ : Mem} {C : Nat} {K F : Nat → Int} {s : Nat → Nat → Bool} (hY : YX μ C K) (hF : DB n F) (hn : n + N < 1000) (hN : N ≤ 40) (hq : 37 ≤ q) (h1 : μ q 1 = (N : Int)) (hs : ∀ i : Nat, i < N → μ (q + 1) i = (msk C (s i) : Nat)) (hd : ∀ i : Nat, i < 16 → μ 14 i = F i) :
    ∀ (d u i : Nat) (μ' : Mem), i + d = 2 ^ C → d < u → Fr [19, 20, 20 + 1] μ μ' → ∃ μ'' : Mem, f_X3_fewestRopes_L10 Kc q u (rbF C (rb C (clm C K s F N) i)) (fsz (rb C (clm C K s F N) i) 0) (i : Int) μ' = Kc (rbF C (rb C (clm C K s F N) (2 ^ C))) (fsz (rb C (clm C K s F N) (2 ^ C)) 0) μ'' ∧ Fr [19, 20, 20 + 1] μ μ'' := by
  have hC := hY.1
  have h32 := pow5 hC
  intro d
  induction d with
  | zero =>
    intro u i μ' hi hu hf
    obtain ⟨u, rfl⟩ : ∃ v, u = v + 1 := ⟨u - 1, by omega⟩
    refine ⟨μ', ?_, hf⟩
    rw [f_X3_fewestRopes_L10, x_all (hY.fr hf (fun k hk => by simp at hk; omega)).2.1 hC, bd_some, w32_nat (by omega), w32_id (by omega) (by omega), if_pos (by omega), show i = 2 ^ C by omega]
  | succ d ih =>
    intro u i μ' hi hu hf
    obtain ⟨u, rfl⟩ : ∃ v, u = v + 1 := ⟨u - 1, by omega⟩
    have hYf := hY.fr hf (fun k hk => by simp at hk; omega)
    have hbi := cb_b C i
    obtain ⟨μ2, g1, g2, -⟩ := x_lur (q := q) (s := s) (P := fun b => i.testBit b) hYf hF hn hN hq (by rw [hf q (by simp; omega)]; exact h1) (fun j hj => by rw [hf (q + 1) (by simp; omega)]; exact hs j hj) (fun j hj => by rw [hf 14 (by simp)]; exact hd j hj)
    rw [← pm (C := C) (P := i) (by omega)] at g1
    have hfb := fsz_b (L := lq C K s (rnw C (fun b => i.testBit b) F)) (N := N) (z := -9) hN (by omega)
    have hx := fsz_9 (o := fst (lq C K s (rnw C (fun b => i.testBit b) F)) N 0)
    have hcl : clm C K s F N i = (fst (lq C K s (rnw C (fun b => i.testBit b) F)) N 0).isNone := rfl
    rw [← hcl] at hx
    generalize fsz (fst (lq C K s (rnw C (fun b => i.testBit b) F)) N 0) (-9) = z at *
    have hbits : f_J6_bitCount_0f7a4 μ' (i : Int) = some (cb C i, μ') := by
      rw [pm (C := C) (P := i) (by omega), x_bits_m hC]; rfl
    have st : ∀ a b : Int, -100 ≤ a → a ≤ 100 → f_X3_fewestRopes_L10 Kc q (u + 1) a b (i : Int) μ' = if cb C i < a then (if clm C K s F N i = true then f_X3_fewestRopes_L10 Kc q u (cb C i) (i : Int) ((i : Int) + 1) μ2 else f_X3_fewestRopes_L10 Kc q u a b ((i : Int) + 1) μ2) else f_X3_fewestRopes_L10 Kc q u a b ((i : Int) + 1) μ' := fun a b a1 a2 => by
      rw [f_X3_fewestRopes_L10, x_all hYf.2.1 hC, bd_some, w32_nat (by omega), w32_id (a := ((2 ^ C : Nat) : Int) - 1) (by omega) (by omega), if_neg (by omega), hbits, bd_some, jn, w32_id (a := cb C i) (by omega) (by omega), w32_id (a := a) (by omega) (by omega), g1, bd_some, w32_id (a := z) (by omega) (by omega), wm9]
      by_cases c : cb C i < a
      · rw [if_pos c, if_pos c]
        by_cases c2 : z = -9
        · rw [if_pos c2, if_pos (hx.mp c2)]
        · rw [if_neg c2, if_neg (fun w => c2 (hx.mpr w))]
      · rw [if_neg c, if_neg c]
    have f2 : Fr [19, 20, 20 + 1] μ μ2 := hf.tr g2
    obtain ⟨μ3, k1, k2⟩ := ih u (i + 1) μ2 (by omega) (by omega) f2
    obtain ⟨μ4, l1, l2⟩ := ih u (i + 1) μ' (by omega) (by omega) hf
    rw [show ((i + 1 : Nat) : Int) = (i : Int) + 1 by omega] at k1 l1
    cases hr : rb C (clm C K s F N) i with
    | none =>
      have e : rb C (clm C K s F N) (i + 1) = if clm C K s F N i = true then some i else none := by rw [rb, hr]
      rw [show rbF C (none : Option Nat) = 6 from rfl, show fsz (none : Option Nat) 0 = 0 from rfl, st 6 0 (by omega) (by omega), if_pos (by omega)]
      rw [e] at k1 l1
      by_cases c : clm C K s F N i = true
      · rw [if_pos c] at k1 ⊢
        exact ⟨μ3, k1, k2⟩
      · rw [if_neg c] at k1 ⊢
        exact ⟨μ3, k1, k2⟩
    | some b =>
      have hbb := cb_b C b
      have e : rb C (clm C K s F N) (i + 1) = if (clm C K s F N i && decide (cb C i < cb C b)) = true then some i else some b := by rw [rb, hr]
      rw [show rbF C (some b) = cb C b from rfl, show fsz (some b) 0 = (b : Int) from rfl, st (cb C b) b (by omega) (by omega)]
      rw [e] at k1 l1
      by_cases c1 : cb C i < cb C b
      · rw [if_pos c1]
        by_cases c : clm C K s F N i = true
        · rw [if_pos (by simp [c, c1])] at k1
          rw [if_pos c]
          exact ⟨μ3, k1, k2⟩
        · rw [if_neg (by simp [c])] at k1
          rw [if_neg c]
          exact ⟨μ3, k1, k2⟩
      · rw [if_neg c1]
        rw [if_neg (by simp [c1])] at l1
        exact ⟨μ4, l1, l2⟩
theorem m_rnw_loop {Kc : Mem → Option (Int × Mem)} {μ : Mem} {C : Nat} {K F : Nat → Int} {P : Nat → Bool} (hY : YM μ C K) : ∀ (d u i : Nat) (μ' : Mem), i + d = C → d < u → FH μ μ' → (∀ j : Nat, j < 16 → μ' 73 j = rnw i P F j) →
    ∃ μ'' : Mem, f_X10_ropes_L35 Kc (msk C P : Nat) u (i : Int) μ' = Kc μ'' ∧ FH μ μ'' ∧ ∀ j : Nat, j < 16 → μ'' 73 j = rnw C P F j := by
  have hC := hY.1
  intro d
  induction d with
  | zero =>
    intro u i μ' hi hu hf hd
    obtain ⟨u, rfl⟩ : ∃ v, u = v + 1 := ⟨u - 1, by omega⟩
    refine ⟨μ', ?_, hf, ?_⟩
    · rw [f_X10_ropes_L35, (hY.fh hf.fm).2.1, w32_nat (by omega), w32_nat (by omega), if_neg (by omega)]
    · rw [← show i = C by omega]; exact hd
  | succ d ih =>
    intro u i μ' hi hu hf hd
    obtain ⟨u, rfl⟩ : ∃ v, u = v + 1 := ⟨u - 1, by omega⟩
    have st : f_X10_ropes_L35 Kc (msk C P : Nat) (u + 1) (i : Int) μ' = f_X10_ropes_L35 Kc (msk C P : Nat) u ((i : Int) + 1) (wr μ' 73 (2 + i) (if P i = true then 9 else μ' 73 (2 + i))) := by
      rw [f_X10_ropes_L35, (hY.fh hf.fm).2.1, w32_nat (by omega), w32_nat (by omega), if_pos (by omega), m_has hC (show i < C by omega), bd_some, jn, bt_w, w32_id (a := 2 + (i : Int)) (by omega) (by omega), show (2 + (i : Int)).toNat = 2 + i by omega]
      by_cases c : P i = true
      · rw [if_pos c, if_pos c]; dsimp only; rw [ck_ok (by omega) (by omega) (by omega), vm]
      · rw [if_neg c, if_neg c]; dsimp only; rw [ck_ok (by omega) (by omega) (by omega), ck_ok (by omega) (by omega) (by omega), vm]
    obtain ⟨μ3, k1, k2, k3⟩ := ih u (i + 1) (wr μ' 73 (2 + i) (if P i = true then 9 else μ' 73 (2 + i))) (by omega) (by omega) (hf.tr (FH.of (fun k hk => wr_cell hk))) (fun j hj => by
      by_cases c : P i = true
      · rw [if_pos c, ← rnw_y c]
        by_cases e : j = 2 + i
        · subst e; rw [wr_eq, up_eq]
        · rw [wr_ne (by omega), up_ne e]; exact hd j hj
      · rw [if_neg c, ← rnw_n c]
        by_cases e : j = 2 + i
        · subst e; rw [wr_eq]; exact hd _ hj
        · rw [wr_ne (by omega)]; exact hd j hj)
    rw [show ((i + 1 : Nat) : Int) = (i : Int) + 1 by omega] at k1
    exact ⟨μ3, st.trans k1, k2, k3⟩
theorem m_bitsn {μ : Mem} {C P : Nat} (hC : C ≤ 5) (hP : P < 2 ^ C) : f_X10_bits μ (P : Int) = some (cb C P, μ) := by
  rw [pm hP, m_bits hC]; rfl
theorem m_rop_loop {Kc : Int → Mem → Option (Int × Mem)} {n N r : Nat} {μs : Mem} {C V : Nat} {K lt fr tt wo F : Nat → Int} {s : Nat → Nat → Bool} (hY : YM μs C K) (hV : VM μs V lt fr tt wo) (hF : DB n F) (hn : n + N < 1000) (hr : r < 6) (hN : N ≤ 40) (h1 : μs 76 r = (N : Int)) (hs : ∀ i : Nat, i < N → μs 77 (40 * r + i) = (msk C (s i) : Nat)) (h92 : ∀ i : Nat, i < 16 → μs 92 i = F i) :
    ∀ (d u i : Nat) (μ' : Mem), i + d = 2 ^ C → d < u → FH μs μ' → (∀ j : Nat, j < 16 → μ' 73 j = F j) → ∃ μ'' : Mem, f_X10_ropes_L21 Kc (r : Int) u (fsz (rb C (clm C K s F N) i) (-1)) (i : Int) μ' = Kc (fsz (rb C (clm C K s F N) (2 ^ C)) (-1)) μ'' ∧ FH μs μ'' ∧ ∀ j : Nat, j < 16 → μ'' 73 j = F j := by
  have hC := hY.1
  have h32 := pow5 hC
  intro d
  induction d with
  | zero =>
    intro u i μ' hi hu hf hd
    obtain ⟨u, rfl⟩ : ∃ v, u = v + 1 := ⟨u - 1, by omega⟩
    refine ⟨μ', ?_, hf, hd⟩
    rw [f_X10_ropes_L21, (hY.fh hf.fm).2.1, z_all hC, w32_nat (by omega), w32_nat (by omega), if_neg (by omega), show i = 2 ^ C by omega]
  | succ d ih =>
    intro u i μ' hi hu hf hd
    obtain ⟨u, rfl⟩ : ∃ v, u = v + 1 := ⟨u - 1, by omega⟩
    have hbi := cb_b C i
    have inner : ∀ Kd : Mem → Option (Int × Mem), ∃ μ2 : Mem, f_X10_ropes_L35 Kd (i : Int) 100000 0 μ' = Kd μ2 ∧ FH μs μ2 ∧ ∀ j : Nat, j < 16 → μ2 73 j = rnw C (fun b => i.testBit b) F j := fun Kd => by
      obtain ⟨μ2, g1, g2, g3⟩ := m_rnw_loop (Kc := Kd) (F := F) (P := fun b => i.testBit b) hY C 100000 0 μ' (by omega) (by omega) hf (fun j hj => by rw [rnw_0]; exact hd j hj)
      rw [← pm (C := C) (P := i) (by omega), Int.natCast_zero] at g1
      exact ⟨μ2, g1, g2, g3⟩
    rw [f_X10_ropes_L21, (hY.fh hf.fm).2.1, z_all hC, w32_nat (by omega), w32_nat (by omega), if_pos (by omega)]
    obtain ⟨μ2, g1, g2, g3⟩ := inner _
    rw [g1]
    obtain ⟨μ3, f1, f2, -⟩ := m_lur (s := s) hY hV (rnw_DB (C := C) (P := fun b => i.testBit b) hF hC) hn hr hN h1 hs g2 g3
    rw [f1, bd_some, vl, m_back, bd_some]
    have hfb := fsz_b (L := lq C K s (rnw C (fun b => i.testBit b) F)) (N := N) (z := -1) hN (by omega)
    have hx := fsz_1 (o := fst (lq C K s (rnw C (fun b => i.testBit b) F)) N 0)
    have hcl : clm C K s F N i = (fst (lq C K s (rnw C (fun b => i.testBit b) F)) N 0).isNone := rfl
    rw [← hcl] at hx
    generalize fsz (fst (lq C K s (rnw C (fun b => i.testBit b) F)) N 0) (-1) = z at *
    obtain ⟨q1, q2⟩ := bk_ok (F := F) f2 h92
    obtain ⟨μ4, k1, k2, k3⟩ := ih u (i + 1) _ (by omega) (by omega) q1 q2
    rw [show ((i + 1 : Nat) : Int) = (i : Int) + 1 by omega] at k1
    refine ⟨μ4, ?_, k2, k3⟩
    rw [w32_id (a := z) (by omega) (by omega), jn, jn]
    dsimp only
    cases hr : rb C (clm C K s F N) i with
    | none =>
      have e : rb C (clm C K s F N) (i + 1) = if clm C K s F N i = true then some i else none := by rw [rb, hr]
      rw [e] at k1
      by_cases c : clm C K s F N i = true
      · rw [if_pos c] at k1
        rw [if_pos (hx.mpr c), if_neg w1ne, jn, show fsz (none : Option Nat) (-1) = -1 from rfl, if_pos (by decide +kernel)]
        exact k1
      · rw [if_neg c] at k1
        rw [if_neg (fun w => c (hx.mp w)), if_pos w0]
        exact k1
    | some b =>
      have hbl := rb_lt i b hr
      have e : rb C (clm C K s F N) (i + 1) = if (clm C K s F N i && decide (cb C i < cb C b)) = true then some i else some b := by rw [rb, hr]
      have hbb := cb_b C b
      rw [e] at k1
      by_cases c : clm C K s F N i = true
      · rw [if_pos (hx.mpr c), if_neg w1ne, jn, show fsz (some b) (-1) = (b : Int) from rfl, w32_nat (by omega), if_neg (by omega), m_bitsn hC (by omega), bd_some, m_bitsn hC (by omega), bd_some, w32_id (a := cb C i) (by omega) (by omega), w32_id (a := cb C b) (by omega) (by omega)]
        by_cases c1 : cb C i < cb C b
        · rw [if_pos (by simp [c, c1])] at k1
          rw [if_pos c1]
          exact k1
        · rw [if_neg (by simp [c1])] at k1
          rw [if_neg c1]
          exact k1
      · rw [if_neg (by simp [c])] at k1
        rw [if_neg (fun w => c (hx.mp w)), if_pos w0]
        exact k1
theorem p_ropes {n : Nat} (hn : n ≤ 900) {p : Int} (hp : inR p) : Pair n (fun μ => f_X9_ropes μ p) (fun μ => f_X10_ropes μ p) := by
  intro μ h
  refine plan_pair (ax := fun m1 => ck p 6 (bd (f_X3_fewestRopes m1 (38 + 2 * (w32 p).toNat)) fun r6 m5 => if w32 r6 = w32 (-9) then (some (r6, m5)) else (vm (wr m5 0 13 (m5 19 1)) fun m8 => some (r6, m8)))) (am := fun m1 => bd (f_X10_save m1) fun _u m4 => f_X10_ropes_L21 (fun x37 m38 => if w32 x37 < 0 then (some ((-9), m38)) else (vm (wr m38 67 10 x37) fun m40 => bd (f_X10_bits m40 x37) fun r42 m41 => some (r42, m41))) p 100000 (-1) 0 m4) h hp ?_
  intro C V r N hpr hr6 hN hC0 c67 v67 hYX hYM hVX hVM hN76 hNx hxe hR
  subst hpr
  have hC := hYX.1
  have h32 := pow5 hC
  have hday := h.2.2.2.1
  have ht := h.2.2.2.2.2.2.2.1
  obtain ⟨μ1, g1, g2⟩ := x_few_loop (Kc := fun x14 x15 m16 => vm (wr m16 19 1 x15) fun m17 => vl (if w32 5 < w32 x14 then (-9) else x14) fun v18 => some (v18, m17)) (q := 38 + 2 * r) (s := fun i b => (μ 77 (40 * r + i)).toNat.testBit b) hYX hday.2 (N := N) (by omega) (by omega) (by omega) hNx (fun i hi => by rw [hxe i hi]; exact hR i hi) hday.1 (2 ^ C) 100000 0 μ (by omega) (by omega) Fr.rf
  have key : ∀ μ1' : Mem, (∀ k : Nat, 67 ≤ k → μ1' k = μ k) → ∀ Kc : Int → Mem → Option (Int × Mem), ∃ μ2 : Mem, f_X10_ropes_L21 Kc (r : Int) 100000 (-1) 0 (cpy μ1' 73 92 0 0 16) = Kc (fsz (rb C (clm C (μ 68) (fun i b => (μ 77 (40 * r + i)).toNat.testBit b) (μ 73) N) (2 ^ C)) (-1)) μ2 ∧ FM μ1' μ2 ∧ (∀ i : Nat, i < 16 → μ2 73 i = μ 73 i) ∧ (∀ p : Nat, p ≠ 35 → p ≠ 36 → μ2 67 p = μ 67 p) := fun μ1' hh Kc => by
    have hs := sv_fm μ1'
    obtain ⟨μ2, k1, k2, k3⟩ := m_rop_loop (μs := cpy μ1' 73 92 0 0 16) (Kc := Kc) (F := μ 73) (s := fun i b => (μ 77 (40 * r + i)).toNat.testBit b) ((hYM.hi hh).fh hs) ((hVM.hi hh).fh hs) hday.2 (N := N) (r := r) (by omega) hr6 (by omega) (by rw [cpy_cell (by omega), hh 76 (by omega)]; exact hN76) (fun i hi => by rw [cpy_cell (by omega), hh 77 (by omega)]; exact hR i hi) (fun i hi => by rw [sv_92 hi, hh 73 (by omega)]) (2 ^ C) 100000 0 (cpy μ1' 73 92 0 0 16) (by omega) (by omega) FH.rf (fun i hi => by rw [cpy_cell (by omega), hh 73 (by omega)])
    rw [Int.natCast_zero] at k1
    exact ⟨μ2, k1, hs.tr k2.fm, k3, fun p h1 h2 => by rw [k2.2 p h1 h2, cpy_cell (by omega), hh 67 (by omega)]⟩
  rw [Int.natCast_zero] at g1
  generalize hG : clm C (μ 68) (fun i b => (μ 77 (40 * r + i)).toNat.testBit b) (μ 73) N = L at *
  have gx : f_X3_fewestRopes μ (38 + 2 * r) = some (if 5 < rbF C (rb C L (2 ^ C)) then -9 else rbF C (rb C L (2 ^ C)), wr μ1 19 1 (fsz (rb C L (2 ^ C)) 0)) := by
    rw [f_X3_fewestRopes]
    refine Eq.trans g1 ?_
    have : -100 ≤ rbF C (rb C L (2 ^ C)) ∧ rbF C (rb C L (2 ^ C)) ≤ 100 := by
      cases rb C L (2 ^ C) with
      | none => simp only [rbF]; omega
      | some b => have := cb_b C b; simp only [rbF]; omega
    rw [vm, vl, w32_id (a := 5) (by omega) (by omega), w32_id (by omega) (by omega)]
  have hx : FX μ (wr μ1 19 1 (fsz (rb C L (2 ^ C)) 0)) := FX.of (g2.wr (by simp)) (fun k hk => by simp at hk; omega)
  cases hfs : rb C L (2 ^ C) with
  | none =>
    rw [hfs] at gx hx
    obtain ⟨μ2, k1, k2, k3, k4⟩ := key _ hx.hi (fun x37 m38 => if w32 x37 < 0 then (some ((-9), m38)) else (vm (wr m38 67 10 x37) fun m40 => bd (f_X10_bits m40 x37) fun r42 m41 => some (r42, m41)))
    rw [hfs] at k1
    refine ⟨-9, wr μ1 19 1 (fsz (none : Option Nat) 0), μ2, ?_, hx.hi, ?_, (aside_end h hx k2 ?_ k3).up (Nat.le_succ n)⟩
    · show ck _ _ _ = _
      rw [ck_ok (by omega) (by omega) (by omega), w32_nat (i := r) (by omega), Int.toNat_natCast, gx, bd_some]
      show (if w32 (-9) = w32 (-9) then _ else _) = _
      rw [if_pos rfl]
      rfl
    · show bd (f_X10_save _) _ = _
      rw [m_save, bd_some, k1]
      show (if w32 (-1) < 0 then _ else _) = _
      rw [if_pos (by decide +kernel)]
    · rw [k4 10 (by omega) (by omega), ← ht, wr_cell (by omega), g2 0 (by simp)]
  | some b =>
    have hbl := rb_lt _ b hfs
    have hbb := cb_b C b
    rw [hfs] at gx hx
    obtain ⟨μ2, k1, k2, k3, k4⟩ := key (wr (wr μ1 19 1 (fsz (some b) 0)) 0 13 (b : Int)) hx.tell.hi (fun x37 m38 => if w32 x37 < 0 then (some ((-9), m38)) else (vm (wr m38 67 10 x37) fun m40 => bd (f_X10_bits m40 x37) fun r42 m41 => some (r42, m41)))
    rw [hfs] at k1
    refine ⟨cb C b, wr (wr μ1 19 1 (fsz (some b) 0)) 0 13 (b : Int), wr μ2 67 10 (b : Int), ?_, hx.tell.hi, ?_, (aside_end h hx.tell k2.tell ?_ (fun i hi => by rw [wr_cell (by omega)]; exact k3 i hi)).up (Nat.le_succ n)⟩
    · show ck _ _ _ = _
      rw [ck_ok (by omega) (by omega) (by omega), w32_nat (i := r) (by omega), Int.toNat_natCast, gx, bd_some]
      have e5 : (if 5 < rbF C (some b) then -9 else rbF C (some b)) = cb C b := by
        rw [show rbF C (some b) = cb C b from rfl, if_neg (by omega)]
      rw [e5, w32_id (a := cb C b) (by omega) (by omega), wm9, if_neg (by omega), vm, wr_eq]
      rfl
    · show bd (f_X10_save _) _ = _
      rw [m_save, bd_some, k1]
      show (if w32 (b : Int) < 0 then _ else _) = _
      rw [w32_nat (by omega), if_neg (by omega), vm, show fsz (some b) (-1) = (b : Int) from rfl, m_bitsn hC hbl, bd_some]
    · rw [wr_eq, wr_eq]
