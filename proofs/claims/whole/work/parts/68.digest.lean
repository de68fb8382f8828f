/-! count, digest -/
def th : Nat → (Nat → Int) → Int
  | 0, _ => 0
  | i + 1, f => th i f + (if f i < 0 then 0 else 1)
theorem ite01 (c : Prop) [Decidable c] : (if w32 (if c then (0 : Int) else 1) = 0 then (0 : Int) else 1) = if c then 0 else 1 := by
  by_cases h : c
  · rw [if_pos h, if_pos w0]
  · rw [if_neg h, if_neg w1ne]
theorem x_rowsT_loop {n : Nat} {μ : Mem} (h : Inv n μ) : ∀ (d u i : Nat), i + d = 6 → d < u → f_X9_rowsThere_L4 u (th i (μ 76)) (i : Int) μ = some (th 6 (μ 76), μ) := by
  intro d
  induction d with
  | zero =>
    intro u i hi hu
    obtain ⟨u, rfl⟩ : ∃ v, u = v + 1 := ⟨u - 1, by omega⟩
    rw [f_X9_rowsThere_L4, w32_nat (by omega), w32_id (a := 6) (by omega) (by omega), if_neg (by omega), show i = 6 by omega]
  | succ d ih =>
    intro u i hi hu
    obtain ⟨u, rfl⟩ : ∃ v, u = v + 1 := ⟨u - 1, by omega⟩
    have hi' := ih u (i + 1) (by omega) (by omega)
    rw [show ((i + 1 : Nat) : Int) = (i : Int) + 1 by omega, th] at hi'
    obtain ⟨⟨b1, b2⟩, b3, -⟩ := h.1 i (by omega)
    rw [f_X9_rowsThere_L4, w32_nat (by omega), w32_id (a := 6) (by omega) (by omega), if_pos (by omega), ck_ok (by omega) (by omega) (by omega), Int.toNat_natCast, f_X5_isThere, vl, b3, w32_id (by omega) (by omega), bd_some, vl, vl, ite01]
    exact hi'
theorem x_rowsT {n : Nat} {μ : Mem} (h : Inv n μ) : f_X9_rowsThere μ = some (th 6 (μ 76), μ) := by
  have hl := x_rowsT_loop h 6 100000 0 (by omega) (by omega)
  rw [Int.natCast_zero, show th 0 (μ 76) = 0 from rfl] at hl
  rw [f_X9_rowsThere, hl]
theorem x_textsT_loop {n : Nat} {μ : Mem} (h : Inv n μ) : ∀ (d u i : Nat), i + d = 4 → d < u → f_X9_textsThere_L4 u (th i (μ 78)) (i : Int) μ = some (th 4 (μ 78), μ) := by
  intro d
  induction d with
  | zero =>
    intro u i hi hu
    obtain ⟨u, rfl⟩ : ∃ v, u = v + 1 := ⟨u - 1, by omega⟩
    rw [f_X9_textsThere_L4, w32_nat (by omega), w32_id (a := 4) (by omega) (by omega), if_neg (by omega), show i = 4 by omega]
  | succ d ih =>
    intro u i hi hu
    obtain ⟨u, rfl⟩ : ∃ v, u = v + 1 := ⟨u - 1, by omega⟩
    have hi' := ih u (i + 1) (by omega) (by omega)
    rw [show ((i + 1 : Nat) : Int) = (i : Int) + 1 by omega, th] at hi'
    obtain ⟨⟨b1, b2⟩, b3, -⟩ := h.2.1 i (by omega)
    rw [f_X9_textsThere_L4, w32_nat (by omega), w32_id (a := 4) (by omega) (by omega), if_pos (by omega), ck_ok (by omega) (by omega) (by omega), Int.toNat_natCast, f_X7_isThere, vl, b3, w32_id (by omega) (by omega), bd_some, vl, vl, ite01]
    exact hi'
theorem x_textsT {n : Nat} {μ : Mem} (h : Inv n μ) : f_X9_textsThere μ = some (th 4 (μ 78), μ) := by
  have hl := x_textsT_loop h 4 100000 0 (by omega) (by omega)
  rw [Int.natCast_zero, show th 0 (μ 78) = 0 from rfl] at hl
  rw [f_X9_textsThere, hl]
theorem x_yearsT_loop {n : Nat} {μ : Mem} (h : Inv n μ) : ∀ (d u i : Nat), i + d = 3 → d < u → f_X9_yearsKept_L4 u (th i (μ 80)) (i : Int) μ = some (th 3 (μ 80), μ) := by
  intro d
  induction d with
  | zero =>
    intro u i hi hu
    obtain ⟨u, rfl⟩ : ∃ v, u = v + 1 := ⟨u - 1, by omega⟩
    rw [f_X9_yearsKept_L4, w32_nat (by omega), w32_id (a := 3) (by omega) (by omega), if_neg (by omega), show i = 3 by omega]
  | succ d ih =>
    intro u i hi hu
    obtain ⟨u, rfl⟩ : ∃ v, u = v + 1 := ⟨u - 1, by omega⟩
    have hi' := ih u (i + 1) (by omega) (by omega)
    rw [show ((i + 1 : Nat) : Int) = (i : Int) + 1 by omega, th] at hi'
    obtain ⟨⟨b1, b2⟩, b3, -⟩ := h.2.2.2.2.2.1 i (by omega)
    rw [f_X9_yearsKept_L4, w32_nat (by omega), w32_id (a := 3) (by omega) (by omega), if_pos (by omega), ck_ok (by omega) (by omega) (by omega), Int.toNat_natCast, b3, w32_id (by omega) (by omega), show w32 (-1) = -1 by decide +kernel, vl, vl]
    by_cases c : μ 80 i < 0
    · rw [if_pos c] at hi'
      rw [if_pos (by omega)]; exact hi'
    · rw [if_neg c] at hi'
      rw [if_neg (by omega)]; exact hi'
theorem x_yearsT {n : Nat} {μ : Mem} (h : Inv n μ) : f_X9_yearsKept μ = some (th 3 (μ 80), μ) := by
  have hl := x_yearsT_loop h 3 100000 0 (by omega) (by omega)
  rw [Int.natCast_zero, show th 0 (μ 80) = 0 from rfl] at hl
  rw [f_X9_yearsKept, hl]
theorem m_there_loop {μ : Mem} {a m0 : Nat} (hm : m0 < 1000) (hb : ∀ i : Nat, i < m0 → inR (μ a i)) : ∀ (d u i : Nat), i + d = m0 → d < u → f_X10_there_L4 a m0 u (th i (μ a)) (i : Int) μ = some (th m0 (μ a), μ) := by
  intro d
  induction d with
  | zero =>
    intro u i hi hu
    obtain ⟨u, rfl⟩ : ∃ v, u = v + 1 := ⟨u - 1, by omega⟩
    rw [f_X10_there_L4, w32_nat (by omega), w32_nat (by omega), if_neg (by omega), show i = m0 by omega]
  | succ d ih =>
    intro u i hi hu
    obtain ⟨u, rfl⟩ : ∃ v, u = v + 1 := ⟨u - 1, by omega⟩
    have hi' := ih u (i + 1) (by omega) (by omega)
    rw [show ((i + 1 : Nat) : Int) = (i : Int) + 1 by omega, th] at hi'
    rw [f_X10_there_L4, w32_nat (i := i) (by omega), w32_nat (i := m0) (by omega), if_pos (by omega), ck_ok (by omega) (by omega) (by omega), Int.toNat_natCast, (hb i (by omega)).w, vl, vl]
    exact hi'
theorem m_there {μ : Mem} {a m0 : Nat} (hm : m0 < 1000) (hb : ∀ i : Nat, i < m0 → inR (μ a i)) : f_X10_there μ a m0 = some (th m0 (μ a), μ) := by
  have hl := m_there_loop hm hb m0 100000 0 (by omega) (by omega)
  rw [Int.natCast_zero, show th 0 (μ a) = 0 from rfl] at hl
  rw [f_X10_there, hl]
theorem m_pullers_loop {μ : Mem} {C : Nat} {K F : Nat → Int} (hY : YM μ C K) (hF : FB F) (hd : ∀ j : Nat, j < 16 → μ 73 j = F j) : ∀ (d u i : Nat), i + d = C → d < u → f_X10_pullers_L4 u (cn i (abl K F)) (i : Int) μ = some (cn C (abl K F), μ) := by
  have hC := hY.1
  intro d
  induction d with
  | zero =>
    intro u i hi hu
    obtain ⟨u, rfl⟩ : ∃ v, u = v + 1 := ⟨u - 1, by omega⟩
    rw [f_X10_pullers_L4, hY.2.1, w32_nat (by omega), w32_nat (by omega), if_neg (by omega), show i = C by omega]
  | succ d ih =>
    intro u i hi hu
    obtain ⟨u, rfl⟩ : ∃ v, u = v + 1 := ⟨u - 1, by omega⟩
    have hi' := ih u (i + 1) (by omega) (by omega)
    rw [show ((i + 1 : Nat) : Int) = (i : Int) + 1 by omega, cn] at hi'
    rw [f_X10_pullers_L4, hY.2.1, w32_nat (i := i) (by omega), w32_nat (i := C) (by omega), if_pos (by omega), m_canE hY (by omega) hF hd, bd_some, bt_w, vl, vl]
    exact hi'
theorem m_strong_loop {μ : Mem} {C : Nat} {K : Nat → Int} (hY : YM μ C K) : ∀ (d u i : Nat), i + d = C → d < u → f_X10_strongOnes_L4 u (cn i (fun b => isK 2 (K b))) (i : Int) μ = some (cn C (fun b => isK 2 (K b)), μ) := by
  have hC := hY.1
  intro d
  induction d with
  | zero =>
    intro u i hi hu
    obtain ⟨u, rfl⟩ : ∃ v, u = v + 1 := ⟨u - 1, by omega⟩
    rw [f_X10_strongOnes_L4, hY.2.1, w32_nat (by omega), w32_nat (by omega), if_neg (by omega), show i = C by omega]
  | succ d ih =>
    intro u i hi hu
    obtain ⟨u, rfl⟩ : ∃ v, u = v + 1 := ⟨u - 1, by omega⟩
    have hi' := ih u (i + 1) (by omega) (by omega)
    have ho := m_isOf hY (show i < 5 by omega) 2 (by omega)
    rw [show ((2 : Nat) : Int) = 2 from rfl] at ho
    rw [show ((i + 1 : Nat) : Int) = (i : Int) + 1 by omega, cn] at hi'
    rw [f_X10_strongOnes_L4, hY.2.1, w32_nat (i := i) (by omega), w32_nat (i := C) (by omega), if_pos (by omega), ho, bd_some, bt_w, vl, vl]
    exact hi'
def ctv (C : Nat) (μ : Mem) (k : Int) : Int := if k = 0 then μ 67 0 else if k = 1 then μ 67 1 else if k = 2 then μ 67 8 else if k = 3 then cn C (abl (μ 68) (μ 73)) else if k = 4 then (if μ 73 0 < 48 then 0 else 1) else if k = 5 then cn C (fun b => isK 2 (μ 68 b)) else if k = 6 then th 6 (μ 76) else if k = 7 then th 4 (μ 78) else th 3 (μ 80)
theorem x_ct {n : Nat} {μ : Mem} {C : Nat} {k : Int} (h : Inv n μ) (hn : n ≤ 900) (hC0 : μ 67 0 = (C : Int)) (hk : 0 ≤ k ∧ k ≤ 8) : ∃ μ' : Mem, f_X9_countOf μ k = some (ctv C μ k, μ') ∧ Fr [13] μ μ' := by
  obtain ⟨C', V, c0, v0, hYX, hYM, hVX, hVM⟩ := h.yr
  have : C' = C := by omega
  subst this
  have hC := hYX.1
  have hday := h.2.2.2.1
  unfold ctv
  rw [f_X9_countOf, w32_id (a := k) (by omega) (by omega)]
  by_cases c0 : k = 0
  · rw [if_pos c0, if_pos c0, h.cn.1]; exact ⟨μ, rfl, Fr.rf⟩
  rw [if_neg c0, if_neg c0]
  by_cases c1 : k = 1
  · rw [if_pos c1, if_pos c1, h.cn.2]; exact ⟨μ, rfl, Fr.rf⟩
  rw [if_neg c1, if_neg c1]
  by_cases c2 : k = 2
  · rw [if_pos c2, if_pos c2, h.2.2.2.2.1.2.1]; exact ⟨μ, rfl, Fr.rf⟩
  rw [if_neg c2, if_neg c2]
  by_cases c3 : k = 3
  · rw [if_pos c3, if_pos c3]
    obtain ⟨μ2, g1, g2, g3, -⟩ := x_lk1 (t := 13) (by omega) hYX (h.fb hn) hday.1
    refine ⟨μ2, ?_, g2⟩
    rw [g1, bd_some, g3, x_bits_m hC, bd_some]
  rw [if_neg c3, if_neg c3]
  by_cases c4 : k = 4
  · rw [if_pos c4, if_pos c4, x_dn (t := 13) (h.fb hn) hday.1, bd_some, vl, ite01]; exact ⟨μ, rfl, Fr.rf⟩
  rw [if_neg c4, if_neg c4]
  by_cases c5 : k = 5
  · rw [if_pos c5, if_pos c5, ck_ok (by omega) (by omega) (by omega), w32_id (a := 2) (by omega) (by omega), show (2 : Int).toNat = 2 from rfl, hYX.2.2 2 (by omega), x_bits_m hC, bd_some]; exact ⟨μ, rfl, Fr.rf⟩
  rw [if_neg c5, if_neg c5]
  by_cases c6 : k = 6
  · rw [if_pos c6, if_pos c6, x_rowsT h, bd_some]; exact ⟨μ, rfl, Fr.rf⟩
  rw [if_neg c6, if_neg c6]
  by_cases c7 : k = 7
  · rw [if_pos c7, if_pos c7, x_textsT h, bd_some]; exact ⟨μ, rfl, Fr.rf⟩
  rw [if_neg c7, if_neg c7, x_yearsT h, bd_some]; exact ⟨μ, rfl, Fr.rf⟩
theorem m_ct {n : Nat} {μ : Mem} {C : Nat} {k : Int} (h : Inv n μ) (hn : n ≤ 900) (hC0 : μ 67 0 = (C : Int)) (hk : 0 ≤ k ∧ k ≤ 8) : f_X10_count μ k = some (ctv C μ k, μ) := by
  obtain ⟨C', V, c0, v0, hYX, hYM, hVX, hVM⟩ := h.yr
  have : C' = C := by omega
  subst this
  have hC := hYX.1
  unfold ctv
  rw [f_X10_count, w32_id (a := k) (by omega) (by omega)]
  by_cases c0 : k = 0
  · rw [if_pos c0, if_pos c0]
  rw [if_neg c0, if_neg c0]
  by_cases c1 : k = 1
  · rw [if_pos c1, if_pos c1]
  rw [if_neg c1, if_neg c1]
  by_cases c2 : k = 2
  · rw [if_pos c2, if_pos c2]
  rw [if_neg c2, if_neg c2]
  by_cases c3 : k = 3
  · have hl := m_pullers_loop hYM (h.fb hn) (fun _ _ => rfl) C' 100000 0 (by omega) (by omega)
    rw [Int.natCast_zero, show cn 0 (abl (μ 68) (μ 73)) = 0 from rfl] at hl
    rw [if_pos c3, if_pos c3, f_X10_pullers, hl, bd_some]
  rw [if_neg c3, if_neg c3]
  by_cases c4 : k = 4
  · rw [if_pos c4, if_pos c4, m_dn (h.fb hn) (fun _ _ => rfl), bd_some, vl, ite01]
  rw [if_neg c4, if_neg c4]
  by_cases c5 : k = 5
  · have hl := m_strong_loop hYM C' 100000 0 (by omega) (by omega)
    rw [Int.natCast_zero, show cn 0 (fun b => isK 2 (μ 68 b)) = 0 from rfl] at hl
    rw [if_pos c5, if_pos c5, f_X10_strongOnes, hl, bd_some]
  rw [if_neg c5, if_neg c5]
  by_cases c6 : k = 6
  · rw [if_pos c6, if_pos c6, m_there (by omega) (fun i hi => (h.1.sz hi).1), bd_some]
  rw [if_neg c6, if_neg c6]
  by_cases c7 : k = 7
  · rw [if_pos c7, if_pos c7, m_there (by omega) (fun i hi => by obtain ⟨⟨b1, b2⟩, -, -⟩ := h.2.1 i hi; exact ⟨by omega, by omega⟩), bd_some]
  rw [if_neg c7, if_neg c7, if_pos (by omega), m_there (by omega) (fun i hi => by obtain ⟨⟨b1, b2⟩, -, -⟩ := h.2.2.2.2.2.1 i hi; exact ⟨by omega, by omega⟩), bd_some]
theorem ctv_fr {μ μ' : Mem} {C : Nat} (hf : Fr [13] μ μ') (k : Int) : ctv C μ' k = ctv C μ k := by
  unfold ctv
  rw [hf 67 (by simp), hf 68 (by simp), hf 73 (by simp), hf 76 (by simp), hf 78 (by simp), hf 80 (by simp)]
theorem p_count {n : Nat} (hn : n ≤ 900) {p : Int} (hp : inR p) : Pair n (fun μ => f_X9_count μ p) (fun μ => f_X10_count μ p) := by
  intro μ h
  obtain ⟨C, V, hC0, hV0, hYX, hYM, hVX, hVM⟩ := h.yr
  by_cases c : 0 ≤ p ∧ p ≤ 8
  · obtain ⟨μ1, g1, g2⟩ := x_ct h hn hC0 c
    refine ⟨ctv C μ p, μ1, μ1, ?_, ?_, (h.fr13 g2).up (Nat.le_succ n)⟩
    · show f_X9_count μ p = _
      rw [f_X9_count, jn, hp.w, if_neg (by omega), w32_id (a := 9) (by omega) (by omega), if_pos (by omega), g1, bd_some]
    · show f_X10_count μ1 p = _
      rw [m_ct (h.fr13 g2) hn (by rw [g2 67 (by simp)]; exact hC0) c, ctv_fr g2]
  · refine pair_bad h (a := -1) ?_ ?_
    · show f_X9_count μ p = _
      rw [f_X9_count, jn, hp.w, w32_id (a := 9) (by omega) (by omega)]
      by_cases c1 : p < 0
      · rw [if_pos c1]
      · rw [if_neg c1, if_neg (by omega)]
    · show f_X10_count μ p = _
      rw [f_X10_count, hp.w, if_neg (by omega), if_neg (by omega), if_neg (by omega), if_neg (by omega), if_neg (by omega), if_neg (by omega), if_neg (by omega), if_neg (by omega), if_neg (by omega)]
/-! digest -/
def hfo (f : Nat → Int) : Nat → Int → Int
  | 0, h => h
  | i + 1, h => 31 * hfo f i h + w32 (f i)
def hno (f : Nat → Nat → Int) (m : Nat) : Nat → Int → Int
  | 0, h => h
  | i + 1, h => hfo (f i) m (hno f m i h)
def hrs (sz : Nat → Int) (f : Nat → Nat → Int) : Nat → Int → Int
  | 0, h => h
  | r + 1, h => hfo (f r) (sz r).toNat (31 * hrs sz f r h + w32 (sz r))
theorem hfo_cg {f g : Nat → Int} {m : Nat} {h : Int} (e : ∀ i, i < m → f i = g i) : hfo f m h = hfo g m h := by
  induction m with
  | zero => rfl
  | succ m ih => rw [hfo, hfo, ih (fun i hi => e i (by omega)), e m (by omega)]
theorem x_dg1 {n : Nat} {μ : Mem} {C : Nat} {h0 : Int} (h : Inv n μ) (hn : n ≤ 900) (hC0 : μ 67 0 = (C : Int)) : ∀ (d u i : Nat) (μ' : Mem), i + d = 9 → d < u → Fr [13] μ μ' → ∃ μ'' : Mem, (∀ Kc, f_X9_digest_L6 Kc u (hfo (fun k => ctv C μ k) i h0) (i : Int) μ' = Kc (hfo (fun k => ctv C μ k) 9 h0) μ'') ∧ Fr [13] μ μ'' := by
  intro d
  induction d with
  | zero =>
    intro u i μ' hi hu hf
    obtain ⟨u, rfl⟩ : ∃ v, u = v + 1 := ⟨u - 1, by omega⟩
    refine ⟨μ', fun Kc => ?_, hf⟩
    rw [f_X9_digest_L6, w32_nat (by omega), w32_id (a := 9) (by omega) (by omega), if_neg (by omega), show i = 9 by omega]
  | succ d ih =>
    intro u i μ' hi hu hf
    obtain ⟨u, rfl⟩ : ∃ v, u = v + 1 := ⟨u - 1, by omega⟩
    obtain ⟨μ2, g1, g2⟩ := x_ct (k := (i : Int)) (h.fr13 hf) hn (by rw [hf 67 (by simp)]; exact hC0) (by omega)
    obtain ⟨μ3, k1, k2⟩ := ih u (i + 1) μ2 (by omega) (by omega) (hf.tr g2)
    refine ⟨μ3, fun Kc => ?_, k2⟩
    have k1' := k1 Kc
    rw [show ((i + 1 : Nat) : Int) = (i : Int) + 1 by omega, hfo] at k1'
    rw [f_X9_digest_L6, w32_nat (by omega), w32_id (a := 9) (by omega) (by omega), if_pos (by omega), g1, bd_some, vl, ctv_fr hf]
    exact k1'
theorem m_dg1 {n : Nat} {μ : Mem} {C : Nat} {h0 : Int} (h : Inv n μ) (hn : n ≤ 900) (hC0 : μ 67 0 = (C : Int)) : ∀ (d u i : Nat), i + d = 9 → d < u → ∀ Kc, f_X10_digest_L6 Kc u (hfo (fun k => ctv C μ k) i h0) (i : Int) μ = Kc (hfo (fun k => ctv C μ k) 9 h0) μ := by
  intro d
  induction d with
  | zero =>
    intro u i hi hu Kc
    obtain ⟨u, rfl⟩ : ∃ v, u = v + 1 := ⟨u - 1, by omega⟩
    rw [f_X10_digest_L6, w32_nat (by omega), w32_id (a := 9) (by omega) (by omega), if_neg (by omega), show i = 9 by omega]
  | succ d ih =>
    intro u i hi hu Kc
    obtain ⟨u, rfl⟩ : ∃ v, u = v + 1 := ⟨u - 1, by omega⟩
    have k1' := ih u (i + 1) (by omega) (by omega) Kc
    rw [show ((i + 1 : Nat) : Int) = (i : Int) + 1 by omega, hfo] at k1'
    rw [f_X10_digest_L6, w32_nat (by omega), w32_id (a := 9) (by omega) (by omega), if_pos (by omega), m_ct h hn hC0 (by omega), bd_some, vl]
    exact k1'
theorem x_dg2i {n : Nat} {μ : Mem} {C c : Nat} {h0 : Int} (h : Inv n μ) (hn : n ≤ 900) (hC0 : μ 67 0 = (C : Int)) (hc : c < C) (hC : C ≤ 5) : ∀ (d u i : Nat) (μ' : Mem), i + d = 4 → d < u → Fr [13] μ μ' → ∃ μ'' : Mem, (∀ Kc, f_X9_digest_L81 Kc (c : Int) u (hfo (fun k => cfv (μ 68) (μ 73) c k) i h0) (i : Int) μ' = Kc (hfo (fun k => cfv (μ 68) (μ 73) c k) 4 h0) μ'') ∧ Fr [13] μ μ'' := by
  intro d
  induction d with
  | zero =>
    intro u i μ' hi hu hf
    obtain ⟨u, rfl⟩ : ∃ v, u = v + 1 := ⟨u - 1, by omega⟩
    refine ⟨μ', fun Kc => ?_, hf⟩
    rw [f_X9_digest_L81, w32_nat (by omega), w32_id (a := 3) (by omega) (by omega), if_pos (by omega), show i = 4 by omega]
  | succ d ih =>
    intro u i μ' hi hu hf
    obtain ⟨u, rfl⟩ : ∃ v, u = v + 1 := ⟨u - 1, by omega⟩
    obtain ⟨μ2, g1, g2⟩ := x_cf (i := c) (k := (i : Int)) (h.fr13 hf) hn (by rw [hf 67 (by simp)]; exact hC0) hc (by omega)
    obtain ⟨μ3, k1, k2⟩ := ih u (i + 1) μ2 (by omega) (by omega) (hf.tr g2)
    refine ⟨μ3, fun Kc => ?_, k2⟩
    have k1' := k1 Kc
    rw [show ((i + 1 : Nat) : Int) = (i : Int) + 1 by omega, hfo] at k1'
    rw [f_X9_digest_L81, w32_nat (by omega), w32_id (a := 3) (by omega) (by omega), if_neg (by omega), g1, bd_some, vl, hf 68 (by simp), hf 73 (by simp)]
    exact k1'
theorem m_dg2i {μ : Mem} {C c : Nat} {K F : Nat → Int} {h0 : Int} (hY : YM μ C K) (hF : FB F) (hd : ∀ j : Nat, j < 16 → μ 73 j = F j) (hc : c < C) : ∀ (d u i : Nat), i + d = 4 → d < u → ∀ Kc, f_X10_digest_L70 Kc (c : Int) u (hfo (fun k => cfv K F c k) i h0) (i : Int) μ = Kc (hfo (fun k => cfv K F c k) 4 h0) μ := by
  have hC := hY.1
  intro d
  induction d with
  | zero =>
    intro u i hi hu Kc
    obtain ⟨u, rfl⟩ : ∃ v, u = v + 1 := ⟨u - 1, by omega⟩
    rw [f_X10_digest_L70, w32_nat (by omega), w32_id (a := 4) (by omega) (by omega), if_neg (by omega), show i = 4 by omega]
  | succ d ih =>
    intro u i hi hu Kc
    obtain ⟨u, rfl⟩ : ∃ v, u = v + 1 := ⟨u - 1, by omega⟩
    have k1' := ih u (i + 1) (by omega) (by omega) Kc
    rw [show ((i + 1 : Nat) : Int) = (i : Int) + 1 by omega, hfo] at k1'
    rw [f_X10_digest_L70, w32_nat (by omega), w32_id (a := 4) (by omega) (by omega), if_pos (by omega), m_cf hY (by omega) hF hd (by omega), bd_some, vl]
    exact k1'
theorem x_dg2 {n : Nat} {μ : Mem} {C : Nat} {h0 : Int} (h : Inv n μ) (hn : n ≤ 900) (hC0 : μ 67 0 = (C : Int)) (hC : C ≤ 5) : ∀ (d u i : Nat) (μ' : Mem), i + d = C → d < u → Fr [13] μ μ' → ∃ μ'' : Mem, (∀ Kc, f_X9_digest_L67 Kc u (hno (fun c k => cfv (μ 68) (μ 73) c k) 4 i h0) (i : Int) μ' = Kc (hno (fun c k => cfv (μ 68) (μ 73) c k) 4 C h0) μ'') ∧ Fr [13] μ μ'' := by
  intro d
  induction d with
  | zero =>
    intro u i μ' hi hu hf
    obtain ⟨u, rfl⟩ : ∃ v, u = v + 1 := ⟨u - 1, by omega⟩
    refine ⟨μ', fun Kc => ?_, hf⟩
    rw [f_X9_digest_L67, hf 6 (by simp), h.cn.1, hC0, w32_nat (by omega), w32_nat (by omega), if_neg (by omega), show i = C by omega]
  | succ d ih =>
    intro u i μ' hi hu hf
    obtain ⟨u, rfl⟩ : ∃ v, u = v + 1 := ⟨u - 1, by omega⟩
    obtain ⟨μ2, g1, g2⟩ := x_dg2i (c := i) (h0 := hno (fun c k => cfv (μ 68) (μ 73) c k) 4 i h0) h hn hC0 (by omega) hC 4 100000 0 μ' (by omega) (by omega) hf
    rw [Int.natCast_zero, hfo] at g1
    obtain ⟨μ3, k1, k2⟩ := ih u (i + 1) μ2 (by omega) (by omega) g2
    refine ⟨μ3, fun Kc => ?_, k2⟩
    have k1' := k1 Kc
    rw [show ((i + 1 : Nat) : Int) = (i : Int) + 1 by omega, hno] at k1'
    rw [f_X9_digest_L67, hf 6 (by simp), h.cn.1, hC0, w32_nat (i := i) (by omega), w32_nat (i := C) (by omega), if_pos (by omega), g1]
    exact k1'
theorem m_dg2 {μ : Mem} {C : Nat} {K F : Nat → Int} {h0 : Int} (hY : YM μ C K) (hF : FB F) (hd : ∀ j : Nat, j < 16 → μ 73 j = F j) : ∀ (d u i : Nat), i + d = C → d < u → ∀ Kc, f_X10_digest_L59 Kc u (hno (fun c k => cfv K F c k) 4 i h0) (i : Int) μ = Kc (hno (fun c k => cfv K F c k) 4 C h0) μ := by
  have hC := hY.1
  intro d
  induction d with
  | zero =>
    intro u i hi hu Kc
    obtain ⟨u, rfl⟩ : ∃ v, u = v + 1 := ⟨u - 1, by omega⟩
    rw [f_X10_digest_L59, hY.2.1, w32_nat (by omega), w32_nat (by omega), if_neg (by omega), show i = C by omega]
  | succ d ih =>
    intro u i hi hu Kc
    obtain ⟨u, rfl⟩ : ∃ v, u = v + 1 := ⟨u - 1, by omega⟩
    have g1 := m_dg2i (c := i) (h0 := hno (fun c k => cfv K F c k) 4 i h0) hY hF hd (by omega) 4 100000 0 (by omega) (by omega)
    rw [Int.natCast_zero, hfo] at g1
    have k1' := ih u (i + 1) (by omega) (by omega) Kc
    rw [show ((i + 1 : Nat) : Int) = (i : Int) + 1 by omega, hno] at k1'
    rw [f_X10_digest_L59, hY.2.1, w32_nat (i := i) (by omega), w32_nat (i := C) (by omega), if_pos (by omega), g1]
    exact k1'
theorem x_dg3i {n : Nat} {μ : Mem} {v : Nat} {h0 : Int} (h : Inv n μ) (hv : v < 4) : ∀ (d u i : Nat), i + d = 5 → d < u → ∀ Kc, f_X9_digest_L130 Kc (v : Int) u (hfo (fun k => vf μ v k) i h0) (i : Int) μ = Kc (hfo (fun k => vf μ v k) 5 h0) μ := by
  intro d
  induction d with
  | zero =>
    intro u i hi hu Kc
    obtain ⟨u, rfl⟩ : ∃ v, u = v + 1 := ⟨u - 1, by omega⟩
    rw [f_X9_digest_L130, w32_nat (by omega), w32_id (a := 4) (by omega) (by omega), if_pos (by omega), show i = 5 by omega]
  | succ d ih =>
    intro u i hi hu Kc
    obtain ⟨u, rfl⟩ : ∃ v, u = v + 1 := ⟨u - 1, by omega⟩
    have k1' := ih u (i + 1) (by omega) (by omega) Kc
    rw [show ((i + 1 : Nat) : Int) = (i : Int) + 1 by omega, hfo] at k1'
    rw [f_X9_digest_L130, w32_nat (by omega), w32_id (a := 4) (by omega) (by omega), if_neg (by omega), x_vf h hv (by omega), bd_some, vl]
    exact k1'
theorem m_dg3i {μ : Mem} {v : Nat} {h0 : Int} (hv : v < 4) : ∀ (d u i : Nat), i + d = 5 → d < u → ∀ Kc, f_X10_digest_L116 Kc (v : Int) u (hfo (fun k => vf μ v k) i h0) (i : Int) μ = Kc (hfo (fun k => vf μ v k) 5 h0) μ := by
  intro d
  induction d with
  | zero =>
    intro u i hi hu Kc
    obtain ⟨u, rfl⟩ : ∃ v, u = v + 1 := ⟨u - 1, by omega⟩
    rw [f_X10_digest_L116, w32_nat (by omega), w32_id (a := 5) (by omega) (by omega), if_neg (by omega), show i = 5 by omega]
  | succ d ih =>
    intro u i hi hu Kc
    obtain ⟨u, rfl⟩ : ∃ v, u = v + 1 := ⟨u - 1, by omega⟩
    have k1' := ih u (i + 1) (by omega) (by omega) Kc
    rw [show ((i + 1 : Nat) : Int) = (i : Int) + 1 by omega, hfo] at k1'
    rw [f_X10_digest_L116, w32_nat (by omega), w32_id (a := 5) (by omega) (by omega), if_pos (by omega), m_vf hv (by omega), bd_some, vl]
    exact k1'
theorem x_dg3 {n : Nat} {μ : Mem} {V : Nat} {h0 : Int} (h : Inv n μ) (hV0 : μ 67 1 = (V : Int)) (hV : V ≤ 4) : ∀ (d u i : Nat), i + d = V → d < u → ∀ Kc, f_X9_digest_L116 Kc u (hno (fun v k => vf μ v k) 5 i h0) (i : Int) μ = Kc (hno (fun v k => vf μ v k) 5 V h0) μ := by
  intro d
  induction d with
  | zero =>
    intro u i hi hu Kc
    obtain ⟨u, rfl⟩ : ∃ v, u = v + 1 := ⟨u - 1, by omega⟩
    rw [f_X9_digest_L116, h.cn.2, hV0, w32_nat (by omega), w32_nat (by omega), if_neg (by omega), show i = V by omega]
  | succ d ih =>
    intro u i hi hu Kc
    obtain ⟨u, rfl⟩ : ∃ v, u = v + 1 := ⟨u - 1, by omega⟩
    have g1 := x_dg3i (v := i) (h0 := hno (fun v k => vf μ v k) 5 i h0) h (by omega) 5 100000 0 (by omega) (by omega)
    rw [Int.natCast_zero, hfo] at g1
    have k1' := ih u (i + 1) (by omega) (by omega) Kc
    rw [show ((i + 1 : Nat) : Int) = (i : Int) + 1 by omega, hno] at k1'
    rw [f_X9_digest_L116, h.cn.2, hV0, w32_nat (i := i) (by omega), w32_nat (i := V) (by omega), if_pos (by omega), g1]
    exact k1'
theorem m_dg3 {μ : Mem} {V : Nat} {h0 : Int} (hV0 : μ 67 1 = (V : Int)) (hV : V ≤ 4) : ∀ (d u i : Nat), i + d = V → d < u → ∀ Kc, f_X10_digest_L105 Kc u (hno (fun v k => vf μ v k) 5 i h0) (i : Int) μ = Kc (hno (fun v k => vf μ v k) 5 V h0) μ := by
  intro d
  induction d with
  | zero =>
    intro u i hi hu Kc
    obtain ⟨u, rfl⟩ : ∃ v, u = v + 1 := ⟨u - 1, by omega⟩
    rw [f_X10_digest_L105, hV0, w32_nat (by omega), w32_nat (by omega), if_neg (by omega), show i = V by omega]
  | succ d ih =>
    intro u i hi hu Kc
    obtain ⟨u, rfl⟩ : ∃ v, u = v + 1 := ⟨u - 1, by omega⟩
    have g1 := m_dg3i (μ := μ) (v := i) (h0 := hno (fun v k => vf μ v k) 5 i h0) (by omega) 5 100000 0 (by omega) (by omega)
    rw [Int.natCast_zero, hfo] at g1
    have k1' := ih u (i + 1) (by omega) (by omega) Kc
    rw [show ((i + 1 : Nat) : Int) = (i : Int) + 1 by omega, hno] at k1'
    rw [f_X10_digest_L105, hV0, w32_nat (i := i) (by omega), w32_nat (i := V) (by omega), if_pos (by omega), g1]
    exact k1'
theorem x_dg4 {n : Nat} {μ : Mem} {h0 : Int} (h : Inv n μ) : ∀ (d u i : Nat), i + d = 3 → d < u → ∀ Kc, f_X9_digest_L165 Kc u (hfo (μ 80) i h0) (i : Int) μ = Kc (hfo (μ 80) 3 h0) μ := by
  intro d
  induction d with
  | zero =>
    intro u i hi hu Kc
    obtain ⟨u, rfl⟩ : ∃ v, u = v + 1 := ⟨u - 1, by omega⟩
    rw [f_X9_digest_L165, w32_nat (by omega), w32_id (a := 3) (by omega) (by omega), if_neg (by omega), show i = 3 by omega]
  | succ d ih =>
    intro u i hi hu Kc
    obtain ⟨u, rfl⟩ : ∃ v, u = v + 1 := ⟨u - 1, by omega⟩
    have k1' := ih u (i + 1) (by omega) (by omega) Kc
    obtain ⟨-, b3, -⟩ := h.2.2.2.2.2.1 i (by omega)
    rw [show ((i + 1 : Nat) : Int) = (i : Int) + 1 by omega, hfo] at k1'
    rw [f_X9_digest_L165, w32_nat (by omega), w32_id (a := 3) (by omega) (by omega), if_pos (by omega), ck_ok (by omega) (by omega) (by omega), Int.toNat_natCast, b3, vl]
    exact k1'
theorem m_dg4 {μ : Mem} {h0 : Int} : ∀ (d u i : Nat), i + d = 3 → d < u → ∀ Kc, f_X10_digest_L151 Kc u (hfo (μ 80) i h0) (i : Int) μ = Kc (hfo (μ 80) 3 h0) μ := by
  intro d
  induction d with
  | zero =>
    intro u i hi hu Kc
    obtain ⟨u, rfl⟩ : ∃ v, u = v + 1 := ⟨u - 1, by omega⟩
    rw [f_X10_digest_L151, w32_nat (by omega), w32_id (a := 3) (by omega) (by omega), if_neg (by omega), show i = 3 by omega]
  | succ d ih =>
    intro u i hi hu Kc
    obtain ⟨u, rfl⟩ : ∃ v, u = v + 1 := ⟨u - 1, by omega⟩
    have k1' := ih u (i + 1) (by omega) (by omega) Kc
    rw [show ((i + 1 : Nat) : Int) = (i : Int) + 1 by omega, hfo] at k1'
    rw [f_X10_digest_L151, w32_nat (by omega), w32_id (a := 3) (by omega) (by omega), if_pos (by omega), ck_ok (by omega) (by omega) (by omega), Int.toNat_natCast, vl]
    exact k1'
theorem x_dg_rowi {μ : Mem} {r N : Nat} {h0 : Int} (hr : r < 6) (hN : N ≤ 40) (h1 : μ (38 + 2 * r) 1 = (N : Int)) (he : ∀ i : Nat, i < N → μ (38 + 2 * r + 1) i = μ 77 (40 * r + i)) : ∀ (d u i : Nat), i + d = N → d < u → f_X5_digestFrom_L15 (38 + 2 * r) u (hfo (fun i => μ 77 (40 * r + i)) i h0) (i : Int) μ = some (hfo (fun i => μ 77 (40 * r + i)) N h0, μ) := by
  intro d
  induction d with
  | zero =>
    intro u i hi hu
    obtain ⟨u, rfl⟩ : ∃ v, u = v + 1 := ⟨u - 1, by omega⟩
    rw [f_X5_digestFrom_L15, h1, w32_nat (by omega), w32_nat (by omega), if_neg (by omega), show i = N by omega]
  | succ d ih =>
    intro u i hi hu
    obtain ⟨u, rfl⟩ : ∃ v, u = v + 1 := ⟨u - 1, by omega⟩
    have k1' := ih u (i + 1) (by omega) (by omega)
    rw [show ((i + 1 : Nat) : Int) = (i : Int) + 1 by omega, hfo] at k1'
    rw [f_X5_digestFrom_L15, h1, w32_nat (i := i) (by omega), w32_nat (i := N) (by omega), if_pos (by omega), ck_ok (by omega) (by omega) (by omega), Int.toNat_natCast, he i (by omega), vl]
    exact k1'
theorem m_dg_rowi {μ : Mem} {r N : Nat} {h0 : Int} (hr : r < 6) (hN : N ≤ 40) (h1 : (N : Int) = μ 76 r) : ∀ (d u i : Nat), i + d = N → d < u → ∀ Kc, f_X10_digest_L201 Kc (r : Int) u (hfo (fun i => μ 77 (40 * r + i)) i h0) (i : Int) μ = Kc (hfo (fun i => μ 77 (40 * r + i)) N h0) μ := by
  intro d
  induction d with
  | zero =>
    intro u i hi hu Kc
    obtain ⟨u, rfl⟩ : ∃ v, u = v + 1 := ⟨u - 1, by omega⟩
    rw [f_X10_digest_L201, ck_ok (by omega) (by omega) (by omega), w32_nat (i := r) (by omega), Int.toNat_natCast, ← h1, w32_nat (by omega), w32_nat (by omega), if_neg (by omega), show i = N by omega]
  | succ d ih =>
    intro u i hi hu Kc
    obtain ⟨u, rfl⟩ : ∃ v, u = v + 1 := ⟨u - 1, by omega⟩
    have k1' := ih u (i + 1) (by omega) (by omega) Kc
    rw [show ((i + 1 : Nat) : Int) = (i : Int) + 1 by omega, hfo] at k1'
    rw [f_X10_digest_L201, ck_ok (by omega) (by omega) (by omega), w32_nat (i := r) (by omega), Int.toNat_natCast, ← h1, w32_nat (i := i) (by omega), w32_nat (i := N) (by omega), if_pos (by omega), ck_ok (by omega) (by omega) (by omega), w32_id (a := 40 * (r : Int) + (i : Int)) (by omega) (by omega), show (40 * (r : Int) + (i : Int)).toNat = 40 * r + i by omega, vl]
    exact k1'
theorem dg_rows {n : Nat} {μ : Mem} {r : Nat} (h : Inv n μ) (hr : r < 6) : (μ 76 r).toNat ≤ 40 ∧ (-1 ≤ μ 76 r ∧ μ 76 r ≤ 40) ∧ μ (38 + 2 * r) 1 = μ 76 r ∧ ∀ i : Nat, i < (μ 76 r).toNat → μ (38 + 2 * r + 1) i = μ 77 (40 * r + i) := by
  obtain ⟨⟨b1, b2⟩, b3, b4⟩ := h.1 r hr
  exact ⟨by omega, ⟨b1, b2⟩, b3, fun i hi => (b4 i (by omega)).1⟩
theorem x_dg_rowd {n : Nat} {μ : Mem} {r : Nat} {h0 : Int} (h : Inv n μ) (hr : r < 6) : f_X5_digestFrom μ (38 + 2 * r) h0 = some (hfo (fun i => μ 77 (40 * r + i)) (μ 76 r).toNat (31 * h0 + w32 (μ 76 r)), μ) := by
  obtain ⟨s1, ⟨s2, s3⟩, s4, s5⟩ := dg_rows h hr
  rw [f_X5_digestFrom, vl, s4]
  by_cases c : μ 76 r < 0
  · rw [show (μ 76 r).toNat = 0 by omega, f_X5_digestFrom_L15, s4, w32_id (a := 0) (by omega) (by omega), w32_id (a := μ 76 r) (by omega) (by omega), if_neg (by omega), hfo]
  · have hl := x_dg_rowi (h0 := 31 * h0 + w32 (μ 76 r)) hr s1 (by rw [s4]; omega) s5 (μ 76 r).toNat 100000 0 (by omega) (by omega)
    rw [Int.natCast_zero, hfo] at hl
    exact hl
theorem m_dg_rowd {n : Nat} {μ : Mem} {r : Nat} {h0 : Int} (h : Inv n μ) (hr : r < 6) : ∀ Kc, f_X10_digest_L201 Kc (r : Int) 100000 h0 0 μ = Kc (hfo (fun i => μ 77 (40 * r + i)) (μ 76 r).toNat h0) μ := by
  obtain ⟨s1, ⟨s2, s3⟩, s4, s5⟩ := dg_rows h hr
  intro Kc
  by_cases c : μ 76 r < 0
  · rw [show (μ 76 r).toNat = 0 by omega, f_X10_digest_L201, ck_ok (by omega) (by omega) (by omega), w32_nat (i := r) (by omega), Int.toNat_natCast, w32_id (a := 0) (by omega) (by omega), w32_id (a := μ 76 r) (by omega) (by omega), if_neg (by omega), hfo]
  · have hl := m_dg_rowi (μ := μ) (h0 := h0) hr s1 (by omega) (μ 76 r).toNat 100000 0 (by omega) (by omega) Kc
    rw [Int.natCast_zero, hfo] at hl
    exact hl
theorem x_dg_row {n : Nat} {μ : Mem} {h0 : Int} (h : Inv n μ) : ∀ (d u i : Nat), i + d = 6 → d < u → ∀ Kc, f_X9_digest_L195 Kc u (hrs (μ 76) (fun r i => μ 77 (40 * r + i)) i h0) (i : Int) μ = Kc (hrs (μ 76) (fun r i => μ 77 (40 * r + i)) 6 h0) μ := by
  intro d
  induction d with
  | zero =>
    intro u i hi hu Kc
    obtain ⟨u, rfl⟩ : ∃ v, u = v + 1 := ⟨u - 1, by omega⟩
    rw [f_X9_digest_L195, w32_nat (by omega), w32_id (a := 6) (by omega) (by omega), if_neg (by omega), show i = 6 by omega]
  | succ d ih =>
    intro u i hi hu Kc
    obtain ⟨u, rfl⟩ : ∃ v, u = v + 1 := ⟨u - 1, by omega⟩
    have k1' := ih u (i + 1) (by omega) (by omega) Kc
    rw [show ((i + 1 : Nat) : Int) = (i : Int) + 1 by omega, hrs] at k1'
    rw [f_X9_digest_L195, w32_nat (by omega), w32_id (a := 6) (by omega) (by omega), if_pos (by omega), ck_ok (by omega) (by omega) (by omega), Int.toNat_natCast, x_dg_rowd h (by omega), bd_some]
    exact k1'
theorem m_dg_row {n : Nat} {μ : Mem} {h0 : Int} (h : Inv n μ) : ∀ (d u i : Nat), i + d = 6 → d < u → ∀ Kc, f_X10_digest_L178 Kc u (hrs (μ 76) (fun r i => μ 77 (40 * r + i)) i h0) (i : Int) μ = Kc (hrs (μ 76) (fun r i => μ 77 (40 * r + i)) 6 h0) μ := by
  intro d
  induction d with
  | zero =>
    intro u i hi hu Kc
    obtain ⟨u, rfl⟩ : ∃ v, u = v + 1 := ⟨u - 1, by omega⟩
    rw [f_X10_digest_L178, w32_nat (by omega), w32_id (a := 6) (by omega) (by omega), if_neg (by omega), show i = 6 by omega]
  | succ d ih =>
    intro u i hi hu Kc
    obtain ⟨u, rfl⟩ : ∃ v, u = v + 1 := ⟨u - 1, by omega⟩
    have k1' := ih u (i + 1) (by omega) (by omega) Kc
    rw [show ((i + 1 : Nat) : Int) = (i : Int) + 1 by omega, hrs] at k1'
    rw [f_X10_digest_L178, w32_nat (by omega), w32_id (a := 6) (by omega) (by omega), if_pos (by omega), ck_ok (by omega) (by omega) (by omega), Int.toNat_natCast, vl, m_dg_rowd h (by omega)]
    exact k1'
theorem x_dg_texti {μ : Mem} {r N : Nat} {h0 : Int} (hr : r < 4) (hN : N ≤ 60) (h1 : μ (50 + 2 * r) 1 = (N : Int)) (he : ∀ i : Nat, i < N → μ (50 + 2 * r + 1) i = μ 79 (60 * r + i)) : ∀ (d u i : Nat), i + d = N → d < u → f_X7_digestFrom_L15 (50 + 2 * r) u (hfo (fun i => μ 79 (60 * r + i)) i h0) (i : Int) μ = some (hfo (fun i => μ 79 (60 * r + i)) N h0, μ) := by
  intro d
  induction d with
  | zero =>
    intro u i hi hu
    obtain ⟨u, rfl⟩ : ∃ v, u = v + 1 := ⟨u - 1, by omega⟩
    rw [f_X7_digestFrom_L15, h1, w32_nat (by omega), w32_nat (by omega), if_neg (by omega), show i = N by omega]
  | succ d ih =>
    intro u i hi hu
    obtain ⟨u, rfl⟩ : ∃ v, u = v + 1 := ⟨u - 1, by omega⟩
    have k1' := ih u (i + 1) (by omega) (by omega)
    rw [show ((i + 1 : Nat) : Int) = (i : Int) + 1 by omega, hfo] at k1'
    rw [f_X7_digestFrom_L15, h1, w32_nat (i := i) (by omega), w32_nat (i := N) (by omega), if_pos (by omega), ck_ok (by omega) (by omega) (by omega), Int.toNat_natCast, he i (by omega), vl]
    exact k1'
theorem m_dg_texti {μ : Mem} {r N : Nat} {h0 : Int} (hr : r < 4) (hN : N ≤ 60) (h1 : (N : Int) = μ 78 r) : ∀ (d u i : Nat), i + d = N → d < u → ∀ Kc, f_X10_digest_L268 Kc (r : Int) u (hfo (fun i => μ 79 (60 * r + i)) i h0) (i : Int) μ = Kc (hfo (fun i => μ 79 (60 * r + i)) N h0) μ := by
  intro d
  induction d with
  | zero =>
    intro u i hi hu Kc
    obtain ⟨u, rfl⟩ : ∃ v, u = v + 1 := ⟨u - 1, by omega⟩
    rw [f_X10_digest_L268, ck_ok (by omega) (by omega) (by omega), w32_nat (i := r) (by omega), Int.toNat_natCast, ← h1, w32_nat (by omega), w32_nat (by omega), if_neg (by omega), show i = N by omega]
  | succ d ih =>
    intro u i hi hu Kc
    obtain ⟨u, rfl⟩ : ∃ v, u = v + 1 := ⟨u - 1, by omega⟩
    have k1' := ih u (i + 1) (by omega) (by omega) Kc
    rw [show ((i + 1 : Nat) : Int) = (i : Int) + 1 by omega, hfo] at k1'
    rw [f_X10_digest_L268, ck_ok (by omega) (by omega) (by omega), w32_nat (i := r) (by omega), Int.toNat_natCast, ← h1, w32_nat (i := i) (by omega), w32_nat (i := N) (by omega), if_pos (by omega), ck_ok (by omega) (by omega) (by omega), w32_id (a := 60 * (r : Int) + (i : Int)) (by omega) (by omega), show (60 * (r : Int) + (i : Int)).toNat = 60 * r + i by omega, vl]
    exact k1'
theorem dg_texts {n : Nat} {μ : Mem} {r : Nat} (h : Inv n μ) (hr : r < 4) : (μ 78 r).toNat ≤ 60 ∧ (-1 ≤ μ 78 r ∧ μ 78 r ≤ 60) ∧ μ (50 + 2 * r) 1 = μ 78 r ∧ ∀ i : Nat, i < (μ 78 r).toNat → μ (50 + 2 * r + 1) i = μ 79 (60 * r + i) := by
  obtain ⟨⟨b1, b2⟩, b3, b4⟩ := h.2.1 r hr
  exact ⟨by omega, ⟨b1, b2⟩, b3, fun i hi => (b4 i (by omega)).1⟩
theorem x_dg_textd {n : Nat} {μ : Mem} {r : Nat} {h0 : Int} (h : Inv n μ) (hr : r < 4) : f_X7_digestFrom μ (50 + 2 * r) h0 = some (hfo (fun i => μ 79 (60 * r + i)) (μ 78 r).toNat (31 * h0 + w32 (μ 78 r)), μ) := by
  obtain ⟨s1, ⟨s2, s3⟩, s4, s5⟩ := dg_texts h hr
  rw [f_X7_digestFrom, vl, s4]
  by_cases c : μ 78 r < 0
  · rw [show (μ 78 r).toNat = 0 by omega, f_X7_digestFrom_L15, s4, w32_id (a := 0) (by omega) (by omega), w32_id (a := μ 78 r) (by omega) (by omega), if_neg (by omega), hfo]
  · have hl := x_dg_texti (h0 := 31 * h0 + w32 (μ 78 r)) hr s1 (by rw [s4]; omega) s5 (μ 78 r).toNat 100000 0 (by omega) (by omega)
    rw [Int.natCast_zero, hfo] at hl
    exact hl
theorem m_dg_textd {n : Nat} {μ : Mem} {r : Nat} {h0 : Int} (h : Inv n μ) (hr : r < 4) : ∀ Kc, f_X10_digest_L268 Kc (r : Int) 100000 h0 0 μ = Kc (hfo (fun i => μ 79 (60 * r + i)) (μ 78 r).toNat h0) μ := by
  obtain ⟨s1, ⟨s2, s3⟩, s4, s5⟩ := dg_texts h hr
  intro Kc
  by_cases c : μ 78 r < 0
  · rw [show (μ 78 r).toNat = 0 by omega, f_X10_digest_L268, ck_ok (by omega) (by omega) (by omega), w32_nat (i := r) (by omega), Int.toNat_natCast, w32_id (a := 0) (by omega) (by omega), w32_id (a := μ 78 r) (by omega) (by omega), if_neg (by omega), hfo]
  · have hl := m_dg_texti (μ := μ) (h0 := h0) hr s1 (by omega) (μ 78 r).toNat 100000 0 (by omega) (by omega) Kc
    rw [Int.natCast_zero, hfo] at hl
    exact hl
theorem x_dg_text {n : Nat} {μ : Mem} {h0 : Int} (h : Inv n μ) : ∀ (d u i : Nat), i + d = 4 → d < u → f_X9_digest_L220 u (hrs (μ 78) (fun r i => μ 79 (60 * r + i)) i h0) (i : Int) μ = some (hrs (μ 78) (fun r i => μ 79 (60 * r + i)) 4 h0, μ) := by
  intro d
  induction d with
  | zero =>
    intro u i hi hu
    obtain ⟨u, rfl⟩ : ∃ v, u = v + 1 := ⟨u - 1, by omega⟩
    rw [f_X9_digest_L220, w32_nat (by omega), w32_id (a := 4) (by omega) (by omega), if_neg (by omega), show i = 4 by omega]
  | succ d ih =>
    intro u i hi hu
    obtain ⟨u, rfl⟩ : ∃ v, u = v + 1 := ⟨u - 1, by omega⟩
    have k1' := ih u (i + 1) (by omega) (by omega)
    rw [show ((i + 1 : Nat) : Int) = (i : Int) + 1 by omega, hrs] at k1'
    rw [f_X9_digest_L220, w32_nat (by omega), w32_id (a := 4) (by omega) (by omega), if_pos (by omega), ck_ok (by omega) (by omega) (by omega), Int.toNat_natCast, x_dg_textd h (by omega), bd_some]
    exact k1'
theorem m_dg_text {n : Nat} {μ : Mem} {h0 : Int} (h : Inv n μ) : ∀ (d u i : Nat), i + d = 4 → d < u → f_X10_digest_L246 u (hrs (μ 78) (fun r i => μ 79 (60 * r + i)) i h0) (i : Int) μ = some (hrs (μ 78) (fun r i => μ 79 (60 * r + i)) 4 h0, μ) := by
  intro d
  induction d with
  | zero =>
    intro u i hi hu
    obtain ⟨u, rfl⟩ : ∃ v, u = v + 1 := ⟨u - 1, by omega⟩
    rw [f_X10_digest_L246, w32_nat (by omega), w32_id (a := 4) (by omega) (by omega), if_neg (by omega), show i = 4 by omega]
  | succ d ih =>
    intro u i hi hu
    obtain ⟨u, rfl⟩ : ∃ v, u = v + 1 := ⟨u - 1, by omega⟩
    have k1' := ih u (i + 1) (by omega) (by omega)
    rw [show ((i + 1 : Nat) : Int) = (i : Int) + 1 by omega, hrs] at k1'
    rw [f_X10_digest_L246, w32_nat (by omega), w32_id (a := 4) (by omega) (by omega), if_pos (by omega), ck_ok (by omega) (by omega) (by omega), Int.toNat_natCast, vl, m_dg_textd h (by omega)]
    exact k1'
theorem p_digest {n : Nat} (hn : n ≤ 900) : Pair n f_X9_digest f_X10_digest := by
  intro μ h
  obtain ⟨C, V, hC0, hV0, hYX, hYM, hVX, hVM⟩ := h.yr
  have hC := hYX.1
  have hV := hVX.1
  obtain ⟨μ1, g1, f1⟩ := x_dg1 (h0 := 17) h hn hC0 9 100000 0 μ (by omega) (by omega) Fr.rf
  rw [Int.natCast_zero, hfo] at g1
  obtain ⟨μ2, g2, f2⟩ := x_dg2 (h0 := 31 * (31 * hfo (fun k => ctv C μ k) 9 17 + w32 (μ 73 0)) + w32 (μ 73 1)) h hn hC0 hC C 100000 0 μ1 (by omega) (by omega) f1
  rw [Int.natCast_zero, hno] at g2
  have h2 := h.fr13 f2
  have hday := h.2.2.2.1
  have c0 : μ2 67 0 = (C : Int) := by rw [f2 67 (by simp)]; exact hC0
  have v0 : μ2 67 1 = (V : Int) := by rw [f2 67 (by simp)]; exact hV0
  have hct : (fun k : Nat => ctv C μ2 k) = fun k : Nat => ctv C μ k := funext (fun k => ctv_fr f2 k)
  have q1 := m_dg1 (h0 := 17) h2 hn c0 9 100000 0 (by omega) (by omega)
  rw [Int.natCast_zero, hfo, hct] at q1
  generalize hA : 31 * (31 * hfo (fun k => ctv C μ k) 9 17 + w32 (μ 73 0)) + w32 (μ 73 1) = A at *
  have q2 := m_dg2 (μ := μ2) (h0 := A) (F := μ 73) (hYM.hi (fun k hk => f2 k (by simp; omega))) (h.fb hn) (fun j _ => by rw [f2 73 (by simp)]) C 100000 0 (by omega) (by omega)
  rw [Int.natCast_zero, hno] at q2
  generalize hno (fun c k => cfv (μ 68) (μ 73) c k) 4 C A = B at *
  have g3 := x_dg3 (h0 := B) h2 v0 hV V 100000 0 (by omega) (by omega)
  have q3 := m_dg3 (h0 := B) (μ := μ2) v0 hV V 100000 0 (by omega) (by omega)
  rw [Int.natCast_zero, hno] at g3 q3
  generalize hno (fun v k => vf μ2 v k) 5 V B = D at *
  have g4 := x_dg4 (h0 := D) h2 3 100000 0 (by omega) (by omega)
  have q4 := m_dg4 (h0 := D) (μ := μ2) 3 100000 0 (by omega) (by omega)
  rw [Int.natCast_zero, hfo] at g4 q4
  generalize hfo (μ2 80) 3 D = G at *
  have g5 := x_dg_row (h0 := G) h2 6 100000 0 (by omega) (by omega)
  have q5 := m_dg_row (h0 := G) h2 6 100000 0 (by omega) (by omega)
  rw [Int.natCast_zero, hrs] at g5 q5
  generalize hrs (μ2 76) (fun r i => μ2 77 (40 * r + i)) 6 G = H at *
  have g6 := x_dg_text (h0 := H) h2 4 100000 0 (by omega) (by omega)
  have q6 := m_dg_text (h0 := H) h2 4 100000 0 (by omega) (by omega)
  rw [Int.natCast_zero, hrs] at g6 q6
  refine ⟨hrs (μ2 78) (fun r i => μ2 79 (60 * r + i)) 4 H, μ2, μ2, ?_, ?_, h2.up (Nat.le_succ n)⟩
  · rw [f_X9_digest, g1]
    rw [ck_ok (by omega) (by omega) (by omega), vl, ck_ok (by omega) (by omega) (by omega), vl, w32_id (a := 0) (by omega) (by omega), w32_id (a := 1) (by omega) (by omega), Int.toNat_zero, show (1 : Int).toNat = 1 from rfl, f1 (13 + 1) (by simp), hday.1 0 (by omega), hday.1 1 (by omega), hA, g2]
    rw [g3]
    rw [g4]
    rw [g5]
    rw [g6]
  · rw [f_X10_digest, q1]
    rw [ck_ok (by omega) (by omega) (by omega), ck_ok (by omega) (by omega) (by omega), vl, w32_id (a := 0) (by omega) (by omega), w32_id (a := 1) (by omega) (by omega), Int.toNat_zero, show (1 : Int).toNat = 1 from rfl, f2 73 (by simp), hA, q2]
    rw [q3]
    rw [q4]
    rw [q5]
    rw [q6]
