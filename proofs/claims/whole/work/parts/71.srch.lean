/-! ===== rows of sets told by codes ===== -/
theorem zshr_n {e k : Nat} (he : e < 2 ^ 31) (hk : k < 16) : zshr (e : Int) (k : Int) = ((e / 2 ^ k : Nat) : Int) := by
  have hs : ∀ j : Fin 16, ((iI ((j : Nat) : Int) &&& 31).toBitVec.smod 32).toNat = (j : Nat) := by decide +kernel
  unfold zshr
  rw [show iI (e : Int) = nI e from Int32.ofInt_eq_ofNat, pk_shrN he _ k (hs ⟨k, hk⟩)]
  exact Int32.toInt_ofNat_of_lt (Nat.lt_of_le_of_lt (Nat.div_le_self _ _) he)
theorem zand_n {x C : Nat} (hx : x < 2 ^ 31) (hC : C ≤ 5) : zand (x : Int) (((2 ^ C : Nat) : Int) - 1) = ((x % 2 ^ C : Nat) : Int) := by
  have h32 := pow5 hC
  have hp : 0 < 2 ^ C := Nat.pow_pos (by omega)
  have e : ((2 ^ C : Nat) : Int) - 1 = ((2 ^ C - 1 : Nat) : Int) := by omega
  rw [e]
  unfold zand
  rw [show iI (x : Int) = nI x from Int32.ofInt_eq_ofNat, show iI ((2 ^ C - 1 : Nat) : Int) = nI (2 ^ C - 1) from Int32.ofInt_eq_ofNat, pk_andN (by omega) C (pk_tn (by omega))]
  exact Int32.toInt_ofNat_of_lt (Nat.lt_of_le_of_lt (Nat.mod_le _ _) hx)
theorem zshl_16 : ∀ i : Fin 16, zshl 1 ((i : Nat) : Int) = ((2 ^ (i : Nat) : Nat) : Int) := by decide +kernel
theorem cap15 {C n : Nat} (hC : C ≤ 5) (hn : n ≤ 3) : C * n ≤ 15 := Nat.mul_le_mul hC hn
theorem pow15 {C n : Nat} (hC : C ≤ 5) (hn : n ≤ 3) : 2 ^ (C * n) ≤ 32768 := Nat.pow_le_pow_right (show 0 < 2 by omega) (cap15 hC hn)
theorem m_codes {μ : Mem} {C n : Nat} (h : μ 67 0 = (C : Int)) (hC : C ≤ 5) (hn : n ≤ 3) : f_X10_codes μ (n : Int) = some (((2 ^ (C * n) : Nat) : Int), μ) := by
  have := zshl_16 ⟨C * n, by have := cap15 hC hn; omega⟩
  rw [f_X10_codes, h, ← Int.natCast_mul, this]
def dg (C n e k : Nat) : Nat := e / 2 ^ (C * (n - 1 - k)) % 2 ^ C
theorem dg_lt {C n e k : Nat} : dg C n e k < 2 ^ C := Nat.mod_lt _ (Nat.pow_pos (by omega))
theorem m_setOf {μ : Mem} {C n e k : Nat} (h : μ 67 0 = (C : Int)) (hC : C ≤ 5) (hn : n ≤ 3) (hk : k < n) (he : e < 2 ^ 31) : f_X10_setOf μ (e : Int) (n : Int) (k : Int) = some (((dg C n e k : Nat) : Int), μ) := by
  have h15 := cap15 hC (show n - 1 - k ≤ 3 by omega)
  rw [f_X10_setOf, h, show ((n : Int) - 1) - (k : Int) = ((n - 1 - k : Nat) : Int) by omega, ← Int.natCast_mul, zshr_n he (by omega), z_all hC, zand_n (Nat.lt_of_le_of_lt (Nat.div_le_self _ _) he) hC]
  rfl
def sd (C n e : Nat) (k b : Nat) : Bool := (dg C n e k).testBit b
/-- calm in the first hours -/
def cq (C : Nat) (K : Nat → Int) (s : Nat → Nat → Bool) (F : Nat → Int) : Nat → Bool
  | 0 => true
  | k + 1 => cq C K s F k && decide (lq C K s F k = 0)
theorem m_gop_loop {n N e : Nat} {μs : Mem} {C V : Nat} {K lt fr tt wo F : Nat → Int} (hY : YM μs C K) (hV : VM μs V lt fr tt wo) (hF : DB n F) (hn : n ≤ 900) (hN : N ≤ 3) (he : e < 2 ^ 31) :
    ∀ (d u i : Nat) (μ' : Mem), i + d = N → d < u → FH μs μ' → (∀ j : Nat, j < 16 → μ' 73 j = mq C V K (gnv lt fr tt wo) (sd C N e) F i j) →
    ∃ μ'' : Mem, f_X10_goPlan_L5 (e : Int) (N : Int) u (bt (cq C K (sd C N e) F i)) (i : Int) μ' = some (bt (cq C K (sd C N e) F N), μ'') ∧ FH μs μ'' ∧ ∀ j : Nat, j < 16 → μ'' 73 j = mq C V K (gnv lt fr tt wo) (sd C N e) F N j := by
  have hC := hY.1
  intro d
  induction d with
  | zero =>
    intro u i μ' hi hu hf hd
    obtain ⟨u, rfl⟩ : ∃ v, u = v + 1 := ⟨u - 1, by omega⟩
    refine ⟨μ', ?_, hf, ?_⟩
    · rw [f_X10_goPlan_L5, w32_nat (by omega), w32_nat (by omega), if_neg (by omega), show i = N by omega]
      unfold ckb
      rw [if_pos]
      cases cq C K (sd C N e) F N <;> simp [bt]
    · intro j hj; have := hd j hj; rw [show i = N by omega] at this; exact this
  | succ d ih =>
    intro u i μ' hi hu hf hd
    obtain ⟨u, rfl⟩ : ∃ v, u = v + 1 := ⟨u - 1, by omega⟩
    have hE := mq_xq (V := V) (K := K) (F := F) (g := gnv lt fr tt wo) (s := sd C N e) hC i
    obtain ⟨μ2, g1, g2, g3, -, g5⟩ := m_hr (hY.fh hf.fm) (hV.fh hf.fm) (mq_DB (s := sd C N e) (K := K) hF hC hV.1 hV.2.2.2 i) (by omega) hd (sd C N e i)
    have g5' : μ2 67 36 = (lq C K (sd C N e) F i : Nat) := by rw [g5, e_lur hC hE]; rfl
    have h32 := lq_32 (K := K) (s := sd C N e) (F := F) (k := i) hC
    obtain ⟨μ3, k1, k2, k3⟩ := ih u (i + 1) μ2 (by omega) (by omega) (hf.tr g2) g3
    rw [show ((i + 1 : Nat) : Int) = (i : Int) + 1 by omega, cq] at k1
    refine ⟨μ3, ?_, k2, k3⟩
    have hm : ((dg C N e i : Nat) : Int) = (msk C (sd C N e i) : Nat) := pm dg_lt
    rw [f_X10_goPlan_L5, w32_nat (i := i) (by omega), w32_nat (i := N) (by omega), if_pos (by omega), m_setOf (hY.fh hf.fm).2.1 hC hN (by omega) he, bd_some, hm, g1, bd_some, g5', w32_nat (i := lq C K (sd C N e) F i) (by omega), bt_w, vl]
    refine Eq.trans (congrArg (fun z => f_X10_goPlan_L5 (e : Int) (N : Int) u z ((i : Int) + 1) μ2) ?_) k1
    cases cq C K (sd C N e) F i
    · rfl
    · by_cases c : lq C K (sd C N e) F i = 0
      · simp [c, bt]
      · simp [c, bt]
theorem m_gop {n N e : Nat} {μs μ : Mem} {C V : Nat} {K lt fr tt wo F : Nat → Int} (hY : YM μs C K) (hV : VM μs V lt fr tt wo) (hF : DB n F) (hn : n ≤ 900) (hN : N ≤ 3) (he : e < 2 ^ 31) (hf : FH μs μ) (hd : ∀ j : Nat, j < 16 → μ 73 j = F j) :
    ∃ μ' : Mem, f_X10_goPlan μ (e : Int) (N : Int) = some (bt (cq C K (sd C N e) F N), μ') ∧ FH μs μ' ∧ ∀ j : Nat, j < 16 → μ' 73 j = mq C V K (gnv lt fr tt wo) (sd C N e) F N j := by
  obtain ⟨μ2, k1, k2, k3⟩ := m_gop_loop (e := e) hY hV hF hn hN he N 100000 0 μ (by omega) (by omega) hf hd
  rw [Int.natCast_zero] at k1
  exact ⟨μ2, k1, k2, k3⟩
/-! prefixes: the day behind a prefix of a row, its gains, whether it was calm -/
def Sd (C : Nat) (K F : Nat → Int) : Nat → Nat → (Nat → Int)
  | 0, _ => F
  | d + 1, c => hr C K (Sd C K F d (c / 2 ^ C)) (fun b => (c % 2 ^ C).testBit b)
def Gv (C V : Nat) (K F : Nat → Int) (g : Int → Nat → Int) : Nat → Nat → Int
  | 0, _ => 0
  | d + 1, c => Gv C V K F g d (c / 2 ^ C) + sg V (g (Sd C K F d (c / 2 ^ C) 0))
def lur (C : Nat) (K F : Nat → Int) (s : Nat) : Nat := msk C (fun i => pld K F (fun b => s.testBit b) i && frl K F i)
def Cv (C : Nat) (K F : Nat → Int) : Nat → Nat → Bool
  | 0, _ => true
  | d + 1, c => Cv C K F d (c / 2 ^ C) && decide (lur C K (Sd C K F d (c / 2 ^ C)) (c % 2 ^ C) = 0)
theorem dv {C n e k : Nat} (hk : k < n) : e / 2 ^ (C * (n - (k + 1))) / 2 ^ C = e / 2 ^ (C * (n - k)) := by
  rw [Nat.div_div_eq_div_mul, ← Nat.pow_add, show C * (n - k) = C * (n - (k + 1)) + C by rw [← Nat.mul_succ]; congr 1; omega]
theorem xq_Sd {C N e : Nat} {K F : Nat → Int} : ∀ k : Nat, k ≤ N → xq C K (sd C N e) F k = Sd C K F k (e / 2 ^ (C * (N - k))) := by
  intro k
  induction k with
  | zero => intro _; rfl
  | succ k ih =>
    intro hk
    show hr C K (xq C K (sd C N e) F k) (sd C N e k) = hr C K (Sd C K F k (e / 2 ^ (C * (N - (k + 1))) / 2 ^ C)) _
    rw [ih (by omega), dv (by omega)]
    congr 1
    funext b
    unfold sd dg
    rw [show N - 1 - k = N - (k + 1) by omega]
theorem tg_Gv {C V N e : Nat} {K F : Nat → Int} {g : Int → Nat → Int} : ∀ k : Nat, k ≤ N → tg C V K g (sd C N e) F k = Gv C V K F g k (e / 2 ^ (C * (N - k))) := by
  intro k
  induction k with
  | zero => intro _; rfl
  | succ k ih =>
    intro hk
    rw [tg, Gv, ih (by omega), dv (by omega), xq_Sd k (by omega)]
theorem lq_lur {C N e k : Nat} {K F : Nat → Int} (hk : k < N) : lq C K (sd C N e) F k = lur C K (Sd C K F k (e / 2 ^ (C * (N - k)))) (e / 2 ^ (C * (N - (k + 1))) % 2 ^ C) := by
  unfold lq lur
  rw [xq_Sd k (by omega)]
  have : sd C N e k = fun b => (e / 2 ^ (C * (N - (k + 1))) % 2 ^ C).testBit b := by
    funext b
    unfold sd dg
    rw [show N - 1 - k = N - (k + 1) by omega]
  rw [this]
theorem cq_Cv {C N e : Nat} {K F : Nat → Int} : ∀ k : Nat, k ≤ N → cq C K (sd C N e) F k = Cv C K F k (e / 2 ^ (C * (N - k))) := by
  intro k
  induction k with
  | zero => intro _; rfl
  | succ k ih =>
    intro hk
    rw [cq, Cv, ih (by omega), dv (by omega), lq_lur (by omega)]
theorem Sd_DB {n C : Nat} {K F : Nat → Int} (h : DB n F) (hC : C ≤ 5) : ∀ d c : Nat, DB (n + d) (Sd C K F d c) := by
  intro d
  induction d with
  | zero => intro c; exact h
  | succ d ih => intro c; exact hrx_DB (ih _) hC
theorem pl_div {W y r m : Nat} (hW : 0 < W) (hrr : r < W ^ (m + 1)) : (y * W ^ (m + 1) + r) / W = y * W ^ m + r / W ∧ (y * W ^ (m + 1) + r) % W = r % W ∧ r / W < W ^ m := by
  rw [Nat.pow_succ, ← Nat.mul_assoc, Nat.add_comm, Nat.mul_comm (y * W ^ m) W, Nat.add_mul_div_left _ _ hW, Nat.add_mul_mod_self_left]
  refine ⟨Nat.add_comm _ _, rfl, ?_⟩
  rw [Nat.pow_succ, Nat.mul_comm] at hrr
  exact Nat.div_lt_of_lt_mul hrr
theorem Sd_cg {C : Nat} {K F : Nat → Int} {k y y' : Nat} (h : Sd C K F k y = Sd C K F k y') : ∀ m r : Nat, r < (2 ^ C) ^ m → Sd C K F (k + m) (y * (2 ^ C) ^ m + r) = Sd C K F (k + m) (y' * (2 ^ C) ^ m + r) := by
  have hW : 0 < 2 ^ C := Nat.pow_pos (by omega)
  intro m
  induction m with
  | zero =>
    intro r hrr
    rw [Nat.pow_zero] at hrr
    rw [Nat.pow_zero, Nat.mul_one, Nat.mul_one, show r = 0 by omega]
    exact h
  | succ m ih =>
    intro r hrr
    obtain ⟨a1, a2, a3⟩ := pl_div (y := y) hW hrr
    obtain ⟨b1, b2, -⟩ := pl_div (y := y') hW hrr
    show hr C K (Sd C K F (k + m) _) _ = hr C K (Sd C K F (k + m) _) _
    rw [a1, a2, b1, b2, ih _ a3]
theorem Gv_cg {C V : Nat} {K F : Nat → Int} {g : Int → Nat → Int} {k y y' : Nat} (h : Sd C K F k y = Sd C K F k y') (h' : Gv C V K F g k y = Gv C V K F g k y') : ∀ m r : Nat, r < (2 ^ C) ^ m → Gv C V K F g (k + m) (y * (2 ^ C) ^ m + r) = Gv C V K F g (k + m) (y' * (2 ^ C) ^ m + r) := by
  have hW : 0 < 2 ^ C := Nat.pow_pos (by omega)
  intro m
  induction m with
  | zero =>
    intro r hrr
    rw [Nat.pow_zero] at hrr
    rw [Nat.pow_zero, Nat.mul_one, Nat.mul_one, show r = 0 by omega]
    exact h'
  | succ m ih =>
    intro r hrr
    obtain ⟨a1, a2, a3⟩ := pl_div (y := y) hW hrr
    obtain ⟨b1, b2, -⟩ := pl_div (y := y') hW hrr
    show Gv C V K F g (k + m) _ + sg V (g (Sd C K F (k + m) _ 0)) = Gv C V K F g (k + m) _ + sg V (g (Sd C K F (k + m) _ 0))
    rw [a1, b1, ih _ a3, Sd_cg h m _ a3]
theorem Cv_cg {C : Nat} {K F : Nat → Int} {k y y' : Nat} (h : Sd C K F k y = Sd C K F k y') (h' : Cv C K F k y = Cv C K F k y') : ∀ m r : Nat, r < (2 ^ C) ^ m → Cv C K F (k + m) (y * (2 ^ C) ^ m + r) = Cv C K F (k + m) (y' * (2 ^ C) ^ m + r) := by
  have hW : 0 < 2 ^ C := Nat.pow_pos (by omega)
  intro m
  induction m with
  | zero =>
    intro r hrr
    rw [Nat.pow_zero] at hrr
    rw [Nat.pow_zero, Nat.mul_one, Nat.mul_one, show r = 0 by omega]
    exact h'
  | succ m ih =>
    intro r hrr
    obtain ⟨a1, a2, a3⟩ := pl_div (y := y) hW hrr
    obtain ⟨b1, b2, -⟩ := pl_div (y := y') hW hrr
    show (Cv C K F (k + m) _ && decide (lur C K (Sd C K F (k + m) _) _ = 0)) = (Cv C K F (k + m) _ && decide (lur C K (Sd C K F (k + m) _) _ = 0))
    rw [a1, a2, b1, b2, ih _ a3, Sd_cg h m _ a3]
theorem Cv_no {C : Nat} {K F : Nat → Int} {k y : Nat} (h' : Cv C K F k y = false) : ∀ m r : Nat, r < (2 ^ C) ^ m → Cv C K F (k + m) (y * (2 ^ C) ^ m + r) = false := by
  have hW : 0 < 2 ^ C := Nat.pow_pos (by omega)
  intro m
  induction m with
  | zero =>
    intro r hrr
    rw [Nat.pow_zero] at hrr
    rw [Nat.pow_zero, Nat.mul_one, show r = 0 by omega]
    exact h'
  | succ m ih =>
    intro r hrr
    obtain ⟨a1, a2, a3⟩ := pl_div (y := y) hW hrr
    show (Cv C K F (k + m) _ && _) = false
    rw [a1, ih _ a3]
    rfl
theorem chd {W c s : Nat} (hW : 0 < W) (hs : s < W) : (c * W + s) / W = c ∧ (c * W + s) % W = s := by
  constructor
  · rw [Nat.add_comm, Nat.add_mul_div_right _ _ hW, Nat.div_eq_of_lt hs, Nat.zero_add]
  · rw [Nat.add_comm, Nat.add_mul_mod_self_right, Nat.mod_eq_of_lt hs]
/-! ===== a step of the class's search ===== -/
def FS (a d : Nat) (μ μ' : Mem) : Prop := (∀ k : Nat, k ≠ 22 → k ≠ 24 → k ≠ 25 → ¬ (a ≤ k ∧ k < 32) → μ' k = μ k) ∧ (∀ p : Nat, p ≠ 4 → p ≠ 6 → p ≠ 7 → μ' 22 p = μ 22 p) ∧ ∀ k : Nat, k < d → μ' 24 k = μ 24 k
theorem FS.rf {a d : Nat} {μ : Mem} : FS a d μ μ := ⟨fun _ _ _ _ _ => rfl, fun _ _ _ _ => rfl, fun _ _ => rfl⟩
theorem FS.tr {a d : Nat} {μ μ' μ'' : Mem} (h : FS a d μ μ') (h' : FS a d μ' μ'') : FS a d μ μ'' :=
  ⟨fun k h1 h2 h3 h4 => (h'.1 k h1 h2 h3 h4).trans (h.1 k h1 h2 h3 h4), fun p h1 h2 h3 => (h'.2.1 p h1 h2 h3).trans (h.2.1 p h1 h2 h3), fun k hk => (h'.2.2 k hk).trans (h.2.2 k hk)⟩
theorem FS.mono {a a' d d' : Nat} {μ μ' : Mem} (h : FS a d μ μ') (ha : a' ≤ a) (hd : d' ≤ d) : FS a' d' μ μ' :=
  ⟨fun k h1 h2 h3 h4 => h.1 k h1 h2 h3 (by omega), h.2.1, fun k hk => h.2.2 k (by omega)⟩
theorem FS.fx {a d : Nat} {μ μ' : Mem} (h : FS a d μ μ') (ha : 26 ≤ a) : FX μ μ' :=
  ⟨fun k hk => h.1 k (by omega) (by omega) (by omega) (by omega), fun p _ => by rw [h.1 0 (by omega) (by omega) (by omega) (by omega)]⟩
theorem x_step {n N d s : Nat} {μ : Mem} {C : Nat} {K F : Nat → Int} (hY : YX μ C K) (hF : DB n F) (hn : n < 1000) (hN : N ≤ 3) (h3 : μ 22 3 = (N : Int)) (hd : d < N) (hs : s < 2 ^ C) (hday : ∀ j : Nat, j < 16 → μ (26 + 2 * d + 1) j = F j) :
    ∃ μ' : Mem, f_X6_step μ (d : Int) (s : Int) = some ((), μ') ∧ FS (28 + 2 * d) d μ μ' ∧ μ' 24 d = (s : Int) ∧ (∀ k : Nat, k = 22 ∨ k = 25 → μ' k = μ k) ∧ (d + 1 < N → ∀ j : Nat, j < 16 → μ' (26 + 2 * (d + 1) + 1) j = hr C K F (fun b => s.testBit b) j) := by
  have hC := hY.1
  have h32 := pow5 hC
  have base : f_X6_step μ (d : Int) (s : Int) = if d + 1 < N then bd (f_X1_take (wr μ 24 d (s : Int)) (26 + 2 * (d + 1)) (26 + 2 * d)) (fun _u m7 => bd (f_X1_goOn m7 (26 + 2 * (d + 1)) (s : Int)) fun r10 m9 => some ((), m9)) else some ((), wr μ 24 d (s : Int)) := by
    rw [f_X6_step, ck_ok (by omega) (by omega) (by omega), vm, w32_nat (i := d) (by omega), Int.toNat_natCast, wr_cell (j := 22) (by omega), h3, show ((d : Int) + 1) = ((d + 1 : Nat) : Int) by omega, w32_nat (i := d + 1) (by omega), w32_nat (i := N) (by omega), w32_id (a := 3) (by omega) (by omega), Int.toNat_natCast]
    by_cases c : d + 1 < N
    · rw [if_pos (by omega), if_pos (by omega), if_pos c, ck_ok (by omega) (by omega) (by omega), ck_ok (by omega) (by omega) (by omega)]
      congr 1
      funext _u m7
      rw [ck_ok (by omega) (by omega) (by omega)]
    · rw [if_neg (by omega), if_neg c]
  have fw : FS (28 + 2 * d) d μ (wr μ 24 d (s : Int)) := ⟨fun k h1 h2 h3 h4 => wr_cell h2, fun p _ _ _ => by rw [wr_cell (by omega)], fun k hk => by rw [wr_ne (by omega)]⟩
  by_cases c : d + 1 < N
  · rw [if_pos c] at base
    have hYw : YX (cpy (wr μ 24 d (s : Int)) (26 + 2 * d + 1) (26 + 2 * (d + 1) + 1) 0 0 16) C K := hY.cg (fun k hk => by rw [cpy_cell (by omega), wr_cell (by omega)])
    obtain ⟨μ2, g1, g2, g3, -⟩ := x_go (μ := cpy (wr μ 24 d (s : Int)) (26 + 2 * d + 1) (26 + 2 * (d + 1) + 1) 0 0 16) (t := 26 + 2 * (d + 1)) (by omega) hYw (hF.fb (by omega)) (fun j hj => by rw [cpy_in (by omega) (by omega)]; simp only [Nat.zero_add, Nat.sub_zero]; rw [wr_cell (by omega)]; exact hday j hj) (fun b => s.testBit b)
    rw [← pm hs] at g1
    have e2 : ∀ k : Nat, k ≠ 26 + 2 * (d + 1) → k ≠ 26 + 2 * (d + 1) + 1 → μ2 k = wr μ 24 d (s : Int) k := fun k k1 k2 => by rw [g2 k (by rw [mem1]; omega), cpy_cell k2]
    refine ⟨μ2, ?_, ⟨fun k h1 h2 h3 h4 => ?_, fun p _ _ _ => ?_, fun k hk => ?_⟩, ?_, fun k hk => ?_, fun _ => g3⟩
    · rw [base, x_tk, bd_some, g1, bd_some]
    · rw [e2 k (by omega) (by omega), wr_cell h2]
    · rw [e2 22 (by omega) (by omega), wr_cell (by omega)]
    · rw [e2 24 (by omega) (by omega), wr_ne (by omega)]
    · rw [e2 24 (by omega) (by omega), wr_eq]
    · rw [e2 k (by omega) (by omega), wr_cell (by omega)]
  · rw [if_neg c] at base
    exact ⟨_, base, fw, wr_eq, fun k hk => wr_cell (by omega), fun hh => absurd hh c⟩
theorem x_setF (μ : Mem) (z : Int) : f_X6_setFirst μ z = some ((), cpy (wr μ 22 4 z) 24 25 0 0 3) := by
  rw [f_X6_setFirst, vm, ckc_ok (by omega) (by omega) (by omega) (by omega) (by omega) (by omega) (by omega), vm, w32_id (a := 0) (by omega) (by omega), w32_id (a := 3) (by omega) (by omega)]
  rfl
theorem zsub_s : ∀ a b : Fin 32, zand ((a : Nat) : Int) (zxor ((b : Nat) : Int) (-1)) = (((a : Nat) &&& (31 ^^^ (b : Nat)) : Nat) : Int) := zandn_s
/-- whether a set is a part of another -/
theorem sub_le : ∀ a b : Fin 32, ((a : Nat) &&& (31 ^^^ (b : Nat)) = 0) → (a : Nat) ≤ (b : Nat) := by decide +kernel
theorem inter_le : ∀ a b : Fin 32, ((a : Nat) &&& (b : Nat)) &&& (31 ^^^ (b : Nat)) = 0 ∧ ((a : Nat) &&& (b : Nat)) ≤ (a : Nat) ∧ (((a : Nat) &&& (31 ^^^ (b : Nat))) ≠ 0 → ((a : Nat) &&& (b : Nat)) < (a : Nat)) := by decide +kernel
