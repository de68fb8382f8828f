/-! burns, ropes -/
def fst : (Nat → Nat) → Nat → Nat → Option Nat
  | _, 0, _ => none
  | L, m + 1, k => if L k = 0 then fst L m (k + 1) else some k
def fsz (o : Option Nat) (z : Int) : Int := match o with
  | none => z
  | some k => (k : Int)
def lq (C : Nat) (K : Nat → Int) (s : Nat → Nat → Bool) (F : Nat → Int) (k : Nat) : Nat := msk C (fun i => pld K (xq C K s F k) (s k) i && frl K (xq C K s F k) i)
theorem lq_32 {C : Nat} (hC : C ≤ 5) {K : Nat → Int} {s : Nat → Nat → Bool} {F : Nat → Int} {k : Nat} : lq C K s F k < 32 := msk_32 hC _
theorem fst_b {L : Nat → Nat} : ∀ (m i k : Nat), fst L m i = some k → i ≤ k ∧ k < i + m ∧ L k ≠ 0 := by
  intro m
  induction m with
  | zero => intro i k h; simp [fst] at h
  | succ m ih =>
    intro i k h
    unfold fst at h
    by_cases c : L i = 0
    · rw [if_pos c] at h
      have := ih (i + 1) k h
      exact ⟨by omega, by omega, this.2.2⟩
    · rw [if_neg c] at h
      have e : i = k := Option.some.inj h
      subst e
      exact ⟨by omega, by omega, c⟩
def rnw (C : Nat) (P : Nat → Bool) (F : Nat → Int) : Nat → Int := fun q => if 2 ≤ q ∧ q < 2 + C ∧ P (q - 2) = true then 9 else F q
theorem rnw_0 {P : Nat → Bool} {F : Nat → Int} : rnw 0 P F = F := by
  funext q; rw [rnw, if_neg (by omega)]
theorem rnw_no {C q : Nat} {P : Nat → Bool} {F : Nat → Int} (h : ¬ (2 ≤ q ∧ q < 2 + C)) : rnw C P F q = F q := by
  rw [rnw, if_neg (by omega)]
theorem rnw_y {i : Nat} {P : Nat → Bool} {F : Nat → Int} (h : P i = true) : up (rnw i P F) (2 + i) 9 = rnw (i + 1) P F := by
  funext q
  by_cases e : q = 2 + i
  · subst e; rw [up_eq, rnw, if_pos ⟨by omega, by omega, by rw [show 2 + i - 2 = i by omega]; exact h⟩]
  · rw [up_ne e]
    unfold rnw
    by_cases c : 2 ≤ q ∧ q < 2 + i ∧ P (q - 2) = true
    · rw [if_pos c, if_pos ⟨c.1, by omega, c.2.2⟩]
    · rw [if_neg c, if_neg (fun z => c ⟨z.1, by omega, z.2.2⟩)]
theorem rnw_n {i : Nat} {P : Nat → Bool} {F : Nat → Int} (h : ¬ P i = true) : rnw i P F = rnw (i + 1) P F := by
  funext q
  unfold rnw
  by_cases c : 2 ≤ q ∧ q < 2 + i ∧ P (q - 2) = true
  · rw [if_pos c, if_pos ⟨c.1, by omega, c.2.2⟩]
  · rw [if_neg c, if_neg (fun z => by
      by_cases e : q = 2 + i
      · subst e
        rw [show 2 + i - 2 = i by omega] at z
        exact h z.2.2
      · exact c ⟨z.1, by omega, z.2.2⟩)]
theorem rnw_DB {n C : Nat} {P : Nat → Bool} {F : Nat → Int} (h : DB n F) (hC : C ≤ 5) : DB n (rnw C P F) := by
  obtain ⟨h1, h2, h3, h4⟩ := h
  refine ⟨by rw [rnw_no (by omega)]; exact h1, by rw [rnw_no (by omega)]; exact h2, fun i hi => ⟨?_, by rw [rnw_no (by omega)]; exact (h3 i hi).2⟩, fun v hv => by rw [rnw_no (by omega)]; exact h4 v hv⟩
  have := (h3 i hi).1
  unfold rnw
  split <;> omega
theorem x_rnw_loop {Kc : Mem → Option (Int × Mem)} {μ : Mem} {C : Nat} {K F : Nat → Int} {P : Nat → Bool} (hY : YX μ C K) : ∀ (d u i : Nat) (μ' : Mem), i + d = C → d < u → Fr [20, 20 + 1] μ μ' → (∀ j : Nat, j < 16 → μ' (20 + 1) j = rnw i P F j) →
    ∃ μ'' : Mem, f_X3_firstLurch_L11 Kc (msk C P : Nat) u (i : Int) μ' = Kc μ'' ∧ Fr [20, 20 + 1] μ μ'' ∧ ∀ j : Nat, j < 16 → μ'' (20 + 1) j = rnw C P F j := by
  have hC := hY.1
  intro d
  induction d with
  | zero =>
    intro u i μ' hi hu hf hd
    obtain ⟨u, rfl⟩ : ∃ v, u = v + 1 := ⟨u - 1, by omega⟩
    refine ⟨μ', ?_, hf, ?_⟩
    · rw [f_X3_firstLurch_L11, (hY.fr hf (fun k hk => by rw [mem1] at hk; omega)).2.1, w32_nat (by omega), w32_nat (by omega), if_neg (by omega)]
    · rw [← show i = C by omega]; exact hd
  | succ d ih =>
    intro u i μ' hi hu hf hd
    obtain ⟨u, rfl⟩ : ∃ v, u = v + 1 := ⟨u - 1, by omega⟩
    have e6 := (hY.fr hf (fun k hk => by rw [mem1] at hk; omega)).2.1
    by_cases c : P i = true
    · obtain ⟨μ3, k1, k2, k3⟩ := ih u (i + 1) (wr μ' (20 + 1) (2 + i) 9) (by omega) (by omega) (hf.wr (by rw [mem1]; omega)) (fun j hj => by
        rw [← rnw_y c]
        by_cases e : j = 2 + i
        · subst e; rw [wr_eq, up_eq]
        · rw [wr_ne (by omega), up_ne e]; exact hd j hj)
      rw [show ((i + 1 : Nat) : Int) = (i : Int) + 1 by omega] at k1
      refine ⟨μ3, ?_, k2, k3⟩
      rw [f_X3_firstLurch_L11, e6, w32_nat (by omega), w32_nat (by omega), if_pos (by omega), jn, zbit_m hC (by omega), bt_w, if_pos c, ck_ok (by omega) (by omega) (by omega), vm, w32_id (by omega) (by omega), show (2 + (i : Int)).toNat = 2 + i by omega]
      exact k1
    · obtain ⟨μ3, k1, k2, k3⟩ := ih u (i + 1) μ' (by omega) (by omega) hf (fun j hj => by rw [← rnw_n c]; exact hd j hj)
      rw [show ((i + 1 : Nat) : Int) = (i : Int) + 1 by omega] at k1
      refine ⟨μ3, ?_, k2, k3⟩
      rw [f_X3_firstLurch_L11, e6, w32_nat (by omega), w32_nat (by omega), if_pos (by omega), jn, zbit_m hC (by omega), bt_w, if_neg c]
      exact k1
theorem x_lur_loop {n N q : Nat} {μ : Mem} {C : Nat} {K F : Nat → Int} {s : Nat → Nat → Bool} (hY : YX μ C K) (hF : DB n F) (hn : n + N < 1000) (hN : N ≤ 40) (hq : 37 ≤ q) (h1 : μ q 1 = (N : Int)) (hs : ∀ i : Nat, i < N → μ (q + 1) i = (msk C (s i) : Nat)) :
    ∀ (d u i : Nat) (μ' : Mem), i + d = N → d < u → Fr [20, 20 + 1] μ μ' → (∀ j : Nat, j < 16 → μ' (20 + 1) j = xq C K s F i j) →
    ∃ μ'' : Mem, f_X3_firstLurch_L53 q u (i : Int) μ' = some (fsz (fst (lq C K s F) d i) (-9), μ'') ∧ Fr [19, 20, 20 + 1] μ μ'' ∧ ∀ k : Nat, fst (lq C K s F) d i = some k → μ'' 19 1 = (lq C K s F k : Nat) := by
  have hC := hY.1
  intro d
  induction d with
  | zero =>
    intro u i μ' hi hu hf hd
    obtain ⟨u, rfl⟩ : ∃ v, u = v + 1 := ⟨u - 1, by omega⟩
    have e1 : μ' q 1 = (N : Int) := by rw [hf q (by rw [mem1]; omega)]; exact h1
    refine ⟨μ', ?_, hf.mono (fun k hk => List.mem_cons_of_mem _ hk), fun k hk => by simp [fst] at hk⟩
    rw [f_X3_firstLurch_L53, e1, w32_nat (by omega), w32_nat (by omega), if_neg (by omega)]
    rfl
  | succ d ih =>
    intro u i μ' hi hu hf hd
    obtain ⟨u, rfl⟩ : ∃ v, u = v + 1 := ⟨u - 1, by omega⟩
    have e1 : μ' q 1 = (N : Int) := by rw [hf q (by rw [mem1]; omega)]; exact h1
    have eR : μ' (q + 1) i = (msk C (s i) : Nat) := by rw [hf (q + 1) (by rw [mem1]; omega)]; exact hs i (by omega)
    have hB := xq_DB (s := s) (K := K) hF hY.1 i
    obtain ⟨μ2, g1, g2, g3, -, g5⟩ := x_go (t := 20) (by omega) (hY.fr hf (fun k hk => by rw [mem1] at hk; omega)) (hB.fb (by omega)) hd (s i)
    have g5' : μ2 20 4 = (lq C K s F i : Nat) := g5
    have h32 := lq_32 (K := K) (s := s) (F := F) (k := i) hC
    have st : f_X3_firstLurch_L53 q (u + 1) (i : Int) μ' = if lq C K s F i = 0 then f_X3_firstLurch_L53 q u ((i : Int) + 1) μ2 else some ((i : Int), wr μ2 19 1 (lq C K s F i : Nat)) := by
      rw [f_X3_firstLurch_L53, e1, w32_nat (i := i) (by omega), w32_nat (i := N) (by omega), if_pos (by omega), ck_ok (by omega) (by omega) (by omega), Int.toNat_natCast, eR, g1, bd_some, g5', w32_nat (by omega), vm]
      by_cases c : lq C K s F i = 0
      · rw [if_pos (by omega), if_pos c]
      · rw [if_neg (by omega), if_neg c]
    by_cases c : lq C K s F i = 0
    · obtain ⟨μ3, k1, k2, k3⟩ := ih u (i + 1) μ2 (by omega) (by omega) (hf.tr g2) g3
      rw [show ((i + 1 : Nat) : Int) = (i : Int) + 1 by omega] at k1
      rw [if_pos c, k1] at st
      have ef : fst (lq C K s F) (d + 1) i = fst (lq C K s F) d (i + 1) := by rw [fst, if_pos c]
      rw [ef]
      exact ⟨μ3, st, k2, k3⟩
    · rw [if_neg c] at st
      have ef : fst (lq C K s F) (d + 1) i = some i := by rw [fst, if_neg c]
      rw [ef]
      refine ⟨_, st, ((hf.tr g2).mono (fun k hk => List.mem_cons_of_mem _ hk)).wr (by simp), fun k hk => ?_⟩
      have : i = k := Option.some.inj hk
      subst this
      exact wr_eq
theorem x_lur {n N q : Nat} {μ : Mem} {C : Nat} {K F : Nat → Int} {s : Nat → Nat → Bool} {P : Nat → Bool} (hY : YX μ C K) (hF : DB n F) (hn : n + N < 1000) (hN : N ≤ 40) (hq : 37 ≤ q) (h1 : μ q 1 = (N : Int)) (hs : ∀ i : Nat, i < N → μ (q + 1) i = (msk C (s i) : Nat)) (hd : ∀ i : Nat, i < 16 → μ 14 i = F i) :
    ∃ μ' : Mem, f_X3_firstLurch μ q (msk C P : Nat) = some (fsz (fst (lq C K s (rnw C P F)) N 0) (-9), μ') ∧ Fr [19, 20, 20 + 1] μ μ' ∧ ∀ k : Nat, fst (lq C K s (rnw C P F)) N 0 = some k → μ' 19 1 = (lq C K s (rnw C P F) k : Nat) := by
  have hC := hY.1
  have hf : Fr [20, 20 + 1] μ (cpy μ 14 (20 + 1) 0 0 16) := fun k hk => by rw [mem1] at hk; exact cpy_cell (by omega)
  obtain ⟨μ2, g1, g2, g3⟩ := x_rnw_loop (Kc := fun m8 => f_X3_firstLurch_L53 q 100000 0 m8) (F := F) (P := P) hY C 100000 0 (cpy μ 14 (20 + 1) 0 0 16) (by omega) (by omega) hf (fun j hj => by rw [rnw_0, cpy_in (by omega) (by omega)]; simp only [Nat.zero_add, Nat.sub_zero]; exact hd j hj)
  obtain ⟨μ3, k1, k2, k3⟩ := x_lur_loop (s := s) hY (rnw_DB (P := P) hF hC) hn hN hq h1 hs N 100000 0 μ2 (by omega) (by omega) g2 g3
  rw [Int.natCast_zero] at g1 k1
  refine ⟨μ3, ?_, k2, k3⟩
  rw [f_X3_firstLurch, x_tk, bd_some]
  exact g1.trans k1
theorem m_lur_loop {n N r : Nat} {μ : Mem} {C V : Nat} {K lt fr tt wo F : Nat → Int} {s : Nat → Nat → Bool} (hY : YM μ C K) (hV : VM μ V lt fr tt wo) (hF : DB n F) (hn : n + N < 1000) (hr : r < 6) (hN : N ≤ 40) (h1 : μ 76 r = (N : Int)) (hs : ∀ i : Nat, i < N → μ 77 (40 * r + i) = (msk C (s i) : Nat)) :
    ∀ (d u i : Nat) (μ' : Mem), i + d = N → d < u → FH μ μ' → (∀ j : Nat, j < 16 → μ' 73 j = mq C V K (gnv lt fr tt wo) s F i j) →
    ∃ μ'' : Mem, f_X10_firstLurch_L4 (r : Int) u (-1) (i : Int) μ' = some (fsz (fst (lq C K s F) d i) (-1), μ'') ∧ FH μ μ'' ∧ ∀ k : Nat, fst (lq C K s F) d i = some k → μ'' 67 36 = (lq C K s F k : Nat) := by
  have hC := hY.1
  intro d
  induction d with
  | zero =>
    intro u i μ' hi hu hf hd
    obtain ⟨u, rfl⟩ : ∃ v, u = v + 1 := ⟨u - 1, by omega⟩
    refine ⟨μ', ?_, hf, fun k hk => by simp [fst] at hk⟩
    rw [f_X10_firstLurch_L4, ck_ok (by omega) (by omega) (by omega), hf.1 76 (by omega) (by omega), w32_nat (i := r) (by omega), Int.toNat_natCast, h1, w32_nat (by omega), w32_nat (by omega), if_neg (by omega)]
    rfl
  | succ d ih =>
    intro u i μ' hi hu hf hd
    obtain ⟨u, rfl⟩ : ∃ v, u = v + 1 := ⟨u - 1, by omega⟩
    have hE := mq_xq (V := V) (K := K) (F := F) (g := gnv lt fr tt wo) (s := s) hC i
    obtain ⟨μ2, g1, g2, g3, -, g5⟩ := m_hr (hY.fh hf.fm) (hV.fh hf.fm) (mq_DB (s := s) (K := K) hF hY.1 hV.1 hV.2.2.2 i) (by omega) hd (s i)
    have g5' : μ2 67 36 = (lq C K s F i : Nat) := by rw [g5, e_lur hC hE]; rfl
    have h32 := lq_32 (K := K) (s := s) (F := F) (k := i) hC
    have st : f_X10_firstLurch_L4 (r : Int) (u + 1) (-1) (i : Int) μ' = f_X10_firstLurch_L4 (r : Int) u (if lq C K s F i = 0 then -1 else (i : Int)) ((i : Int) + 1) μ2 := by
      rw [f_X10_firstLurch_L4, ck_ok (by omega) (by omega) (by omega), hf.1 76 (by omega) (by omega), w32_nat (i := r) (by omega), Int.toNat_natCast, h1, w32_nat (i := i) (by omega), w32_nat (i := N) (by omega), if_pos (by omega), w32_id (a := -1) (by omega) (by omega), if_pos (by omega), ck_ok (by omega) (by omega) (by omega), w32_id (a := 40 * (r : Int) + (i : Int)) (by omega) (by omega), show (40 * (r : Int) + (i : Int)).toNat = 40 * r + i by omega, hf.1 77 (by omega) (by omega), hs i (by omega), g1, bd_some, g5', w32_nat (by omega), vl]
      by_cases c : lq C K s F i = 0
      · rw [if_pos (by omega), if_pos c]
      · rw [if_neg (by omega), if_neg c]
    by_cases c : lq C K s F i = 0
    · obtain ⟨μ3, k1, k2, k3⟩ := ih u (i + 1) μ2 (by omega) (by omega) (hf.tr g2) g3
      rw [show ((i + 1 : Nat) : Int) = (i : Int) + 1 by omega] at k1
      rw [if_pos c, k1] at st
      have ef : fst (lq C K s F) (d + 1) i = fst (lq C K s F) d (i + 1) := by rw [fst, if_pos c]
      rw [ef]
      exact ⟨μ3, st, k2, k3⟩
    · have ef : fst (lq C K s F) (d + 1) i = some i := by rw [fst, if_neg c]
      have en : f_X10_firstLurch_L4 (r : Int) u (i : Int) ((i : Int) + 1) μ2 = some ((i : Int), μ2) := by
        obtain ⟨u, rfl⟩ : ∃ v, u = v + 1 := ⟨u - 1, by omega⟩
        rw [f_X10_firstLurch_L4, ck_ok (by omega) (by omega) (by omega), w32_nat (i := i) (by omega), if_neg (c := (i : Int) < 0) (by omega)]
        split <;> rfl
      rw [if_neg c, en] at st
      rw [ef]
      refine ⟨_, st, hf.tr g2, fun k hk => ?_⟩
      have : i = k := Option.some.inj hk
      subst this
      exact g5'
theorem m_lur {n N r : Nat} {μs μ : Mem} {C V : Nat} {K lt fr tt wo F : Nat → Int} {s : Nat → Nat → Bool} (hY : YM μs C K) (hV : VM μs V lt fr tt wo) (hF : DB n F) (hn : n + N < 1000) (hr : r < 6) (hN : N ≤ 40) (h1 : μs 76 r = (N : Int)) (hs : ∀ i : Nat, i < N → μs 77 (40 * r + i) = (msk C (s i) : Nat)) (hf : FH μs μ) (hd : ∀ i : Nat, i < 16 → μ 73 i = F i) :
    ∃ μ' : Mem, f_X10_firstLurch μ (r : Int) = some (fsz (fst (lq C K s F) N 0) (-1), μ') ∧ FH μs μ' ∧ ∀ k : Nat, fst (lq C K s F) N 0 = some k → μ' 67 36 = (lq C K s F k : Nat) := by
  obtain ⟨μ3, k1, k2, k3⟩ := m_lur_loop (s := s) hY hV hF hn hr hN h1 hs N 100000 0 μ (by omega) (by omega) hf hd
  rw [Int.natCast_zero] at k1
  exact ⟨μ3, k1, k2, k3⟩
theorem wm9 : w32 (-9) = -9 := by decide +kernel
theorem p_burns {n : Nat} (hn : n ≤ 900) {p : Int} (hp : inR p) : Pair n (fun μ => f_X9_burns μ p) (fun μ => f_X10_burns μ p) := by
  intro μ h
  refine plan_pair (ax := fun m1 => ck p 6 (bd (f_X3_firstLurch m1 (38 + 2 * (w32 p).toNat) 0) fun r6 m5 => if w32 r6 = w32 (-9) then (some (r6, m5)) else (vm (wr m5 0 13 (m5 19 1)) fun m8 => some (r6, m8)))) (am := fun m1 => bd (f_X10_save m1) fun _u m4 => bd (f_X10_firstLurch m4 p) fun r6 m5 => bd (f_X10_putBack m5) fun _u m7 => if w32 r6 < 0 then (some ((-9), m7)) else (vm (wr m7 67 10 (m7 67 36)) fun m9 => some (r6, m9))) h hp ?_
  intro C V r N hpr hr6 hN hC0 c67 v67 hYX hYM hVX hVM hN76 hNx hxe hR
  subst hpr
  have hday := h.2.2.2.1
  have ht := h.2.2.2.2.2.2.2.1
  have h0 : (0 : Int) = (msk C (fun _ => false) : Nat) := by rw [msk_0 (fun _ _ => rfl)]; rfl
  have hrn : rnw C (fun _ => false) (μ 73) = μ 73 := by
    funext q; rw [rnw, if_neg (fun z => by simp at z)]
  obtain ⟨μ1, g1, g2, g3⟩ := x_lur (q := 38 + 2 * r) (s := fun i b => (μ 77 (40 * r + i)).toNat.testBit b) (P := fun _ => false) hYX hday.2 (N := N) (by omega) (by omega) (by omega) hNx (fun i hi => by rw [hxe i hi]; exact hR i hi) hday.1
  rw [hrn, ← h0] at g1
  rw [hrn] at g3
  have hx : FX μ μ1 := FX.of g2 (fun k hk => by simp at hk; omega)
  have key : ∀ μ1' : Mem, (∀ k : Nat, 67 ≤ k → μ1' k = μ k) → ∃ μ2 : Mem, f_X10_firstLurch (cpy μ1' 73 92 0 0 16) (r : Int) = some (fsz (fst (lq C (μ 68) (fun i b => (μ 77 (40 * r + i)).toNat.testBit b) (μ 73)) N 0) (-1), μ2) ∧ FM μ1' (cpy μ2 92 73 0 0 16) ∧ (∀ i : Nat, i < 16 → cpy μ2 92 73 0 0 16 73 i = μ 73 i) ∧ (∀ p : Nat, p ≠ 35 → p ≠ 36 → cpy μ2 92 73 0 0 16 67 p = μ 67 p) ∧ ∀ k : Nat, fst (lq C (μ 68) (fun i b => (μ 77 (40 * r + i)).toNat.testBit b) (μ 73)) N 0 = some k → cpy μ2 92 73 0 0 16 67 36 = (lq C (μ 68) (fun i b => (μ 77 (40 * r + i)).toNat.testBit b) (μ 73) k : Nat) := fun μ1' hh => by
    have hs := sv_fm μ1'
    obtain ⟨μ2, k1, k2, k3⟩ := m_lur (μs := cpy μ1' 73 92 0 0 16) (s := fun i b => (μ 77 (40 * r + i)).toNat.testBit b) ((hYM.hi hh).fh hs) ((hVM.hi hh).fh hs) hday.2 (N := N) (r := r) (by omega) hr6 (by omega) (by rw [cpy_cell (by omega), hh 76 (by omega)]; exact hN76) (fun i hi => by rw [cpy_cell (by omega), hh 77 (by omega)]; exact hR i hi) FH.rf (fun i hi => by rw [cpy_cell (by omega), hh 73 (by omega)])
    obtain ⟨q1, q2⟩ := bk_ok (F := μ 73) k2 (fun i hi => by rw [sv_92 hi, hh 73 (by omega)])
    refine ⟨μ2, k1, hs.tr q1.fm, q2, fun p h1 h2 => ?_, fun k hk => ?_⟩
    · rw [q1.2 p h1 h2, cpy_cell (by omega), hh 67 (by omega)]
    · rw [cpy_cell (by omega)]; exact k3 k hk
  generalize hG : lq C (μ 68) (fun i b => (μ 77 (40 * r + i)).toNat.testBit b) (μ 73) = L at *
  have hmm : ∀ μ1' : Mem, f_X10_save μ1' = some ((), cpy μ1' 73 92 0 0 16) := m_save
  cases hfs : fst L N 0 with
  | none =>
    rw [hfs] at g1
    obtain ⟨μ2, k1, k2, k3, k4, -⟩ := key μ1 hx.hi
    rw [hfs] at k1
    refine ⟨-9, μ1, _, ?_, hx.hi, ?_, (aside_end (μ1 := μ1) h hx k2 ?_ k3).up (Nat.le_succ n)⟩
    · show ck _ _ _ = _
      rw [ck_ok (by omega) (by omega) (by omega), w32_nat (i := r) (by omega), Int.toNat_natCast, g1, bd_some]
      show (if w32 (-9) = w32 (-9) then _ else _) = _
      rw [if_pos rfl]
      rfl
    · show bd (f_X10_save μ1) _ = _
      rw [hmm, bd_some, k1, bd_some, m_back, bd_some]
      show (if w32 (-1) < 0 then _ else _) = _
      rw [if_pos (by decide +kernel)]
    · rw [k4 10 (by omega) (by omega), ← ht, g2 0 (by simp)]
  | some k =>
    obtain ⟨b1, b2, b3⟩ := fst_b _ _ _ hfs
    rw [hfs] at g1
    obtain ⟨μ2, k1, k2, k3, k4, k5⟩ := key (wr μ1 0 13 (μ1 19 1)) hx.tell.hi
    rw [hfs] at k1
    refine ⟨(k : Int), wr μ1 0 13 (μ1 19 1), wr (cpy μ2 92 73 0 0 16) 67 10 (cpy μ2 92 73 0 0 16 67 36), ?_, hx.tell.hi, ?_, (aside_end (μ1 := wr μ1 0 13 (μ1 19 1)) h hx.tell k2.tell ?_ (fun i hi => by rw [wr_cell (by omega)]; exact k3 i hi)).up (Nat.le_succ n)⟩
    · show ck _ _ _ = _
      rw [ck_ok (by omega) (by omega) (by omega), w32_nat (i := r) (by omega), Int.toNat_natCast, g1, bd_some]
      show (if w32 (k : Int) = w32 (-9) then _ else _) = _
      rw [w32_nat (by omega), wm9, if_neg (by omega), vm]
      rfl
    · show bd (f_X10_save (wr μ1 0 13 (μ1 19 1))) _ = _
      rw [hmm, bd_some, k1, bd_some, m_back, bd_some]
      show (if w32 (k : Int) < 0 then _ else _) = _
      rw [w32_nat (by omega), if_neg (by omega), vm]
      rfl
    · rw [wr_eq, wr_eq, k5 k hfs, g3 k hfs]
