def VB (lt fr tt wo : Nat → Int) : Prop := ∀ v : Nat, v < 4 → (lt v = 0 ∨ lt v = 1) ∧ (0 ≤ fr v ∧ fr v ≤ 7) ∧ (0 ≤ tt v ∧ tt v ≤ 7) ∧ (0 ≤ wo v ∧ wo v ≤ 9)
def VX (μ : Mem) (V : Nat) (lt fr tt wo : Nat → Int) : Prop := V ≤ 4 ∧ μ 6 7 = (V : Int) ∧ (∀ v : Nat, v < 4 → μ 9 v = lt v ∧ μ 10 v = fr v ∧ μ 11 v = tt v ∧ μ 12 v = wo v) ∧ VB lt fr tt wo
def VM (μ : Mem) (V : Nat) (lt fr tt wo : Nat → Int) : Prop := V ≤ 4 ∧ μ 67 1 = (V : Int) ∧ (∀ v : Nat, v < 4 → μ 69 v = lt v ∧ μ 70 v = fr v ∧ μ 71 v = tt v ∧ μ 72 v = wo v) ∧ VB lt fr tt wo
theorem VX.dy {μ : Mem} {V t : Nat} {lt fr tt wo : Nat → Int} (h : VX μ V lt fr tt wo) (ht : 13 ≤ t) {a b c d : Int} {F : Nat → Int} : VX (dy μ t a b c d F) V lt fr tt wo := by
  obtain ⟨h1, h2, h3, h4⟩ := h
  refine ⟨h1, ?_, fun k hk => ?_, h4⟩
  · rw [dy_o (by omega) (by omega)]; exact h2
  · rw [dy_o (by omega) (by omega), dy_o (by omega) (by omega), dy_o (by omega) (by omega), dy_o (by omega) (by omega)]; exact h3 k hk
theorem VM.dm {μ : Mem} {V : Nat} {lt fr tt wo : Nat → Int} (h : VM μ V lt fr tt wo) {a b : Int} {F : Nat → Int} : VM (dm μ a b F) V lt fr tt wo := by
  obtain ⟨h1, h2, h3, h4⟩ := h
  refine ⟨h1, ?_, fun k hk => ?_, h4⟩
  · rw [dm_7 (by omega) (by omega)]; exact h2
  · rw [dm_o (by omega) (by omega), dm_o (by omega) (by omega), dm_o (by omega) (by omega), dm_o (by omega) (by omega)]; exact h3 k hk
def gnv (lt fr tt wo : Nat → Int) (m : Int) (v : Nat) : Int := if bt (decide (m < 48) && (decide (fr v ≤ m / 6) && decide (m / 6 ≤ tt v))) = lt v then wo v else 0
theorem gnv_b {lt fr tt wo : Nat → Int} (h : VB lt fr tt wo) (m : Int) {v : Nat} (hv : v < 4) : 0 ≤ gnv lt fr tt wo m v ∧ gnv lt fr tt wo m v ≤ 9 := by
  obtain ⟨-, -, -, h4⟩ := h v hv
  unfold gnv
  split <;> omega
theorem x_gain {μ : Mem} {V v : Nat} {lt fr tt wo : Nat → Int} {m : Int} (h : VX μ V lt fr tt wo) (hv : v < 4) (hm : 0 ≤ m ∧ m ≤ 1000) : f_X8_gainOf μ (v : Int) m = some (gnv lt fr tt wo m v, μ) := by
  obtain ⟨h1, h2, h3, h4⟩ := h
  obtain ⟨e1, e2, e3, e4⟩ := h3 v hv
  obtain ⟨b1, b2, b3, b4⟩ := h4 v hv
  obtain ⟨m1, m2⟩ := hm
  have hl : (if lt v = 1 then (1 : Int) else 0) = lt v := by rcases b1 with h | h <;> rw [h] <;> rfl
  have hd : 0 ≤ m / 6 ∧ m / 6 ≤ 1000 := by omega
  simp -implicitDefEqProofs (disch := omega) only [f_X8_gainOf, ckz_ok, vl, jn, ck_ok, w32_nat, Int.toNat_natCast, e1, e2, e3, e4, w32_id, zdiv_pos, hl]
  unfold gnv
  by_cases c0 : m < 48
  · rw [if_pos c0]
    by_cases c1 : m / 6 < fr v
    · rw [if_pos c1, show (decide (m < 48) && (decide (fr v ≤ m / 6) && decide (m / 6 ≤ tt v))) = false by simp [show ¬ fr v ≤ m / 6 by omega], show bt false = 0 from rfl]
      by_cases c3 : (0 : Int) = lt v
      · rw [if_pos c3, if_pos c3]
      · rw [if_neg c3, if_neg c3]
    · rw [if_neg c1]
      by_cases c2 : tt v < m / 6
      · rw [if_pos c2, show (decide (m < 48) && (decide (fr v ≤ m / 6) && decide (m / 6 ≤ tt v))) = false by simp [show ¬ m / 6 ≤ tt v by omega], show bt false = 0 from rfl]
        by_cases c3 : (0 : Int) = lt v
        · rw [if_pos c3, if_pos c3]
        · rw [if_neg c3, if_neg c3]
      · rw [if_neg c2, show (decide (m < 48) && (decide (fr v ≤ m / 6) && decide (m / 6 ≤ tt v))) = true by simp [c0, show fr v ≤ m / 6 by omega, show m / 6 ≤ tt v by omega], show bt true = 1 from rfl]
        by_cases c3 : (1 : Int) = lt v
        · rw [if_pos c3, if_pos c3]
        · rw [if_neg c3, if_neg c3]
  · rw [if_neg c0, show (decide (m < 48) && (decide (fr v ≤ m / 6) && decide (m / 6 ≤ tt v))) = false by simp [c0], show bt false = 0 from rfl]
    by_cases c3 : (0 : Int) = lt v
    · rw [if_pos c3, if_pos c3]
    · rw [if_neg c3, if_neg c3]
theorem m_gain {μ : Mem} {V v : Nat} {lt fr tt wo F : Nat → Int} {a b : Int} (h : VM μ V lt fr tt wo) (hv : v < 4) (hm : 0 ≤ F 0 ∧ F 0 ≤ 1000) : f_X10_gainOf (dm μ a b F) (v : Int) = some (gnv lt fr tt wo (F 0) v, dm μ a b F) := by
  have hd2 := m_down (μ := μ) (a := a) (b := b) hm
  obtain ⟨h1, h2, h3, h4⟩ := h.dm (a := a) (b := b) (F := F)
  obtain ⟨e1, e2, e3, e4⟩ := h3 v hv
  obtain ⟨b1, b2, b3, b4⟩ := h4 v hv
  obtain ⟨m1, m2⟩ := hm
  have hl : (if lt v = 1 then (1 : Int) else 0) = lt v := by rcases b1 with h | h <;> rw [h] <;> rfl
  have hd : 0 ≤ F 0 / 6 ∧ F 0 / 6 ≤ 1000 := by omega
  simp -implicitDefEqProofs (disch := omega) only [f_X10_gainOf, hd2, bd_some, ckz_ok, vl, jn, ck_ok, w32_nat, Int.toNat_natCast, e1, e2, e3, e4, w32_id, zdiv_pos, hl, dm_f, Int.toNat_zero]
  unfold gnv
  by_cases c0 : F 0 < 48
  · rw [if_pos c0, if_pos rfl, m_in ⟨by omega, by omega⟩ ⟨by omega, by omega⟩ ⟨by omega, by omega⟩, bd_some, ite_w, e1, e4, w32_id (a := lt v) (by omega) (by omega), hl]
    by_cases c1 : fr v ≤ F 0 / 6 ∧ F 0 / 6 ≤ tt v
    · rw [if_pos c1, show (decide (F 0 < 48) && (decide (fr v ≤ F 0 / 6) && decide (F 0 / 6 ≤ tt v))) = true by simp [c0, c1], show bt true = 1 from rfl]
      by_cases c3 : (1 : Int) = lt v
      · rw [if_pos c3, if_pos c3]
      · rw [if_neg c3, if_neg c3]
    · rw [if_neg c1, show (decide (F 0 < 48) && (decide (fr v ≤ F 0 / 6) && decide (F 0 / 6 ≤ tt v))) = false by simp; omega, show bt false = 0 from rfl]
      by_cases c3 : (0 : Int) = lt v
      · rw [if_pos c3, if_pos c3]
      · rw [if_neg c3, if_neg c3]
  · rw [if_neg c0, if_neg (show ¬ ((1 : Int) = 0) by omega), show (decide (F 0 < 48) && (decide (fr v ≤ F 0 / 6) && decide (F 0 / 6 ≤ tt v))) = false by simp [c0], show bt false = 0 from rfl]
    by_cases c3 : (0 : Int) = lt v
    · rw [if_pos c3, if_pos c3]
    · rw [if_neg c3, if_neg c3]
def gth (V : Nat) (g : Nat → Int) (F : Nat → Int) : Nat → Int := fun q => if 12 ≤ q ∧ q < 12 + V then F q + g (q - 12) else F q
theorem gth_0 {g F : Nat → Int} : gth 0 g F = F := by
  funext q; rw [gth, if_neg (by omega)]
theorem gth_self {V q : Nat} {g F : Nat → Int} (h : ¬ (12 ≤ q ∧ q < 12 + V)) : gth V g F q = F q := by rw [gth, if_neg h]
theorem gth_step {i : Nat} {g F : Nat → Int} : up (gth i g F) (12 + i) (F (12 + i) + g i) = gth (i + 1) g F := by
  funext q
  by_cases e : q = 12 + i
  · subst e
    rw [up_eq, gth, if_pos (by omega), show 12 + i - 12 = i by omega]
  · rw [up_ne e]
    unfold gth
    by_cases c : 12 ≤ q ∧ q < 12 + i
    · rw [if_pos c, if_pos (by omega)]
    · rw [if_neg c, if_neg (by omega)]
theorem x_collect_loop {μ : Mem} {t V : Nat} {lt fr tt wo F : Nat → Int} {a b c d : Int} (ht : 13 ≤ t) (h : VX μ V lt fr tt wo) (hm : 0 ≤ F 0 ∧ F 0 ≤ 1000) : ∀ (m u i : Nat), i + m = V → m < u →
    f_X1_collect_L2 t u (i : Int) (dy μ t a b c d (gth i (gnv lt fr tt wo (F 0)) F)) = some ((), dy μ t a b c d (gth V (gnv lt fr tt wo (F 0)) F)) := by
  have hV := h.1
  intro m
  induction m with
  | zero =>
    intro u i hi hu
    obtain ⟨u, rfl⟩ : ∃ v, u = v + 1 := ⟨u - 1, by omega⟩
    rw [f_X1_collect_L2, (h.dy ht).2.1, w32_nat (by omega), w32_nat (by omega), if_neg (by omega), show i = V by omega]
  | succ m ih =>
    intro u i hi hu
    obtain ⟨u, rfl⟩ : ∃ v, u = v + 1 := ⟨u - 1, by omega⟩
    have hi' := ih u (i + 1) (by omega) (by omega)
    rw [show ((i + 1 : Nat) : Int) = (i : Int) + 1 by omega] at hi'
    have t12 : (12 + (i : Int)).toNat = 12 + i := by omega
    have g0 : gth i (gnv lt fr tt wo (F 0)) F 0 = F 0 := gth_self (by omega)
    have g12 : gth i (gnv lt fr tt wo (F 0)) F (12 + i) = F (12 + i) := gth_self (by omega)
    rw [f_X1_collect_L2, (h.dy ht).2.1, w32_nat (by omega), w32_nat (by omega), if_pos (by omega), ck_ok (by omega) (by omega) (by omega), ck_ok (by omega) (by omega) (by omega), w32_id (a := 0) (by omega) (by omega), Int.toNat_zero, dy_f (by omega), g0, x_gain (h.dy ht) (by omega) hm, bd_some, ck_ok (by omega) (by omega) (by omega), vm, w32_id (a := 12 + (i : Int)) (by omega) (by omega), t12, dy_f (by omega), g12, dy_wf (by omega), gth_step]
    exact hi'
theorem x_collect {μ : Mem} {t V : Nat} {lt fr tt wo F : Nat → Int} {a b c d : Int} (ht : 13 ≤ t) (h : VX μ V lt fr tt wo) (hm : 0 ≤ F 0 ∧ F 0 ≤ 1000) :
    f_X1_collect (dy μ t a b c d F) t = some ((), dy μ t a b c d (gth V (gnv lt fr tt wo (F 0)) F)) := by
  have hl := x_collect_loop (μ := μ) (a := a) (b := b) (c := c) (d := d) ht h hm V 100000 0 (by omega) (by have := h.1; omega)
  rw [Int.natCast_zero, gth_0] at hl
  rw [f_X1_collect, hl]
theorem m_collect_loop {μ : Mem} {V : Nat} {lt fr tt wo F : Nat → Int} {a b : Int} (h : VM μ V lt fr tt wo) (hm : 0 ≤ F 0 ∧ F 0 ≤ 1000) : ∀ (m u i : Nat), i + m = V → m < u →
    f_X10_gainAll_L2 u (i : Int) (dm μ a b (gth i (gnv lt fr tt wo (F 0)) F)) = some ((), dm μ a b (gth V (gnv lt fr tt wo (F 0)) F)) := by
  have hV := h.1
  intro m
  induction m with
  | zero =>
    intro u i hi hu
    obtain ⟨u, rfl⟩ : ∃ v, u = v + 1 := ⟨u - 1, by omega⟩
    rw [f_X10_gainAll_L2, h.dm.2.1, w32_nat (by omega), w32_nat (by omega), if_neg (by omega), show i = V by omega]
  | succ m ih =>
    intro u i hi hu
    obtain ⟨u, rfl⟩ : ∃ v, u = v + 1 := ⟨u - 1, by omega⟩
    have hi' := ih u (i + 1) (by omega) (by omega)
    rw [show ((i + 1 : Nat) : Int) = (i : Int) + 1 by omega] at hi'
    have t12 : (12 + (i : Int)).toNat = 12 + i := by omega
    have g0 : gth i (gnv lt fr tt wo (F 0)) F 0 = F 0 := gth_self (by omega)
    have g12 : gth i (gnv lt fr tt wo (F 0)) F (12 + i) = F (12 + i) := gth_self (by omega)
    rw [f_X10_gainAll_L2, h.dm.2.1, w32_nat (by omega), w32_nat (by omega), if_pos (by omega), ck_ok (by omega) (by omega) (by omega), m_gain h (by omega) (by rw [g0]; exact hm), bd_some, ck_ok (by omega) (by omega) (by omega), vm, w32_id (a := 12 + (i : Int)) (by omega) (by omega), t12, dm_f (by omega), g12, g0, dm_wf (by omega), gth_step]
    exact hi'
theorem m_collect {μ : Mem} {V : Nat} {lt fr tt wo F : Nat → Int} {a b : Int} (h : VM μ V lt fr tt wo) (hm : 0 ≤ F 0 ∧ F 0 ≤ 1000) :
    f_X10_gainAll (dm μ a b F) = some ((), dm μ a b (gth V (gnv lt fr tt wo (F 0)) F)) := by
  have hl := m_collect_loop (μ := μ) (a := a) (b := b) h hm V 100000 0 (by omega) (by have := h.1; omega)
  rw [Int.natCast_zero, gth_0] at hl
  rw [f_X10_gainAll, hl]
theorem pul_none {C : Nat} {K : Nat → Int} {pl : Nat → Bool} (h : ∀ i, pl i = false) : pul C K pl = 0 := by
  have e : ∀ n, cn n pl = 0 ∧ cn n (fun i => pl i && isK 2 (K i)) = 0 := by
    intro n
    induction n with
    | zero => exact ⟨rfl, rfl⟩
    | succ n ih => simp [cn, ih.1, ih.2, h n, bt]
  unfold pul
  rw [(e C).1, (e C).2]
  rfl
theorem abl_gth {V : Nat} {K F g : Nat → Int} (hV : V ≤ 4) : ∀ i, i < 5 → abl K (gth V g F) i = abl K F i := by
  intro i hi
  unfold abl
  rw [gth_self (by omega), gth_self (by omega), gth_self (by omega)]
theorem m_hour {μ : Mem} {C V : Nat} {K lt fr tt wo F : Nat → Int} {a b : Int} (hY : YM μ C K) (hV : VM μ V lt fr tt wo) (hF : FB F) (hG : FB (gth V (gnv lt fr tt wo (F 0)) F)) (p : Nat → Bool) :
    f_X10_goHour (dm μ a b F) (msk C p : Nat) = some (stp C K (gth V (gnv lt fr tt wo (F 0)) F) p, dm μ (msk C (pld K (gth V (gnv lt fr tt wo (F 0)) F) p) : Nat) (msk C (fun i => pld K (gth V (gnv lt fr tt wo (F 0)) F) p i && frl K (gth V (gnv lt fr tt wo (F 0)) F) i) : Nat) (hr C K (gth V (gnv lt fr tt wo (F 0)) F) p)) := by
  have hC := hY.1
  rw [f_X10_goHour, vm, dm_wa, vm, dm_wb, m_collect hV hF.1, bd_some]
  generalize gth V (gnv lt fr tt wo (F 0)) F = G at hG
  have q1 := hG.1.1
  have q2 := hG.1.2
  have q3 := hG.2.1.1
  have q4 := hG.2.1.2
  have hp := pul_b C K (pld K G p)
  have hcn := cn_b C (fun i => pld K G p i && frl K G i)
  rw [m_down hG.1, bd_some, ck_ok (by omega) (by omega) (by omega), ckz_ok (by omega) (by omega) (by omega), ckz_ok (by omega) (by omega) (by omega), vl]
  have hev : (if w32 (zrem (zdiv (dm μ 0 0 G 73 (w32 0).toNat) 6) 2) = 0 then (1 : Int) else 0) = bt (!(decide (G 0 / 6 % 2 = 1))) := by
    rw [w32_id (a := 0) (by omega) (by omega), Int.toNat_zero, dm_f (by omega), zdiv_pos (by omega) (by omega) (by omega) (by omega), zrem_pos (by omega) (by omega) (by omega) (by omega), w32_id (by omega) (by omega)]
    by_cases c : G 0 / 6 % 2 = 1
    · rw [if_neg (by omega)]; simp [c, bt]
    · rw [if_pos (by omega)]; simp [c, bt]
  rw [hev]
  have hl1 := fun K' => m_pull_loop (K' := K') (μ := μ) (b := 0) (p := p) hY hG C 100000 0 (by omega) (by omega)
  simp only [msk, Int.natCast_zero, show ∀ K pl, pul 0 K pl = 0 from fun _ _ => rfl] at hl1
  have hl2 := fun K' => m_wear_loop (K' := K') (μ := μ) (p := p) hY hG.2.2.1 C 100000 0 (by omega) (by omega)
  simp only [msk, Int.natCast_zero, wn_0] at hl2
  rw [hl1, hl2]
  have e1 : wn C K G (pld K G p) 1 = G 1 := wn_self (by omega) (by omega)
  have e0 : wn C K G (pld K G p) 0 = G 0 := wn_self (by omega) (by omega)
  by_cases c0 : G 0 < 48
  · rw [if_pos c0, if_pos w0, vl, ck_ok (by omega) (by omega) (by omega), ck_ok (by omega) (by omega) (by omega), vm, w32_id (a := 1) (by omega) (by omega), show (1 : Int).toNat = 1 from rfl, dm_f (by omega), e1, dm_wf (by omega), ck_ok (by omega) (by omega) (by omega), dm_b, m_bits hC, bd_some, ck_ok (by omega) (by omega) (by omega), vm, w32_id (a := 0) (by omega) (by omega), Int.toNat_zero, dm_wf (by omega), dm_f (by omega), up_ne (by omega), e0, dm_b, m_bits hC, bd_some, w32_id (a := 5) (by omega) (by omega), w32_id (a := pul C K (pld K G p)) (by omega) (by omega)]
    have hs : (if 5 < pul C K (pld K G p) then 1 else 6 - pul C K (pld K G p)) + 2 * cn C (fun i => pld K G p i && frl K G i) = stp C K G p := by
      unfold stp
      rw [if_pos c0]
      omega
    rw [hs]
    congr 2
    apply dm_cg
    intro q hq
    unfold hr
    by_cases d0 : q = 0
    · subst d0; rw [up_eq, if_pos rfl]
    · rw [up_ne d0, if_neg d0]
      by_cases d1 : q = 1
      · subst d1; rw [up_eq, if_pos rfl]; omega
      · rw [up_ne d1, if_neg d1]
  · have hn : ∀ i, pld K G p i = false := fun i => by simp [pld, abl, c0]
    rw [if_neg c0, if_neg w1ne, show stp C K G p = 0 by unfold stp; rw [if_neg c0]]
    congr 2
    apply dm_cg
    intro q hq
    unfold hr
    rw [pul_none hn, show stp C K G p = 0 by unfold stp; rw [if_neg c0]]
    by_cases d0 : q = 0
    · subst d0; rw [if_pos rfl, e0]; omega
    · rw [if_neg d0]
      by_cases d1 : q = 1
      · subst d1; rw [if_pos rfl, e1, if_neg (by omega)]; omega
      · rw [if_neg d1]
