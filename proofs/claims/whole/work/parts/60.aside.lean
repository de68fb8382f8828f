/-! ===== asides: what may differ behind them ===== -/
def FX (μ μ' : Mem) : Prop := (∀ k : Nat, ¬ (k = 0 ∨ k = 3 ∨ k = 4 ∨ k = 5 ∨ k = 13 ∨ (17 ≤ k ∧ k < 37)) → μ' k = μ k) ∧ ∀ p : Nat, p ≠ 13 → μ' 0 p = μ 0 p
def FM (μ μ' : Mem) : Prop := (∀ k : Nat, ¬ (k = 67 ∨ k = 73 ∨ (84 ≤ k ∧ k < 94)) → μ' k = μ k) ∧ ∀ p : Nat, ¬ (p = 10 ∨ (24 ≤ p ∧ p < 28) ∨ p = 35 ∨ p = 36) → μ' 67 p = μ 67 p
def FH (μ μ' : Mem) : Prop := (∀ k : Nat, k ≠ 67 → k ≠ 73 → μ' k = μ k) ∧ ∀ p : Nat, p ≠ 35 → p ≠ 36 → μ' 67 p = μ 67 p
theorem FX.rf {μ : Mem} : FX μ μ := ⟨fun _ _ => rfl, fun _ _ => rfl⟩
theorem FX.tr {μ μ' μ'' : Mem} (h : FX μ μ') (h' : FX μ' μ'') : FX μ μ'' := ⟨fun k hk => (h'.1 k hk).trans (h.1 k hk), fun p hp => (h'.2 p hp).trans (h.2 p hp)⟩
theorem FX.of {S : List Nat} {μ μ' : Mem} (h : Fr S μ μ') (hs : ∀ k, k ∈ S → k = 3 ∨ k = 4 ∨ k = 5 ∨ k = 13 ∨ (17 ≤ k ∧ k < 37)) : FX μ μ' :=
  ⟨fun k hk => h k (fun z => hk (by have := hs k z; omega)), fun p _ => by rw [h 0 (fun z => by have := hs 0 z; omega)]⟩
theorem FX.tell {μ μ' : Mem} {v : Int} (h : FX μ μ') : FX μ (wr μ' 0 13 v) :=
  ⟨fun k hk => by rw [wr_cell (by omega)]; exact h.1 k hk, fun p hp => by rw [wr_ne (by omega)]; exact h.2 p hp⟩
theorem FX.hi {μ μ' : Mem} (h : FX μ μ') : ∀ k : Nat, 67 ≤ k → μ' k = μ k := fun k hk => h.1 k (by omega)
theorem FM.rf {μ : Mem} : FM μ μ := ⟨fun _ _ => rfl, fun _ _ => rfl⟩
theorem FM.tr {μ μ' μ'' : Mem} (h : FM μ μ') (h' : FM μ' μ'') : FM μ μ'' := ⟨fun k hk => (h'.1 k hk).trans (h.1 k hk), fun p hp => (h'.2 p hp).trans (h.2 p hp)⟩
theorem FM.tell {μ μ' : Mem} {v : Int} (h : FM μ μ') : FM μ (wr μ' 67 10 v) :=
  ⟨fun k hk => by rw [wr_cell (by omega)]; exact h.1 k hk, fun p hp => by rw [wr_ne (by omega)]; exact h.2 p hp⟩
theorem FH.rf {μ : Mem} : FH μ μ := ⟨fun _ _ _ => rfl, fun _ _ _ => rfl⟩
theorem FH.tr {μ μ' μ'' : Mem} (h : FH μ μ') (h' : FH μ' μ'') : FH μ μ'' := ⟨fun k h1 h2 => (h'.1 k h1 h2).trans (h.1 k h1 h2), fun p h1 h2 => (h'.2 p h1 h2).trans (h.2 p h1 h2)⟩
theorem FH.fm {μ μ' : Mem} (h : FH μ μ') : FM μ μ' := ⟨fun k hk => h.1 k (by omega) (by omega), fun p hp => h.2 p (by omega) (by omega)⟩
theorem FM.of {S : List Nat} {μ μ' : Mem} (h : Fr S μ μ') (hs : ∀ k, k ∈ S → k = 73 ∨ (84 ≤ k ∧ k < 94)) : FM μ μ' :=
  ⟨fun k hk => h k (fun z => hk (by have := hs k z; omega)), fun p _ => by rw [h 67 (fun z => by have := hs 67 z; omega)]⟩
theorem FH.of {μ μ' : Mem} (h : ∀ k, k ≠ 73 → μ' k = μ k) : FH μ μ' := ⟨fun k _ h2 => h k h2, fun p _ _ => by rw [h 67 (by omega)]⟩
theorem aside_end {n : Nat} {μ μ1 μ2 : Mem} (h : Inv n μ) (hx : FX μ μ1) (hm : FM μ1 μ2) (ht : μ2 67 10 = μ1 0 13) (hd : ∀ i : Nat, i < 16 → μ2 73 i = μ 73 i) : Inv n μ2 := by
  obtain ⟨i1, i2, i3, i4, i5, i6, i7⟩ := h
  have e : ∀ k : Nat, ¬ (k = 0 ∨ k = 3 ∨ k = 4 ∨ k = 5 ∨ k = 13 ∨ (17 ≤ k ∧ k < 37) ∨ k = 67 ∨ k = 73 ∨ (84 ≤ k ∧ k < 94)) → μ2 k = μ k := fun k hk => (hm.1 k (by omega)).trans (hx.1 k (by omega))
  have e7 : ∀ p : Nat, ¬ (p = 10 ∨ (24 ≤ p ∧ p < 28) ∨ p = 35 ∨ p = 36) → μ2 67 p = μ 67 p := fun p hp => (hm.2 p hp).trans (by rw [hx.1 67 (by omega)])
  have e0 : ∀ p : Nat, p ≠ 13 → μ2 0 p = μ 0 p := fun p hp => by rw [hm.1 0 (by omega)]; exact hx.2 p hp
  obtain ⟨t1, t2, t3, t4, t5⟩ := i7
  refine ⟨i1.cg (fun k hk => e k (by omega)), i2.cg (fun k hk => e k (by omega)), i3.cg (fun k hk => e k (by omega)) (e7 0 (by omega)) (e7 1 (by omega)), ⟨fun i hi => ?_, i4.2.cg hd⟩, i5.cg (fun k hk => e k (by omega)) (e7 8 (by omega)), i6.cg (fun k hk => e k (by omega)), ⟨?_, ?_, ?_, ?_, fun f hf => ?_⟩⟩
  · rw [e 14 (by omega), hd i hi]; exact i4.1 i hi
  · rw [e0 12 (by omega), e7 13 (by omega)]; exact t1
  · rw [hm.1 0 (by omega)]; exact ht.symm
  · rw [e0 14 (by omega), e7 11 (by omega)]; exact t3
  · rw [e0 15 (by omega), e7 12 (by omega)]; exact t4
  · rw [e 37 (by omega), e 75 (by omega)]; exact t5 f hf
theorem YX.fr {S : List Nat} {μ μ' : Mem} {C : Nat} {K : Nat → Int} (h : YX μ C K) (e : Fr S μ μ') (hs : ∀ k, k ∈ S → 13 ≤ k) : YX μ' C K := h.cg (fun k hk => e k (fun z => by have := hs k z; omega))
theorem VX.fr {S : List Nat} {μ μ' : Mem} {V : Nat} {lt fr tt wo : Nat → Int} (h : VX μ V lt fr tt wo) (e : Fr S μ μ') (hs : ∀ k, k ∈ S → 13 ≤ k) : VX μ' V lt fr tt wo := h.cg (fun k hk => e k (fun z => by have := hs k z; omega))
theorem YX.fx {μ μ' : Mem} {C : Nat} {K : Nat → Int} (h : YX μ C K) (e : FX μ μ') : YX μ' C K := h.cg (fun k hk => e.1 k (by omega))
theorem VX.fx {μ μ' : Mem} {V : Nat} {lt fr tt wo : Nat → Int} (h : VX μ V lt fr tt wo) (e : FX μ μ') : VX μ' V lt fr tt wo := h.cg (fun k hk => e.1 k (by omega))
theorem YM.fh {μ μ' : Mem} {C : Nat} {K : Nat → Int} (h : YM μ C K) (e : FM μ μ') : YM μ' C K := h.cg (e.2 0 (by omega)) (e.1 68 (by omega))
theorem VM.fh {μ μ' : Mem} {V : Nat} {lt fr tt wo : Nat → Int} (h : VM μ V lt fr tt wo) (e : FM μ μ') : VM μ' V lt fr tt wo := h.cg (e.2 1 (by omega)) (fun k hk => e.1 k (by omega))
theorem YM.hi {μ μ' : Mem} {C : Nat} {K : Nat → Int} (h : YM μ C K) (e : ∀ k : Nat, 67 ≤ k → μ' k = μ k) : YM μ' C K := h.cg (by rw [e 67 (by omega)]) (e 68 (by omega))
theorem VM.hi {μ μ' : Mem} {V : Nat} {lt fr tt wo : Nat → Int} (h : VM μ V lt fr tt wo) (e : ∀ k : Nat, 67 ≤ k → μ' k = μ k) : VM μ' V lt fr tt wo := h.cg (by rw [e 67 (by omega)]) (fun k hk => e k (by omega))
theorem pm {C P : Nat} (h : P < 2 ^ C) : (P : Int) = (msk C (fun i => P.testBit i) : Nat) := congrArg _ (nat_msk h)
/-! the hour of the class, of the reference: what stands behind it -/
theorem x_go {μ : Mem} {t C : Nat} {K F : Nat → Int} (ht : 13 ≤ t) (hY : YX μ C K) (hF : FB F) (hd : ∀ i : Nat, i < 16 → μ (t + 1) i = F i) (p : Nat → Bool) :
    ∃ μ' : Mem, f_X1_goOn μ t (msk C p : Nat) = some (stp C K F p, μ') ∧ Fr [t, t + 1] μ μ' ∧ (∀ i : Nat, i < 16 → μ' (t + 1) i = hr C K F p i) ∧ μ' t 3 = (msk C (pld K F p) : Nat) ∧ μ' t 4 = (msk C (fun i => pld K F p i && frl K F i) : Nat) := by
  have g := x_goOn (μ := μ) (a := μ t 1) (b := μ t 2) (c := μ t 3) (d := μ t 4) ht hY hF p
  rw [← dy_at hd] at g
  refine ⟨_, g, fun k hk => ?_, fun i hi => dy_f hi, dy_3, dy_4⟩
  simp only [List.mem_cons, List.not_mem_nil, or_false, not_or] at hk
  exact dy_o hk.1 hk.2
theorem x_lk {μ : Mem} {t C : Nat} {K F : Nat → Int} (ht : 13 ≤ t) (hY : YX μ C K) (hF : FB F) (hd : ∀ i : Nat, i < 16 → μ (t + 1) i = F i) :
    ∃ μ' : Mem, f_X1_look μ t = some ((), μ') ∧ Fr [t, t + 1] μ μ' ∧ (∀ i : Nat, i < 16 → μ' (t + 1) i = F i) ∧ μ' t 1 = (msk C (abl K F) : Nat) ∧ μ' t 2 = (msk C (frl K F) : Nat) := by
  have g := x_look (μ := μ) (a := μ t 1) (b := μ t 2) (c := μ t 3) (d := μ t 4) ht hY hF
  rw [← dy_at hd] at g
  refine ⟨_, g, fun k hk => ?_, fun i hi => dy_f hi, dy_1, dy_2⟩
  simp only [List.mem_cons, List.not_mem_nil, or_false, not_or] at hk
  exact dy_o hk.1 hk.2
theorem x_bh {μ : Mem} {t C : Nat} {K F : Nat → Int} (ht : 13 ≤ t) (hY : YX μ C K) (hF : FB F) (hd : ∀ i : Nat, i < 16 → μ (t + 1) i = F i) (h1 : μ t 1 = (msk C (abl K F) : Nat)) (h2 : μ t 2 = (msk C (frl K F) : Nat)) (p : Nat → Bool) :
    f_X1_minuteBehind μ t (msk C p : Nat) = some (F 0 + stp C K F p, μ) := by
  have g := x_behind (μ := μ) (c := μ t 3) (d := μ t 4) ht hY hF p
  rw [← h1, ← h2, ← dy_at hd] at g
  exact g
theorem x_dn {μ : Mem} {t : Nat} {F : Nat → Int} (hF : FB F) (hd : ∀ i : Nat, i < 16 → μ (t + 1) i = F i) : f_X1_isDown μ t = some (if F 0 < 48 then 0 else 1, μ) := by
  have g := x_down (μ := μ) (t := t) (a := μ t 1) (b := μ t 2) (c := μ t 3) (d := μ t 4) hF.1
  rw [← dy_at hd] at g
  exact g
theorem x_tk {μ : Mem} {t q : Nat} : f_X1_take μ t q = some ((), cpy μ (q + 1) (t + 1) 0 0 16) := by
  rw [f_X1_take, ckc_ok (by omega) (by omega) (by omega) (by omega) (by omega) (by omega) (by omega), vm, w32_id (a := 0) (by omega) (by omega), w32_id (a := 16) (by omega) (by omega)]
  rfl
def E12 (F G : Nat → Int) : Prop := ∀ q : Nat, q < 12 → F q = G q
theorem E12.rf {F : Nat → Int} : E12 F F := fun _ _ => rfl
theorem E12.gth {V : Nat} {F G g : Nat → Int} (h : E12 F G) : E12 (gth V g F) G := fun q hq => by rw [gth_self (by omega)]; exact h q hq
theorem e_abl {K F G : Nat → Int} (h : E12 F G) {i : Nat} (hi : i < 5) : abl K F i = abl K G i := by
  unfold abl
  rw [h 0 (by omega), h (2 + i) (by omega), h (7 + i) (by omega)]
theorem e_frl {K F G : Nat → Int} (h : E12 F G) {i : Nat} (hi : i < 5) : frl K F i = frl K G i := by
  unfold frl
  rw [h 0 (by omega), h (2 + i) (by omega)]
theorem e_pld {K F G : Nat → Int} {p : Nat → Bool} (h : E12 F G) {i : Nat} (hi : i < 5) : pld K F p i = pld K G p i := by
  unfold pld
  rw [e_abl h hi]
theorem e_pul {C : Nat} {K : Nat → Int} {p q : Nat → Bool} (h : ∀ i, i < C → p i = q i) : pul C K p = pul C K q := by
  unfold pul
  rw [cn_cg h, cn_cg (p := fun i => p i && isK 2 (K i)) (q := fun i => q i && isK 2 (K i)) (fun i hi => by rw [h i hi])]
theorem e_lur {C : Nat} {K F G : Nat → Int} {p : Nat → Bool} (hC : C ≤ 5) (h : E12 F G) : msk C (fun i => pld K F p i && frl K F i) = msk C (fun i => pld K G p i && frl K G i) :=
  msk_cg (fun i hi => by rw [e_pld h (by omega), e_frl h (by omega)])
theorem e_stp {C : Nat} {K F G : Nat → Int} {p : Nat → Bool} (hC : C ≤ 5) (h : E12 F G) : stp C K F p = stp C K G p := by
  unfold stp
  rw [h 0 (by omega), e_pul (p := pld K F p) (q := pld K G p) (fun i hi => e_pld h (by omega)), cn_cg (p := fun i => pld K F p i && frl K F i) (q := fun i => pld K G p i && frl K G i) (fun i hi => by rw [e_pld h (by omega), e_frl h (by omega)])]
theorem e_hr {C : Nat} {K F G : Nat → Int} {p : Nat → Bool} (hC : C ≤ 5) (h : E12 F G) : E12 (hr C K F p) (hr C K G p) := by
  intro q hq
  unfold hr
  rw [e_stp hC h, h 0 (by omega), h 1 (by omega), e_pul (p := pld K F p) (q := pld K G p) (fun i hi => e_pld h (by omega))]
  by_cases c0 : q = 0
  · rw [if_pos c0, if_pos c0]
  · rw [if_neg c0, if_neg c0]
    by_cases c1 : q = 1
    · rw [if_pos c1, if_pos c1]
    · rw [if_neg c1, if_neg c1]
      unfold wn
      by_cases c2 : 2 ≤ q ∧ q < 2 + C
      · rw [if_pos c2, if_pos c2, h q hq]
        unfold wrn
        rw [e_pld h (by omega), h 0 (by omega)]
      · rw [if_neg c2, if_neg c2]
        by_cases c3 : 7 ≤ q ∧ q < 7 + C
        · rw [if_pos c3, if_pos c3]
          unfold crw
          rw [e_pld h (by omega), h (7 + (q - 7)) (by omega)]
        · rw [if_neg c3, if_neg c3, h q hq]
theorem hr_g {C : Nat} {K F : Nat → Int} {p : Nat → Bool} (hC : C ≤ 5) (v : Nat) : hr C K F p (12 + v) = F (12 + v) := by
  unfold hr
  rw [if_neg (by omega), if_neg (by omega), wn_self (by omega) (by omega)]
theorem hr_0 {C : Nat} {K F : Nat → Int} {p : Nat → Bool} : hr C K F p 0 = F 0 + stp C K F p := by
  unfold hr
  rw [if_pos rfl]
theorem hrx_DB {n C : Nat} {K F : Nat → Int} {p : Nat → Bool} (h : DB n F) (hC : C ≤ 5) : DB (n + 1) (hr C K F p) := hr_DB (h.up (by omega)) h.2.1.2 hC
theorem hrm_DB {n C V : Nat} {K F lt fr tt wo : Nat → Int} {p : Nat → Bool} (h : DB n F) (hC : C ≤ 5) (hV : V ≤ 4) (hW : VB lt fr tt wo) (m : Int) : DB (n + 1) (hr C K (gth V (gnv lt fr tt wo m) F) p) :=
  hr_DB (gth_DB h hV hW m) (by rw [gth_self (by omega)]; exact h.2.1.2) hC
theorem m_hr {n : Nat} {μ : Mem} {C V : Nat} {K lt fr tt wo F : Nat → Int} (hY : YM μ C K) (hV : VM μ V lt fr tt wo) (hF : DB n F) (hn : n < 1000) (hd : ∀ i : Nat, i < 16 → μ 73 i = F i) (p : Nat → Bool) :
    ∃ μ' : Mem, f_X10_goHour μ (msk C p : Nat) = some (stp C K F p, μ') ∧ FH μ μ' ∧ (∀ i : Nat, i < 16 → μ' 73 i = hr C K (gth V (gnv lt fr tt wo (F 0)) F) p i) ∧ μ' 67 35 = (msk C (pld K F p) : Nat) ∧ μ' 67 36 = (msk C (fun i => pld K F p i && frl K F i) : Nat) := by
  have hC := hY.1
  have g := m_hour (μ := μ) (a := μ 67 35) (b := μ 67 36) hY hV (hF.fb (by omega)) ((gth_DB hF hV.1 hV.2.2.2 (F 0)).fb (by omega)) p
  have hE : E12 (gth V (gnv lt fr tt wo (F 0)) F) F := E12.gth E12.rf
  rw [← dm_at hd, e_stp hC hE, e_lur hC hE, msk_cg (p := pld K (gth V (gnv lt fr tt wo (F 0)) F) p) (q := pld K F p) (fun i hi => e_pld hE (by omega))] at g
  refine ⟨_, g, ⟨fun k h1 h2 => dm_o h1 h2, fun q h1 h2 => dm_7 h1 h2⟩, fun i hi => dm_f hi, dm_a, dm_b⟩
/-! the days of a row of sets: without gains (class), with them (reference) -/
def xq (C : Nat) (K : Nat → Int) (s : Nat → Nat → Bool) (F : Nat → Int) : Nat → Nat → Int
  | 0 => F
  | k + 1 => hr C K (xq C K s F k) (s k)
def mq (C V : Nat) (K : Nat → Int) (g : Int → Nat → Int) (s : Nat → Nat → Bool) (F : Nat → Int) : Nat → Nat → Int
  | 0 => F
  | k + 1 => hr C K (gth V (g (mq C V K g s F k 0)) (mq C V K g s F k)) (s k)
theorem xq_DB {n C : Nat} {K F : Nat → Int} {s : Nat → Nat → Bool} (h : DB n F) (hC : C ≤ 5) (k : Nat) : DB (n + k) (xq C K s F k) := by
  induction k with
  | zero => exact h
  | succ k ih => exact hrx_DB ih hC
theorem mq_DB {n C V : Nat} {K F lt fr tt wo : Nat → Int} {s : Nat → Nat → Bool} (h : DB n F) (hC : C ≤ 5) (hV : V ≤ 4) (hW : VB lt fr tt wo) (k : Nat) : DB (n + k) (mq C V K (gnv lt fr tt wo) s F k) := by
  induction k with
  | zero => exact h
  | succ k ih => exact hrm_DB ih hC hV hW _
theorem mq_xq {C V : Nat} {K F : Nat → Int} {g : Int → Nat → Int} {s : Nat → Nat → Bool} (hC : C ≤ 5) (k : Nat) : E12 (mq C V K g s F k) (xq C K s F k) := by
  induction k with
  | zero => exact E12.rf
  | succ k ih => exact e_hr hC (E12.gth ih)
def sg : Nat → (Nat → Int) → Int
  | 0, _ => 0
  | v + 1, f => sg v f + f v
theorem sg_cg {V : Nat} {f g : Nat → Int} (h : ∀ v, v < V → f v = g v) : sg V f = sg V g := by
  induction V with
  | zero => rfl
  | succ V ih => rw [sg, sg, ih (fun v hv => h v (by omega)), h V (by omega)]
theorem sg_add {V : Nat} {f g : Nat → Int} : sg V (fun v => f v + g v) = sg V f + sg V g := by
  induction V with
  | zero => rfl
  | succ V ih => rw [sg, sg, sg, ih]; omega
theorem sg_b {V : Nat} {f : Nat → Int} {b : Int} (h : ∀ v, v < V → 0 ≤ f v ∧ f v ≤ b) : 0 ≤ sg V f ∧ sg V f ≤ b * V := by
  induction V with
  | zero => simp [sg]
  | succ V ih =>
    have h1 := ih (fun v hv => h v (by omega))
    have h2 := h V (by omega)
    have h3 : b * ((V + 1 : Nat) : Int) = b * (V : Int) + b := by rw [show ((V + 1 : Nat) : Int) = (V : Int) + 1 by omega, Int.mul_add, Int.mul_one]
    rw [sg, h3]
    omega
/-- what a row of sets gains -/
def tg (C V : Nat) (K : Nat → Int) (g : Int → Nat → Int) (s : Nat → Nat → Bool) (F : Nat → Int) : Nat → Int
  | 0 => 0
  | k + 1 => tg C V K g s F k + sg V (g (xq C K s F k 0))
theorem mq_gain {C V : Nat} {K F : Nat → Int} {g : Int → Nat → Int} {s : Nat → Nat → Bool} (hC : C ≤ 5) (k : Nat) {v : Nat} (hv : v < V) : mq C V K g s F (k + 1) (12 + v) = mq C V K g s F k (12 + v) + g (xq C K s F k 0) v := by
  show hr C K (gth V (g (mq C V K g s F k 0)) (mq C V K g s F k)) (s k) (12 + v) = _
  rw [hr_g hC, gth, if_pos (by omega), show 12 + v - 12 = v by omega, mq_xq hC k 0 (by omega)]
theorem mq_sum {C V : Nat} {K F : Nat → Int} {g : Int → Nat → Int} {s : Nat → Nat → Bool} (hC : C ≤ 5) (k : Nat) : sg V (fun v => mq C V K g s F k (12 + v)) = sg V (fun v => F (12 + v)) + tg C V K g s F k := by
  induction k with
  | zero => show sg V (fun v => F (12 + v)) = _ + 0; omega
  | succ k ih =>
    rw [sg_cg (g := fun v => mq C V K g s F k (12 + v) + g (xq C K s F k 0) v) (fun v hv => mq_gain hC k hv), sg_add, ih]
    show _ = _ + (tg C V K g s F k + sg V (g (xq C K s F k 0)))
    omega
theorem x_gall_loop {μ : Mem} {V : Nat} {lt fr tt wo : Nat → Int} {m : Int} (h : VX μ V lt fr tt wo) (hm : 0 ≤ m ∧ m ≤ 1000) : ∀ (d u i : Nat), i + d = V → d < u → f_X8_gainOfAll_L4 m u (sg i (gnv lt fr tt wo m)) (i : Int) μ = some (sg V (gnv lt fr tt wo m), μ) := by
  have hV := h.1
  intro d
  induction d with
  | zero =>
    intro u i hi hu
    obtain ⟨u, rfl⟩ : ∃ v, u = v + 1 := ⟨u - 1, by omega⟩
    rw [f_X8_gainOfAll_L4, h.2.1, w32_nat (by omega), w32_nat (by omega), if_neg (by omega), show i = V by omega]
  | succ d ih =>
    intro u i hi hu
    obtain ⟨u, rfl⟩ : ∃ v, u = v + 1 := ⟨u - 1, by omega⟩
    have hi' := ih u (i + 1) (by omega) (by omega)
    rw [show ((i + 1 : Nat) : Int) = (i : Int) + 1 by omega] at hi'
    rw [f_X8_gainOfAll_L4, h.2.1, w32_nat (by omega), w32_nat (by omega), if_pos (by omega), x_gain h (by omega) hm, bd_some, vl]
    exact hi'
theorem x_gall {μ : Mem} {V : Nat} {lt fr tt wo : Nat → Int} {m : Int} (h : VX μ V lt fr tt wo) (hm : 0 ≤ m ∧ m ≤ 1000) : f_X8_gainOfAll μ m = some (sg V (gnv lt fr tt wo m), μ) := by
  have hl := x_gall_loop h hm V 100000 0 (by omega) (by have := h.1; omega)
  rw [Int.natCast_zero] at hl
  rw [f_X8_gainOfAll]
  exact hl
theorem m_gnow_loop {μ : Mem} {V : Nat} (hV : V ≤ 4) (h : μ 67 1 = (V : Int)) : ∀ (d u i : Nat), i + d = V → d < u → f_X10_gainsNow_L4 u (sg i (fun v => μ 73 (12 + v))) (i : Int) μ = some (sg V (fun v => μ 73 (12 + v)), μ) := by
  intro d
  induction d with
  | zero =>
    intro u i hi hu
    obtain ⟨u, rfl⟩ : ∃ v, u = v + 1 := ⟨u - 1, by omega⟩
    rw [f_X10_gainsNow_L4, h, w32_nat (by omega), w32_nat (by omega), if_neg (by omega), show i = V by omega]
  | succ d ih =>
    intro u i hi hu
    obtain ⟨u, rfl⟩ : ∃ v, u = v + 1 := ⟨u - 1, by omega⟩
    have hi' := ih u (i + 1) (by omega) (by omega)
    rw [show ((i + 1 : Nat) : Int) = (i : Int) + 1 by omega] at hi'
    rw [f_X10_gainsNow_L4, h, w32_nat (by omega), w32_nat (by omega), if_pos (by omega), ck_ok (by omega) (by omega) (by omega), vl, w32_id (a := 12 + (i : Int)) (by omega) (by omega), show (12 + (i : Int)).toNat = 12 + i by omega]
    exact hi'
theorem m_gnow {μ : Mem} {V : Nat} (hV : V ≤ 4) (h : μ 67 1 = (V : Int)) : f_X10_gainsNow μ = some (sg V (fun v => μ 73 (12 + v)), μ) := by
  have hl := m_gnow_loop hV h V 100000 0 (by omega) (by omega)
  rw [Int.natCast_zero] at hl
  rw [f_X10_gainsNow]
  exact hl
theorem m_save_loop : ∀ (m u i : Nat) (μ : Mem), i + m = 16 → m < u → f_X10_save_L2 u (i : Int) μ = some ((), cpy μ 73 92 i i m) := by
  intro m
  induction m with
  | zero =>
    intro u i μ hi hu
    obtain ⟨u, rfl⟩ : ∃ v, u = v + 1 := ⟨u - 1, by omega⟩
    rw [f_X10_save_L2, w32_nat (by omega), w32_id (a := 16) (by omega) (by omega), if_neg (by omega), cpy_none]
  | succ m ih =>
    intro u i μ hi hu
    obtain ⟨u, rfl⟩ : ∃ v, u = v + 1 := ⟨u - 1, by omega⟩
    have hi' := ih u (i + 1) (wr μ 92 i (μ 73 i)) (by omega) (by omega)
    rw [show ((i + 1 : Nat) : Int) = (i : Int) + 1 by omega, cpy_step (by omega)] at hi'
    rw [f_X10_save_L2, w32_nat (by omega), w32_id (a := 16) (by omega) (by omega), if_pos (by omega), ck_ok (by omega) (by omega) (by omega), ck_ok (by omega) (by omega) (by omega), vm, Int.toNat_natCast]
    exact hi'
theorem m_save (μ : Mem) : f_X10_save μ = some ((), cpy μ 73 92 0 0 16) := by
  have hl := m_save_loop 16 100000 0 μ (by omega) (by omega)
  rw [Int.natCast_zero] at hl
  rw [f_X10_save]
  exact hl
theorem m_back_loop : ∀ (m u i : Nat) (μ : Mem), i + m = 16 → m < u → f_X10_putBack_L2 u (i : Int) μ = some ((), cpy μ 92 73 i i m) := by
  intro m
  induction m with
  | zero =>
    intro u i μ hi hu
    obtain ⟨u, rfl⟩ : ∃ v, u = v + 1 := ⟨u - 1, by omega⟩
    rw [f_X10_putBack_L2, w32_nat (by omega), w32_id (a := 16) (by omega) (by omega), if_neg (by omega), cpy_none]
  | succ m ih =>
    intro u i μ hi hu
    obtain ⟨u, rfl⟩ : ∃ v, u = v + 1 := ⟨u - 1, by omega⟩
    have hi' := ih u (i + 1) (wr μ 73 i (μ 92 i)) (by omega) (by omega)
    rw [show ((i + 1 : Nat) : Int) = (i : Int) + 1 by omega, cpy_step (by omega)] at hi'
    rw [f_X10_putBack_L2, w32_nat (by omega), w32_id (a := 16) (by omega) (by omega), if_pos (by omega), ck_ok (by omega) (by omega) (by omega), ck_ok (by omega) (by omega) (by omega), vm, Int.toNat_natCast]
    exact hi'
theorem m_back (μ : Mem) : f_X10_putBack μ = some ((), cpy μ 92 73 0 0 16) := by
  have hl := m_back_loop 16 100000 0 μ (by omega) (by omega)
  rw [Int.natCast_zero] at hl
  rw [f_X10_putBack]
  exact hl
