/-! the reference reads -/
def FP (μ μ' : Mem) : Prop := (∀ k : Nat, k ≠ 67 → ¬ (85 ≤ k ∧ k < 92) → μ' k = μ k) ∧ ∀ p : Nat, ¬ (24 ≤ p ∧ p < 28) → μ' 67 p = μ 67 p
theorem FP.rf {μ : Mem} : FP μ μ := ⟨fun _ _ _ => rfl, fun _ _ => rfl⟩
theorem FP.tr {μ μ' μ'' : Mem} (h : FP μ μ') (h' : FP μ' μ'') : FP μ μ'' := ⟨fun k h1 h2 => (h'.1 k h1 h2).trans (h.1 k h1 h2), fun p hp => (h'.2 p hp).trans (h.2 p hp)⟩
theorem FP.fm {μ μ' : Mem} (h : FP μ μ') : FM μ μ' := ⟨fun k hk => h.1 k (by omega) (by omega), fun p hp => h.2 p (by omega)⟩
theorem FP.w7 {μ μ' : Mem} {p : Nat} {z : Int} (h : FP μ μ') (hp : 24 ≤ p ∧ p < 28) : FP μ (wr μ' 67 p z) :=
  ⟨fun k h1 h2 => by rw [wr_cell h1]; exact h.1 k h1 h2, fun q hq => by rw [wr_ne (by omega)]; exact h.2 q hq⟩
theorem FP.w8 {μ μ' : Mem} {k p : Nat} {z : Int} (h : FP μ μ') (hk : 85 ≤ k ∧ k < 92) : FP μ (wr μ' k p z) :=
  ⟨fun j h1 h2 => by rw [wr_cell (by omega)]; exact h.1 j h1 h2, fun q hq => by rw [wr_cell (by omega)]; exact h.2 q hq⟩
def TM (μ : Mem) (t S : Nat) (B : Nat → Int) : Prop := t < 4 ∧ S ≤ 60 ∧ μ 78 t = (S : Int) ∧ ∀ i : Nat, i < S → μ 79 (60 * t + i) = B i ∧ inR (B i)
theorem TM.fp {μ μ' : Mem} {t S : Nat} {B : Nat → Int} (h : TM μ t S B) (e : FP μ μ') : TM μ' t S B := by
  obtain ⟨h1, h2, h3, h4⟩ := h
  refine ⟨h1, h2, ?_, fun i hi => ?_⟩
  · rw [e.1 78 (by omega) (by omega)]; exact h3
  · rw [e.1 79 (by omega) (by omega)]; exact h4 i hi
def rdz (B : Nat → Int) (S a : Nat) : Int := if a < S then B a else -1000
theorem m_byte {μ : Mem} {t S a : Nat} {B : Nat → Int} (h : TM μ t S B) (h24 : μ 67 24 = (a : Int)) (ha : a < 100) : f_X10_byteOf μ (t : Int) = some (rdz B S a, μ) ∧ inR (rdz B S a) := by
  obtain ⟨h1, h2, h3, h4⟩ := h
  unfold rdz
  by_cases c : a < S
  · obtain ⟨e1, e2⟩ := h4 a c
    rw [if_pos c]
    refine ⟨?_, e2⟩
    rw [f_X10_byteOf, ck_ok (by omega) (by omega) (by omega), w32_nat (i := t) (by omega), Int.toNat_natCast, h24, h3, w32_nat (i := a) (by omega), w32_nat (i := S) (by omega), if_pos (by omega), ck_ok (by omega) (by omega) (by omega), w32_id (a := 60 * (t : Int) + (a : Int)) (by omega) (by omega), show (60 * (t : Int) + (a : Int)).toNat = 60 * t + a by omega, e1]
  · rw [if_neg c]
    refine ⟨?_, ⟨by omega, by omega⟩⟩
    rw [f_X10_byteOf, ck_ok (by omega) (by omega) (by omega), w32_nat (i := t) (by omega), Int.toNat_natCast, h24, h3, w32_nat (i := a) (by omega), w32_nat (i := S) (by omega), if_neg (by omega)]
theorem fgr_in {B : Nat → Int} {S a : Nat} {lo hi : Int} (h1 : 0 ≤ lo) (h2 : hi ≤ 9) : ((48 + lo ≤ rdz B S a ∧ rdz B S a ≤ 48 + hi) ↔ (lo ≤ fgr B S a ∧ fgr B S a ≤ hi)) ∧ ((lo ≤ fgr B S a ∧ fgr B S a ≤ hi) → rdz B S a - 48 = fgr B S a) := by
  unfold rdz fgr
  by_cases c : a < S
  · rw [if_pos c, if_pos c]
    by_cases c1 : B a - 48 < 0
    · rw [if_pos c1]
      exact ⟨⟨fun _ => by omega, fun _ => by omega⟩, fun _ => by omega⟩
    · rw [if_neg c1]
      by_cases c2 : 9 < B a - 48
      · rw [if_pos c2]
        exact ⟨⟨fun _ => by omega, fun _ => by omega⟩, fun _ => by omega⟩
      · rw [if_neg c2]
        exact ⟨⟨fun _ => by omega, fun _ => by omega⟩, fun _ => rfl⟩
  · rw [if_neg c, if_neg c]
    exact ⟨⟨fun _ => by omega, fun _ => by omega⟩, fun _ => by omega⟩
theorem m_fig {μ : Mem} {t S a : Nat} {B : Nat → Int} {lo hi : Int} (h : TM μ t S B) (h24 : μ 67 24 = (a : Int)) (ha : a < 100) (h25 : μ 67 25 = -1) (h1 : 0 ≤ lo ∧ lo ≤ 9) (h2 : 0 ≤ hi ∧ hi ≤ 9) :
    f_X10_figure μ (t : Int) lo hi = if lo ≤ fgr B S a ∧ fgr B S a ≤ hi then some (fgr B S a, wr μ 67 24 ((a + 1 : Nat) : Int)) else some (0, wr μ 67 25 (a : Int)) := by
  obtain ⟨b1, b2⟩ := m_byte h h24 ha
  obtain ⟨i1, i2⟩ := fgr_in (B := B) (S := S) (a := a) h1.1 h2.2
  rw [f_X10_figure, b1, bd_some, h25, if_pos (by decide +kernel), b2.w, w32_id (a := 48 + lo) (by omega) (by omega), w32_id (a := 48 + hi) (by omega) (by omega), m_in b2 ⟨by omega, by omega⟩ ⟨by omega, by omega⟩, bd_some, ite_w, h24, vm, vm]
  by_cases c : lo ≤ fgr B S a ∧ fgr B S a ≤ hi
  · rw [if_pos c, if_pos (i1.mpr c), i2 c, show (a : Int) + 1 = ((a + 1 : Nat) : Int) by omega]
  · rw [if_neg c, if_neg (fun z => c (i1.mp z))]
theorem m_fig0 {μ : Mem} {t S a p : Nat} {B : Nat → Int} {lo hi : Int} (h : TM μ t S B) (h24 : μ 67 24 = (a : Int)) (ha : a < 100) (h25 : μ 67 25 = (p : Int)) (hp : p < 200) : f_X10_figure μ (t : Int) lo hi = some (0, μ) := by
  obtain ⟨b1, b2⟩ := m_byte h h24 ha
  rw [f_X10_figure, b1, bd_some, h25, w32_nat (by omega), if_neg (by omega)]
theorem m_kind {μ : Mem} {c : Int} (hc : inR c) : f_X10_kindOf μ c = some (if kz c = -9 then -1 else kz c, μ) := by
  rw [f_X10_kindOf, vl, hc.w, w32_id (a := 99) (by omega) (by omega), w32_id (a := 104) (by omega) (by omega), w32_id (a := 115) (by omega) (by omega), w32_id (a := 110) (by omega) (by omega), w32_id (a := 108) (by omega) (by omega), w32_id (a := 103) (by omega) (by omega)]
  congr 2
  unfold kz
  by_cases c0 : c = 99
  · simp [c0]
  by_cases c1 : c = 104
  · simp [c1]
  by_cases c2 : c = 115
  · simp [c2]
  by_cases c3 : c = 110
  · simp [c3]
  by_cases c4 : c = 108
  · simp [c4]
  by_cases c5 : c = 103
  · simp [c5]
  simp [c0, c1, c2, c3, c4, c5]
def MR (μ : Mem) (n v : Nat) (c w : Nat → Int) : Prop := μ 67 26 = (n : Int) ∧ μ 67 27 = (v : Int) ∧ (∀ j : Nat, j < n → μ 85 j = c (3 * j) ∧ μ 86 j = c (3 * j + 1) ∧ μ 87 j = c (3 * j + 2)) ∧ ∀ j : Nat, j < v → μ 88 j = w (4 * j) ∧ μ 89 j = w (4 * j + 1) ∧ μ 90 j = w (4 * j + 2) ∧ μ 91 j = w (4 * j + 3)
theorem upC_0 {B : Nat → Int} {S a n : Nat} {c : Nat → Int} : upC B S a n c (3 * n) = kz (B a) ∧ upC B S a n c (3 * n + 1) = fgr B S (a + 1) ∧ upC B S a n c (3 * n + 2) = fgr B S (a + 2) ∧ ∀ q : Nat, q < 3 * n → upC B S a n c q = c q := by
  unfold upC
  refine ⟨by rw [up_ne (by omega), up_ne (by omega), up_eq], by rw [up_ne (by omega), up_eq], up_eq, fun q hq => by rw [up_ne (by omega), up_ne (by omega), up_ne (by omega)]⟩
theorem upW_0 {B : Nat → Int} {S a v : Nat} {w : Nat → Int} : upW B S a v w (4 * v) = (if B a = 118 then 1 else 0) ∧ upW B S a v w (4 * v + 1) = fgr B S (a + 1) ∧ upW B S a v w (4 * v + 2) = fgr B S (a + 2) ∧ upW B S a v w (4 * v + 3) = fgr B S (a + 3) ∧ ∀ q : Nat, q < 4 * v → upW B S a v w q = w q := by
  unfold upW
  refine ⟨by rw [up_ne (by omega), up_ne (by omega), up_ne (by omega), up_eq], by rw [up_ne (by omega), up_ne (by omega), up_eq], by rw [up_ne (by omega), up_eq], up_eq, fun q hq => by rw [up_ne (by omega), up_ne (by omega), up_ne (by omega), up_ne (by omega)]⟩
theorem m_one {μ : Mem} {t S a n v : Nat} {B c w : Nat → Int} (h : TM μ t S B) (h24 : μ 67 24 = (a : Int)) (ha : a < S) (h25 : μ 67 25 = -1) (hm : MR μ n v c w) (hn : n ≤ 5) (hv : v ≤ 4) :
    ∃ μ' : Mem, f_X10_readOne μ (t : Int) = some ((), μ') ∧ FP μ μ' ∧ (∀ p : Nat, sF B S a n v = some p → μ' 67 25 = (p : Int) ∧ ∃ a' : Nat, a' < 100 ∧ μ' 67 24 = (a' : Int)) ∧ (sF B S a n v = none → μ' 67 25 = -1 ∧ (kz (B a) = -9 → μ' 67 24 = ((a + 4 : Nat) : Int) ∧ MR μ' n (v + 1) c (upW B S a v w)) ∧ (kz (B a) ≠ -9 → μ' 67 24 = ((a + 3 : Nat) : Int) ∧ MR μ' (n + 1) v (upC B S a n c) w)) := by
  obtain ⟨m1, m2, m3, m4⟩ := hm
  have hS := h.2.1
  obtain ⟨b1, b2⟩ := m_byte h h24 (by omega)
  have hrd : rdz B S a = B a := by unfold rdz; rw [if_pos ha]
  rw [hrd] at b1 b2
  have g1 := fgr_b B S (a + 1)
  have g2 := fgr_b B S (a + 2)
  have g3 := fgr_b B S (a + 3)
  have hkb := kz_b (B a)
  have w4' : w32 4 = 4 := by decide +kernel
  have w5' : w32 5 = 5 := by decide +kernel
  have wv := w32_id (a := 118) (by omega) (by omega)
  have wd := w32_id (a := 100) (by omega) (by omega)
  rw [f_X10_readOne, b1, bd_some, m_kind b2, bd_some, m1, m2, w32_nat (i := n) (by omega), w32_nat (i := v) (by omega), w4', w5', b2.w, wv, wd, h24]
  by_cases hk : kz (B a) = -9
  · -- a valley, or none
    have hsF : sF B S a n v = if (B a = 118 ∨ B a = 100) ∧ 0 < n ∧ v < 4 then (if 0 ≤ fgr B S (a + 1) ∧ fgr B S (a + 1) ≤ 7 then (if fgr B S (a + 1) ≤ fgr B S (a + 2) ∧ fgr B S (a + 2) ≤ 7 then (if 1 ≤ fgr B S (a + 3) then none else some (a + 3)) else some (a + 2)) else some (a + 1)) else some a := by
      unfold sF; rw [if_pos hk]
    rw [if_pos hk, show w32 (-1) = -1 by decide +kernel, if_pos (show (-1 : Int) < 0 by omega), vl]
    have e7 : (if B a = 118 then (if (0 : Int) < (n : Int) then (if (v : Int) < 4 then (1 : Int) else 0) else 0) else (if B a = 100 then (if (0 : Int) < (n : Int) then (if (v : Int) < 4 then 1 else 0) else 0) else 0)) = if (B a = 118 ∨ B a = 100) ∧ 0 < n ∧ v < 4 then 1 else 0 := by
      by_cases d1 : 0 < n
      · by_cases d2 : v < 4
        · rw [if_pos (show (0 : Int) < (n : Int) by omega), if_pos (show (v : Int) < 4 by omega)]
          by_cases d3 : B a = 118
          · rw [if_pos d3, if_pos ⟨Or.inl d3, d1, d2⟩]
          · rw [if_neg d3]
            by_cases d4 : B a = 100
            · rw [if_pos d4, if_pos ⟨Or.inr d4, d1, d2⟩]
            · rw [if_neg d4, if_neg (fun z => z.1.elim d3 d4)]
        · rw [if_pos (show (0 : Int) < (n : Int) by omega), if_neg (show ¬ (v : Int) < 4 by omega), if_neg (show ¬ ((B a = 118 ∨ B a = 100) ∧ 0 < n ∧ v < 4) from fun z => d2 z.2.2)]
          split <;> (try split) <;> rfl
      · rw [if_neg (show ¬ (0 : Int) < (n : Int) by omega), if_neg (show ¬ ((B a = 118 ∨ B a = 100) ∧ 0 < n ∧ v < 4) from fun z => d1 z.2.1)]
        split <;> (try split) <;> rfl
    rw [e7, vl, jn, if_pos w0]
    by_cases c0 : (B a = 118 ∨ B a = 100) ∧ 0 < n ∧ v < 4
    · rw [if_pos c0, if_neg w1ne]
      rw [if_pos c0] at hsF
      dsimp only
      rw [vm, if_pos w0, vl, wr_ne (p := 24) (q := 27) (by omega), m2, vl, ck_ok (by omega) (by omega) (by omega), vm, w32_nat (i := v) (by omega), Int.toNat_natCast, h24, show (a : Int) + 1 = ((a + 1 : Nat) : Int) by omega]
      have q1 : FP μ (wr (wr μ 67 24 ((a + 1 : Nat) : Int)) 88 v (if B a = 118 then 1 else 0)) := (FP.rf.w7 (by omega)).w8 (by omega)
      rw [m_fig (a := a + 1) (h.fp q1) (by rw [wr_cell (by omega), wr_eq]) (by omega) (by rw [wr_cell (by omega), wr_ne (by omega)]; exact h25) ⟨by omega, by omega⟩ ⟨by omega, by omega⟩]
      by_cases c1 : 0 ≤ fgr B S (a + 1) ∧ fgr B S (a + 1) ≤ 7
      · rw [if_pos c1] at hsF
        rw [if_pos c1, bd_some, ck_ok (by omega) (by omega) (by omega), vm, ck_ok (by omega) (by omega) (by omega), wr_eq]
        have q2 : FP μ (wr (wr (wr (wr μ 67 24 ((a + 1 : Nat) : Int)) 88 v (if B a = 118 then 1 else 0)) 67 24 ((a + 1 + 1 : Nat) : Int)) 89 v (fgr B S (a + 1))) := (q1.w7 (by omega)).w8 (by omega)
        rw [m_fig (a := a + 1 + 1) (h.fp q2) (by rw [wr_cell (by omega), wr_eq]) (by omega) (by rw [wr_cell (by omega), wr_ne (by omega), wr_cell (by omega), wr_ne (by omega)]; exact h25) ⟨by omega, by omega⟩ ⟨by omega, by omega⟩, show a + 1 + 1 = a + 2 from rfl]
        by_cases c2 : fgr B S (a + 1) ≤ fgr B S (a + 2) ∧ fgr B S (a + 2) ≤ 7
        · rw [if_pos c2] at hsF
          rw [if_pos c2, bd_some, ck_ok (by omega) (by omega) (by omega), vm]
          have q3 : FP μ (wr (wr (wr (wr (wr (wr μ 67 24 ((a + 1 : Nat) : Int)) 88 v (if B a = 118 then 1 else 0)) 67 24 ((a + 2 : Nat) : Int)) 89 v (fgr B S (a + 1))) 67 24 ((a + 2 + 1 : Nat) : Int)) 90 v (fgr B S (a + 2))) := (q2.w7 (by omega)).w8 (by omega)
          rw [m_fig (a := a + 2 + 1) (h.fp q3) (by rw [wr_cell (by omega), wr_eq]) (by omega) (by rw [wr_cell (by omega), wr_ne (by omega), wr_cell (by omega), wr_ne (by omega), wr_cell (by omega), wr_ne (by omega)]; exact h25) ⟨by omega, by omega⟩ ⟨by omega, by omega⟩, show a + 2 + 1 = a + 3 from rfl]
          by_cases c3 : 1 ≤ fgr B S (a + 3)
          · rw [if_pos c3] at hsF
            rw [if_pos (show 1 ≤ fgr B S (a + 3) ∧ fgr B S (a + 3) ≤ 9 by omega), bd_some, ck_ok (by omega) (by omega) (by omega), vm, vm]
            have q4 := ((q3.w7 (p := 24) (z := ((a + 3 + 1 : Nat) : Int)) (by omega)).w8 (k := 91) (p := v) (z := fgr B S (a + 3)) (by omega))
            refine ⟨_, rfl, q4.w7 (by omega), fun p hp => by rw [hsF] at hp; simp at hp, fun _ => ⟨?_, fun _ => ⟨?_, ?_, ?_, fun j hj => ?_, fun j hj => ?_⟩, fun hh => absurd hk hh⟩⟩
            · simp (disch := omega) only [wr_ne]; exact h25
            · rw [wr_ne (by omega), wr_cell (by omega), wr_eq]
            · simp (disch := omega) only [wr_ne]; exact m1
            · rw [wr_eq]; simp (disch := omega) only [wr_ne]; rw [m2]; omega
            · simp (disch := omega) only [wr_ne]; exact m3 j hj
            · obtain ⟨u0, u1, u2, u3, u4⟩ := upW_0 (B := B) (S := S) (a := a) (v := v) (w := w)
              by_cases e : j = v
              · subst e
                rw [u0, u1, u2, u3]
                refine ⟨?_, ?_, ?_, ?_⟩
                · simp (disch := omega) only [wr_ne, wr_eq]
                · simp (disch := omega) only [wr_ne, wr_eq]
                · simp (disch := omega) only [wr_ne, wr_eq]
                · rw [wr_cell (by omega), wr_eq]
              · rw [u4 _ (by omega), u4 _ (by omega), u4 _ (by omega), u4 _ (by omega)]
                simp (disch := omega) only [wr_ne]
                exact m4 j (by omega)
          · rw [if_neg c3] at hsF
            rw [if_neg (show ¬ (1 ≤ fgr B S (a + 3) ∧ fgr B S (a + 3) ≤ 9) by omega), bd_some, ck_ok (by omega) (by omega) (by omega), vm, vm]
            refine ⟨_, rfl, ((q3.w7 (by omega)).w8 (by omega)).w7 (by omega), fun p hp => ?_, fun hp => by rw [hsF] at hp; simp at hp⟩
            rw [hsF] at hp
            have := Option.some.inj hp
            subst this
            refine ⟨by rw [wr_ne (by omega), wr_cell (by omega), wr_eq], a + 3, by omega, ?_⟩
            rw [wr_ne (by omega), wr_cell (by omega), wr_ne (by omega), wr_cell (by omega), wr_eq]
        · rw [if_neg c2] at hsF
          rw [if_neg c2, bd_some, ck_ok (by omega) (by omega) (by omega), vm]
          have q3 : FP μ (wr (wr (wr (wr (wr (wr μ 67 24 ((a + 1 : Nat) : Int)) 88 v (if B a = 118 then 1 else 0)) 67 24 ((a + 2 : Nat) : Int)) 89 v (fgr B S (a + 1))) 67 25 ((a + 2 : Nat) : Int)) 90 v 0) := (q2.w7 (by omega)).w8 (by omega)
          have q24 : wr (wr (wr (wr (wr (wr μ 67 24 ((a + 1 : Nat) : Int)) 88 v (if B a = 118 then 1 else 0)) 67 24 ((a + 2 : Nat) : Int)) 89 v (fgr B S (a + 1))) 67 25 ((a + 2 : Nat) : Int)) 90 v 0 67 24 = ((a + 2 : Nat) : Int) := by rw [wr_cell (by omega), wr_ne (by omega), wr_cell (by omega), wr_eq]
          have q25 : wr (wr (wr (wr (wr (wr μ 67 24 ((a + 1 : Nat) : Int)) 88 v (if B a = 118 then 1 else 0)) 67 24 ((a + 2 : Nat) : Int)) 89 v (fgr B S (a + 1))) 67 25 ((a + 2 : Nat) : Int)) 90 v 0 67 25 = ((a + 2 : Nat) : Int) := by rw [wr_cell (by omega), wr_eq]
          rw [m_fig0 (h.fp q3) q24 (by omega) q25 (by omega), bd_some, ck_ok (by omega) (by omega) (by omega), vm, vm]
          refine ⟨_, rfl, (q3.w8 (by omega)).w7 (by omega), fun p hp => ?_, fun hp => by rw [hsF] at hp; simp at hp⟩
          rw [hsF] at hp
          have := Option.some.inj hp
          subst this
          exact ⟨by rw [wr_ne (by omega), wr_cell (by omega)]; exact q25, a + 2, by omega, by rw [wr_ne (by omega), wr_cell (by omega)]; exact q24⟩
      · rw [if_neg c1] at hsF
        rw [if_neg c1, bd_some, ck_ok (by omega) (by omega) (by omega), vm, ck_ok (by omega) (by omega) (by omega), wr_eq]
        have q2 : FP μ (wr (wr (wr (wr μ 67 24 ((a + 1 : Nat) : Int)) 88 v (if B a = 118 then 1 else 0)) 67 25 ((a + 1 : Nat) : Int)) 89 v 0) := (q1.w7 (by omega)).w8 (by omega)
        have q24 : wr (wr (wr (wr μ 67 24 ((a + 1 : Nat) : Int)) 88 v (if B a = 118 then 1 else 0)) 67 25 ((a + 1 : Nat) : Int)) 89 v 0 67 24 = ((a + 1 : Nat) : Int) := by rw [wr_cell (by omega), wr_ne (by omega), wr_cell (by omega), wr_eq]
        have q25 : wr (wr (wr (wr μ 67 24 ((a + 1 : Nat) : Int)) 88 v (if B a = 118 then 1 else 0)) 67 25 ((a + 1 : Nat) : Int)) 89 v 0 67 25 = ((a + 1 : Nat) : Int) := by rw [wr_cell (by omega), wr_eq]
        rw [m_fig0 (h.fp q2) q24 (by omega) q25 (by omega), bd_some, ck_ok (by omega) (by omega) (by omega), vm]
        have q3 := q2.w8 (k := 90) (p := v) (z := 0) (by omega)
        rw [m_fig0 (h.fp q3) (by rw [wr_cell (by omega)]; exact q24) (by omega) (by rw [wr_cell (by omega)]; exact q25) (by omega), bd_some, ck_ok (by omega) (by omega) (by omega), vm, vm]
        refine ⟨_, rfl, (q3.w8 (by omega)).w7 (by omega), fun p hp => ?_, fun hp => by rw [hsF] at hp; simp at hp⟩
        rw [hsF] at hp
        have := Option.some.inj hp
        subst this
        exact ⟨by rw [wr_ne (by omega), wr_cell (by omega), wr_cell (by omega)]; exact q25, a + 1, by omega, by rw [wr_ne (by omega), wr_cell (by omega), wr_cell (by omega)]; exact q24⟩
    · rw [if_neg c0, if_pos w0, vm]
      rw [if_neg c0] at hsF
      refine ⟨_, rfl, FP.rf.w7 (by omega), fun p hp => ?_, fun hp => by rw [hsF] at hp; simp at hp⟩
      rw [hsF] at hp
      have := Option.some.inj hp
      subst this
      exact ⟨wr_eq, a, by omega, by rw [wr_ne (by omega)]; exact h24⟩
  · -- a cape
    have hsF : sF B S a n v = if n < 5 ∧ v = 0 then (if fgr B S (a + 1) = -9 then some (a + 1) else if fgr B S (a + 2) = -9 then some (a + 2) else none) else some a := by
      unfold sF; rw [if_neg hk]
    rw [if_neg hk, w32_id (a := kz (B a)) (by omega) (by omega), if_neg (show ¬ kz (B a) < 0 by omega)]
    have e5 : (if (v : Int) = 0 then (if (n : Int) < 5 then (1 : Int) else 0) else 0) = if n < 5 ∧ v = 0 then 1 else 0 := by
      by_cases d1 : v = 0
      · by_cases d2 : n < 5
        · rw [if_pos (by omega), if_pos (by omega), if_pos ⟨d2, d1⟩]
        · rw [if_pos (by omega), if_neg (by omega), if_neg (fun z => d2 z.1)]
      · rw [if_neg (by omega), if_neg (fun z => d1 z.2)]
    have hnv : ¬ (B a = 118 ∨ B a = 100) := by
      intro z
      apply hk
      unfold kz
      rcases z with z | z <;> rw [z] <;> decide
    rw [e5, vl, if_neg (fun z => hnv (Or.inl z)), if_neg (fun z => hnv (Or.inr z)), vl, jn]
    by_cases c0 : n < 5 ∧ v = 0
    · rw [if_pos c0, if_neg w1ne]
      rw [if_pos c0] at hsF
      dsimp only
      rw [vm, if_neg w1ne, wr_ne (p := 24) (q := 26) (by omega), m1, ck_ok (by omega) (by omega) (by omega), vm, w32_nat (i := n) (by omega), Int.toNat_natCast, h24, show (a : Int) + 1 = ((a + 1 : Nat) : Int) by omega]
      have q1 : FP μ (wr (wr μ 67 24 ((a + 1 : Nat) : Int)) 85 n (kz (B a))) := (FP.rf.w7 (by omega)).w8 (by omega)
      have qn : wr (wr μ 67 24 ((a + 1 : Nat) : Int)) 85 n (kz (B a)) 67 26 = (n : Int) := by rw [wr_cell (by omega), wr_ne (by omega)]; exact m1
      rw [m_fig (a := a + 1) (h.fp q1) (by rw [wr_cell (by omega), wr_eq]) (by omega) (by rw [wr_cell (by omega), wr_ne (by omega)]; exact h25) ⟨by omega, by omega⟩ ⟨by omega, by omega⟩, qn]
      by_cases c1 : fgr B S (a + 1) = -9
      · rw [if_pos c1] at hsF
        rw [if_neg (show ¬ (0 ≤ fgr B S (a + 1) ∧ fgr B S (a + 1) ≤ 9) by omega), bd_some, ck_ok (by omega) (by omega) (by omega), vm, w32_nat (i := n) (by omega), Int.toNat_natCast]
        have q2 : FP μ (wr (wr (wr (wr μ 67 24 ((a + 1 : Nat) : Int)) 85 n (kz (B a))) 67 25 ((a + 1 : Nat) : Int)) 86 n 0) := (q1.w7 (by omega)).w8 (by omega)
        have q24 : wr (wr (wr (wr μ 67 24 ((a + 1 : Nat) : Int)) 85 n (kz (B a))) 67 25 ((a + 1 : Nat) : Int)) 86 n 0 67 24 = ((a + 1 : Nat) : Int) := by rw [wr_cell (by omega), wr_ne (by omega), wr_cell (by omega), wr_eq]
        have q25 : wr (wr (wr (wr μ 67 24 ((a + 1 : Nat) : Int)) 85 n (kz (B a))) 67 25 ((a + 1 : Nat) : Int)) 86 n 0 67 25 = ((a + 1 : Nat) : Int) := by rw [wr_cell (by omega), wr_eq]
        have qn2 : wr (wr (wr (wr μ 67 24 ((a + 1 : Nat) : Int)) 85 n (kz (B a))) 67 25 ((a + 1 : Nat) : Int)) 86 n 0 67 26 = (n : Int) := by rw [wr_cell (by omega), wr_ne (by omega)]; exact qn
        rw [m_fig0 (h.fp q2) q24 (by omega) q25 (by omega), bd_some, qn2, ck_ok (by omega) (by omega) (by omega), vm, vm]
        refine ⟨_, rfl, (q2.w8 (by omega)).w7 (by omega), fun p hp => ?_, fun hp => by rw [hsF] at hp; simp at hp⟩
        rw [hsF] at hp
        have := Option.some.inj hp
        subst this
        exact ⟨by rw [wr_ne (by omega), wr_cell (by omega)]; exact q25, a + 1, by omega, by rw [wr_ne (by omega), wr_cell (by omega)]; exact q24⟩
      · rw [if_neg c1] at hsF
        rw [if_pos (show 0 ≤ fgr B S (a + 1) ∧ fgr B S (a + 1) ≤ 9 by omega), bd_some, ck_ok (by omega) (by omega) (by omega), vm, w32_nat (i := n) (by omega), Int.toNat_natCast]
        have q2 : FP μ (wr (wr (wr (wr μ 67 24 ((a + 1 : Nat) : Int)) 85 n (kz (B a))) 67 24 ((a + 1 + 1 : Nat) : Int)) 86 n (fgr B S (a + 1))) := (q1.w7 (by omega)).w8 (by omega)
        have qn2 : wr (wr (wr (wr μ 67 24 ((a + 1 : Nat) : Int)) 85 n (kz (B a))) 67 24 ((a + 1 + 1 : Nat) : Int)) 86 n (fgr B S (a + 1)) 67 26 = (n : Int) := by rw [wr_cell (by omega), wr_ne (by omega)]; exact qn
        rw [m_fig (a := a + 1 + 1) (h.fp q2) (by rw [wr_cell (by omega), wr_eq]) (by omega) (by rw [wr_cell (by omega), wr_ne (by omega), wr_cell (by omega), wr_ne (by omega)]; exact h25) ⟨by omega, by omega⟩ ⟨by omega, by omega⟩, qn2, show a + 1 + 1 = a + 2 from rfl]
        by_cases c2 : fgr B S (a + 2) = -9
        · rw [if_pos c2] at hsF
          rw [if_neg (show ¬ (0 ≤ fgr B S (a + 2) ∧ fgr B S (a + 2) ≤ 9) by omega), bd_some, ck_ok (by omega) (by omega) (by omega), vm, vm]
          refine ⟨_, rfl, ((q2.w7 (by omega)).w8 (by omega)).w7 (by omega), fun p hp => ?_, fun hp => by rw [hsF] at hp; simp at hp⟩
          rw [hsF] at hp
          have := Option.some.inj hp
          subst this
          refine ⟨by rw [wr_ne (by omega), wr_cell (by omega), wr_eq], a + 2, by omega, ?_⟩
          rw [wr_ne (by omega), wr_cell (by omega), wr_ne (by omega), wr_cell (by omega), wr_eq]
        · rw [if_neg c2] at hsF
          rw [if_pos (show 0 ≤ fgr B S (a + 2) ∧ fgr B S (a + 2) ≤ 9 by omega), bd_some, ck_ok (by omega) (by omega) (by omega), vm, w32_nat (i := n) (by omega), Int.toNat_natCast, vm]
          have q4 := ((q2.w7 (p := 24) (z := ((a + 2 + 1 : Nat) : Int)) (by omega)).w8 (k := 87) (p := n) (z := fgr B S (a + 2)) (by omega))
          refine ⟨_, rfl, q4.w7 (by omega), fun p hp => by rw [hsF] at hp; simp at hp, fun _ => ⟨?_, fun hh => absurd hh hk, fun _ => ⟨?_, ?_, ?_, fun j hj => ?_, fun j hj => ?_⟩⟩⟩
          · simp (disch := omega) only [wr_ne]; exact h25
          · rw [wr_ne (by omega), wr_cell (by omega), wr_eq]
          · rw [wr_eq]; simp (disch := omega) only [wr_ne]; rw [m1]; omega
          · simp (disch := omega) only [wr_ne]; exact m2
          · obtain ⟨u0, u1, u2, u3⟩ := upC_0 (B := B) (S := S) (a := a) (n := n) (c := c)
            by_cases e : j = n
            · subst e
              rw [u0, u1, u2]
              refine ⟨?_, ?_, ?_⟩
              · simp (disch := omega) only [wr_ne, wr_eq]
              · simp (disch := omega) only [wr_ne, wr_eq]
              · rw [wr_cell (by omega), wr_eq]
            · rw [u3 _ (by omega), u3 _ (by omega), u3 _ (by omega)]
              simp (disch := omega) only [wr_ne]
              exact m3 j (by omega)
          · simp (disch := omega) only [wr_ne]; exact m4 j hj
    · rw [if_neg c0, if_pos w0, if_pos w0, vm]
      rw [if_neg c0] at hsF
      refine ⟨_, rfl, FP.rf.w7 (by omega), fun p hp => ?_, fun hp => by rw [hsF] at hp; simp at hp⟩
      rw [hsF] at hp
      have := Option.some.inj hp
      subst this
      exact ⟨wr_eq, a, by omega, by rw [wr_ne (by omega)]; exact h24⟩
theorem m_read_loop {Kc : Mem → Option (Unit × Mem)} {μ : Mem} {t S : Nat} {B : Nat → Int} (h : TM μ t S B) : ∀ (f a n v us ul : Nat) (c w : Nat → Int) (μ' : Mem), a ≤ S → S < f + a → f < us → f < ul → ul ≤ 100000 → n ≤ 5 → v ≤ 4 → FP μ μ' → μ' 67 24 = (a : Int) → μ' 67 25 = -1 → MR μ' n v c w →
    ∃ μ'' : Mem, (bd (f_X10_skip_L0 (t : Int) us μ') fun _u m => f_X10_readYear_L25 Kc (t : Int) ul m) = Kc μ'' ∧ FP μ μ'' ∧ (∀ p : Nat, (pa B S f a n v c w).1 = some p → μ'' 67 25 = (p : Int)) ∧ ((pa B S f a n v c w).1 = none → μ'' 67 25 = -1 ∧ MR μ'' (pa B S f a n v c w).2.1 (pa B S f a n v c w).2.2.1 (pa B S f a n v c w).2.2.2.1 (pa B S f a n v c w).2.2.2.2) := by
  have hS := h.2.1
  have ht := h.1
  intro f
  induction f with
  | zero => intro a n v us ul c w μ' ha hf; omega
  | succ f ih =>
    intro a n v us ul c w μ' ha hf hus hul hu1 hn hv hfr h24 h25 hm
    obtain ⟨us, rfl⟩ : ∃ x, us = x + 1 := ⟨us - 1, by omega⟩
    obtain ⟨ul, rfl⟩ : ∃ x, ul = x + 1 := ⟨ul - 1, by omega⟩
    have hT := h.fp hfr
    obtain ⟨b1, b2⟩ := m_byte hT h24 (by omega)
    rw [f_X10_skip_L0, b1, bd_some, b2.w, w32_id (a := 32) (by omega) (by omega), h24, pa]
    by_cases c0 : a < S
    · have hrd : rdz B S a = B a := by unfold rdz; rw [if_pos c0]
      rw [hrd, if_pos c0]
      by_cases c1 : B a = 32
      · rw [if_pos c1, if_pos c1, vm]
        exact ih (a + 1) n v us (ul + 1) c w _ (by omega) (by omega) (by omega) (by omega) (by omega) hn hv (hfr.w7 (by omega)) (by rw [wr_eq]; omega) (by rw [wr_ne (by omega)]; exact h25) (by
          obtain ⟨m1, m2, m3, m4⟩ := hm
          exact ⟨by rw [wr_ne (by omega)]; exact m1, by rw [wr_ne (by omega)]; exact m2, fun j hj => by rw [wr_cell (by omega), wr_cell (by omega), wr_cell (by omega)]; exact m3 j hj, fun j hj => by rw [wr_cell (by omega), wr_cell (by omega), wr_cell (by omega), wr_cell (by omega)]; exact m4 j hj⟩)
      · obtain ⟨μ2, g1, g2, g3, g4⟩ := m_one hT h24 c0 h25 hm hn hv
        rw [if_neg c1, if_neg c1, bd_some, f_X10_readYear_L25, h25, if_pos (by decide +kernel), ck_ok (by omega) (by omega) (by omega), h24, w32_nat (i := a) (by omega), w32_nat (i := t) (by omega), Int.toNat_natCast, hT.2.2.1, w32_nat (i := S) (by omega), if_pos (by omega), g1, bd_some]
        have hf2 := hfr.tr g2
        cases hsf : sF B S a n v with
        | some p =>
          obtain ⟨k1, a', k2, k3⟩ := g3 p hsf
          have hpb := sF_b hsf
          have sk : ∀ (d us a' : Nat) (μ3 : Mem), S < a' + d → d < us → a' < 200 → FP μ μ3 → μ3 67 24 = (a' : Int) → μ3 67 25 = (p : Int) → ∃ μ4 : Mem, f_X10_skip_L0 (t : Int) us μ3 = some ((), μ4) ∧ FP μ μ4 ∧ μ4 67 25 = (p : Int) := by
            intro d
            induction d with
            | zero =>
              intro us a' μ3 hd hus ha' hf3 h3 h3'
              obtain ⟨us, rfl⟩ : ∃ x, us = x + 1 := ⟨us - 1, by omega⟩
              have hT3 := h.fp hf3
              refine ⟨μ3, ?_, hf3, h3'⟩
              rw [f_X10_skip_L0, f_X10_byteOf, ck_ok (by omega) (by omega) (by omega), h3, w32_nat (i := t) (by omega), Int.toNat_natCast, hT3.2.2.1, w32_nat (i := a') (by omega), w32_nat (i := S) (by omega), if_neg (by omega), bd_some, if_neg (by decide +kernel)]
            | succ d ihd =>
              intro us a' μ3 hd hus ha' hf3 h3 h3'
              obtain ⟨us, rfl⟩ : ∃ x, us = x + 1 := ⟨us - 1, by omega⟩
              have hT3 := h.fp hf3
              by_cases e0 : a' < 100
              · obtain ⟨d1, d2⟩ := m_byte hT3 h3 e0
                rw [f_X10_skip_L0, d1, bd_some, d2.w, w32_id (a := 32) (by omega) (by omega), h3]
                by_cases e1 : rdz B S a' = 32
                · rw [if_pos e1, vm]
                  exact ihd us (a' + 1) _ (by omega) (by omega) (by omega) (hf3.w7 (by omega)) (by rw [wr_eq]; omega) (by rw [wr_ne (by omega)]; exact h3')
                · rw [if_neg e1]
                  exact ⟨μ3, rfl, hf3, h3'⟩
              · refine ⟨μ3, ?_, hf3, h3'⟩
                rw [f_X10_skip_L0, f_X10_byteOf, ck_ok (by omega) (by omega) (by omega), h3, w32_nat (i := t) (by omega), Int.toNat_natCast, hT3.2.2.1, w32_nat (i := a') (by omega), w32_nat (i := S) (by omega), if_neg (by omega), bd_some, if_neg (by decide +kernel)]
          obtain ⟨μ4, l1, l2, l3⟩ := sk 61 100000 a' μ2 (by omega) (by omega) (by omega) hf2 k3 k1
          obtain ⟨ul, rfl⟩ : ∃ x, ul = x + 1 := ⟨ul - 1, by omega⟩
          refine ⟨μ4, ?_, l2, fun p' hp' => ?_, fun hh => by simp at hh⟩
          · rw [f_X10_skip, l1, bd_some, f_X10_readYear_L25, l3, w32_nat (i := p) (by omega), if_neg (by omega)]
          · have := Option.some.inj hp'
            subst this
            exact l3
        | none =>
          obtain ⟨k1, k2, k3⟩ := g4 hsf
          rw [f_X10_skip]
          by_cases c2 : kz (B a) = -9
          · obtain ⟨l1, l2⟩ := k2 c2
            obtain ⟨r1, r2, -⟩ := (sF_n hsf).1 c2
            simp only [c2, if_true]
            exact ih (a + 4) n (v + 1) 100000 ul c (upW B S a v w) μ2 (by omega) (by omega) (by omega) (by omega) (by omega) hn (by omega) hf2 l1 k1 l2
          · obtain ⟨l1, l2⟩ := k3 c2
            obtain ⟨r1, r2, -⟩ := (sF_n hsf).2 c2
            simp only [c2, if_false]
            exact ih (a + 3) (n + 1) v 100000 ul (upC B S a n c) w μ2 (by omega) (by omega) (by omega) (by omega) (by omega) (by omega) hv hf2 l1 k1 l2
    · have hrd : rdz B S a = -1000 := by unfold rdz; rw [if_neg c0]
      rw [hrd, if_neg (by omega), if_neg c0, bd_some, f_X10_readYear_L25, h25, if_pos (by decide +kernel), ck_ok (by omega) (by omega) (by omega), h24, w32_nat (i := a) (by omega), w32_nat (i := t) (by omega), Int.toNat_natCast, hT.2.2.1, w32_nat (i := S) (by omega), if_neg (by omega)]
      exact ⟨μ', rfl, hfr, fun p hp => by simp at hp, fun _ => ⟨h25, hm⟩⟩
