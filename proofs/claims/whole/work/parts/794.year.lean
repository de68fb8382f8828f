theorem pa_sp {B : Nat → Int} {S p : Nat} : ∀ (f a n v : Nat) (c w : Nat → Int), (pa B S f a n v c w).1 = some p → a ≤ 60 → S ≤ 60 → p ≤ 200 := by
  intro f
  induction f with
  | zero => intro a n v c w h; simp [pa] at h
  | succ f ih =>
    intro a n v c w h ha hS
    rw [pa] at h
    by_cases c0 : a < S
    · rw [if_pos c0] at h
      by_cases c1 : B a = 32
      · rw [if_pos c1] at h; exact ih _ _ _ _ _ h (by omega) hS
      · rw [if_neg c1] at h
        cases hsf : sF B S a n v with
        | some q =>
          rw [hsf] at h
          have := Option.some.inj h
          have := sF_b hsf
          omega
        | none =>
          rw [hsf] at h
          dsimp only at h
          by_cases c2 : kz (B a) = -9
          · obtain ⟨r1, -⟩ := (sF_n hsf).1 c2
            rw [if_pos c2] at h
            exact ih _ _ _ _ _ h (by omega) hS
          · obtain ⟨r1, -⟩ := (sF_n hsf).2 c2
            rw [if_neg c2] at h
            exact ih _ _ _ _ _ h (by omega) hS
    · rw [if_neg c0] at h; simp at h
/-- the figures that are read are such as a year has -/
def gdD (n v : Nat) (c w : Nat → Int) : Prop := (∀ j : Nat, j < n → (0 ≤ c (3 * j) ∧ c (3 * j) ≤ 5) ∧ (0 ≤ c (3 * j + 1) ∧ c (3 * j + 1) ≤ 9) ∧ (0 ≤ c (3 * j + 2) ∧ c (3 * j + 2) ≤ 9)) ∧
  ∀ j : Nat, j < v → (w (4 * j) = 0 ∨ w (4 * j) = 1) ∧ (0 ≤ w (4 * j + 1) ∧ w (4 * j + 1) ≤ 7) ∧ (0 ≤ w (4 * j + 2) ∧ w (4 * j + 2) ≤ 7) ∧ (0 ≤ w (4 * j + 3) ∧ w (4 * j + 3) ≤ 9)
theorem pa_gd {B : Nat → Int} {S : Nat} : ∀ (f a n v : Nat) (c w : Nat → Int), gdD n v c w → gdD (pa B S f a n v c w).2.1 (pa B S f a n v c w).2.2.1 (pa B S f a n v c w).2.2.2.1 (pa B S f a n v c w).2.2.2.2 := by
  intro f
  induction f with
  | zero => intro a n v c w h; exact h
  | succ f ih =>
    intro a n v c w h
    rw [pa]
    by_cases c0 : a < S
    · rw [if_pos c0]
      by_cases c1 : B a = 32
      · rw [if_pos c1]; exact ih _ _ _ _ _ h
      · rw [if_neg c1]
        cases hsf : sF B S a n v with
        | some q => exact h
        | none =>
          dsimp only
          have hkb := kz_b (B a)
          by_cases c2 : kz (B a) = -9
          · obtain ⟨r1, r2, r3, r4, r5⟩ := (sF_n hsf).1 c2
            rw [if_pos c2]
            refine ih _ _ _ _ _ ⟨h.1, fun j hj => ?_⟩
            obtain ⟨u0, u1, u2, u3, u4⟩ := upW_0 (B := B) (S := S) (a := a) (v := v) (w := w)
            by_cases e : j = v
            · subst e
              rw [u0, u1, u2, u3]
              refine ⟨?_, r3, r4, r5⟩
              by_cases d : B a = 118
              · rw [if_pos d]; exact Or.inr rfl
              · rw [if_neg d]; exact Or.inl rfl
            · rw [u4 _ (by omega), u4 _ (by omega), u4 _ (by omega), u4 _ (by omega)]
              exact h.2 j (by omega)
          · obtain ⟨r1, r2, r3, r4⟩ := (sF_n hsf).2 c2
            rw [if_neg c2]
            refine ih _ _ _ _ _ ⟨fun j hj => ?_, h.2⟩
            obtain ⟨u0, u1, u2, u3⟩ := upC_0 (B := B) (S := S) (a := a) (n := n) (c := c)
            by_cases e : j = n
            · subst e
              rw [u0, u1, u2]
              exact ⟨by omega, r3, r4⟩
            · rw [u3 _ (by omega), u3 _ (by omega), u3 _ (by omega)]
              exact h.1 j (by omega)
    · rw [if_neg c0]; exact h
theorem paF_b {B : Nat → Int} {S : Nat} (hS : S ≤ 60) : -9 ≤ paF B S ∧ paF B S ≤ 200 ∧ (paF B S < 0 → paF B S = -9 ∧ (paR B S).1 = none ∧ (paR B S).2.1 ≠ 0) ∧ (0 ≤ paF B S → (∀ p : Nat, (paR B S).1 = some p → paF B S = (p : Int)) ∧ ((paR B S).1 = none → (paR B S).2.1 = 0 ∧ paF B S = (S : Int))) := by
  unfold paF
  cases h : (paR B S).1 with
  | some p =>
    have := pa_sp 100 0 0 0 _ _ h (by omega) hS
    dsimp only
    refine ⟨by omega, by omega, fun hh => by omega, fun _ => ⟨fun q hq => by have := Option.some.inj hq; omega, fun hh => by simp at hh⟩⟩
  | none =>
    dsimp only
    by_cases c : (paR B S).2.1 = 0
    · rw [if_pos c]
      exact ⟨by omega, by omega, fun hh => by omega, fun _ => ⟨fun q hq => by simp at hq, fun _ => ⟨c, rfl⟩⟩⟩
    · rw [if_neg c]
      exact ⟨by omega, by omega, fun _ => ⟨rfl, rfl, c⟩, fun hh => by omega⟩
theorem m_read {μ : Mem} {t S : Nat} {B : Nat → Int} (h : TM μ t S B) :
    ∃ μ' : Mem, f_X10_readYear μ (t : Int) = some ((), μ') ∧ FP μ μ' ∧ (0 ≤ paF B S → μ' 67 25 = paF B S) ∧ (paF B S < 0 → μ' 67 25 = -1 ∧ MR μ' (paR B S).2.1 (paR B S).2.2.1 (paR B S).2.2.2.1 (paR B S).2.2.2.2) := by
  have hS := h.2.1
  obtain ⟨p1, p2, p3, p4⟩ := paF_b (B := B) hS
  have f0 : FP μ (wr (wr (wr (wr μ 67 24 0) 67 25 (-1)) 67 26 0) 67 27 0) := (((FP.rf.w7 (by omega)).w7 (by omega)).w7 (by omega)).w7 (by omega)
  obtain ⟨μ2, g1, g2, g3, g4⟩ := m_read_loop (Kc := fun m11 => if w32 (m11 67 25) < 0 then (if w32 (m11 67 26) = 0 then (ck (t : Int) 4 (vm (wr m11 67 25 (m11 78 (w32 (t : Int)).toNat)) fun m17 => some ((), m17))) else (vm (wr m11 67 25 (m11 67 25)) fun m15 => some ((), m15))) else (vm (wr m11 67 25 (m11 67 25)) fun m13 => some ((), m13))) h 100 0 0 0 100000 100000 (fun _ => 0) (fun _ => 0) _ (by omega) (by omega) (by omega) (by omega) (by omega) (by omega) (by omega) f0 (by simp (disch := omega) only [wr_ne, wr_eq]; rfl) (by simp (disch := omega) only [wr_ne, wr_eq]) ⟨by simp (disch := omega) only [wr_ne, wr_eq]; rfl, by rw [wr_eq]; rfl, fun j hj => by omega, fun j hj => by omega⟩
  have e0 : f_X10_readYear μ (t : Int) = bd (f_X10_skip_L0 (t : Int) 100000 (wr (wr (wr (wr μ 67 24 0) 67 25 (-1)) 67 26 0) 67 27 0)) fun _u m => f_X10_readYear_L25 (fun m11 => if w32 (m11 67 25) < 0 then (if w32 (m11 67 26) = 0 then (ck (t : Int) 4 (vm (wr m11 67 25 (m11 78 (w32 (t : Int)).toNat)) fun m17 => some ((), m17))) else (vm (wr m11 67 25 (m11 67 25)) fun m15 => some ((), m15))) else (vm (wr m11 67 25 (m11 67 25)) fun m13 => some ((), m13))) (t : Int) 100000 m := by
    rw [f_X10_readYear, vm, vm, vm, vm, f_X10_skip]
  rw [g1] at e0
  have g3' : ∀ p : Nat, (paR B S).1 = some p → μ2 67 25 = (p : Int) := g3
  have g4' : (paR B S).1 = none → μ2 67 25 = -1 ∧ MR μ2 (paR B S).2.1 (paR B S).2.2.1 (paR B S).2.2.2.1 (paR B S).2.2.2.2 := g4
  cases hr : (paR B S).1 with
  | some p =>
    have hp := g3' p hr
    have hpb := pa_sp 100 0 0 0 _ _ hr (by omega) hS
    have hF : paF B S = (p : Int) := by unfold paF; rw [hr]
    rw [hp, w32_nat (by omega), if_neg (by omega), vm] at e0
    refine ⟨_, e0, g2.w7 (by omega), fun _ => by rw [wr_eq, hF], fun hh => by omega⟩
  | none =>
    obtain ⟨k1, k2⟩ := g4' hr
    have hn := (pa_n (B := B) (S := S) 100 0 0 0 (fun _ => 0) (fun _ => 0) (by omega) (by omega)).1
    have hn1 : (paR B S).2.1 ≤ 5 := hn
    rw [k1, if_pos (by decide +kernel), k2.1, w32_nat (by omega), ck_ok (by have := h.1; omega) (by have := h.1; omega) (by have := h.1; omega), vm, w32_nat (by have := h.1; omega), Int.toNat_natCast, (h.fp g2).2.2.1, vm] at e0
    by_cases c : (paR B S).2.1 = 0
    · have hF : paF B S = (S : Int) := by unfold paF; rw [hr]; exact if_pos c
      rw [if_pos (by omega)] at e0
      refine ⟨_, e0, g2.w7 (by omega), fun _ => by rw [wr_eq, hF], fun hh => by omega⟩
    · have hF : paF B S = -9 := by unfold paF; rw [hr]; exact if_neg c
      rw [if_neg (by omega)] at e0
      refine ⟨_, e0, g2.w7 (by omega), fun hh => by omega, fun _ => ⟨wr_eq, ?_⟩⟩
      obtain ⟨q1, q2, q3, q4⟩ := k2
      exact ⟨by rw [wr_ne (by omega)]; exact q1, by rw [wr_ne (by omega)]; exact q2, fun j hj => by rw [wr_cell (by omega), wr_cell (by omega), wr_cell (by omega)]; exact q3 j hj, fun j hj => by rw [wr_cell (by omega), wr_cell (by omega), wr_cell (by omega), wr_cell (by omega)]; exact q4 j hj⟩
theorem rd_pair {n : Nat} {μ : Mem} {t : Nat} (h : Inv n μ) (ht : t < 4) (hc : ¬ μ 78 t < 0) :
    ∃ (S : Nat) (B : Nat → Int), μ 78 t = (S : Int) ∧ TX μ (50 + 2 * t) S B ∧ TM μ t S B := by
  obtain ⟨⟨b1, b2⟩, b3, b4⟩ := h.2.1 t ht
  refine ⟨(μ 78 t).toNat, fun i => μ 79 (60 * t + i), by omega, ⟨by omega, by omega, by omega, fun i hi => ?_⟩, ⟨ht, by omega, by omega, fun i hi => ⟨rfl, (b4 i (by omega)).2⟩⟩⟩
  obtain ⟨c1, c2⟩ := b4 i (by omega)
  exact ⟨c1, c2⟩
theorem TM.cg {μ μ' : Mem} {t S : Nat} {B : Nat → Int} (h : TM μ t S B) (e : ∀ k : Nat, 67 ≤ k → μ' k = μ k) : TM μ' t S B := by
  obtain ⟨h1, h2, h3, h4⟩ := h
  exact ⟨h1, h2, by rw [e 78 (by omega)]; exact h3, fun i hi => by rw [e 79 (by omega)]; exact h4 i hi⟩
theorem p_fault {n : Nat} {p : Int} (hp : inR p) : Pair n (fun μ => f_X9_fault μ p) (fun μ => f_X10_fault μ p) := by
  intro μ h
  have htl := h.2.2.2.2.2.2.2.1
  by_cases hr : 0 ≤ p ∧ p < ((4 : Nat) : Int)
  · obtain ⟨t, ht, rfl⟩ := nat_of hr
    obtain ⟨z1, z2, z3⟩ := h.2.1.sz ht
    by_cases c : μ 78 t < 0
    · refine pair_fnd h 1 (by omega) (by omega) ?_ (fun μ1 e => ?_)
      · show f_X9_fault μ (t : Int) = _
        rw [f_X9_fault, x_isText1 ht, bd_some, if_neg w1ne, ck_ok (by omega) (by omega) (by omega), w32_nat (by omega), Int.toNat_natCast, x_tthere z2, bd_some, z3, if_pos c, if_pos w0, bd_ret]
      · show f_X10_fault μ1 (t : Int) = _
        rw [f_X10_fault, m_isText1 ht, bd_some, if_neg w1ne, ck_ok (by omega) (by omega) (by omega), w32_nat (by omega), Int.toNat_natCast, e 78 (by omega) (by omega), z1.w, if_pos c, bd_ret]
    · obtain ⟨S, B, hS, hT, hM⟩ := rd_pair h ht c
      obtain ⟨p1, p2, p3, p4⟩ := paF_b (B := B) hT.2.1
      obtain ⟨μ1, g1, g2, -⟩ := x_read hT
      have hx : FX μ μ1 := FX.of g2 (fun k hk => by simp at hk; omega)
      obtain ⟨μ2, k1, k2, k3, k4⟩ := m_read (hM.cg hx.hi)
      refine ⟨paF B S, μ1, μ2, ?_, ?_, (aside_end h hx k2.fm (by rw [k2.2 10 (by omega), hx.hi 67 (by omega), g2 0 (by simp), htl]) (fun i hi => by rw [k2.1 73 (by omega) (by omega), hx.hi 73 (by omega)])).up (Nat.le_succ n)⟩
      · show f_X9_fault μ (t : Int) = _
        rw [f_X9_fault, x_isText1 ht, bd_some, if_neg w1ne, ck_ok (by omega) (by omega) (by omega), w32_nat (by omega), Int.toNat_natCast, x_tthere z2, bd_some, z3, if_neg c, if_neg w1ne, ck_ok (by omega) (by omega) (by omega), g1, bd_some]
      · show f_X10_fault μ1 (t : Int) = _
        rw [f_X10_fault, m_isText1 ht, bd_some, if_neg w1ne, ck_ok (by omega) (by omega) (by omega), w32_nat (by omega), Int.toNat_natCast, hx.hi 78 (by omega), z1.w, if_neg c, k1, bd_some]
        by_cases c1 : paF B S < 0
        · rw [(k4 c1).1, if_pos (by decide +kernel), vl, (p3 c1).1]
        · rw [k3 (by omega), w32_id (by omega) (by omega), if_neg c1, vl]
  · refine pair_bad h (a := -1) ?_ ?_
    · show f_X9_fault μ p = _
      rw [f_X9_fault, x_isText0 hp hr, bd_some, if_pos w0]
    · show f_X10_fault μ p = _
      rw [f_X10_fault, m_isText0 hp hr, bd_some, if_pos w0]
/-! the class begins a year -/
theorem isK_abv : ∀ k z : Fin 6, isK (k : Nat) (((z : Nat) : Int)) = decide ((k : Nat) = 0 ∨ (k : Nat) = (abvZ (z : Nat)).toNat ∨ (k : Nat) = (z : Nat)) := by decide +kernel
theorem abv_b : ∀ z : Fin 6, 0 ≤ abvZ (z : Nat) ∧ abvZ (z : Nat) ≤ 5 := by decide +kernel
theorem msk_or {i : Nat} (p : Nat → Bool) (h : p i = true) : msk i p ||| 2 ^ i = msk (i + 1) p := by
  rw [msk, if_pos h, Nat.add_comm]
  apply Nat.eq_of_testBit_eq
  intro j
  rw [Nat.testBit_or, Nat.testBit_two_pow]
  have hl := msk_lt i p
  by_cases e : j = i
  · subst e
    rw [Nat.testBit_two_pow_add_eq, Nat.testBit_lt_two_pow hl]
    simp
  · by_cases e2 : j < i
    · rw [Nat.testBit_two_pow_add_gt e2]
      simp [show ¬ i = j from fun z => e z.symm]
    · have hb : 2 ^ i + msk i p < 2 ^ j := by
        have : 2 ^ (i + 1) ≤ 2 ^ j := Nat.pow_le_pow_right (by omega) (by omega)
        rw [Nat.pow_succ] at this
        omega
      rw [Nat.testBit_lt_two_pow hb, Nat.testBit_lt_two_pow (show msk i p < 2 ^ j by omega)]
      simp [show ¬ i = j from fun z => e z.symm]
theorem x_kinds_loop {n : Nat} {μ : Mem} {c : Nat → Int} (hn : n ≤ 5) (h6 : μ 6 6 = (n : Int)) (hc : ∀ j : Nat, j < n → μ 4 (3 * j) = c (3 * j) ∧ 0 ≤ c (3 * j) ∧ c (3 * j) ≤ 5) :
    ∀ (d u i : Nat) (μ' : Mem), i + d = n → d < u → (∀ k : Nat, k ≠ 7 → k ≠ 8 → μ' k = μ k) → (∀ j : Nat, μ' 7 j = if j < i then c (3 * j) else μ 7 j) → (∀ k : Nat, k < 6 → μ' 8 k = (msk i (fun j => isK k (c (3 * j))) : Nat)) →
    ∃ μ'' : Mem, (∀ Kc, f_X8_begin_L26 Kc u (i : Int) μ' = Kc μ'') ∧ (∀ k : Nat, k ≠ 7 → k ≠ 8 → μ'' k = μ k) ∧ (∀ j : Nat, μ'' 7 j = if j < n then c (3 * j) else μ 7 j) ∧ (∀ k : Nat, k < 6 → μ'' 8 k = (msk n (fun j => isK k (c (3 * j))) : Nat)) := by
  intro d
  induction d with
  | zero =>
    intro u i μ' hi hu hf h7 h8
    obtain ⟨u, rfl⟩ : ∃ v, u = v + 1 := ⟨u - 1, by omega⟩
    have e : i = n := by omega
    subst e
    refine ⟨μ', fun Kc => ?_, hf, h7, h8⟩
    rw [f_X8_begin_L26, hf 6 (by omega) (by omega), h6, if_neg (by omega)]
  | succ d ih =>
    intro u i μ' hi hu hf h7 h8
    obtain ⟨u, rfl⟩ : ∃ v, u = v + 1 := ⟨u - 1, by omega⟩
    obtain ⟨c1, c2, c3⟩ := hc i (by omega)
    obtain ⟨z, hz⟩ : ∃ z : Nat, c (3 * i) = (z : Int) := ⟨(c (3 * i)).toNat, by omega⟩
    have hz5 : z < 6 := by omega
    obtain ⟨a1, a2⟩ := abv_b ⟨z, hz5⟩
    dsimp only at a1 a2
    obtain ⟨A, hA⟩ : ∃ A : Nat, abvZ z = (A : Int) := ⟨(abvZ z).toNat, by omega⟩
    have hA5 : A < 6 := by omega
    have hK : ∀ k : Nat, k < 6 → isK k (c (3 * i)) = decide (k = 0 ∨ k = A ∨ k = z) := fun k hk => by
      have := isK_abv ⟨k, hk⟩ ⟨z, hz5⟩
      dsimp only at this
      rw [hz, this, hA, Int.toNat_natCast]
    have h2i : 2 ^ i < 32 := by have := Nat.pow_le_pow_right (show 0 < 2 by omega) (show i ≤ 4 by omega); omega
    have hzs : zshl 1 (i : Int) = ((2 ^ i : Nat) : Int) := zshl_s ⟨i, by omega⟩
    have hor : ∀ k : Nat, zor ((msk i (fun j => isK k (c (3 * j))) : Nat) : Int) ((2 ^ i : Nat) : Int) = ((msk i (fun j => isK k (c (3 * j))) ||| 2 ^ i : Nat) : Int) := fun k => zor_32 ⟨_, msk_32 (by omega) _⟩ ⟨2 ^ i, h2i⟩
    have hor2 : ∀ k : Nat, zor ((msk i (fun j => isK k (c (3 * j))) ||| 2 ^ i : Nat) : Int) ((2 ^ i : Nat) : Int) = ((msk i (fun j => isK k (c (3 * j))) ||| 2 ^ i : Nat) : Int) := fun k => by
      rw [show zor ((msk i (fun j => isK k (c (3 * j))) ||| 2 ^ i : Nat) : Int) ((2 ^ i : Nat) : Int) = (((msk i (fun j => isK k (c (3 * j))) ||| 2 ^ i) ||| 2 ^ i : Nat) : Int) from zor_32 ⟨_, Nat.or_lt_two_pow (n := 5) (msk_32 (by omega) _) h2i⟩ ⟨2 ^ i, h2i⟩, Nat.or_assoc, Nat.or_self]
    -- the three writes
    have r1 : ∀ m : Mem, (∀ k : Nat, k < 6 → m 8 k = (msk i (fun j => isK k (c (3 * j))) : Nat)) → ∀ k : Nat, k < 6 → wr m 8 0 (zor (m 8 0) ((2 ^ i : Nat) : Int)) 8 k = if k = 0 then ((msk i (fun j => isK k (c (3 * j))) ||| 2 ^ i : Nat) : Int) else (msk i (fun j => isK k (c (3 * j))) : Nat) := fun m hm k hk => by
      by_cases e : k = 0
      · subst e; rw [if_pos rfl, wr_eq, hm 0 (by omega), hor]
      · rw [if_neg e, wr_ne (by omega), hm k hk]
    have r2 : ∀ (m : Mem) (P : Nat → Prop) (hP : ∀ k, Decidable (P k)) (q : Nat), q < 6 → (∀ k : Nat, k < 6 → m 8 k = @ite _ (P k) (hP k) ((msk i (fun j => isK k (c (3 * j))) ||| 2 ^ i : Nat) : Int) ((msk i (fun j => isK k (c (3 * j))) : Nat) : Int)) → ∀ k : Nat, k < 6 → wr m 8 q (zor (m 8 q) ((2 ^ i : Nat) : Int)) 8 k = @ite _ (P k ∨ k = q) (@instDecidableOr _ _ (hP k) (instDecidableEqNat k q)) ((msk i (fun j => isK k (c (3 * j))) ||| 2 ^ i : Nat) : Int) ((msk i (fun j => isK k (c (3 * j))) : Nat) : Int) := fun m P hP q hq hm k hk => by
      by_cases e : k = q
      · subst e
        rw [if_pos (Or.inr rfl), wr_eq, hm k hk]
        by_cases g : P k
        · rw [if_pos g, hor2]
        · rw [if_neg g, hor]
      · rw [wr_ne (by omega), hm k hk]
        by_cases g : P k
        · rw [if_pos g, if_pos (Or.inl g)]
        · rw [if_neg g, if_neg (fun w => w.elim g e)]
    have s0 : ∀ k : Nat, k < 6 → wr μ' 7 i (z : Int) 8 k = (msk i (fun j => isK k (c (3 * j))) : Nat) := fun k hk => by rw [wr_cell (by omega)]; exact h8 k hk
    have s1 := r1 _ s0
    have s2 := r2 _ (fun k => k = 0) (fun k => instDecidableEqNat k 0) A hA5 s1
    have s3 := r2 _ (fun k => k = 0 ∨ k = A) (fun k => instDecidableOr) z hz5 s2
    have st : ∀ Kc, f_X8_begin_L26 Kc (u + 1) (i : Int) μ' = f_X8_begin_L26 Kc u ((i : Int) + 1) (wr (wr (wr (wr μ' 7 i (z : Int)) 8 0 (zor (wr μ' 7 i (z : Int) 8 0) ((2 ^ i : Nat) : Int))) 8 A (zor (wr (wr μ' 7 i (z : Int)) 8 0 (zor (wr μ' 7 i (z : Int) 8 0) ((2 ^ i : Nat) : Int)) 8 A) ((2 ^ i : Nat) : Int))) 8 z (zor (wr (wr (wr μ' 7 i (z : Int)) 8 0 (zor (wr μ' 7 i (z : Int) 8 0) ((2 ^ i : Nat) : Int))) 8 A (zor (wr (wr μ' 7 i (z : Int)) 8 0 (zor (wr μ' 7 i (z : Int) 8 0) ((2 ^ i : Nat) : Int)) 8 A) ((2 ^ i : Nat) : Int)) 8 z) ((2 ^ i : Nat) : Int))) := fun Kc => by
      rw [f_X8_begin_L26, hf 6 (by omega) (by omega), h6, w32_nat (i := i) (by omega), w32_nat (i := n) (by omega), if_pos (by omega), ck_ok (by omega) (by omega) (by omega), hf 4 (by omega) (by omega), w32_id (a := (i : Int) * 3) (by omega) (by omega), show ((i : Int) * 3).toNat = 3 * i by omega, c1, hz, vl, ck_ok (by omega) (by omega) (by omega), vm, ck_ok (by omega) (by omega) (by omega), ck_ok (by omega) (by omega) (by omega), vm, ck_ok (by omega) (by omega) (by omega), w32_nat (i := z) (by omega), Int.toNat_natCast, Int.toNat_natCast, hA, ck_ok (by omega) (by omega) (by omega), ck_ok (by omega) (by omega) (by omega), vm, ck_ok (by omega) (by omega) (by omega), ck_ok (by omega) (by omega) (by omega), vm, w32_nat (i := A) (by omega), Int.toNat_natCast, w32_id (a := 0) (by omega) (by omega), Int.toNat_zero, hzs]
    obtain ⟨μ3, k1, k2, k3, k4⟩ := ih u (i + 1) (wr (wr (wr (wr μ' 7 i (z : Int)) 8 0 (zor (wr μ' 7 i (z : Int) 8 0) ((2 ^ i : Nat) : Int))) 8 A (zor (wr (wr μ' 7 i (z : Int)) 8 0 (zor (wr μ' 7 i (z : Int) 8 0) ((2 ^ i : Nat) : Int)) 8 A) ((2 ^ i : Nat) : Int))) 8 z (zor (wr (wr (wr μ' 7 i (z : Int)) 8 0 (zor (wr μ' 7 i (z : Int) 8 0) ((2 ^ i : Nat) : Int))) 8 A (zor (wr (wr μ' 7 i (z : Int)) 8 0 (zor (wr μ' 7 i (z : Int) 8 0) ((2 ^ i : Nat) : Int)) 8 A) ((2 ^ i : Nat) : Int)) 8 z) ((2 ^ i : Nat) : Int))) (by omega) (by omega) (fun k e1 e2 => by rw [wr_cell e2, wr_cell e2, wr_cell e2, wr_cell e1]; exact hf k e1 e2) (fun j => by
      rw [wr_cell (by omega), wr_cell (by omega), wr_cell (by omega)]
      by_cases e : j = i
      · subst e; rw [wr_eq, if_pos (by omega), hz]
      · rw [wr_ne (by omega), h7 j]
        by_cases g : j < i
        · rw [if_pos g, if_pos (by omega)]
        · rw [if_neg g, if_neg (by omega)]) (fun k hk => by
      rw [s3 k hk]
      by_cases g : (k = 0 ∨ k = A) ∨ k = z
      · rw [if_pos g, msk_or (fun j => isK k (c (3 * j))) (by rw [hK k hk]; exact decide_eq_true (by omega))]
      · rw [if_neg g, msk_no (p := fun j => isK k (c (3 * j))) (by rw [hK k hk]; simp only [decide_eq_true_eq]; omega)])
    rw [show ((i + 1 : Nat) : Int) = (i : Int) + 1 by omega] at k1
    exact ⟨μ3, fun Kc => (st Kc).trans (k1 Kc), k2, k3, k4⟩
theorem x_vals_loop {v : Nat} {μ : Mem} {w : Nat → Int} (hv : v ≤ 4) (h6 : μ 6 7 = (v : Int)) (hw : ∀ q : Nat, q < 4 * v → μ 5 q = w q) :
    ∀ (d u i : Nat) (μ' : Mem), i + d = v → d < u → (∀ k : Nat, ¬ (9 ≤ k ∧ k < 13) → μ' k = μ k) → (∀ j : Nat, μ' 9 j = (if j < i then w (4 * j) else μ 9 j) ∧ μ' 10 j = (if j < i then w (4 * j + 1) else μ 10 j) ∧ μ' 11 j = (if j < i then w (4 * j + 2) else μ 11 j) ∧ μ' 12 j = (if j < i then w (4 * j + 3) else μ 12 j)) →
    ∃ μ'' : Mem, f_X8_begin_L98 u (i : Int) μ' = some ((), μ'') ∧ (∀ k : Nat, ¬ (9 ≤ k ∧ k < 13) → μ'' k = μ k) ∧ (∀ j : Nat, μ'' 9 j = (if j < v then w (4 * j) else μ 9 j) ∧ μ'' 10 j = (if j < v then w (4 * j + 1) else μ 10 j) ∧ μ'' 11 j = (if j < v then w (4 * j + 2) else μ 11 j) ∧ μ'' 12 j = (if j < v then w (4 * j + 3) else μ 12 j)) := by
  intro d
  induction d with
  | zero =>
    intro u i μ' hi hu hf h9
    obtain ⟨u, rfl⟩ : ∃ x, u = x + 1 := ⟨u - 1, by omega⟩
    have e : i = v := by omega
    subst e
    refine ⟨μ', ?_, hf, h9⟩
    rw [f_X8_begin_L98, hf 6 (by omega), h6, if_neg (by omega)]
  | succ d ih =>
    intro u i μ' hi hu hf h9
    obtain ⟨u, rfl⟩ : ∃ x, u = x + 1 := ⟨u - 1, by omega⟩
    have e5 : ∀ q : Nat, q < 4 * v → μ' 5 q = w q := fun q hq => by rw [hf 5 (by omega)]; exact hw q hq
    have st : f_X8_begin_L98 (u + 1) (i : Int) μ' = f_X8_begin_L98 u ((i : Int) + 1) (wr (wr (wr (wr μ' 9 i (w (4 * i))) 10 i (w (4 * i + 1))) 11 i (w (4 * i + 2))) 12 i (w (4 * i + 3))) := by
      rw [f_X8_begin_L98, hf 6 (by omega), h6, w32_nat (i := i) (by omega), w32_nat (i := v) (by omega), if_pos (by omega), vl, ck_ok (by omega) (by omega) (by omega), ck_ok (by omega) (by omega) (by omega), vm, ck_ok (by omega) (by omega) (by omega), ck_ok (by omega) (by omega) (by omega), vm, ck_ok (by omega) (by omega) (by omega), ck_ok (by omega) (by omega) (by omega), vm, ck_ok (by omega) (by omega) (by omega), ck_ok (by omega) (by omega) (by omega), vm, Int.toNat_natCast, w32_id (a := (i : Int) * 4) (by omega) (by omega), w32_id (a := (i : Int) * 4 + 1) (by omega) (by omega), w32_id (a := (i : Int) * 4 + 2) (by omega) (by omega), w32_id (a := (i : Int) * 4 + 3) (by omega) (by omega), show ((i : Int) * 4).toNat = 4 * i by omega, show ((i : Int) * 4 + 1).toNat = 4 * i + 1 by omega, show ((i : Int) * 4 + 2).toNat = 4 * i + 2 by omega, show ((i : Int) * 4 + 3).toNat = 4 * i + 3 by omega, wr_cell (j := 5) (k := 11) (by omega), wr_cell (j := 5) (k := 10) (by omega), wr_cell (j := 5) (k := 9) (by omega), e5 _ (by omega), e5 _ (by omega), e5 _ (by omega), e5 _ (by omega)]
    obtain ⟨μ3, k1, k2⟩ := ih u (i + 1) (wr (wr (wr (wr μ' 9 i (w (4 * i))) 10 i (w (4 * i + 1))) 11 i (w (4 * i + 2))) 12 i (w (4 * i + 3))) (by omega) (by omega) (fun k e1 => by rw [wr_cell (by omega), wr_cell (by omega), wr_cell (by omega), wr_cell (by omega)]; exact hf k e1) (fun j => by
      obtain ⟨q1, q2, q3, q4⟩ := h9 j
      by_cases e : j = i
      · subst e
        rw [if_pos (by omega), if_pos (by omega), if_pos (by omega), if_pos (by omega)]
        simp (disch := omega) only [wr_ne, wr_eq, and_self]
      · simp (disch := omega) only [wr_ne]
        rw [q1, q2, q3, q4]
        by_cases g : j < i
        · rw [if_pos g, if_pos (show j < i + 1 by omega), if_pos g, if_pos (show j < i + 1 by omega), if_pos g, if_pos (show j < i + 1 by omega), if_pos g, if_pos (show j < i + 1 by omega)]
          exact ⟨rfl, rfl, rfl, rfl⟩
        · rw [if_neg g, if_neg (show ¬ j < i + 1 by omega), if_neg g, if_neg (show ¬ j < i + 1 by omega), if_neg g, if_neg (show ¬ j < i + 1 by omega), if_neg g, if_neg (show ¬ j < i + 1 by omega)]
          exact ⟨rfl, rfl, rfl, rfl⟩)
    rw [show ((i + 1 : Nat) : Int) = (i : Int) + 1 by omega] at k1
    exact ⟨μ3, st.trans k1, k2⟩
/-- the day on which a year begins -/
def yd (n : Nat) (c : Nat → Int) : Nat → Int := fun q => if 2 ≤ q ∧ q < 2 + n then c (3 * (q - 2) + 1) else if 7 ≤ q ∧ q < 7 + n then c (3 * (q - 7) + 2) else 0
theorem yd_s {i : Nat} {c : Nat → Int} (hi : i < 5) : up (up (yd i c) (2 + i) (c (3 * i + 1))) (7 + i) (c (3 * i + 2)) = yd (i + 1) c := by
  funext q
  by_cases e1 : q = 7 + i
  · subst e1; rw [up_eq, yd, if_neg (by omega), if_pos (by omega), show 7 + i - 7 = i by omega]
  · rw [up_ne e1]
    by_cases e2 : q = 2 + i
    · subst e2; rw [up_eq, yd, if_pos (by omega), show 2 + i - 2 = i by omega]
    · rw [up_ne e2]
      unfold yd
      by_cases e3 : 2 ≤ q ∧ q < 2 + i
      · rw [if_pos e3, if_pos (by omega)]
      · rw [if_neg e3, if_neg (show ¬ (2 ≤ q ∧ q < 2 + (i + 1)) by omega)]
        by_cases e4 : 7 ≤ q ∧ q < 7 + i
        · rw [if_pos e4, if_pos (by omega)]
        · rw [if_neg e4, if_neg (by omega)]
theorem x_yday_loop {n : Nat} {μ : Mem} {c : Nat → Int} (hn : n ≤ 5) (h3 : μ 3 2 = (n : Int)) (hc : ∀ q : Nat, q < 3 * n → μ 4 q = c q) :
    ∀ (d u i : Nat) (μ' : Mem), i + d = n → d < u → (∀ k : Nat, k ≠ 14 → μ' k = μ k) → (∀ j : Nat, j < 16 → μ' 14 j = yd i c j) →
    ∃ μ'' : Mem, f_X1_begin_L10 13 u (i : Int) μ' = some ((), μ'') ∧ (∀ k : Nat, k ≠ 14 → μ'' k = μ k) ∧ (∀ j : Nat, j < 16 → μ'' 14 j = yd n c j) := by
  intro d
  induction d with
  | zero =>
    intro u i μ' hi hu hf hd
    obtain ⟨u, rfl⟩ : ∃ x, u = x + 1 := ⟨u - 1, by omega⟩
    have e : i = n := by omega
    subst e
    refine ⟨μ', ?_, hf, hd⟩
    rw [f_X1_begin_L10, hf 3 (by omega), h3, if_neg (by omega)]
  | succ d ih =>
    intro u i μ' hi hu hf hd
    obtain ⟨u, rfl⟩ : ∃ x, u = x + 1 := ⟨u - 1, by omega⟩
    have st : f_X1_begin_L10 13 (u + 1) (i : Int) μ' = f_X1_begin_L10 13 u ((i : Int) + 1) (wr (wr μ' 14 (2 + i) (c (3 * i + 1))) 14 (7 + i) (c (3 * i + 2))) := by
      rw [f_X1_begin_L10, hf 3 (by omega), h3, w32_nat (i := i) (by omega), w32_nat (i := n) (by omega), if_pos (by omega), ck_ok (by omega) (by omega) (by omega), ck_ok (by omega) (by omega) (by omega), vm, ck_ok (by omega) (by omega) (by omega), ck_ok (by omega) (by omega) (by omega), vm, w32_id (a := (i : Int) * 3 + 1) (by omega) (by omega), w32_id (a := (i : Int) * 3 + 2) (by omega) (by omega), w32_id (a := 2 + (i : Int)) (by omega) (by omega), w32_id (a := 7 + (i : Int)) (by omega) (by omega), show ((i : Int) * 3 + 1).toNat = 3 * i + 1 by omega, show ((i : Int) * 3 + 2).toNat = 3 * i + 2 by omega, show (2 + (i : Int)).toNat = 2 + i by omega, show (7 + (i : Int)).toNat = 7 + i by omega, wr_cell (j := 4) (by omega), hf 4 (by omega), hc _ (by omega), hc _ (by omega)]
    obtain ⟨μ3, k1, k2⟩ := ih u (i + 1) (wr (wr μ' 14 (2 + i) (c (3 * i + 1))) 14 (7 + i) (c (3 * i + 2))) (by omega) (by omega) (fun k e1 => by rw [wr_cell e1, wr_cell e1]; exact hf k e1) (fun j hj => by
      rw [← yd_s (by omega)]
      by_cases e1 : j = 7 + i
      · subst e1; rw [wr_eq, up_eq]
      · rw [wr_ne (by omega), up_ne e1]
        by_cases e2 : j = 2 + i
        · subst e2; rw [wr_eq, up_eq]
        · rw [wr_ne (by omega), up_ne e2]; exact hd j hj)
    rw [show ((i + 1 : Nat) : Int) = (i : Int) + 1 by omega] at k1
    exact ⟨μ3, st.trans k1, k2⟩
theorem x_ykept_loop : ∀ (d u i : Nat) (μ' : Mem), i + d = 3 → d < u →
    ∃ μ'' : Mem, f_X9_year_L80 u (i : Int) μ' = some (μ' 6 6, μ'') ∧ (∀ k : Nat, ¬ (58 ≤ k ∧ k < 67) → μ'' k = μ' k) ∧ (∀ j : Nat, j < 3 → μ'' (58 + 3 * j) 2 = if i ≤ j then -1 else μ' (58 + 3 * j) 2) := by
  intro d
  induction d with
  | zero =>
    intro u i μ' hi hu
    obtain ⟨u, rfl⟩ : ∃ x, u = x + 1 := ⟨u - 1, by omega⟩
    refine ⟨μ', ?_, fun _ _ => rfl, fun j hj => by rw [if_neg (by omega)]⟩
    rw [f_X9_year_L80, w32_nat (by omega), w32_id (a := 3) (by omega) (by omega), if_neg (by omega)]
  | succ d ih =>
    intro u i μ' hi hu
    obtain ⟨u, rfl⟩ : ∃ x, u = x + 1 := ⟨u - 1, by omega⟩
    obtain ⟨μ3, k1, k2, k3⟩ := ih u (i + 1) (wr μ' (58 + 3 * i) 2 (-1)) (by omega) (by omega)
    rw [show ((i + 1 : Nat) : Int) = (i : Int) + 1 by omega, wr_cell (j := 6) (by omega)] at k1
    refine ⟨μ3, ?_, fun k hk => by rw [k2 k hk, wr_cell (by omega)], fun j hj => ?_⟩
    · rw [f_X9_year_L80, w32_nat (by omega), w32_id (a := 3) (by omega) (by omega), if_pos (by omega), ck_ok (by omega) (by omega) (by omega), vm, Int.toNat_natCast]
      exact k1
    · rw [k3 j hj]
      by_cases e : i + 1 ≤ j
      · rw [if_pos e, if_pos (by omega)]
      · rw [if_neg e]
        by_cases g : j = i
        · subst g; rw [wr_eq, if_pos (by omega)]
        · rw [wr_cell (by omega), if_neg (by omega)]
/-! the reference begins a year -/
theorem m_y1_loop : ∀ (d u i : Nat) (μ' : Mem), i + d = 16 → d < u → ∀ Kc, f_X10_year_L62 Kc u (i : Int) μ' = Kc (fl μ' 73 i 16 0) := by
  intro d
  induction d with
  | zero =>
    intro u i μ' hi hu Kc
    obtain ⟨u, rfl⟩ : ∃ x, u = x + 1 := ⟨u - 1, by omega⟩
    rw [f_X10_year_L62, w32_nat (by omega), w32_id (a := 16) (by omega) (by omega), if_neg (by omega), show i = 16 by omega, fl_none]
  | succ d ih =>
    intro u i μ' hi hu Kc
    obtain ⟨u, rfl⟩ : ∃ x, u = x + 1 := ⟨u - 1, by omega⟩
    have k1 := ih u (i + 1) (wr μ' 73 i 0) (by omega) (by omega) Kc
    rw [show ((i + 1 : Nat) : Int) = (i : Int) + 1 by omega, fl_step (by omega)] at k1
    rw [f_X10_year_L62, w32_nat (by omega), w32_id (a := 16) (by omega) (by omega), if_pos (by omega), ck_ok (by omega) (by omega) (by omega), vm, Int.toNat_natCast]
    exact k1
theorem m_y2_loop {n : Nat} {μ : Mem} {c : Nat → Int} (hn : n ≤ 5) (h0 : μ 67 0 = (n : Int)) (hc : ∀ j : Nat, j < n → μ 85 j = c (3 * j) ∧ μ 86 j = c (3 * j + 1) ∧ μ 87 j = c (3 * j + 2)) :
    ∀ (d u i : Nat) (μ' : Mem), i + d = n → d < u → (∀ k : Nat, k ≠ 68 → k ≠ 73 → μ' k = μ k) → (∀ j : Nat, μ' 68 j = if j < i then c (3 * j) else μ 68 j) → (∀ j : Nat, j < 16 → μ' 73 j = yd i c j) →
    ∃ μ'' : Mem, (∀ Kc, f_X10_year_L83 Kc u (i : Int) μ' = Kc μ'') ∧ (∀ k : Nat, k ≠ 68 → k ≠ 73 → μ'' k = μ k) ∧ (∀ j : Nat, μ'' 68 j = if j < n then c (3 * j) else μ 68 j) ∧ (∀ j : Nat, j < 16 → μ'' 73 j = yd n c j) := by
  intro d
  induction d with
  | zero =>
    intro u i μ' hi hu hf h7 hd
    obtain ⟨u, rfl⟩ : ∃ x, u = x + 1 := ⟨u - 1, by omega⟩
    have e : i = n := by omega
    subst e
    refine ⟨μ', fun Kc => ?_, hf, h7, hd⟩
    rw [f_X10_year_L83, hf 67 (by omega) (by omega), h0, if_neg (by omega)]
  | succ d ih =>
    intro u i μ' hi hu hf h7 hd
    obtain ⟨u, rfl⟩ : ∃ x, u = x + 1 := ⟨u - 1, by omega⟩
    obtain ⟨c1, c2, c3⟩ := hc i (by omega)
    have st : ∀ Kc, f_X10_year_L83 Kc (u + 1) (i : Int) μ' = f_X10_year_L83 Kc u ((i : Int) + 1) (wr (wr (wr μ' 68 i (c (3 * i))) 73 (2 + i) (c (3 * i + 1))) 73 (7 + i) (c (3 * i + 2))) := fun Kc => by
      rw [f_X10_year_L83, hf 67 (by omega) (by omega), h0, w32_nat (i := i) (by omega), w32_nat (i := n) (by omega), if_pos (by omega), ck_ok (by omega) (by omega) (by omega), ck_ok (by omega) (by omega) (by omega), vm, ck_ok (by omega) (by omega) (by omega), ck_ok (by omega) (by omega) (by omega), vm, ck_ok (by omega) (by omega) (by omega), ck_ok (by omega) (by omega) (by omega), vm, Int.toNat_natCast, w32_id (a := 2 + (i : Int)) (by omega) (by omega), w32_id (a := 7 + (i : Int)) (by omega) (by omega), show (2 + (i : Int)).toNat = 2 + i by omega, show (7 + (i : Int)).toNat = 7 + i by omega, wr_cell (j := 87) (k := 73) (by omega), wr_cell (j := 87) (k := 68) (by omega), wr_cell (j := 86) (k := 68) (by omega), hf 85 (by omega) (by omega), hf 86 (by omega) (by omega), hf 87 (by omega) (by omega), c1, c2, c3]
    obtain ⟨μ3, k1, k2⟩ := ih u (i + 1) (wr (wr (wr μ' 68 i (c (3 * i))) 73 (2 + i) (c (3 * i + 1))) 73 (7 + i) (c (3 * i + 2))) (by omega) (by omega) (fun k e1 e2 => by rw [wr_cell e2, wr_cell e2, wr_cell e1]; exact hf k e1 e2) (fun j => by
      rw [wr_cell (by omega), wr_cell (by omega)]
      by_cases e : j = i
      · subst e; rw [wr_eq, if_pos (by omega)]
      · rw [wr_ne (by omega), h7 j]
        by_cases g : j < i
        · rw [if_pos g, if_pos (by omega)]
        · rw [if_neg g, if_neg (by omega)]) (fun j hj => by
      rw [← yd_s (by omega)]
      by_cases e1 : j = 7 + i
      · subst e1; rw [wr_eq, up_eq]
      · rw [wr_ne (by omega), up_ne e1]
        by_cases e2 : j = 2 + i
        · subst e2; rw [wr_eq, up_eq]
        · rw [wr_ne (by omega), up_ne e2, wr_cell (by omega)]; exact hd j hj)
    rw [show ((i + 1 : Nat) : Int) = (i : Int) + 1 by omega] at k1
    exact ⟨μ3, fun Kc => (st Kc).trans (k1 Kc), k2⟩
theorem m_y3_loop {v : Nat} {μ : Mem} {w : Nat → Int} (hv : v ≤ 4) (h0 : μ 67 1 = (v : Int)) (hw : ∀ j : Nat, j < v → μ 88 j = w (4 * j) ∧ μ 89 j = w (4 * j + 1) ∧ μ 90 j = w (4 * j + 2) ∧ μ 91 j = w (4 * j + 3)) :
    ∀ (d u i : Nat) (μ' : Mem), i + d = v → d < u → (∀ k : Nat, ¬ (69 ≤ k ∧ k < 73) → μ' k = μ k) → (∀ j : Nat, μ' 69 j = (if j < i then w (4 * j) else μ 69 j) ∧ μ' 70 j = (if j < i then w (4 * j + 1) else μ 70 j) ∧ μ' 71 j = (if j < i then w (4 * j + 2) else μ 71 j) ∧ μ' 72 j = (if j < i then w (4 * j + 3) else μ 72 j)) →
    ∃ μ'' : Mem, (∀ Kc, f_X10_year_L140 Kc u (i : Int) μ' = Kc μ'') ∧ (∀ k : Nat, ¬ (69 ≤ k ∧ k < 73) → μ'' k = μ k) ∧ (∀ j : Nat, μ'' 69 j = (if j < v then w (4 * j) else μ 69 j) ∧ μ'' 70 j = (if j < v then w (4 * j + 1) else μ 70 j) ∧ μ'' 71 j = (if j < v then w (4 * j + 2) else μ 71 j) ∧ μ'' 72 j = (if j < v then w (4 * j + 3) else μ 72 j)) := by
  intro d
  induction d with
  | zero =>
    intro u i μ' hi hu hf h9
    obtain ⟨u, rfl⟩ : ∃ x, u = x + 1 := ⟨u - 1, by omega⟩
    have e : i = v := by omega
    subst e
    refine ⟨μ', fun Kc => ?_, hf, h9⟩
    rw [f_X10_year_L140, hf 67 (by omega), h0, if_neg (by omega)]
  | succ d ih =>
    intro u i μ' hi hu hf h9
    obtain ⟨u, rfl⟩ : ∃ x, u = x + 1 := ⟨u - 1, by omega⟩
    obtain ⟨w1, w2, w3, w4⟩ := hw i (by omega)
    have st : ∀ Kc, f_X10_year_L140 Kc (u + 1) (i : Int) μ' = f_X10_year_L140 Kc u ((i : Int) + 1) (wr (wr (wr (wr μ' 69 i (w (4 * i))) 70 i (w (4 * i + 1))) 71 i (w (4 * i + 2))) 72 i (w (4 * i + 3))) := fun Kc => by
      rw [f_X10_year_L140, hf 67 (by omega), h0, w32_nat (i := i) (by omega), w32_nat (i := v) (by omega), if_pos (by omega), ck_ok (by omega) (by omega) (by omega), ck_ok (by omega) (by omega) (by omega), vm, ck_ok (by omega) (by omega) (by omega), ck_ok (by omega) (by omega) (by omega), vm, ck_ok (by omega) (by omega) (by omega), ck_ok (by omega) (by omega) (by omega), vm, ck_ok (by omega) (by omega) (by omega), ck_ok (by omega) (by omega) (by omega), vm, Int.toNat_natCast, wr_cell (j := 91) (k := 71) (by omega), wr_cell (j := 91) (k := 70) (by omega), wr_cell (j := 91) (k := 69) (by omega), wr_cell (j := 90) (k := 70) (by omega), wr_cell (j := 90) (k := 69) (by omega), wr_cell (j := 89) (k := 69) (by omega), hf 88 (by omega), hf 89 (by omega), hf 90 (by omega), hf 91 (by omega), w1, w2, w3, w4]
    obtain ⟨μ3, k1, k2⟩ := ih u (i + 1) (wr (wr (wr (wr μ' 69 i (w (4 * i))) 70 i (w (4 * i + 1))) 71 i (w (4 * i + 2))) 72 i (w (4 * i + 3))) (by omega) (by omega) (fun k e1 => by rw [wr_cell (by omega), wr_cell (by omega), wr_cell (by omega), wr_cell (by omega)]; exact hf k e1) (fun j => by
      obtain ⟨q1, q2, q3, q4⟩ := h9 j
      by_cases e : j = i
      · subst e
        rw [if_pos (by omega), if_pos (by omega), if_pos (by omega), if_pos (by omega)]
        simp (disch := omega) only [wr_ne, wr_eq, and_self]
      · simp (disch := omega) only [wr_ne]
        rw [q1, q2, q3, q4]
        by_cases g : j < i
        · rw [if_pos g, if_pos (show j < i + 1 by omega), if_pos g, if_pos (show j < i + 1 by omega), if_pos g, if_pos (show j < i + 1 by omega), if_pos g, if_pos (show j < i + 1 by omega)]
          exact ⟨rfl, rfl, rfl, rfl⟩
        · rw [if_neg g, if_neg (show ¬ j < i + 1 by omega), if_neg g, if_neg (show ¬ j < i + 1 by omega), if_neg g, if_neg (show ¬ j < i + 1 by omega), if_neg g, if_neg (show ¬ j < i + 1 by omega)]
          exact ⟨rfl, rfl, rfl, rfl⟩)
    rw [show ((i + 1 : Nat) : Int) = (i : Int) + 1 by omega] at k1
    exact ⟨μ3, fun Kc => (st Kc).trans (k1 Kc), k2⟩
theorem m_y4_loop : ∀ (d u i : Nat) (μ' : Mem), i + d = 3 → d < u → f_X10_year_L204 u (i : Int) μ' = some (μ' 67 0, fl μ' 80 i 3 (-1)) := by
  intro d
  induction d with
  | zero =>
    intro u i μ' hi hu
    obtain ⟨u, rfl⟩ : ∃ x, u = x + 1 := ⟨u - 1, by omega⟩
    rw [f_X10_year_L204, w32_nat (by omega), w32_id (a := 3) (by omega) (by omega), if_neg (by omega), show i = 3 by omega, fl_none]
  | succ d ih =>
    intro u i μ' hi hu
    obtain ⟨u, rfl⟩ : ∃ x, u = x + 1 := ⟨u - 1, by omega⟩
    have k1 := ih u (i + 1) (wr μ' 80 i (-1)) (by omega) (by omega)
    rw [show ((i + 1 : Nat) : Int) = (i : Int) + 1 by omega, fl_step (by omega), wr_cell (by omega)] at k1
    rw [f_X10_year_L204, w32_nat (by omega), w32_id (a := 3) (by omega) (by omega), if_pos (by omega), ck_ok (by omega) (by omega) (by omega), vm, Int.toNat_natCast]
    exact k1
