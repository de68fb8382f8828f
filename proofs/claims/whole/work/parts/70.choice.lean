/-- whether a set is beaten by another -/
def bO (V : Nat) (G : Nat → Nat → Int) (A o : Nat) : Prop := cn V (vt G A o) < cn V (vt G o A)
theorem x_bea_loop {μ : Mem} {C V A : Nat} {G : Nat → Nat → Int} (h6 : μ 6 6 = (C : Int)) (hC : C ≤ 5) (h7 : μ 6 7 = (V : Int)) (hV : V ≤ 4) (hA : A < 2 ^ C) (hg : ∀ P v : Nat, P < 2 ^ C → v < V → μ 35 (4 * P + v) = G P v ∧ 0 ≤ G P v ∧ G P v ≤ 18) :
    ∀ (d u i : Nat), i + d = 2 ^ C → d < u → ((∃ o : Nat, i ≤ o ∧ o < 2 ^ C ∧ bO V G A o) → f_X0_isBeaten_L2 (A : Int) u (i : Int) μ = some (1, μ)) ∧ ((∀ o : Nat, i ≤ o → o < 2 ^ C → ¬ bO V G A o) → f_X0_isBeaten_L2 (A : Int) u (i : Int) μ = some (0, μ)) := by
  have h32 := pow5 hC
  intro d
  induction d with
  | zero =>
    intro u i hi hu
    obtain ⟨u, rfl⟩ : ∃ v, u = v + 1 := ⟨u - 1, by omega⟩
    refine ⟨fun ⟨o, o1, o2, _⟩ => by omega, fun _ => ?_⟩
    rw [f_X0_isBeaten_L2, x_all h6 hC, bd_some, w32_nat (by omega), w32_id (by omega) (by omega), if_pos (by omega)]
  | succ d ih =>
    intro u i hi hu
    obtain ⟨u, rfl⟩ : ∃ v, u = v + 1 := ⟨u - 1, by omega⟩
    obtain ⟨ia, ib⟩ := ih u (i + 1) (by omega) (by omega)
    rw [show ((i + 1 : Nat) : Int) = (i : Int) + 1 by omega] at ia ib
    have c1 := cn_b V (vt G i A)
    have c2 := cn_b V (vt G A i)
    rw [f_X0_isBeaten_L2, x_all h6 hC, bd_some, w32_nat (i := i) (by omega), w32_id (a := ((2 ^ C : Nat) : Int) - 1) (by omega) (by omega), if_neg (by omega), x_vot h7 hV (A := i) (B := A) (by omega) (by omega) (hg i · (by omega)) (hg A · hA), bd_some, x_bits_m (by omega), bd_some, x_vot h7 hV (A := A) (B := i) (by omega) (by omega) (hg A · hA) (hg i · (by omega)), bd_some, x_bits_m (by omega), bd_some, w32_id (a := cn V (vt G i A)) (by omega) (by omega), w32_id (a := cn V (vt G A i)) (by omega) (by omega)]
    by_cases c : cn V (vt G A i) < cn V (vt G i A)
    · rw [if_pos c]
      exact ⟨fun _ => rfl, fun hh => absurd c (hh i (by omega) (by omega))⟩
    · rw [if_neg c]
      refine ⟨fun ⟨o, o1, o2, o3⟩ => ia ⟨o, ?_, o2, o3⟩, fun hh => ib (fun o o1 o2 => hh o (by omega) o2)⟩
      by_cases e : o = i
      · subst e; exact absurd o3 c
      · omega
theorem m_bea_loop {Kc : Int → Mem → Option (Int × Mem)} {μ : Mem} {C V A : Nat} {G : Nat → Nat → Int} (h6 : μ 67 0 = (C : Int)) (hC : C ≤ 5) (h7 : μ 67 1 = (V : Int)) (hV : V ≤ 4) (hA : A < 2 ^ C) (hg : ∀ P v : Nat, P < 2 ^ C → v < V → μ 93 (4 * P + v) = G P v ∧ 0 ≤ G P v ∧ G P v ≤ 18) :
    ∀ (d u i : Nat), i + d = 2 ^ C → d < u → f_X10_choice_L30 Kc (A : Int) u 0 (i : Int) μ = Kc 0 μ ∧ ((∃ o : Nat, i ≤ o ∧ o < 2 ^ C ∧ bO V G A o) → f_X10_choice_L30 Kc (A : Int) u 1 (i : Int) μ = Kc 0 μ) ∧ ((∀ o : Nat, i ≤ o → o < 2 ^ C → ¬ bO V G A o) → f_X10_choice_L30 Kc (A : Int) u 1 (i : Int) μ = Kc 1 μ) := by
  have h32 := pow5 hC
  intro d
  induction d with
  | zero =>
    intro u i hi hu
    obtain ⟨u, rfl⟩ : ∃ v, u = v + 1 := ⟨u - 1, by omega⟩
    have e : ∀ x : Int, f_X10_choice_L30 Kc (A : Int) (u + 1) x (i : Int) μ = Kc x μ := fun x => by
      rw [f_X10_choice_L30, h6, z_all hC, w32_nat (by omega), w32_nat (by omega), if_neg (by omega)]
    exact ⟨e 0, fun ⟨o, o1, o2, _⟩ => by omega, fun _ => e 1⟩
  | succ d ih =>
    intro u i hi hu
    obtain ⟨u, rfl⟩ : ∃ v, u = v + 1 := ⟨u - 1, by omega⟩
    obtain ⟨i0, ia, ib⟩ := ih u (i + 1) (by omega) (by omega)
    rw [show ((i + 1 : Nat) : Int) = (i : Int) + 1 by omega] at i0 ia ib
    have c1 := cn_b V (vt G i A)
    have c2 := cn_b V (vt G A i)
    have e0 : f_X10_choice_L30 Kc (A : Int) (u + 1) 0 (i : Int) μ = Kc 0 μ := by
      rw [f_X10_choice_L30, h6, z_all hC, w32_nat (i := i) (by omega), w32_nat (i := 2 ^ C) (by omega), if_pos (by omega), jn, jn, if_pos w0]
      exact i0
    refine ⟨e0, ?_⟩
    rw [f_X10_choice_L30, h6, z_all hC, w32_nat (i := i) (by omega), w32_nat (i := 2 ^ C) (by omega), if_pos (by omega), jn, jn, if_neg w1ne, m_vot h7 hV (A := i) (B := A) (by omega) (by omega) (hg i · (by omega)) (hg A · hA), bd_some, m_bits (by omega), bd_some, m_vot h7 hV (A := A) (B := i) (by omega) (by omega) (hg A · hA) (hg i · (by omega)), bd_some, m_bits (by omega), bd_some, w32_id (a := cn V (vt G i A)) (by omega) (by omega), w32_id (a := cn V (vt G A i)) (by omega) (by omega)]
    by_cases c : cn V (vt G A i) < cn V (vt G i A)
    · rw [if_pos c]
      exact ⟨fun _ => i0, fun hh => absurd c (hh i (by omega) (by omega))⟩
    · rw [if_neg c]
      refine ⟨fun ⟨o, o1, o2, o3⟩ => ia ⟨o, ?_, o2, o3⟩, fun hh => ib (fun o o1 o2 => hh o (by omega) o2)⟩
      by_cases e : o = i
      · subst e; exact absurd o3 c
      · omega
theorem x_unb_loop {μ : Mem} {C V : Nat} {G : Nat → Nat → Int} {L : Nat → Nat} (h6 : μ 6 6 = (C : Int)) (hC : C ≤ 5) (h7 : μ 6 7 = (V : Int)) (hV : V ≤ 4) (hg : ∀ P v : Nat, P < 2 ^ C → v < V → μ 35 (4 * P + v) = G P v ∧ 0 ≤ G P v ∧ G P v ≤ 18) (hL : ∀ A, (L A = 0 ↔ ∃ o : Nat, o < 2 ^ C ∧ bO V G A o)) :
    ∀ (d u i : Nat), i + d = 2 ^ C → d < u → f_X0_firstUnbeaten_L2 u (i : Int) μ = some (fsz (fst L d i) (-9), μ) := by
  have h32 := pow5 hC
  intro d
  induction d with
  | zero =>
    intro u i hi hu
    obtain ⟨u, rfl⟩ : ∃ v, u = v + 1 := ⟨u - 1, by omega⟩
    rw [f_X0_firstUnbeaten_L2, x_all h6 hC, bd_some, w32_nat (by omega), w32_id (by omega) (by omega), if_pos (by omega)]
    rfl
  | succ d ih =>
    intro u i hi hu
    obtain ⟨u, rfl⟩ : ∃ v, u = v + 1 := ⟨u - 1, by omega⟩
    have ia := ih u (i + 1) (by omega) (by omega)
    rw [show ((i + 1 : Nat) : Int) = (i : Int) + 1 by omega] at ia
    obtain ⟨ba, bb⟩ := x_bea_loop h6 hC h7 hV (A := i) (by omega) hg (2 ^ C) 100000 0 (by omega) (by omega)
    rw [Int.natCast_zero] at ba bb
    rw [f_X0_firstUnbeaten_L2, x_all h6 hC, bd_some, w32_nat (i := i) (by omega), w32_id (a := ((2 ^ C : Nat) : Int) - 1) (by omega) (by omega), if_neg (by omega), f_X0_isBeaten, fst]
    by_cases c : L i = 0
    · obtain ⟨o, o1, o2⟩ := (hL i).mp c
      rw [ba ⟨o, by omega, o1, o2⟩, bd_some, if_neg w1ne, if_pos c]
      exact ia
    · rw [bb (fun o _ o1 o2 => c ((hL i).mpr ⟨o, o1, o2⟩)), bd_some, if_pos w0, if_neg c]
      rfl
theorem m_unb_loop {μ : Mem} {C V : Nat} {G : Nat → Nat → Int} {L : Nat → Nat} (h6 : μ 67 0 = (C : Int)) (hC : C ≤ 5) (h7 : μ 67 1 = (V : Int)) (hV : V ≤ 4) (hg : ∀ P v : Nat, P < 2 ^ C → v < V → μ 93 (4 * P + v) = G P v ∧ 0 ≤ G P v ∧ G P v ≤ 18) (hL : ∀ A, (L A = 0 ↔ ∃ o : Nat, o < 2 ^ C ∧ bO V G A o)) :
    ∀ (d u i : Nat), i + d = 2 ^ C → d < u → f_X10_choice_L16 u (i : Int) μ = some (fsz (fst L d i) (-9), μ) := by
  have h32 := pow5 hC
  intro d
  induction d with
  | zero =>
    intro u i hi hu
    obtain ⟨u, rfl⟩ : ∃ v, u = v + 1 := ⟨u - 1, by omega⟩
    rw [f_X10_choice_L16, h6, z_all hC, w32_nat (by omega), w32_nat (by omega), if_neg (by omega)]
    rfl
  | succ d ih =>
    intro u i hi hu
    obtain ⟨u, rfl⟩ : ∃ v, u = v + 1 := ⟨u - 1, by omega⟩
    have ia := ih u (i + 1) (by omega) (by omega)
    rw [show ((i + 1 : Nat) : Int) = (i : Int) + 1 by omega] at ia
    have bl := fun Kc => m_bea_loop (Kc := Kc) h6 hC h7 hV (A := i) (by omega) hg (2 ^ C) 100000 0 (by omega) (by omega)
    rw [Int.natCast_zero] at bl
    rw [f_X10_choice_L16, h6, z_all hC, w32_nat (i := i) (by omega), w32_nat (i := 2 ^ C) (by omega), if_pos (by omega), fst]
    by_cases c : L i = 0
    · obtain ⟨o, o1, o2⟩ := (hL i).mp c
      rw [(bl _).2.1 ⟨o, by omega, o1, o2⟩, if_pos w0, if_pos c]
      exact ia
    · rw [(bl _).2.2 (fun o _ o1 o2 => c ((hL i).mpr ⟨o, o1, o2⟩)), if_neg w1ne, if_neg c]
      rfl
theorem p_choice {n : Nat} (hn : n ≤ 900) : Pair n f_X9_choice f_X10_choice := by
  intro μ h
  obtain ⟨C, V, hC0, hV0, hYX, hYM, hVX, hVM⟩ := h.yr
  have hC := hYX.1
  have h32 := pow5 hC
  have hx6 := hYX.2.1
  have hday := h.2.2.2.1
  have ht := h.2.2.2.2.2.2.2.1
  by_cases c0 : C = 0
  · refine pair_bad h (a := -4) ?_ ?_
    · rw [f_X9_choice, hx6, c0, Int.natCast_zero, if_pos w0]
    · rw [f_X10_choice, hC0, c0, Int.natCast_zero, if_pos w0]
  · obtain ⟨μ1, g1, g2, g3⟩ := x_wei hYX hVX hday.2 hn hday.1
    have hx : FX μ μ1 := FX.of g2 (fun k hk => by simp at hk; omega)
    obtain ⟨G, hG⟩ : ∃ G : Nat → Nat → Int, G = Gn C (μ 68) (μ 73) (gnv (μ 69) (μ 70) (μ 71) (μ 72)) := ⟨_, rfl⟩
    have hGb : ∀ P v : Nat, v < V → 0 ≤ G P v ∧ G P v ≤ 18 := fun P v hv => by rw [hG]; exact Gn_b hVX.2.2.2 P (by have := hVX.1; omega)
    rw [← hG] at g3
    have hh := hx.hi
    obtain ⟨μ2, k1, k2, k3, k4, k5⟩ := m_fg (hYM.hi hh) (hVM.hi hh) hday.2 hn (fun i hi => by rw [hh 73 (by omega)])
    rw [← hG] at k5
    obtain ⟨L, hL⟩ : ∃ L : Nat → Nat, ∀ A, (L A = 0 ↔ ∃ o : Nat, o < 2 ^ C ∧ bO V G A o) := by
      refine ⟨fun A => @ite _ (∃ o : Nat, o < 2 ^ C ∧ bO V G A o) (Classical.propDecidable _) 0 1, fun A => ?_⟩
      dsimp only
      by_cases hq : ∃ o : Nat, o < 2 ^ C ∧ bO V G A o
      · rw [if_pos hq]; exact ⟨fun _ => hq, fun _ => rfl⟩
      · rw [if_neg hq]; exact ⟨fun z => absurd z (by omega), fun z => absurd z hq⟩
    have ex := x_unb_loop (μ := μ1) (V := V) (by rw [g2 6 (by simp)]; exact hx6) hC (by rw [g2 6 (by simp)]; exact hVX.2.1) hVX.1 (fun P v hP hv => ⟨g3 P v hP hv, hGb P v hv⟩) hL (2 ^ C) 100000 0 (by omega) (by omega)
    have em := m_unb_loop (μ := μ2) (V := V) (by rw [k2.2 0 (by omega), hh 67 (by omega)]; exact hC0) hC (by rw [k2.2 1 (by omega), hh 67 (by omega)]; exact hV0) hVX.1 (fun P v hP hv => ⟨k5 P v hP hv, hGb P v hv⟩) hL (2 ^ C) 100000 0 (by omega) (by omega)
    rw [Int.natCast_zero] at ex em
    refine ⟨fsz (fst L (2 ^ C) 0) (-9), μ1, μ2, ?_, ?_, (aside_end h hx k2 ?_ k3).up (Nat.le_succ n)⟩
    · rw [f_X9_choice, hx6, w32_nat (by omega), if_neg (by omega), g1, bd_some, f_X0_firstUnbeaten, ex, bd_some]
    · rw [f_X10_choice, hh 67 (by omega), hC0, w32_nat (by omega), if_neg (by omega), k1, bd_some, em]
    · rw [k4, hh 67 (by omega), ← ht, g2 0 (by simp)]
/-! parts -/
def sgb (V who : Nat) (f : Nat → Int) : Int := sg V (fun v => if who.testBit v then f v else 0)
def moM (V : Nat) (G : Nat → Nat → Int) (who : Nat) : Nat → Int
  | 0 => 0
  | i + 1 => if moM V G who i < sgb V who (G i) then sgb V who (G i) else moM V G who i
theorem sgb_b {V who : Nat} {f : Nat → Int} {b : Int} (hb : 0 ≤ b) (h : ∀ v, v < V → 0 ≤ f v ∧ f v ≤ b) : 0 ≤ sgb V who f ∧ sgb V who f ≤ b * V :=
  sg_b (fun v hv => by have := h v hv; split <;> omega)
theorem x_mos_in {μ : Mem} {V who P : Nat} {G : Nat → Nat → Int} (h7 : μ 6 7 = (V : Int)) (hV : V ≤ 4) (hw : who < 2 ^ V) (hP : P < 32) (hg : ∀ v : Nat, v < V → μ 35 (4 * P + v) = G P v) :
    ∀ (d u i : Nat), i + d = V → d < u → ∀ Kc, f_X0_mostOf_L20 Kc (who : Int) (P : Int) u (sgb i who (G P)) (i : Int) μ = Kc (sgb V who (G P)) μ := by
  have hw32 : who < 32 := by have := Nat.pow_le_pow_right (show 0 < 2 by omega) hV; omega
  intro d
  induction d with
  | zero =>
    intro u i hi hu Kc
    obtain ⟨u, rfl⟩ : ∃ v, u = v + 1 := ⟨u - 1, by omega⟩
    rw [f_X0_mostOf_L20, h7, w32_nat (by omega), w32_nat (by omega), if_neg (by omega), show i = V by omega]
  | succ d ih =>
    intro u i hi hu Kc
    obtain ⟨u, rfl⟩ : ∃ v, u = v + 1 := ⟨u - 1, by omega⟩
    have ia := ih u (i + 1) (by omega) (by omega) Kc
    have hz := zbit_s ⟨who, hw32⟩ ⟨i, by omega⟩
    dsimp only at hz
    have e : sgb (i + 1) who (G P) = sgb i who (G P) + (if who.testBit i then G P i else 0) := rfl
    rw [show ((i + 1 : Nat) : Int) = (i : Int) + 1 by omega, e] at ia
    rw [f_X0_mostOf_L20, h7, w32_nat (i := i) (by omega), w32_nat (i := V) (by omega), if_pos (by omega), jn, hz, ck_ok (by omega) (by omega) (by omega), w32_id (a := (P : Int) * 4 + (i : Int)) (by omega) (by omega), show ((P : Int) * 4 + (i : Int)).toNat = 4 * P + i by omega, hg i (by omega), vl]
    by_cases c : who.testBit i = true
    · rw [if_pos c] at ia
      rw [if_pos c, if_neg w1ne]; exact ia
    · rw [if_neg c, Int.add_zero] at ia
      rw [if_neg c, if_pos w0]; exact ia
theorem x_mos_loop {μ : Mem} {C V who : Nat} {G : Nat → Nat → Int} (h6 : μ 6 6 = (C : Int)) (hC : C ≤ 5) (h7 : μ 6 7 = (V : Int)) (hV : V ≤ 4) (hw : who < 2 ^ V) (hg : ∀ P v : Nat, P < 2 ^ C → v < V → μ 35 (4 * P + v) = G P v ∧ 0 ≤ G P v ∧ G P v ≤ 18) :
    ∀ (d u i : Nat), i + d = 2 ^ C → d < u → f_X0_mostOf_L5 (who : Int) u (moM V G who i) (i : Int) μ = some (moM V G who (2 ^ C), μ) ∧ 0 ≤ moM V G who (2 ^ C) ∧ moM V G who (2 ^ C) ≤ 100 ∨ ¬ (0 ≤ moM V G who i ∧ moM V G who i ≤ 100) := by
  have h32 := pow5 hC
  intro d
  induction d with
  | zero =>
    intro u i hi hu
    obtain ⟨u, rfl⟩ : ∃ v, u = v + 1 := ⟨u - 1, by omega⟩
    have e : i = 2 ^ C := by omega
    by_cases hb : 0 ≤ moM V G who i ∧ moM V G who i ≤ 100
    · rw [← e]
      refine Or.inl ⟨?_, hb⟩
      rw [f_X0_mostOf_L5, x_all h6 hC, bd_some, w32_nat (by omega), w32_id (by omega) (by omega), if_pos (by omega)]
    · exact Or.inr hb
  | succ d ih =>
    intro u i hi hu
    obtain ⟨u, rfl⟩ : ∃ v, u = v + 1 := ⟨u - 1, by omega⟩
    by_cases hb : 0 ≤ moM V G who i ∧ moM V G who i ≤ 100
    · have hs := sgb_b (V := V) (who := who) (f := G i) (b := 18) (by omega) (fun v hv => (hg i v (by omega) hv).2)
      have hin := x_mos_in (who := who) (P := i) h7 hV hw (by omega) (fun v hv => (hg i v (by omega) hv).1) V 100000 0 (by omega) (by omega)
      rw [Int.natCast_zero, show sgb 0 who (G i) = 0 from rfl] at hin
      rcases ih u (i + 1) (by omega) (by omega) with ⟨ia, ib⟩ | ia
      · refine Or.inl ⟨?_, ib⟩
        rw [show ((i + 1 : Nat) : Int) = (i : Int) + 1 by omega, moM] at ia
        rw [f_X0_mostOf_L5, x_all h6 hC, bd_some, w32_nat (i := i) (by omega), w32_id (a := ((2 ^ C : Nat) : Int) - 1) (by omega) (by omega), if_neg (by omega), hin, vl]
        unfold zmax
        rw [w32_id (a := moM V G who i) (by omega) (by omega), w32_id (a := sgb V who (G i)) (by omega) (by omega)]
        exact ia
      · exfalso
        apply ia
        rw [moM]
        split <;> omega
    · exact Or.inr hb
theorem x_mos {μ : Mem} {C V who : Nat} {G : Nat → Nat → Int} (h6 : μ 6 6 = (C : Int)) (hC : C ≤ 5) (h7 : μ 6 7 = (V : Int)) (hV : V ≤ 4) (hw : who < 2 ^ V) (hg : ∀ P v : Nat, P < 2 ^ C → v < V → μ 35 (4 * P + v) = G P v ∧ 0 ≤ G P v ∧ G P v ≤ 18) :
    f_X0_mostOf μ (who : Int) = some (moM V G who (2 ^ C), μ) ∧ 0 ≤ moM V G who (2 ^ C) ∧ moM V G who (2 ^ C) ≤ 100 := by
  have h32 := pow5 hC
  rcases x_mos_loop h6 hC h7 hV hw hg (2 ^ C) 100000 0 (by omega) (by omega) with ⟨ia, ib⟩ | ia
  · rw [Int.natCast_zero, show moM V G who 0 = 0 from rfl] at ia
    exact ⟨by rw [f_X0_mostOf, ia], ib⟩
  · exfalso
    apply ia
    rw [moM]
    omega
theorem m_mos_in {μ : Mem} {V who P : Nat} {G : Nat → Nat → Int} (h7 : μ 67 1 = (V : Int)) (hV : V ≤ 4) (hw : who < 2 ^ V) (hP : P < 32) (hg : ∀ v : Nat, v < V → μ 93 (4 * P + v) = G P v) :
    ∀ (d u i : Nat), i + d = V → d < u → ∀ Kc, f_X10_mostOf_L20 Kc (who : Int) (P : Int) u (sgb i who (G P)) (i : Int) μ = Kc (sgb V who (G P)) μ := by
  intro d
  induction d with
  | zero =>
    intro u i hi hu Kc
    obtain ⟨u, rfl⟩ : ∃ v, u = v + 1 := ⟨u - 1, by omega⟩
    rw [f_X10_mostOf_L20, h7, w32_nat (by omega), w32_nat (by omega), if_neg (by omega), show i = V by omega]
  | succ d ih =>
    intro u i hi hu Kc
    obtain ⟨u, rfl⟩ : ∃ v, u = v + 1 := ⟨u - 1, by omega⟩
    have ia := ih u (i + 1) (by omega) (by omega) Kc
    have hm := m_has (μ := μ) (n := V) (i := i) (by omega) (by omega) (fun b => who.testBit b)
    rw [← pm hw] at hm
    have e : sgb (i + 1) who (G P) = sgb i who (G P) + (if who.testBit i then G P i else 0) := rfl
    rw [show ((i + 1 : Nat) : Int) = (i : Int) + 1 by omega, e] at ia
    rw [f_X10_mostOf_L20, h7, w32_nat (i := i) (by omega), w32_nat (i := V) (by omega), if_pos (by omega), hm, bd_some, jn, bt_w, ck_ok (by omega) (by omega) (by omega), w32_id (a := 4 * (P : Int) + (i : Int)) (by omega) (by omega), show (4 * (P : Int) + (i : Int)).toNat = 4 * P + i by omega, hg i (by omega)]
    by_cases c : who.testBit i = true
    · rw [if_pos c] at ia
      rw [if_pos c]; exact ia
    · rw [if_neg c] at ia
      rw [if_neg c]; exact ia
theorem m_mos_loop {μ : Mem} {C V who : Nat} {G : Nat → Nat → Int} (h6 : μ 67 0 = (C : Int)) (hC : C ≤ 5) (h7 : μ 67 1 = (V : Int)) (hV : V ≤ 4) (hw : who < 2 ^ V) (hg : ∀ P v : Nat, P < 2 ^ C → v < V → μ 93 (4 * P + v) = G P v ∧ 0 ≤ G P v ∧ G P v ≤ 18) :
    ∀ (d u i : Nat), i + d = 2 ^ C → d < u → (0 ≤ moM V G who i ∧ moM V G who i ≤ 100) → f_X10_mostOf_L4 (who : Int) u (moM V G who i) (i : Int) μ = some (moM V G who (2 ^ C), μ) := by
  have h32 := pow5 hC
  intro d
  induction d with
  | zero =>
    intro u i hi hu hb
    obtain ⟨u, rfl⟩ : ∃ v, u = v + 1 := ⟨u - 1, by omega⟩
    rw [f_X10_mostOf_L4, h6, z_all hC, w32_nat (by omega), w32_nat (by omega), if_neg (by omega), show i = 2 ^ C by omega]
  | succ d ih =>
    intro u i hi hu hb
    obtain ⟨u, rfl⟩ : ∃ v, u = v + 1 := ⟨u - 1, by omega⟩
    have hs := sgb_b (V := V) (who := who) (f := G i) (b := 18) (by omega) (fun v hv => (hg i v (by omega) hv).2)
    have hin := m_mos_in (who := who) (P := i) h7 hV hw (by omega) (fun v hv => (hg i v (by omega) hv).1) V 100000 0 (by omega) (by omega)
    rw [Int.natCast_zero, show sgb 0 who (G i) = 0 from rfl] at hin
    have ia := ih u (i + 1) (by omega) (by omega) (by rw [moM]; split <;> omega)
    rw [show ((i + 1 : Nat) : Int) = (i : Int) + 1 by omega, moM] at ia
    rw [f_X10_mostOf_L4, h6, z_all hC, w32_nat (i := i) (by omega), w32_nat (i := 2 ^ C) (by omega), if_pos (by omega), hin, vl, w32_id (a := moM V G who i) (by omega) (by omega), w32_id (a := sgb V who (G i)) (by omega) (by omega)]
    exact ia
theorem m_mos {μ : Mem} {C V who : Nat} {G : Nat → Nat → Int} (h6 : μ 67 0 = (C : Int)) (hC : C ≤ 5) (h7 : μ 67 1 = (V : Int)) (hV : V ≤ 4) (hw : who < 2 ^ V) (hg : ∀ P v : Nat, P < 2 ^ C → v < V → μ 93 (4 * P + v) = G P v ∧ 0 ≤ G P v ∧ G P v ≤ 18) :
    f_X10_mostOf μ (who : Int) = some (moM V G who (2 ^ C), μ) := by
  have h32 := pow5 hC
  have ia := m_mos_loop h6 hC h7 hV hw hg (2 ^ C) 100000 0 (by omega) (by omega) (by rw [moM]; omega)
  rw [Int.natCast_zero, show moM V G who 0 = 0 from rfl] at ia
  rw [f_X10_mostOf, ia]
theorem x_has_in {μ : Mem} {V who q : Nat} {R : Nat → Int} (h7 : μ 6 7 = (V : Int)) (hV : V ≤ 4) (hw : who < 2 ^ V) (hg : ∀ v : Nat, v < V → μ (q + 1) v = R v) :
    ∀ (d u i : Nat), i + d = V → d < u → ∀ Kc, f_X0_firstLeaving_L18 Kc q (who : Int) u (sgb i who (fun v => w32 (R v))) (i : Int) μ = Kc (sgb V who (fun v => w32 (R v))) μ := by
  have hw32 : who < 32 := by have := Nat.pow_le_pow_right (show 0 < 2 by omega) hV; omega
  intro d
  induction d with
  | zero =>
    intro u i hi hu Kc
    obtain ⟨u, rfl⟩ : ∃ v, u = v + 1 := ⟨u - 1, by omega⟩
    rw [f_X0_firstLeaving_L18, h7, w32_nat (by omega), w32_nat (by omega), if_neg (by omega), show i = V by omega]
  | succ d ih =>
    intro u i hi hu Kc
    obtain ⟨u, rfl⟩ : ∃ v, u = v + 1 := ⟨u - 1, by omega⟩
    have ia := ih u (i + 1) (by omega) (by omega) Kc
    have hz := zbit_s ⟨who, hw32⟩ ⟨i, by omega⟩
    dsimp only at hz
    have e : sgb (i + 1) who (fun v => w32 (R v)) = sgb i who (fun v => w32 (R v)) + (if who.testBit i then w32 (R i) else 0) := rfl
    rw [show ((i + 1 : Nat) : Int) = (i : Int) + 1 by omega, e] at ia
    rw [f_X0_firstLeaving_L18, h7, w32_nat (i := i) (by omega), w32_nat (i := V) (by omega), if_pos (by omega), jn, hz, ck_ok (by omega) (by omega) (by omega), Int.toNat_natCast, hg i (by omega), vl]
    by_cases c : who.testBit i = true
    · rw [if_pos c] at ia
      rw [if_pos c, if_neg w1ne]; exact ia
    · rw [if_neg c, Int.add_zero] at ia
      rw [if_neg c, if_pos w0]; exact ia
theorem m_has_in {μ : Mem} {V who r : Nat} {R : Nat → Int} (hr : r < 6) (h7 : μ 67 1 = (V : Int)) (hV : V ≤ 4) (hw : who < 2 ^ V) (hg : ∀ v : Nat, v < V → μ 77 (40 * r + v) = R v) :
    ∀ (d u i : Nat), i + d = V → d < u → ∀ Kc, f_X10_parts_L87 Kc (r : Int) (who : Int) u (sgb i who (fun v => w32 (R v))) (i : Int) μ = Kc (sgb V who (fun v => w32 (R v))) μ := by
  intro d
  induction d with
  | zero =>
    intro u i hi hu Kc
    obtain ⟨u, rfl⟩ : ∃ v, u = v + 1 := ⟨u - 1, by omega⟩
    rw [f_X10_parts_L87, h7, w32_nat (by omega), w32_nat (by omega), if_neg (by omega), show i = V by omega]
  | succ d ih =>
    intro u i hi hu Kc
    obtain ⟨u, rfl⟩ : ∃ v, u = v + 1 := ⟨u - 1, by omega⟩
    have ia := ih u (i + 1) (by omega) (by omega) Kc
    have hm := m_has (μ := μ) (n := V) (i := i) (by omega) (by omega) (fun b => who.testBit b)
    rw [← pm hw] at hm
    have e : sgb (i + 1) who (fun v => w32 (R v)) = sgb i who (fun v => w32 (R v)) + (if who.testBit i then w32 (R i) else 0) := rfl
    rw [show ((i + 1 : Nat) : Int) = (i : Int) + 1 by omega, e] at ia
    rw [f_X10_parts_L87, h7, w32_nat (i := i) (by omega), w32_nat (i := V) (by omega), if_pos (by omega), hm, bd_some, jn, bt_w, ck_ok (by omega) (by omega) (by omega), w32_id (a := 40 * (r : Int) + (i : Int)) (by omega) (by omega), show (40 * (r : Int) + (i : Int)).toNat = 40 * r + i by omega, hg i (by omega)]
    by_cases c : who.testBit i = true
    · rw [if_pos c] at ia
      rw [if_pos c]; exact ia
    · rw [if_neg c] at ia
      rw [if_neg c]; exact ia
theorem sgb_w {V who : Nat} {R : Nat → Int} (hV : V ≤ 4) : -9000000000 ≤ sgb V who (fun v => w32 (R v)) ∧ sgb V who (fun v => w32 (R v)) ≤ 9000000000 := by
  have h : ∀ m : Nat, -2147483648 * (m : Int) ≤ sgb m who (fun v => w32 (R v)) ∧ sgb m who (fun v => w32 (R v)) ≤ 2147483648 * (m : Int) := by
    intro m
    induction m with
    | zero => constructor <;> simp [sgb, sg]
    | succ m ih =>
      have e : sgb (m + 1) who (fun v => w32 (R v)) = sgb m who (fun v => w32 (R v)) + (if who.testBit m then w32 (R m) else 0) := rfl
      have h1 := w32_lo (R m)
      have h2 := w32_hi (R m)
      rw [e]
      split <;> omega
  have := h V
  omega
def lev (C V : Nat) (G : Nat → Nat → Int) (R : Nat → Int) (k : Nat) : Nat := if sgb V k (fun v => w32 (R v)) < moM V G k (2 ^ C) then 1 else 0
theorem z_all4 {V : Nat} (hV : V ≤ 4) : zshl 1 (V : Int) = ((2 ^ V : Nat) : Int) := zshl_s ⟨V, by omega⟩
theorem x_lev_loop {μ : Mem} {C V q : Nat} {G : Nat → Nat → Int} {R : Nat → Int} (h6 : μ 6 6 = (C : Int)) (hC : C ≤ 5) (h7 : μ 6 7 = (V : Int)) (hV : V ≤ 4) (hg : ∀ P v : Nat, P < 2 ^ C → v < V → μ 35 (4 * P + v) = G P v ∧ 0 ≤ G P v ∧ G P v ≤ 18) (hR : ∀ v : Nat, v < V → μ (q + 1) v = R v) :
    ∀ (d u i : Nat), i + d = 2 ^ V → d < u → f_X0_firstLeaving_L2 q u (i : Int) μ = some (fsz (fst (lev C V G R) d i) (-9), μ) := by
  have h16 : 2 ^ V ≤ 16 := Nat.pow_le_pow_right (show 0 < 2 by omega) hV
  intro d
  induction d with
  | zero =>
    intro u i hi hu
    obtain ⟨u, rfl⟩ : ∃ v, u = v + 1 := ⟨u - 1, by omega⟩
    rw [f_X0_firstLeaving_L2, h7, z_all4 hV, w32_nat (by omega), w32_nat (by omega), if_neg (by omega)]
    rfl
  | succ d ih =>
    intro u i hi hu
    obtain ⟨u, rfl⟩ : ∃ v, u = v + 1 := ⟨u - 1, by omega⟩
    have ia := ih u (i + 1) (by omega) (by omega)
    rw [show ((i + 1 : Nat) : Int) = (i : Int) + 1 by omega] at ia
    have hin := x_has_in (who := i) (q := q) h7 hV (by omega) hR V 100000 0 (by omega) (by omega)
    rw [Int.natCast_zero, show sgb 0 i (fun v => w32 (R v)) = 0 from rfl] at hin
    obtain ⟨mo, mb1, mb2⟩ := x_mos (who := i) h6 hC h7 hV (by omega) hg
    have hw := sgb_w (V := V) (who := i) (R := R) hV
    rw [f_X0_firstLeaving_L2, h7, z_all4 hV, w32_nat (i := i) (by omega), w32_nat (i := 2 ^ V) (by omega), if_pos (by omega), hin, mo, bd_some, w32_id (a := moM V G i (2 ^ C)) (by omega) (by omega), fst]
    simp only [ycmp_lt]
    rw [w64_id (a := sgb V i (fun v => w32 (R v))) (by omega) (by omega), w64_id (a := moM V G i (2 ^ C)) (by omega) (by omega)]
    by_cases c : sgb V i (fun v => w32 (R v)) < moM V G i (2 ^ C)
    · rw [if_pos c, if_neg (show ¬ lev C V G R i = 0 by unfold lev; rw [if_pos c]; omega)]
      rfl
    · rw [if_neg c, if_pos (show lev C V G R i = 0 by unfold lev; rw [if_neg c])]
      exact ia
theorem m_lev_loop {μs : Mem} {C V r : Nat} {G : Nat → Nat → Int} {R : Nat → Int} (hr : r < 6) (h6 : μs 67 0 = (C : Int)) (hC : C ≤ 5) (h7 : μs 67 1 = (V : Int)) (hV : V ≤ 4) (hg : ∀ P v : Nat, P < 2 ^ C → v < V → μs 93 (4 * P + v) = G P v ∧ 0 ≤ G P v ∧ G P v ≤ 18) (hR : ∀ v : Nat, v < V → μs 77 (40 * r + v) = R v) :
    ∀ (d u i : Nat), i + d = 2 ^ V → d < u → ∀ Kc, f_X10_parts_L65 Kc (r : Int) u (i : Int) (wr μs 67 10 (-9)) = Kc (wr μs 67 10 (fsz (fst (lev C V G R) d i) (-9))) := by
  have h16 : 2 ^ V ≤ 16 := Nat.pow_le_pow_right (show 0 < 2 by omega) hV
  intro d
  induction d with
  | zero =>
    intro u i hi hu Kc
    obtain ⟨u, rfl⟩ : ∃ v, u = v + 1 := ⟨u - 1, by omega⟩
    rw [f_X10_parts_L65, wr_ne (p := 10) (q := 1) (by omega), h7, z_all4 hV, w32_nat (by omega), w32_nat (by omega), if_neg (by omega)]
    rfl
  | succ d ih =>
    intro u i hi hu Kc
    obtain ⟨u, rfl⟩ : ∃ v, u = v + 1 := ⟨u - 1, by omega⟩
    have ia := ih u (i + 1) (by omega) (by omega) Kc
    rw [show ((i + 1 : Nat) : Int) = (i : Int) + 1 by omega] at ia
    have hin := m_has_in (μ := wr μs 67 10 (-9)) (who := i) (V := V) (R := R) hr (by rw [wr_ne (by omega)]; exact h7) hV (by omega) (fun v hv => by rw [wr_cell (by omega)]; exact hR v hv) V 100000 0 (by omega) (by omega)
    rw [Int.natCast_zero, show sgb 0 i (fun v => w32 (R v)) = 0 from rfl] at hin
    have mo := m_mos (μ := wr μs 67 10 (-9)) (who := i) (C := C) (V := V) (by rw [wr_ne (by omega)]; exact h6) hC (by rw [wr_ne (by omega)]; exact h7) hV (by omega) (fun P v hP hv => by rw [wr_cell (by omega)]; exact hg P v hP hv)
    have mb : 0 ≤ moM V G i (2 ^ C) ∧ moM V G i (2 ^ C) ≤ 100 := by
      have : ∀ m : Nat, m ≤ 2 ^ C → 0 ≤ moM V G i m ∧ moM V G i m ≤ 100 := by
        intro m
        induction m with
        | zero => intro _; rw [moM]; omega
        | succ m ihm =>
          intro hm
          have h1 := ihm (by omega)
          have hs := sgb_b (V := V) (who := i) (f := G m) (b := 18) (by omega) (fun v hv => (hg m v (by omega) hv).2)
          rw [moM]
          split <;> omega
      exact this _ (Nat.le_refl _)
    have hw := sgb_w (V := V) (who := i) (R := R) hV
    rw [f_X10_parts_L65, wr_ne (p := 10) (q := 1) (by omega), h7, z_all4 hV, w32_nat (i := i) (by omega), w32_nat (i := 2 ^ V) (by omega), if_pos (by omega), wr_eq, if_pos (by decide +kernel), hin, mo, bd_some, w32_id (a := moM V G i (2 ^ C)) (by omega) (by omega), fst]
    simp only [ycmp_lt]
    rw [w64_id (a := sgb V i (fun v => w32 (R v))) (by omega) (by omega), w64_id (a := moM V G i (2 ^ C)) (by omega) (by omega), vl, vm]
    have ww : ∀ z : Int, wr (wr μs 67 10 (-9)) 67 10 z = wr μs 67 10 z := fun z => by
      funext j q
      by_cases e : j = 67 ∧ q = 10
      · obtain ⟨rfl, rfl⟩ := e; rw [wr_eq, wr_eq]
      · rw [wr_ne (by omega), wr_ne (by omega), wr_ne (by omega)]
    by_cases c : sgb V i (fun v => w32 (R v)) < moM V G i (2 ^ C)
    · rw [if_pos c, if_neg (show ¬ lev C V G R i = 0 by unfold lev; rw [if_pos c]; omega), ww]
      obtain ⟨u, rfl⟩ : ∃ v, u = v + 1 := ⟨u - 1, by omega⟩
      rw [f_X10_parts_L65, wr_eq, w32_nat (i := i) (by omega), if_neg (c := (i : Int) < 0) (by omega)]
      split <;> rfl
    · rw [if_neg c, if_pos (show lev C V G R i = 0 by unfold lev; rw [if_neg c]), ww]
      exact ia
theorem p_parts {n : Nat} (hn : n ≤ 900) {p : Int} (hp : inR p) : Pair n (fun μ => f_X9_parts μ p) (fun μ => f_X10_parts μ p) := by
  intro μ h
  obtain ⟨C, V, hC0, hV0, hYX, hYM, hVX, hVM⟩ := h.yr
  have hC := hYX.1
  have h32 := pow5 hC
  have hV4 := hVX.1
  have h16 : 2 ^ V ≤ 16 := Nat.pow_le_pow_right (show 0 < 2 by omega) hV4
  have hx6 := hYX.2.1
  have hday := h.2.2.2.1
  have hx := x_rowref h hC0 hC hp
  by_cases hr : 0 ≤ p ∧ p < ((6 : Nat) : Int)
  · obtain ⟨r, hr6, rfl⟩ := nat_of hr
    obtain ⟨z1, z2, z3⟩ := h.1.sz hr6
    obtain ⟨⟨b1, b2⟩, -, hc⟩ := h.1 r hr6
    rw [if_pos hr, Int.toNat_natCast] at hx
    by_cases c0 : C = 0
    · rw [if_pos c0] at hx
      refine pair_bad h (a := -4) ?_ ?_
      · show f_X9_parts μ (r : Int) = _
        rw [f_X9_parts, hx, bd_some, if_neg wm4]
      · show f_X10_parts μ (r : Int) = _
        rw [f_X10_parts, m_isRow1 hr6, bd_some, if_neg w1ne, hC0, c0, Int.natCast_zero, if_pos w0]
    · rw [if_neg c0] at hx
      by_cases c1 : μ 76 r < 0
      · rw [if_pos c1] at hx
        refine pair_fnd h 1 (by omega) (by omega) ?_ (fun μ1 e => ?_)
        · show f_X9_parts μ (r : Int) = _
          rw [f_X9_parts, hx, x_found (by omega) (by omega), bd_some, if_neg wm3]
        · show f_X10_parts μ1 (r : Int) = _
          rw [f_X10_parts, m_isRow1 hr6, bd_some, if_neg w1ne, e 67 (by omega) (by omega), hC0, w32_nat (by omega), if_neg (by omega), ck_ok (by omega) (by omega) (by omega), e 76 (by omega) (by omega), w32_nat (by omega), Int.toNat_natCast, z1.w, if_pos c1, bd_ret]
      · rw [if_neg c1] at hx
        by_cases c2 : μ 76 r = (V : Int)
        · have hxV : μ (38 + 2 * r) 1 = (V : Int) := by rw [z3, c2]
          obtain ⟨μ1, g1, g2, g3⟩ := x_wei hYX hVX hday.2 hn hday.1
          have hxf : FX μ μ1 := FX.of g2 (fun k hk => by simp at hk; omega)
          obtain ⟨G, hG⟩ : ∃ G : Nat → Nat → Int, G = Gn C (μ 68) (μ 73) (gnv (μ 69) (μ 70) (μ 71) (μ 72)) := ⟨_, rfl⟩
          have hGb : ∀ P v : Nat, v < V → 0 ≤ G P v ∧ G P v ≤ 18 := fun P v hv => by rw [hG]; exact Gn_b hVX.2.2.2 P (by omega)
          rw [← hG] at g3
          have ex := x_lev_loop (μ := μ1) (C := C) (V := V) (q := 38 + 2 * r) (R := fun v => μ 77 (40 * r + v)) (by rw [g2 6 (by simp)]; exact hx6) hC (by rw [g2 6 (by simp)]; exact hVX.2.1) hV4 (fun P v hP hv => ⟨g3 P v hP hv, hGb P v hv⟩) (fun v hv => by rw [g2 (38 + 2 * r + 1) (by simp; omega)]; exact (hc v (by omega)).1) (2 ^ V - 1) 100000 1 (by have := Nat.pow_pos (n := V) (show 0 < 2 by omega); omega) (by omega)
          rw [show ((1 : Nat) : Int) = 1 from rfl] at ex
          have l0 : lev C V G (fun v => μ 77 (40 * r + v)) 0 = 0 := by
            have s0 : ∀ (m : Nat) (f : Nat → Int), sgb m 0 f = 0 := by
              intro m f
              induction m with
              | zero => rfl
              | succ m ihm =>
                have e : sgb (m + 1) 0 f = sgb m 0 f + (if Nat.testBit 0 m then f m else 0) := rfl
                rw [e, ihm]; simp
            have m0 : ∀ m : Nat, moM V G 0 m = 0 := by
              intro m
              induction m with
              | zero => rfl
              | succ m ihm => rw [moM, ihm, s0]; simp
            unfold lev
            rw [s0, m0, if_neg (by omega)]
          have lst : fst (lev C V G (fun v => μ 77 (40 * r + v))) (2 ^ V - 1) 1 = fst (lev C V G (fun v => μ 77 (40 * r + v))) (2 ^ V) 0 := by
            obtain ⟨w, hw⟩ : ∃ w, 2 ^ V = w + 1 := ⟨2 ^ V - 1, by have := Nat.pow_pos (n := V) (show 0 < 2 by omega); omega⟩
            rw [hw, fst, if_pos l0]
            rfl
          rw [lst] at ex
          have hfb : -9 ≤ fsz (fst (lev C V G (fun v => μ 77 (40 * r + v))) (2 ^ V) 0) (-9) ∧ fsz (fst (lev C V G (fun v => μ 77 (40 * r + v))) (2 ^ V) 0) (-9) ≤ 100 ∧ (fsz (fst (lev C V G (fun v => μ 77 (40 * r + v))) (2 ^ V) 0) (-9) < 0 ↔ fsz (fst (lev C V G (fun v => μ 77 (40 * r + v))) (2 ^ V) 0) (-9) = -9) := by
            cases hf : fst (lev C V G (fun v => μ 77 (40 * r + v))) (2 ^ V) 0 with
            | none => exact ⟨by decide, by decide, by decide⟩
            | some k => have := fst_b _ _ _ hf; simp only [fsz]; omega
          have hh := (hxf.tell (v := fsz (fst (lev C V G (fun v => μ 77 (40 * r + v))) (2 ^ V) 0) (-9))).hi
          obtain ⟨μ2, k1, k2, k3, k4, k5⟩ := m_fg (hYM.hi hh) (hVM.hi hh) hday.2 hn (fun i hi => by rw [hh 73 (by omega)])
          rw [← hG] at k5
          have em := m_lev_loop (μs := μ2) (C := C) (V := V) (R := fun v => μ 77 (40 * r + v)) hr6 (by rw [k2.2 0 (by omega), hh 67 (by omega)]; exact hC0) hC (by rw [k2.2 1 (by omega), hh 67 (by omega)]; exact hV0) hV4 (fun P v hP hv => ⟨k5 P v hP hv, hGb P v hv⟩) (fun v hv => by rw [k2.1 77 (by omega), hh 77 (by omega)]) (2 ^ V) 100000 0 (by omega) (by omega)
          rw [Int.natCast_zero] at em
          generalize fsz (fst (lev C V G (fun v => μ 77 (40 * r + v))) (2 ^ V) 0) (-9) = z at *
          refine ⟨if z < 0 then 1 else 0, wr μ1 0 13 z, wr μ2 67 10 z, ?_, ?_, (aside_end h hxf.tell k2.tell (by rw [wr_eq, wr_eq]) (fun i hi => by rw [wr_cell (by omega)]; exact k3 i hi)).up (Nat.le_succ n)⟩
          · show f_X9_parts μ (r : Int) = _
            rw [f_X9_parts, hx, bd_some, if_pos w0, ck_ok (by omega) (by omega) (by omega), w32_nat (i := r) (by omega), Int.toNat_natCast, hxV, hVX.2.1, if_pos rfl, g1, bd_some, ck_ok (by omega) (by omega) (by omega), f_X0_firstLeaving, ex, bd_some, vm, wr_eq, vl, w32_id (a := z) (by omega) (by omega), wm9]
            by_cases c3 : z = -9
            · rw [if_pos c3, if_pos (hfb.2.2.mpr c3)]
            · rw [if_neg c3, if_neg (fun w => c3 (hfb.2.2.mp w))]
          · show f_X10_parts _ (r : Int) = _
            rw [f_X10_parts, m_isRow1 hr6, bd_some, if_neg w1ne, hh 67 (by omega), hC0, w32_nat (i := C) (by omega), if_neg (by omega), ck_ok (by omega) (by omega) (by omega), hh 76 (by omega), w32_nat (i := r) (by omega), Int.toNat_natCast, z1.w, if_neg c1, ck_ok (by omega) (by omega) (by omega), hV0, c2, w32_nat (i := V) (by omega), if_pos rfl, k1, bd_some, vm, em, wr_eq, w32_id (a := z) (by omega) (by omega), vl]
        · refine pair_fnd h 5 (by omega) (by omega) ?_ (fun μ1 e => ?_)
          · show f_X9_parts μ (r : Int) = _
            rw [f_X9_parts, hx, bd_some, if_pos w0, ck_ok (by omega) (by omega) (by omega), w32_nat (i := r) (by omega), Int.toNat_natCast, z3, hVX.2.1, z1.w, w32_nat (i := V) (by omega), if_neg c2, bd_ret]
          · show f_X10_parts μ1 (r : Int) = _
            rw [f_X10_parts, m_isRow1 hr6, bd_some, if_neg w1ne, e 67 (by omega) (by omega), hC0, w32_nat (i := C) (by omega), if_neg (by omega), ck_ok (by omega) (by omega) (by omega), e 76 (by omega) (by omega), w32_nat (i := r) (by omega), Int.toNat_natCast, z1.w, if_neg c1, ck_ok (by omega) (by omega) (by omega), hV0, w32_nat (i := V) (by omega), if_neg c2, bd_ret]
  · rw [if_neg hr] at hx
    refine pair_bad h (a := -1) ?_ ?_
    · show f_X9_parts μ p = _
      rw [f_X9_parts, hx, bd_some, if_neg wm1]
    · show f_X10_parts μ p = _
      rw [f_X10_parts, m_isRow0 hp hr, bd_some, if_pos w0]
