/-! ===== an hour, as it should be ===== -/
def pul (C : Nat) (K : Nat → Int) (pl : Nat → Bool) : Int := cn C pl + cn C (fun i => pl i && isK 2 (K i))
def pld (K F : Nat → Int) (p : Nat → Bool) (i : Nat) : Bool := p i && abl K F i
def stp (C : Nat) (K F : Nat → Int) (p : Nat → Bool) : Int := if F 0 < 48 then (if 1 < 6 - pul C K (pld K F p) then 6 - pul C K (pld K F p) else 1) + 2 * cn C (fun i => pld K F p i && frl K F i) else 0
def wrn (K : Nat → Int) (m : Int) (pl : Nat → Bool) (i : Nat) : Bool := pl i && !(decide (m / 6 % 2 = 1) && isK 1 (K i))
def crw (K F : Nat → Int) (pl : Nat → Bool) (i : Nat) : Int := if pl i then F (7 + i) - bt (!(isK 5 (K i))) else if 9 < F (7 + i) + (1 + bt (isK 4 (K i))) then 9 else F (7 + i) + (1 + bt (isK 4 (K i)))
def wn (C : Nat) (K F : Nat → Int) (pl : Nat → Bool) : Nat → Int := fun q => if 2 ≤ q ∧ q < 2 + C then F q - bt (wrn K (F 0) pl (q - 2)) else if 7 ≤ q ∧ q < 7 + C then crw K F pl (q - 7) else F q
def hr (C : Nat) (K F : Nat → Int) (p : Nat → Bool) : Nat → Int := fun q => if q = 0 then F 0 + stp C K F p else if q = 1 then F 1 + (if 5 < pul C K (pld K F p) then 5 else pul C K (pld K F p)) else wn C K F (pld K F p) q
theorem pul_b (C : Nat) (K : Nat → Int) (pl : Nat → Bool) : 0 ≤ pul C K pl ∧ pul C K pl ≤ 2 * C := by
  have h1 := cn_b C pl
  have h2 := cn_b C (fun i => pl i && isK 2 (K i))
  unfold pul
  omega
theorem x_pull {μ : Mem} {C : Nat} {K : Nat → Int} (hY : YX μ C K) (p : Nat → Bool) : f_X8_pullOf μ (msk C p : Nat) = some (pul C K p, μ) := by
  obtain ⟨hC, h6, h8⟩ := hY
  simp -implicitDefEqProofs (disch := omega) only [f_X8_pullOf, x_bits_m hC, bd_some, ck_ok, w32_id, show (2 : Int).toNat = 2 from rfl, h8 2 (by omega), zand_m hC]
  rfl
theorem x_behind {μ : Mem} {t C : Nat} {K F : Nat → Int} {c d : Int} (ht : 13 ≤ t) (hY : YX μ C K) (hF : FB F) (p : Nat → Bool) : f_X1_minuteBehind (dy μ t (msk C (abl K F) : Nat) (msk C (frl K F) : Nat) c d F) t (msk C p : Nat) = some (F 0 + stp C K F p, dy μ t (msk C (abl K F) : Nat) (msk C (frl K F) : Nat) c d F) := by
  have hC := hY.1
  have q1 := hF.1.1
  have q2 := hF.1.2
  have hp := pul_b C K (fun i => p i && abl K F i)
  simp -implicitDefEqProofs (disch := omega) only [f_X1_minuteBehind, x_down hF.1, bd_some, vl, dy_1, dy_2, zand_m hC, x_bits_m hC, ck_ok, x_pull (hY.dy ht), w32_id, Int.toNat_zero, dy_f, zmax]
  by_cases c0 : F 0 < 48
  · rw [if_pos c0, if_pos rfl]
    unfold stp
    rw [if_pos c0]
    unfold pld
    congr 2
    omega
  · rw [if_neg c0, if_neg (show ¬ ((1 : Int) = 0) by omega)]
    unfold stp
    rw [if_neg c0, Int.add_zero]
theorem wn_step {C i : Nat} {K F : Nat → Int} {pl : Nat → Bool} (hi : i < 5) (hC : C ≤ 5) (hiC : i < C) : up (up (wn i K F pl) (2 + i) (F (2 + i) - bt (wrn K (F 0) pl i))) (7 + i) (crw K F pl i) = wn (i + 1) K F pl := by
  funext q
  by_cases e1 : q = 7 + i
  · subst e1
    rw [up_eq, wn, if_neg (by omega), if_pos (by omega), show 7 + i - 7 = i by omega]
  · rw [up_ne e1]
    by_cases e2 : q = 2 + i
    · subst e2
      rw [up_eq, wn, if_pos (by omega), show 2 + i - 2 = i by omega]
    · rw [up_ne e2]
      unfold wn
      by_cases e3 : 2 ≤ q ∧ q < 2 + i
      · rw [if_pos e3, if_pos (by omega)]
      · rw [if_neg e3, if_neg (show ¬ (2 ≤ q ∧ q < 2 + (i + 1)) by omega)]
        by_cases e4 : 7 ≤ q ∧ q < 7 + i
        · rw [if_pos e4, if_pos (by omega)]
        · rw [if_neg e4, if_neg (by omega)]
theorem up_up {F : Nat → Int} {q : Nat} {a b : Int} : up (up F q a) q b = up F q b := by
  funext i
  by_cases e : i = q
  · subst e; rw [up_eq, up_eq]
  · rw [up_ne e, up_ne e, up_ne e]
theorem wn_self {i q : Nat} {K F : Nat → Int} {pl : Nat → Bool} (h : ¬ (2 ≤ q ∧ q < 2 + i)) (h2 : ¬ (7 ≤ q ∧ q < 7 + i)) : wn i K F pl q = F q := by
  rw [wn, if_neg h, if_neg h2]
theorem x_wear_loop {μ : Mem} {t C : Nat} {K F : Nat → Int} {a b d : Int} {pl : Nat → Bool} (ht : 13 ≤ t) (hY : YX μ C K) (hR : ∀ i : Nat, i < 5 → (0 ≤ F (2 + i) ∧ F (2 + i) ≤ 9) ∧ (0 ≤ F (7 + i) ∧ F (7 + i) ≤ 9)) : ∀ (m u i : Nat), i + m = C → m < u →
    f_X1_wearAndRest_L45 t (msk C (wrn K (F 0) pl) : Nat) (msk C (fun i => pl i && !(isK 5 (K i))) : Nat) u (i : Int) (dy μ t a b (msk C pl : Nat) d (wn i K F pl)) = some ((), dy μ t a b (msk C pl : Nat) d (wn C K F pl)) := by
  obtain ⟨hC, h6, h8⟩ := hY
  intro m
  induction m with
  | zero =>
    intro u i hi hu
    obtain ⟨u, rfl⟩ : ∃ v, u = v + 1 := ⟨u - 1, by omega⟩
    have e6 : ∀ G : Nat → Int, dy μ t a b (msk C pl : Nat) d G 6 = μ 6 := fun G => dy_o (by omega) (by omega)
    simp -implicitDefEqProofs (disch := omega) only [f_X1_wearAndRest_L45, w32_nat, e6, h6]
    rw [if_neg (by omega), show i = C by omega]
  | succ m ih =>
    intro u i hi hu
    obtain ⟨u, rfl⟩ : ∃ v, u = v + 1 := ⟨u - 1, by omega⟩
    have e6 : ∀ G : Nat → Int, dy μ t a b (msk C pl : Nat) d G 6 = μ 6 := fun G => dy_o (by omega) (by omega)
    have e8 : ∀ G : Nat → Int, dy μ t a b (msk C pl : Nat) d G 8 = μ 8 := fun G => dy_o (by omega) (by omega)
    obtain ⟨⟨b1, b2⟩, b3, b4⟩ := hR i (by omega)
    have hi' := ih u (i + 1) (by omega) (by omega)
    rw [show ((i + 1 : Nat) : Int) = (i : Int) + 1 by omega] at hi'
    have v1 := bt_01 (wrn K (F 0) pl i)
    have v2 := bt_01 (pl i && !(isK 5 (K i)))
    have v3 := bt_01 (isK 4 (K i))
    have w2 : wn i K F pl (2 + i) = F (2 + i) := wn_self (by omega) (by omega)
    have w7 : ∀ z : Int, up (wn i K F pl) (2 + i) z (7 + i) = F (7 + i) := fun z => by rw [up_ne (by omega)]; exact wn_self (by omega) (by omega)
    have t2 : (2 + (i : Int)).toNat = 2 + i := by omega
    have t7 : (7 + (i : Int)).toNat = 7 + i := by omega
    have z5 := zbit_m hC (show i < C by omega) (fun i => pl i && !(isK 5 (K i)))
    have z1 := zbit_m hC (show i < C by omega) (wrn K (F 0) pl)
    have z3 := zbit_m hC (show i < C by omega) pl
    have z4 := zbit_m hC (show i < C by omega) (fun i => isK 4 (K i))
    simp -implicitDefEqProofs (disch := omega) only [f_X1_wearAndRest_L45, w32_nat, e6, e8, h6, h8 4 (by omega), show (4 : Int).toNat = 4 from rfl, ck_ok, w32_id, t2, t7, vl, jn, vm, dy_f, dy_wf, dy_3, z5, z1, z3, z4, w2, w7, up_up, up_eq]
    rw [if_pos (by omega)]
    by_cases c1 : pl i = true
    · have hb : bt (pl i) = 1 := by rw [c1]; rfl
      rw [hb, if_neg w1ne, ← hi', ← wn_step (C := C) (by omega) hC (by omega)]
      rw [crw, if_pos c1, show (pl i && !isK 5 (K i)) = (!isK 5 (K i)) by rw [c1]; rfl]
    · have c1' : pl i = false := by simpa using c1
      have hb : bt (pl i) = 0 := by rw [c1']; rfl
      rw [hb, if_pos w0, ← hi', ← wn_step (C := C) (by omega) hC (by omega)]
      rw [crw, if_neg c1, show (pl i && !isK 5 (K i)) = false by rw [c1']; rfl, show bt false = 0 from rfl, Int.sub_zero]
      unfold zmin
      rw [w32_id (by omega) (by omega), w32_id (by omega) (by omega)]
      rw [show (if F (7 + i) + (1 + bt (isK 4 (K i))) < 9 then F (7 + i) + (1 + bt (isK 4 (K i))) else 9) = (if 9 < F (7 + i) + (1 + bt (isK 4 (K i))) then 9 else F (7 + i) + (1 + bt (isK 4 (K i)))) by omega]
theorem wn_0 {K F : Nat → Int} {pl : Nat → Bool} : wn 0 K F pl = F := by
  funext q
  exact wn_self (by omega) (by omega)
theorem x_wear {μ : Mem} {t C : Nat} {K F : Nat → Int} {a b d : Int} {pl : Nat → Bool} (ht : 13 ≤ t) (hY : YX μ C K) (h0 : 0 ≤ F 0 ∧ F 0 ≤ 1000) (hR : ∀ i : Nat, i < 5 → (0 ≤ F (2 + i) ∧ F (2 + i) ≤ 9) ∧ (0 ≤ F (7 + i) ∧ F (7 + i) ≤ 9)) :
    f_X1_wearAndRest (dy μ t a b (msk C pl : Nat) d F) t = some ((), dy μ t a b (msk C pl : Nat) d (wn C K F pl)) := by
  have hl := x_wear_loop (μ := μ) (t := t) (a := a) (b := b) (d := d) (pl := pl) ht hY hR C 100000 0 (by omega) (by have := hY.1; omega)
  rw [Int.natCast_zero, wn_0] at hl
  have e8 : dy μ t a b (msk C pl : Nat) d F 8 = μ 8 := dy_o (by omega) (by omega)
  simp -implicitDefEqProofs (disch := omega) only [f_X1_wearAndRest, x_even h0, bd_some, jn, ck_ok, vl, dy_3, e8, w32_id, show (5 : Int).toNat = 5 from rfl, show (1 : Int).toNat = 1 from rfl, hY.2.2 5 (by omega), hY.2.2 1 (by omega), zandn_m hY.1]
  by_cases c : F 0 / 6 % 2 = 1
  · rw [if_pos c, if_pos rfl, ← hl]
    congr 3
    funext i
    simp [wrn, c]
  · rw [if_neg c, if_neg (show ¬ ((1 : Int) = 0) by omega), ← hl]
    congr 3
    funext i
    simp [wrn, c]
theorem x_goOn {μ : Mem} {t C : Nat} {K F : Nat → Int} {a b c d : Int} (ht : 13 ≤ t) (hY : YX μ C K) (hF : FB F) (p : Nat → Bool) :
    f_X1_goOn (dy μ t a b c d F) t (msk C p : Nat) = some (stp C K F p, dy μ t (msk C (abl K F) : Nat) (msk C (frl K F) : Nat) (msk C (pld K F p) : Nat) (msk C (fun i => pld K F p i && frl K F i) : Nat) (hr C K F p)) := by
  have hC := hY.1
  have q1 := hF.1.1
  have q2 := hF.1.2
  have q3 := hF.2.1.1
  have q4 := hF.2.1.2
  have hp := pul_b C K (pld K F p)
  have hpe : (fun i => p i && abl K F i) = pld K F p := rfl
  have hs : 0 ≤ stp C K F p ∧ stp C K F p ≤ 16 := by
    have := cn_b C (fun i => pld K F p i && frl K F i)
    unfold stp
    split <;> omega
  rw [f_X1_goOn, x_look ht hY hF, bd_some, x_behind ht hY hF, bd_some]
  rw [ck_ok (by omega) (by omega) (by omega), vl, vm, dy_w3, dy_1, zand_m hC, hpe, vm, dy_w4, dy_2, dy_3, zand_m hC, ck_ok (by omega) (by omega) (by omega), dy_3, x_pull (hY.dy ht), bd_some, ck_ok (by omega) (by omega) (by omega), vm, w32_id (a := 1) (by omega) (by omega), show (1 : Int).toNat = 1 from rfl, dy_f (by omega), dy_wf (by omega)]
  have hw := fun a b d z => x_wear (μ := μ) (t := t) (C := C) (K := K) (F := up F 1 z) (a := a) (b := b) (d := d) (pl := pld K F p) ht hY (by rw [up_ne (by omega)]; exact hF.1) (fun i hi => by
    rw [up_ne (by omega), up_ne (by omega)]; exact hF.2.2.1 i hi)
  rw [hw, bd_some]
  have e0 : ∀ z : Int, wn C K (up F 1 z) (pld K F p) 0 = F 0 := fun z => by rw [wn_self (by omega) (by omega), up_ne (by omega)]
  rw [ck_ok (by omega) (by omega) (by omega), ck_ok (by omega) (by omega) (by omega), vm, w32_id (a := 0) (by omega) (by omega), Int.toNat_zero, dy_wf (by omega), dy_f (by omega), dy_f (by omega), e0]
  rw [show F 0 + stp C K F p - F 0 = stp C K F p by omega]
  congr 2
  apply dy_cg
  intro q hq
  unfold hr zmin
  rw [w32_id (by omega) (by omega), w32_id (by omega) (by omega)]
  by_cases c0 : q = 0
  · subst c0; rw [up_eq, if_pos rfl]
  · rw [up_ne c0, if_neg c0]
    by_cases c1 : q = 1
    · subst c1; rw [if_pos rfl, wn_self (by omega) (by omega), up_eq]
    · rw [if_neg c1]
      unfold wn crw
      rw [up_ne c1, up_ne (show 0 ≠ 1 by omega), up_ne (show 7 + (q - 7) ≠ 1 by omega)]

