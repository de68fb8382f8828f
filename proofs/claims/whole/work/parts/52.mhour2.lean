theorem isK4 (z : Int) : isK 4 z = decide (z = 4) := rfl
theorem isK5 (z : Int) : isK 5 z = decide (z = 5) := rfl
theorem isK1 (z : Int) : isK 1 z = decide (z = 1) := rfl
theorem m_rest {μ : Mem} {C i : Nat} {K G : Nat → Int} {a b : Int} (hY : YM μ C K) (hi : i < 5) (hG : 0 ≤ G (7 + i) ∧ G (7 + i) ≤ 9) : f_X10_rest (dm μ a b G) (i : Int) = some ((), dm μ a b (up G (7 + i) (if 9 < G (7 + i) + (1 + bt (isK 4 (K i))) then 9 else G (7 + i) + (1 + bt (isK 4 (K i)))))) := by
  obtain ⟨hC, h0, h8⟩ := hY
  obtain ⟨e, b1, b2⟩ := h8 i hi
  obtain ⟨g1, g2⟩ := hG
  have t7 : (7 + (i : Int)).toNat = 7 + i := by omega
  have e8 : ∀ G : Nat → Int, dm μ a b G 68 = μ 68 := fun G => dm_o (by omega) (by omega)
  rw [f_X10_rest, ck_ok (by omega) (by omega) (by omega), ck_ok (by omega) (by omega) (by omega), vl, vl, vl, ck_ok (by omega) (by omega) (by omega), vm]
  rw [e8, w32_id (a := (i : Int)) (by omega) (by omega), Int.toNat_natCast, e, w32_id (a := K i) (by omega) (by omega), w32_id (a := 4) (by omega) (by omega), w32_id (a := 7 + (i : Int)) (by omega) (by omega), t7, dm_f (by omega), dm_wf (by omega), isK4]
  by_cases c : K i = 4
  · rw [if_pos c, show bt (decide (K i = 4)) = 1 by simp [bt, c], w32_id (a := 9) (by omega) (by omega), w32_id (by omega) (by omega)]
    rfl
  · rw [if_neg c, show bt (decide (K i = 4)) = 0 by simp [bt, c], w32_id (a := 9) (by omega) (by omega), w32_id (by omega) (by omega)]
    rfl
theorem m_tire {μ : Mem} {C i : Nat} {K G : Nat → Int} {a b : Int} {od : Bool} (hY : YM μ C K) (hi : i < 5) (hG : 0 ≤ G (2 + i) ∧ G (2 + i) ≤ 9) : f_X10_tire (dm μ a b G) (i : Int) (bt (!od)) = some ((), dm μ a (zor b (if G (2 + i) - bt (!(od && isK 1 (K i))) = 0 then zshl 1 (i : Int) else 0)) (up (up G (2 + i) (G (2 + i) - bt (!(od && isK 1 (K i))))) (7 + i) (G (7 + i) - bt (!(isK 5 (K i)))))) := by
  obtain ⟨hC, h0, h8⟩ := hY
  obtain ⟨e, b1, b2⟩ := h8 i hi
  obtain ⟨g1, g2⟩ := hG
  have t7 : (7 + (i : Int)).toNat = 7 + i := by omega
  have t2 : (2 + (i : Int)).toNat = 2 + i := by omega
  have e8 : ∀ (b : Int) (G : Nat → Int), dm μ a b G 68 = μ 68 := fun b G => dm_o (by omega) (by omega)
  have hv : (if w32 (K i) = w32 1 then (if w32 (bt (!od)) = 0 then (0 : Int) else 1) else 1) = bt (!(od && isK 1 (K i))) := by
    rw [w32_id (a := K i) (by omega) (by omega), w32_id (a := 1) (by omega) (by omega), bt_w, isK1]
    by_cases c : K i = 1 <;> cases od <;> simp [c, bt]
  have hv5 : (if w32 (K i) = w32 5 then (0 : Int) else 1) = bt (!(isK 5 (K i))) := by
    rw [w32_id (a := K i) (by omega) (by omega), w32_id (a := 5) (by omega) (by omega), isK5]
    by_cases c : K i = 5 <;> simp [c, bt]
  have v1 := bt_01 (!(od && isK 1 (K i)))
  rw [f_X10_tire, ck_ok (by omega) (by omega) (by omega), ck_ok (by omega) (by omega) (by omega), vl, e8, w32_id (a := (i : Int)) (by omega) (by omega), Int.toNat_natCast, e, hv]
  rw [ck_ok (by omega) (by omega) (by omega), vm, w32_id (a := 2 + (i : Int)) (by omega) (by omega), t2, dm_wf (by omega), dm_f (by omega)]
  rw [ck_ok (by omega) (by omega) (by omega), ck_ok (by omega) (by omega) (by omega), vl, e8, e, hv5, ck_ok (by omega) (by omega) (by omega), vm, w32_id (a := 7 + (i : Int)) (by omega) (by omega), t7, dm_wf (by omega), dm_f (by omega)]
  rw [ck_ok (by omega) (by omega) (by omega), vl, vm, dm_wb, dm_b, dm_f (by omega), up_ne (i := 2 + i) (q := 7 + i) (by omega), up_eq, up_ne (i := 7 + i) (q := 2 + i) (by omega), w32_id (by omega) (by omega)]
theorem m_wear_loop {K' : Mem → Option (Int × Mem)} {μ : Mem} {C : Nat} {K F : Nat → Int} {p : Nat → Bool} (hY : YM μ C K) (hR : ∀ i : Nat, i < 5 → (0 ≤ F (2 + i) ∧ F (2 + i) ≤ 9) ∧ (0 ≤ F (7 + i) ∧ F (7 + i) ≤ 9)) : ∀ (m u i : Nat), i + m = C → m < u →
    f_X10_goHour_L130 K' (bt (!(decide (F 0 / 6 % 2 = 1)))) u (i : Int) (dm μ (msk C (pld K F p) : Nat) (msk i (fun j => pld K F p j && frl K F j) : Nat) (wn i K F (pld K F p))) = K' (dm μ (msk C (pld K F p) : Nat) (msk C (fun j => pld K F p j && frl K F j) : Nat) (wn C K F (pld K F p))) := by
  have hC := hY.1
  intro m
  induction m with
  | zero =>
    intro u i hi hu
    obtain ⟨u, rfl⟩ : ∃ v, u = v + 1 := ⟨u - 1, by omega⟩
    simp -implicitDefEqProofs (disch := omega) only [f_X10_goHour_L130, w32_nat, (hY.dm (a := _) (b := _) (F := _)).2.1]
    rw [if_neg (by omega), show i = C by omega]
  | succ m ih =>
    intro u i hi hu
    obtain ⟨u, rfl⟩ : ∃ v, u = v + 1 := ⟨u - 1, by omega⟩
    have hi' := ih u (i + 1) (by omega) (by omega)
    rw [show ((i + 1 : Nat) : Int) = (i : Int) + 1 by omega] at hi'
    obtain ⟨⟨b1, b2⟩, b3, b4⟩ := hR i (by omega)
    have w2 : wn i K F (pld K F p) (2 + i) = F (2 + i) := wn_self (by omega) (by omega)
    have w7 : wn i K F (pld K F p) (7 + i) = F (7 + i) := wn_self (by omega) (by omega)
    rw [f_X10_goHour_L130, (hY.dm (a := _) (b := _) (F := _)).2.1, w32_nat (by omega), w32_nat (by omega), if_pos (by omega), dm_a, m_has hC (show i < C by omega), bd_some, jn, bt_w]
    by_cases c1 : pld K F p i = true
    · rw [if_pos c1, m_tire hY (by omega) (by rw [w2]; exact ⟨b1, b2⟩), bd_some, ← hi', ← wn_step (C := C) (by omega) hC (by omega), w2, w7]
      have hw : wrn K (F 0) (pld K F p) i = !(decide (F 0 / 6 % 2 = 1) && isK 1 (K i)) := by rw [wrn, c1]; rfl
      have ha : abl K F i = true := by
        have := c1; simp only [pld, Bool.and_eq_true] at this; exact this.2
      have ha1 : F 0 < 48 ∧ 1 ≤ F (2 + i) := by
        simp only [abl, Bool.and_eq_true, decide_eq_true_eq] at ha; exact ⟨ha.1.1, ha.1.2.1⟩
      rw [hw, crw, if_pos c1]
      have hz := zor_0 ⟨msk i (fun j => pld K F p j && frl K F j), msk_32 (by omega) _⟩
      by_cases c2 : frl K F i = true
      · have c3 : (fun j => pld K F p j && frl K F j) i = true := by simp [c1, c2]
        have c4 : F (2 + i) - bt (!(decide (F 0 / 6 % 2 = 1) && isK 1 (K i))) = 0 := by
          simp only [frl, Bool.and_eq_true, decide_eq_true_eq] at c2
          rw [c2.2, show bt true = 1 from rfl, c2.1.2]; rfl
        rw [if_pos c4, zor_m (by omega) _ c3]
      · have c3 : ¬ (fun j => pld K F p j && frl K F j) i = true := by simp [c2]
        have c4 : ¬ F (2 + i) - bt (!(decide (F 0 / 6 % 2 = 1) && isK 1 (K i))) = 0 := by
          intro hh
          apply c2
          cases hq : (!(decide (F 0 / 6 % 2 = 1) && isK 1 (K i)))
          · rw [hq, show bt false = 0 from rfl] at hh; omega
          · rw [hq, show bt true = 1 from rfl] at hh
            unfold frl
            rw [hq]
            simp [ha1.1, show F (2 + i) = 1 by omega]
        rw [if_neg c4, msk_no c3, show zor (msk i (fun j => pld K F p j && frl K F j) : Nat) 0 = (msk i (fun j => pld K F p j && frl K F j) : Nat) from hz]
    · have c3 : ¬ (fun j => pld K F p j && frl K F j) i = true := by simp [c1]
      have hw : wrn K (F 0) (pld K F p) i = false := by rw [wrn]; simp [c1]
      rw [if_neg c1, m_rest hY (by omega) (by rw [w7]; exact ⟨b3, b4⟩), bd_some, ← hi', ← wn_step (C := C) (by omega) hC (by omega), w7, hw, crw, if_neg c1, msk_no c3, show bt false = 0 from rfl, Int.sub_zero]
      congr 2
      have hu : up (wn i K F (pld K F p)) (2 + i) (F (2 + i)) = wn i K F (pld K F p) := by
        funext q
        by_cases e : q = 2 + i
        · subst e; rw [up_eq, w2]
        · rw [up_ne e]
      rw [hu]
