def f_X9_votes (m0 : Mem) (p0 : Int) (p1 : Int) : Option (Int × Mem) := bd (f_X8_hasSet m0 p0) fun r2 m1 => if w32 r2 = 0 then (some ((-1), m1)) else (bd (f_X8_hasSet m1 p1) fun r5 m4 => if w32 r5 = 0 then (some ((-1), m4)) else (if w32 (m4 6 6) = 0 then (some ((-4), m4)) else (bd (f_X0_weigh m4) fun _u m8 => bd (f_X0_votersFor m8 p0 p1) fun r10 m9 => vm (wr m9 0 13 r10) fun m11 => bd (f_J6_bitCount_0f7a4 m11 (m11 0 13)) fun r13 m12 => some (r13, m12))))
set_option maxRecDepth 40000 in
theorem m_X9_votes {l : Launch} {G : qG} (m0 : Mem) (p0 : Int) (p1 : Int) : qM l G 5 yX9_votes cX9_votes 3 (some .int) [.ref 0, .int (iI p0), .int (iI p1)] (lay m0) (lf eI (f_X9_votes m0 p0 p1)) := by
  refine qM_of (L := [some (.ref 0), some (.int (iI p0)), some (.int (iI p1))]) (by decide +kernel) (Nat.le_of_ble_eq_true rfl) rfl ?_
  unfold f_X9_votes
  refine J_aload_n (pc := 0) dX9_votes_0 rfl rfl rfl ?_
  refine tg_X9_31 (pc := 1) rfl dX9_votes_1 ?_
  refine J_iload_n (pc := 4) dX9_votes_4 rfl rfl ?_
  refine T_callVI (pc := 5) (As := [.int (iI p0)]) (k := 6) (st := []) ok_yX8_hasSet lm_X9_180 dX9_votes_5 (by decide) rfl rfl (by decide) (Nat.le_of_ble_eq_true rfl) (m_X8_hasSet m0 p0) (fun r2 m1 em1 => ?_)
  refine T_if_eq (pc := 8) (tgt := 22) dX9_votes_8 (by decide) (fun h3 => ?_) (fun h3 => ?_)
  · refine J_iconst (pc := 22) dX9_votes_22 ?_
    exact T_retI (pc := 23) rfl dX9_votes_23
  · refine J_aload_n (pc := 11) dX9_votes_11 rfl rfl rfl ?_
    refine tg_X9_31 (pc := 12) rfl dX9_votes_12 ?_
    refine J_iload_n (pc := 15) dX9_votes_15 rfl rfl ?_
    refine T_callVI (pc := 16) (As := [.int (iI p1)]) (k := 6) (st := []) ok_yX8_hasSet lm_X9_180 dX9_votes_16 (by decide) rfl rfl (by decide) (Nat.le_of_ble_eq_true rfl) (m_X8_hasSet m1 p1) (fun r5 m4 em4 => ?_)
    refine T_if_ne (pc := 19) (tgt := 24) dX9_votes_19 (by decide) (fun h6 => ?_) (fun h6 => ?_)
    · refine J_aload_n (pc := 24) dX9_votes_24 rfl rfl rfl ?_
      refine tg_X9_31 (pc := 25) rfl dX9_votes_25 ?_
      refine tg_X9_156 (pc := 28) rfl dX9_votes_28 ?_
      refine T_if_ne (pc := 31) (tgt := 37) dX9_votes_31 (by decide) (fun h7 => ?_) (fun h7 => ?_)
      · refine J_aload_n (pc := 37) dX9_votes_37 rfl rfl rfl ?_
        refine tg_X9_70 (pc := 38) rfl dX9_votes_38 ?_
        refine J_aload_n (pc := 41) dX9_votes_41 rfl rfl rfl ?_
        refine tg_X9_31 (pc := 42) rfl dX9_votes_42 ?_
        refine J_aload_n (pc := 45) dX9_votes_45 rfl rfl rfl ?_
        refine tg_X9_38 (pc := 46) rfl dX9_votes_46 ?_
        refine T_callVU (pc := 49) (As := [.ref 6, .ref 13]) (k := 32) (st := []) ok_yX0_weigh lm_X9_265 dX9_votes_49 (by decide) rfl rfl (by decide) (Nat.le_of_ble_eq_true rfl) (m_X0_weigh m4) (fun _u m8 em8 => ?_)
        refine J_aload_n (pc := 52) dX9_votes_52 rfl rfl rfl ?_
        refine J_aload_n (pc := 53) dX9_votes_53 rfl rfl rfl ?_
        refine tg_X9_70 (pc := 54) rfl dX9_votes_54 ?_
        refine J_aload_n (pc := 57) dX9_votes_57 rfl rfl rfl ?_
        refine tg_X9_31 (pc := 58) rfl dX9_votes_58 ?_
        refine J_iload_n (pc := 61) dX9_votes_61 rfl rfl ?_
        refine J_iload_n (pc := 62) dX9_votes_62 rfl rfl ?_
        refine T_callVI (pc := 63) (As := [.ref 6, .int (iI p0), .int (iI p1)]) (k := 32) (st := [.ref 0]) ok_yX0_votersFor lm_X9_269 dX9_votes_63 (by decide) rfl rfl (by decide) (Nat.le_of_ble_eq_true rfl) (m_X0_votersFor m8 p0 p1) (fun r10 m9 em9 => ?_)
        refine tp_X9_85 (pc := 66) rfl dX9_votes_66 ?_
        refine T_vm (fun m11 em11 => ?_)
        refine J_aload_n (pc := 69) dX9_votes_69 rfl rfl rfl ?_
        refine tg_X9_85 (pc := 70) rfl dX9_votes_70 ?_
        refine T_callSI (pc := 73) (As := [.int (iI (m11 0 13))]) (st := []) ok_yJ6_bitCount_0f7a4 lm_X9_273 dX9_votes_73 (by decide) (Nat.le_of_ble_eq_true rfl) (m_J6_bitCount_0f7a4 m11 (m11 0 13)) (fun r13 m12 em12 => ?_)
        exact T_retI (pc := 76) rfl dX9_votes_76
      · refine J_bipush (pc := 34) dX9_votes_34 (by decide) (by decide) ?_
        exact T_retI (pc := 36) rfl dX9_votes_36
    · refine J_iconst (pc := 22) dX9_votes_22 ?_
      exact T_retI (pc := 23) rfl dX9_votes_23
def f_X0_isBeaten_L2 (p1 : Int) : Nat → Int → Mem → Option (Int × Mem)
  | 0, _, _ => none
  | u + 1, i3, mu2 => bd (f_X8_allCapes mu2) fun r2 m1 => if w32 r2 < w32 i3 then (some (0, m1)) else (bd (f_X0_votersFor m1 i3 p1) fun r5 m4 => bd (f_J6_bitCount_0f7a4 m4 r5) fun r7 m6 => bd (f_X0_votersFor m6 p1 i3) fun r9 m8 => bd (f_J6_bitCount_0f7a4 m8 r9) fun r11 m10 => if w32 r11 < w32 r7 then (some (1, m10)) else (f_X0_isBeaten_L2 p1 u (i3 + 1) m10))
set_option maxRecDepth 40000 in
theorem j_X0_isBeaten_L2 {l : Launch} {G : qG} {p1 : Int} : ∀ (u : Nat) (i3 : Int) (mu2 : Mem), qJ l G yX0_isBeaten cX0_isBeaten 5 (some .boolean) 2 2 [some (.ref 32), some (.ref 6), some (.int (iI p1)), some (.int (iI i3)), none] [] (lay mu2) (lf eI (f_X0_isBeaten_L2 p1 u i3 mu2)) := by
  intro u
  induction u with
  | zero => intro _ mu2; exact T_none
  | succ u ih =>
    intro i3 mu2
    rw [f_X0_isBeaten_L2]
    refine J_iload_n (pc := 2) dX0_isBeaten_2 rfl rfl ?_
    refine J_aload_n (pc := 3) dX0_isBeaten_3 rfl rfl rfl ?_
    refine T_callVI (pc := 4) (As := []) (k := 6) (st := [.int (iI i3)]) ok_yX8_allCapes lm_X0_33 dX0_isBeaten_4 (by decide) rfl rfl (by decide) (Nat.le_of_ble_eq_true rfl) (m_X8_allCapes mu2) (fun r2 m1 em1 => ?_)
    refine T_icmp_gt (pc := 7) (tgt := 45) dX0_isBeaten_7 (by decide) (fun h3 => ?_) (fun h3 => ?_)
    · refine J_iconst (pc := 45) dX0_isBeaten_45 ?_
      exact T_retZ (pc := 46) rfl (by decide) dX0_isBeaten_46
    · refine J_aload_n (pc := 10) dX0_isBeaten_10 rfl rfl rfl ?_
      refine J_aload_n (pc := 11) dX0_isBeaten_11 rfl rfl rfl ?_
      refine J_iload_n (pc := 12) dX0_isBeaten_12 rfl rfl ?_
      refine J_iload_n (pc := 13) dX0_isBeaten_13 rfl rfl ?_
      refine T_callVI (pc := 14) (As := [.ref 6, .int (iI i3), .int (iI p1)]) (k := 32) (st := []) ok_yX0_votersFor lm_X0_55 dX0_isBeaten_14 (by decide) rfl rfl (by decide) (Nat.le_of_ble_eq_true rfl) (m_X0_votersFor m1 i3 p1) (fun r5 m4 em4 => ?_)
      refine T_callSI (pc := 17) (As := [.int (iI r5)]) (st := []) ok_yJ6_bitCount_0f7a4 lm_X0_59 dX0_isBeaten_17 (by decide) (Nat.le_of_ble_eq_true rfl) (m_J6_bitCount_0f7a4 m4 r5) (fun r7 m6 em6 => ?_)
      refine J_istore (pc := 20) (L' := [some (.ref 32), some (.ref 6), some (.int (iI p1)), some (.int (iI i3)), some (.int (iI r7))]) dX0_isBeaten_20 (by decide) rfl rfl ?_
      refine J_iload (pc := 22) dX0_isBeaten_22 rfl ?_
      refine J_aload_n (pc := 24) dX0_isBeaten_24 rfl rfl rfl ?_
      refine J_aload_n (pc := 25) dX0_isBeaten_25 rfl rfl rfl ?_
      refine J_iload_n (pc := 26) dX0_isBeaten_26 rfl rfl ?_
      refine J_iload_n (pc := 27) dX0_isBeaten_27 rfl rfl ?_
      refine T_callVI (pc := 28) (As := [.ref 6, .int (iI p1), .int (iI i3)]) (k := 32) (st := [.int (iI r7)]) ok_yX0_votersFor lm_X0_55 dX0_isBeaten_28 (by decide) rfl rfl (by decide) (Nat.le_of_ble_eq_true rfl) (m_X0_votersFor m6 p1 i3) (fun r9 m8 em8 => ?_)
      refine T_callSI (pc := 31) (As := [.int (iI r9)]) (st := [.int (iI r7)]) ok_yJ6_bitCount_0f7a4 lm_X0_59 dX0_isBeaten_31 (by decide) (Nat.le_of_ble_eq_true rfl) (m_J6_bitCount_0f7a4 m8 r9) (fun r11 m10 em10 => ?_)
      refine T_icmp_le (pc := 34) (tgt := 39) dX0_isBeaten_34 (by decide) (fun h12 => ?_) (fun h12 => ?_)
      · refine J_iinc (pc := 39) (L' := [some (.ref 32), some (.ref 6), some (.int (iI p1)), some (.int (iI (i3 + 1))), some (.int (iI r7))]) dX0_isBeaten_39 rfl (by decide) rfl rfl ?_
        refine J_goto (pc := 42) (tgt := 2) dX0_isBeaten_42 (by decide) ?_
        refine J_dropf (pc := 2) (L' := [some (.ref 32), some (.ref 6), some (.int (iI p1)), some (.int (iI (i3 + 1))), none]) [true, true, true, true, false] rfl ?_
        exact ih (i3 + 1) m10
      · refine J_iconst (pc := 37) dX0_isBeaten_37 ?_
        exact T_retZ (pc := 38) rfl (by decide) dX0_isBeaten_38
def f_X0_isBeaten (m0 : Mem) (p1 : Int) : Option (Int × Mem) := f_X0_isBeaten_L2 p1 100000 0 m0
set_option maxRecDepth 40000 in
theorem m_X0_isBeaten {l : Launch} {G : qG} (m0 : Mem) (p1 : Int) : qM l G 2 yX0_isBeaten cX0_isBeaten 5 (some .boolean) [.ref 32, .ref 6, .int (iI p1)] (lay m0) (lf eI (f_X0_isBeaten m0 p1)) := by
  refine qM_of (L := [some (.ref 32), some (.ref 6), some (.int (iI p1)), none, none]) (by decide +kernel) (Nat.le_of_ble_eq_true rfl) rfl ?_
  unfold f_X0_isBeaten
  refine J_iconst (pc := 0) dX0_isBeaten_0 ?_
  refine J_istore_n (pc := 1) (L' := [some (.ref 32), some (.ref 6), some (.int (iI p1)), some (.int (iI 0)), none]) dX0_isBeaten_1 rfl (by decide) rfl rfl ?_
  refine j_X0_isBeaten_L2 100000 0 m0
def f_X0_firstUnbeaten_L2 : Nat → Int → Mem → Option (Int × Mem)
  | 0, _, _ => none
  | u + 1, i2, mu2 => bd (f_X8_allCapes mu2) fun r2 m1 => if w32 r2 < w32 i2 then (some ((-9), m1)) else (bd (f_X0_isBeaten m1 i2) fun r5 m4 => if w32 r5 = 0 then (some (i2, m4)) else (f_X0_firstUnbeaten_L2 u (i2 + 1) m4))
set_option maxRecDepth 40000 in
theorem j_X0_firstUnbeaten_L2 {l : Launch} {G : qG} : ∀ (u : Nat) (i2 : Int) (mu2 : Mem), qJ l G yX0_firstUnbeaten cX0_firstUnbeaten 3 (some .int) 3 2 [some (.ref 32), some (.ref 6), some (.int (iI i2))] [] (lay mu2) (lf eI (f_X0_firstUnbeaten_L2 u i2 mu2)) := by
  intro u
  induction u with
  | zero => intro _ mu2; exact T_none
  | succ u ih =>
    intro i2 mu2
    rw [f_X0_firstUnbeaten_L2]
    refine J_iload_n (pc := 2) dX0_firstUnbeaten_2 rfl rfl ?_
    refine J_aload_n (pc := 3) dX0_firstUnbeaten_3 rfl rfl rfl ?_
    refine T_callVI (pc := 4) (As := []) (k := 6) (st := [.int (iI i2)]) ok_yX8_allCapes lm_X0_33 dX0_firstUnbeaten_4 (by decide) rfl rfl (by decide) (Nat.le_of_ble_eq_true rfl) (m_X8_allCapes mu2) (fun r2 m1 em1 => ?_)
    refine T_icmp_gt (pc := 7) (tgt := 27) dX0_firstUnbeaten_7 (by decide) (fun h3 => ?_) (fun h3 => ?_)
    · refine J_bipush (pc := 27) dX0_firstUnbeaten_27 (by decide) (by decide) ?_
      exact T_retI (pc := 29) rfl dX0_firstUnbeaten_29
    · refine J_aload_n (pc := 10) dX0_firstUnbeaten_10 rfl rfl rfl ?_
      refine J_aload_n (pc := 11) dX0_firstUnbeaten_11 rfl rfl rfl ?_
      refine J_iload_n (pc := 12) dX0_firstUnbeaten_12 rfl rfl ?_
      refine T_callVI (pc := 13) (As := [.ref 6, .int (iI i2)]) (k := 32) (st := []) ok_yX0_isBeaten lm_X0_51 dX0_firstUnbeaten_13 (by decide) rfl rfl (by decide) (Nat.le_of_ble_eq_true rfl) (m_X0_isBeaten m1 i2) (fun r5 m4 em4 => ?_)
      refine T_if_ne (pc := 16) (tgt := 21) dX0_firstUnbeaten_16 (by decide) (fun h6 => ?_) (fun h6 => ?_)
      · refine J_iinc (pc := 21) (L' := [some (.ref 32), some (.ref 6), some (.int (iI (i2 + 1)))]) dX0_firstUnbeaten_21 rfl (by decide) rfl rfl ?_
        refine J_goto (pc := 24) (tgt := 2) dX0_firstUnbeaten_24 (by decide) ?_
        exact ih (i2 + 1) m4
      · refine J_iload_n (pc := 19) dX0_firstUnbeaten_19 rfl rfl ?_
        exact T_retI (pc := 20) rfl dX0_firstUnbeaten_20
def f_X0_firstUnbeaten (m0 : Mem) : Option (Int × Mem) := f_X0_firstUnbeaten_L2 100000 0 m0
set_option maxRecDepth 40000 in
theorem m_X0_firstUnbeaten {l : Launch} {G : qG} (m0 : Mem) : qM l G 3 yX0_firstUnbeaten cX0_firstUnbeaten 3 (some .int) [.ref 32, .ref 6] (lay m0) (lf eI (f_X0_firstUnbeaten m0)) := by
  refine qM_of (L := [some (.ref 32), some (.ref 6), none]) (by decide +kernel) (Nat.le_of_ble_eq_true rfl) rfl ?_
  unfold f_X0_firstUnbeaten
  refine J_iconst (pc := 0) dX0_firstUnbeaten_0 ?_
  refine J_istore_n (pc := 1) (L' := [some (.ref 32), some (.ref 6), some (.int (iI 0))]) dX0_firstUnbeaten_1 rfl (by decide) rfl rfl ?_
  refine j_X0_firstUnbeaten_L2 100000 0 m0
def f_X9_choice (m0 : Mem) : Option (Int × Mem) := if w32 (m0 6 6) = 0 then (some ((-4), m0)) else (bd (f_X0_weigh m0) fun _u m2 => bd (f_X0_firstUnbeaten m2) fun r4 m3 => some (r4, m3))
set_option maxRecDepth 40000 in
theorem m_X9_choice {l : Launch} {G : qG} (m0 : Mem) : qM l G 5 yX9_choice cX9_choice 1 (some .int) [.ref 0] (lay m0) (lf eI (f_X9_choice m0)) := by
  refine qM_of (L := [some (.ref 0)]) (by decide +kernel) (Nat.le_of_ble_eq_true rfl) rfl ?_
  unfold f_X9_choice
  refine J_aload_n (pc := 0) dX9_choice_0 rfl rfl rfl ?_
  refine tg_X9_31 (pc := 1) rfl dX9_choice_1 ?_
  refine tg_X9_156 (pc := 4) rfl dX9_choice_4 ?_
  refine T_if_ne (pc := 7) (tgt := 13) dX9_choice_7 (by decide) (fun h1 => ?_) (fun h1 => ?_)
  · refine J_aload_n (pc := 13) dX9_choice_13 rfl rfl rfl ?_
    refine tg_X9_70 (pc := 14) rfl dX9_choice_14 ?_
    refine J_aload_n (pc := 17) dX9_choice_17 rfl rfl rfl ?_
    refine tg_X9_31 (pc := 18) rfl dX9_choice_18 ?_
    refine J_aload_n (pc := 21) dX9_choice_21 rfl rfl rfl ?_
    refine tg_X9_38 (pc := 22) rfl dX9_choice_22 ?_
    refine T_callVU (pc := 25) (As := [.ref 6, .ref 13]) (k := 32) (st := []) ok_yX0_weigh lm_X9_265 dX9_choice_25 (by decide) rfl rfl (by decide) (Nat.le_of_ble_eq_true rfl) (m_X0_weigh m0) (fun _u m2 em2 => ?_)
    refine J_aload_n (pc := 28) dX9_choice_28 rfl rfl rfl ?_
    refine tg_X9_70 (pc := 29) rfl dX9_choice_29 ?_
    refine J_aload_n (pc := 32) dX9_choice_32 rfl rfl rfl ?_
    refine tg_X9_31 (pc := 33) rfl dX9_choice_33 ?_
    refine T_callVI (pc := 36) (As := [.ref 6]) (k := 32) (st := []) ok_yX0_firstUnbeaten lm_X9_278 dX9_choice_36 (by decide) rfl rfl (by decide) (Nat.le_of_ble_eq_true rfl) (m_X0_firstUnbeaten m2) (fun r4 m3 em3 => ?_)
    exact T_retI (pc := 39) rfl dX9_choice_39
  · refine J_bipush (pc := 10) dX9_choice_10 (by decide) (by decide) ?_
    exact T_retI (pc := 12) rfl dX9_choice_12
def f_X0_mostOf_L20 (K : Int → Mem → Option (Int × Mem)) (p1 : Int) (i4 : Int) : Nat → Int → Int → Mem → Option (Int × Mem)
  | 0, _, _, _ => none
  | u + 1, i5, i6, mu20 => if w32 i6 < w32 (mu20 6 7) then (jn (κ := Int → Mem → Option (Int × Mem)) (fun x7 m6 => f_X0_mostOf_L20 K p1 i4 u x7 (i6 + 1) m6) fun k5 => if w32 (zand (zshr p1 i6) 1) = 0 then (k5 i5 mu20) else (ck ((i4 * 4) + i6) 128 (vl (i5 + (mu20 35 (w32 ((i4 * 4) + i6)).toNat)) fun x10 => k5 x10 mu20))) else (K i5 mu20)
set_option maxRecDepth 40000 in
theorem j_X0_mostOf_L20 {l : Launch} {G : qG} {K : Int → Mem → Option (Int × Mem)} {p1 : Int} {i4 : Int} {i3 : Int} (hK : ∀ (x5 : Int) (m : Mem), qJ l G yX0_mostOf cX0_mostOf 7 (some .int) 2 61 [some (.ref 32), some (.ref 6), some (.int (iI p1)), some (.int (iI i3)), some (.int (iI i4)), some (.int (iI x5)), none] [] (lay m) (lf eI (K x5 m))) : ∀ (u : Nat) (i5 : Int) (i6 : Int) (mu20 : Mem), qJ l G yX0_mostOf cX0_mostOf 7 (some .int) 2 20 [some (.ref 32), some (.ref 6), some (.int (iI p1)), some (.int (iI i3)), some (.int (iI i4)), some (.int (iI i5)), some (.int (iI i6))] [] (lay mu20) (lf eI (f_X0_mostOf_L20 K p1 i4 u i5 i6 mu20)) := by
  intro u
  induction u with
  | zero => intro _ _ mu20; exact T_none
  | succ u ih =>
    intro i5 i6 mu20
    rw [f_X0_mostOf_L20]
    refine J_iload (pc := 20) dX0_mostOf_20 rfl ?_
    refine J_aload_n (pc := 22) dX0_mostOf_22 rfl rfl rfl ?_
    refine tg_X0_43 (pc := 23) rfl dX0_mostOf_23 ?_
    refine T_icmp_ge (pc := 26) (tgt := 61) dX0_mostOf_26 (by decide) (fun h4 => ?_) (fun h4 => ?_)
    · refine J_dropf (pc := 61) (L' := [some (.ref 32), some (.ref 6), some (.int (iI p1)), some (.int (iI i3)), some (.int (iI i4)), some (.int (iI i5)), none]) [true, true, true, true, true, true, false] rfl ?_
      exact hK i5 mu20
    · refine J_iload_n (pc := 29) dX0_mostOf_29 rfl rfl ?_
      refine J_iload (pc := 30) dX0_mostOf_30 rfl ?_
      refine J_ishr (pc := 32) dX0_mostOf_32 ?_
      refine J_iconst (pc := 33) dX0_mostOf_33 ?_
      refine J_iand (pc := 34) dX0_mostOf_34 ?_
      refine T_jn (κ := Int → Mem → Option (Int × Mem)) (fun k => ∀ (x7 : Int) (m6 : Mem), qJ l G yX0_mostOf cX0_mostOf 7 (some .int) 2 55 [some (.ref 32), some (.ref 6), some (.int (iI p1)), some (.int (iI i3)), some (.int (iI i4)), some (.int (iI x7)), some (.int (iI i6))] [] (lay m6) (lf eI (k x7 m6))) ?_ (fun k5 hk5 => ?_)
      · intro x7 m6
        refine J_iinc (pc := 55) (L' := [some (.ref 32), some (.ref 6), some (.int (iI p1)), some (.int (iI i3)), some (.int (iI i4)), some (.int (iI x7)), some (.int (iI (i6 + 1)))]) dX0_mostOf_55 rfl (by decide) rfl rfl ?_
        refine J_goto (pc := 58) (tgt := 20) dX0_mostOf_58 (by decide) ?_
        exact ih x7 (i6 + 1) m6
      · refine T_if_eq (pc := 35) (tgt := 55) dX0_mostOf_35 (by decide) (fun h8 => ?_) (fun h8 => ?_)
        · exact hk5 i5 mu20
        · refine J_iload (pc := 38) dX0_mostOf_38 rfl ?_
          refine J_aload_n (pc := 40) dX0_mostOf_40 rfl rfl rfl ?_
          refine tg_X0_18 (pc := 41) rfl dX0_mostOf_41 ?_
          refine J_iload (pc := 44) dX0_mostOf_44 rfl ?_
          refine J_iconst (pc := 46) dX0_mostOf_46 ?_
          refine J_imul (pc := 47) dX0_mostOf_47 ?_
          refine J_iload (pc := 48) dX0_mostOf_48 rfl ?_
          refine J_iadd (pc := 50) dX0_mostOf_50 ?_
          refine T_iaload (pc := 51) (by decide) rfl dX0_mostOf_51 (fun h9 => ?_)
          refine J_iadd (pc := 52) dX0_mostOf_52 ?_
          refine T_vlI (pc := 53) (fun x10 ex10 => ?_)
          refine J_istore (pc := 53) (L' := [some (.ref 32), some (.ref 6), some (.int (iI p1)), some (.int (iI i3)), some (.int (iI i4)), some (.int (iI x10)), some (.int (iI i6))]) dX0_mostOf_53 (by decide) rfl rfl ?_
          exact hk5 x10 mu20
def f_X0_mostOf_L5 (p1 : Int) : Nat → Int → Int → Mem → Option (Int × Mem)
  | 0, _, _, _ => none
  | u + 1, i3, i4, mu5 => bd (f_X8_allCapes mu5) fun r2 m1 => if w32 r2 < w32 i4 then (some (i3, m1)) else (f_X0_mostOf_L20 (fun x11 m12 => vl (zmax i3 x11) fun x13 => f_X0_mostOf_L5 p1 u x13 (i4 + 1) m12) p1 i4 100000 0 0 m1)
set_option maxRecDepth 40000 in
theorem j_X0_mostOf_L5 {l : Launch} {G : qG} {p1 : Int} : ∀ (u : Nat) (i3 : Int) (i4 : Int) (mu5 : Mem), qJ l G yX0_mostOf cX0_mostOf 7 (some .int) 2 5 [some (.ref 32), some (.ref 6), some (.int (iI p1)), some (.int (iI i3)), some (.int (iI i4)), none, none] [] (lay mu5) (lf eI (f_X0_mostOf_L5 p1 u i3 i4 mu5)) := by
  intro u
  induction u with
  | zero => intro _ _ mu5; exact T_none
  | succ u ih =>
    intro i3 i4 mu5
    rw [f_X0_mostOf_L5]
    refine J_iload (pc := 5) dX0_mostOf_5 rfl ?_
    refine J_aload_n (pc := 7) dX0_mostOf_7 rfl rfl rfl ?_
    refine T_callVI (pc := 8) (As := []) (k := 6) (st := [.int (iI i4)]) ok_yX8_allCapes lm_X0_33 dX0_mostOf_8 (by decide) rfl rfl (by decide) (Nat.le_of_ble_eq_true rfl) (m_X8_allCapes mu5) (fun r2 m1 em1 => ?_)
    refine T_icmp_gt (pc := 11) (tgt := 74) dX0_mostOf_11 (by decide) (fun h3 => ?_) (fun h3 => ?_)
    · refine J_iload_n (pc := 74) dX0_mostOf_74 rfl rfl ?_
      exact T_retI (pc := 75) rfl dX0_mostOf_75
    · refine J_iconst (pc := 14) dX0_mostOf_14 ?_
      refine J_istore (pc := 15) (L' := [some (.ref 32), some (.ref 6), some (.int (iI p1)), some (.int (iI i3)), some (.int (iI i4)), some (.int (iI 0)), none]) dX0_mostOf_15 (by decide) rfl rfl ?_
      refine J_iconst (pc := 17) dX0_mostOf_17 ?_
      refine J_istore (pc := 18) (L' := [some (.ref 32), some (.ref 6), some (.int (iI p1)), some (.int (iI i3)), some (.int (iI i4)), some (.int (iI 0)), some (.int (iI 0))]) dX0_mostOf_18 (by decide) rfl rfl ?_
      refine j_X0_mostOf_L20 ?_ 100000 0 0 m1
      · intro x11 m12
        refine J_iload_n (pc := 61) dX0_mostOf_61 rfl rfl ?_
        refine J_iload (pc := 62) dX0_mostOf_62 rfl ?_
        refine J_max (pc := 64) (by decide) lm_X0_73 (Nat.le_of_ble_eq_true rfl) dX0_mostOf_64 ?_
        refine T_vlI (pc := 67) (fun x13 ex13 => ?_)
        refine J_istore_n (pc := 67) (L' := [some (.ref 32), some (.ref 6), some (.int (iI p1)), some (.int (iI x13)), some (.int (iI i4)), some (.int (iI x11)), none]) dX0_mostOf_67 rfl (by decide) rfl rfl ?_
        refine J_iinc (pc := 68) (L' := [some (.ref 32), some (.ref 6), some (.int (iI p1)), some (.int (iI x13)), some (.int (iI (i4 + 1))), some (.int (iI x11)), none]) dX0_mostOf_68 rfl (by decide) rfl rfl ?_
        refine J_goto (pc := 71) (tgt := 5) dX0_mostOf_71 (by decide) ?_
        refine J_dropf (pc := 5) (L' := [some (.ref 32), some (.ref 6), some (.int (iI p1)), some (.int (iI x13)), some (.int (iI (i4 + 1))), none, none]) [true, true, true, true, true, false, false] rfl ?_
        exact ih x13 (i4 + 1) m12
def f_X0_mostOf (m0 : Mem) (p1 : Int) : Option (Int × Mem) := f_X0_mostOf_L5 p1 100000 0 0 m0
set_option maxRecDepth 40000 in
theorem m_X0_mostOf {l : Launch} {G : qG} (m0 : Mem) (p1 : Int) : qM l G 2 yX0_mostOf cX0_mostOf 7 (some .int) [.ref 32, .ref 6, .int (iI p1)] (lay m0) (lf eI (f_X0_mostOf m0 p1)) := by
  refine qM_of (L := [some (.ref 32), some (.ref 6), some (.int (iI p1)), none, none, none, none]) (by decide +kernel) (Nat.le_of_ble_eq_true rfl) rfl ?_
  unfold f_X0_mostOf
  refine J_iconst (pc := 0) dX0_mostOf_0 ?_
  refine J_istore_n (pc := 1) (L' := [some (.ref 32), some (.ref 6), some (.int (iI p1)), some (.int (iI 0)), none, none, none]) dX0_mostOf_1 rfl (by decide) rfl rfl ?_
  refine J_iconst (pc := 2) dX0_mostOf_2 ?_
  refine J_istore (pc := 3) (L' := [some (.ref 32), some (.ref 6), some (.int (iI p1)), some (.int (iI 0)), some (.int (iI 0)), none, none]) dX0_mostOf_3 (by decide) rfl rfl ?_
  refine j_X0_mostOf_L5 100000 0 0 m0
def f_X0_firstLeaving_L18 (K : Int → Mem → Option (Int × Mem)) (q1 : Nat) (i3 : Int) : Nat → Int → Int → Mem → Option (Int × Mem)
  | 0, _, _, _ => none
  | u + 1, i4, i6, mu18 => if w32 i6 < w32 (mu18 6 7) then (jn (κ := Int → Mem → Option (Int × Mem)) (fun x5 m4 => f_X0_firstLeaving_L18 K q1 i3 u x5 (i6 + 1) m4) fun k3 => if w32 (zand (zshr i3 i6) 1) = 0 then (k3 i4 mu18) else (ck i6 40 (vl (i4 + (w32 (mu18 (q1 + 1) (w32 i6).toNat))) fun x8 => k3 x8 mu18))) else (K i4 mu18)
set_option maxRecDepth 40000 in
theorem j_X0_firstLeaving_L18 {l : Launch} {G : qG} {K : Int → Mem → Option (Int × Mem)} {q1 : Nat} {i3 : Int} (hq1 : oRow q1) (hK : ∀ (x4 : Int) (m : Mem), qJ l G yX0_firstLeaving cX0_firstLeaving 7 (some .int) 3 55 [some (.ref 32), some (.ref 6), some (.ref q1), some (.int (iI i3)), some (.long (iL x4)), none, none] [] (lay m) (lf eI (K x4 m))) : ∀ (u : Nat) (i4 : Int) (i6 : Int) (mu18 : Mem), qJ l G yX0_firstLeaving cX0_firstLeaving 7 (some .int) 3 18 [some (.ref 32), some (.ref 6), some (.ref q1), some (.int (iI i3)), some (.long (iL i4)), none, some (.int (iI i6))] [] (lay mu18) (lf eI (f_X0_firstLeaving_L18 K q1 i3 u i4 i6 mu18)) := by
  intro u
  induction u with
  | zero => intro _ _ mu18; exact T_none
  | succ u ih =>
    intro i4 i6 mu18
    rw [f_X0_firstLeaving_L18]
    refine J_iload (pc := 18) dX0_firstLeaving_18 rfl ?_
    refine J_aload_n (pc := 20) dX0_firstLeaving_20 rfl rfl rfl ?_
    refine tg_X0_43 (pc := 21) rfl dX0_firstLeaving_21 ?_
    refine T_icmp_ge (pc := 24) (tgt := 55) dX0_firstLeaving_24 (by decide) (fun h2 => ?_) (fun h2 => ?_)
    · refine J_dropf (pc := 55) (L' := [some (.ref 32), some (.ref 6), some (.ref q1), some (.int (iI i3)), some (.long (iL i4)), none, none]) [true, true, true, true, true, false, false] rfl ?_
      exact hK i4 mu18
    · refine J_iload_n (pc := 27) dX0_firstLeaving_27 rfl rfl ?_
      refine J_iload (pc := 28) dX0_firstLeaving_28 rfl ?_
      refine J_ishr (pc := 30) dX0_firstLeaving_30 ?_
      refine J_iconst (pc := 31) dX0_firstLeaving_31 ?_
      refine J_iand (pc := 32) dX0_firstLeaving_32 ?_
      refine T_jn (κ := Int → Mem → Option (Int × Mem)) (fun k => ∀ (x5 : Int) (m4 : Mem), qJ l G yX0_firstLeaving cX0_firstLeaving 7 (some .int) 3 49 [some (.ref 32), some (.ref 6), some (.ref q1), some (.int (iI i3)), some (.long (iL x5)), none, some (.int (iI i6))] [] (lay m4) (lf eI (k x5 m4))) ?_ (fun k3 hk3 => ?_)
      · intro x5 m4
        refine J_iinc (pc := 49) (L' := [some (.ref 32), some (.ref 6), some (.ref q1), some (.int (iI i3)), some (.long (iL x5)), none, some (.int (iI (i6 + 1)))]) dX0_firstLeaving_49 rfl (by decide) rfl rfl ?_
        refine J_goto (pc := 52) (tgt := 18) dX0_firstLeaving_52 (by decide) ?_
        exact ih x5 (i6 + 1) m4
      · refine T_if_eq (pc := 33) (tgt := 49) dX0_firstLeaving_33 (by decide) (fun h6 => ?_) (fun h6 => ?_)
        · exact hk3 i4 mu18
        · refine J_lload (pc := 36) dX0_firstLeaving_36 rfl ?_
          refine J_aload_n (pc := 38) dX0_firstLeaving_38 rfl rfl rfl ?_
          refine tg_X0_65 (pc := 39) hq1 rfl dX0_firstLeaving_39 ?_
          refine J_iload (pc := 42) dX0_firstLeaving_42 rfl ?_
          refine T_iaload (pc := 44) (oRow_l1 hq1) (oRow_a1 hq1) dX0_firstLeaving_44 (fun h7 => ?_)
          refine J_i2l (pc := 45) dX0_firstLeaving_45 ?_
          refine J_ladd (pc := 46) dX0_firstLeaving_46 ?_
          refine T_vlL (pc := 47) (fun x8 ex8 => ?_)
          refine J_lstore (pc := 47) (L' := [some (.ref 32), some (.ref 6), some (.ref q1), some (.int (iI i3)), some (.long (iL x8)), none, some (.int (iI i6))]) dX0_firstLeaving_47 (by decide) rfl rfl ?_
          exact hk3 x8 mu18
def f_X0_firstLeaving_L2 (q1 : Nat) : Nat → Int → Mem → Option (Int × Mem)
  | 0, _, _ => none
  | u + 1, i3, mu2 => if w32 i3 < w32 (zshl 1 (mu2 6 7)) then (f_X0_firstLeaving_L18 (fun x9 m10 => bd (f_X0_mostOf m10 i3) fun r12 m11 => if w32 (ycmp x9 (w32 r12)) < 0 then (some (i3, m11)) else (f_X0_firstLeaving_L2 q1 u (i3 + 1) m11)) q1 i3 100000 0 0 mu2) else (some ((-9), mu2))
set_option maxRecDepth 40000 in
theorem j_X0_firstLeaving_L2 {l : Launch} {G : qG} {q1 : Nat} (hq1 : oRow q1) : ∀ (u : Nat) (i3 : Int) (mu2 : Mem), qJ l G yX0_firstLeaving cX0_firstLeaving 7 (some .int) 3 2 [some (.ref 32), some (.ref 6), some (.ref q1), some (.int (iI i3)), none, none, none] [] (lay mu2) (lf eI (f_X0_firstLeaving_L2 q1 u i3 mu2)) := by
  intro u
  induction u with
  | zero => intro _ mu2; exact T_none
  | succ u ih =>
    intro i3 mu2
    rw [f_X0_firstLeaving_L2]
    refine J_iload_n (pc := 2) dX0_firstLeaving_2 rfl rfl ?_
    refine J_iconst (pc := 3) dX0_firstLeaving_3 ?_
    refine J_aload_n (pc := 4) dX0_firstLeaving_4 rfl rfl rfl ?_
    refine tg_X0_43 (pc := 5) rfl dX0_firstLeaving_5 ?_
    refine J_ishl (pc := 8) dX0_firstLeaving_8 ?_
    refine T_icmp_ge (pc := 9) (tgt := 76) dX0_firstLeaving_9 (by decide) (fun h1 => ?_) (fun h1 => ?_)
    · refine J_bipush (pc := 76) dX0_firstLeaving_76 (by decide) (by decide) ?_
      exact T_retI (pc := 78) rfl dX0_firstLeaving_78
    · refine J_lconst (pc := 12) (z := 0) dX0_firstLeaving_12 (by decide) ?_
      refine J_lstore (pc := 13) (L' := [some (.ref 32), some (.ref 6), some (.ref q1), some (.int (iI i3)), some (.long (iL 0)), none, none]) dX0_firstLeaving_13 (by decide) rfl rfl ?_
      refine J_iconst (pc := 15) dX0_firstLeaving_15 ?_
      refine J_istore (pc := 16) (L' := [some (.ref 32), some (.ref 6), some (.ref q1), some (.int (iI i3)), some (.long (iL 0)), none, some (.int (iI 0))]) dX0_firstLeaving_16 (by decide) rfl rfl ?_
      refine j_X0_firstLeaving_L18 hq1 ?_ 100000 0 0 mu2
      · intro x9 m10
        refine J_lload (pc := 55) dX0_firstLeaving_55 rfl ?_
        refine J_aload_n (pc := 57) dX0_firstLeaving_57 rfl rfl rfl ?_
        refine J_aload_n (pc := 58) dX0_firstLeaving_58 rfl rfl rfl ?_
        refine J_iload_n (pc := 59) dX0_firstLeaving_59 rfl rfl ?_
        refine T_callVI (pc := 60) (As := [.ref 6, .int (iI i3)]) (k := 32) (st := [.long (iL x9)]) ok_yX0_mostOf lm_X0_70 dX0_firstLeaving_60 (by decide) rfl rfl (by decide) (Nat.le_of_ble_eq_true rfl) (m_X0_mostOf m10 i3) (fun r12 m11 em11 => ?_)
        refine J_i2l (pc := 63) dX0_firstLeaving_63 ?_
        refine J_lcmp (pc := 64) dX0_firstLeaving_64 ?_
        refine T_if_ge (pc := 65) (tgt := 70) dX0_firstLeaving_65 (by decide) (fun h13 => ?_) (fun h13 => ?_)
        · refine J_iinc (pc := 70) (L' := [some (.ref 32), some (.ref 6), some (.ref q1), some (.int (iI (i3 + 1))), some (.long (iL x9)), none, none]) dX0_firstLeaving_70 rfl (by decide) rfl rfl ?_
          refine J_goto (pc := 73) (tgt := 2) dX0_firstLeaving_73 (by decide) ?_
          refine J_dropf (pc := 2) (L' := [some (.ref 32), some (.ref 6), some (.ref q1), some (.int (iI (i3 + 1))), none, none, none]) [true, true, true, true, false, false, false] rfl ?_
          exact ih (i3 + 1) m11
        · refine J_iload_n (pc := 68) dX0_firstLeaving_68 rfl rfl ?_
          exact T_retI (pc := 69) rfl dX0_firstLeaving_69
def f_X0_firstLeaving (m0 : Mem) (q1 : Nat) : Option (Int × Mem) := f_X0_firstLeaving_L2 q1 100000 1 m0
set_option maxRecDepth 40000 in
theorem m_X0_firstLeaving {l : Launch} {G : qG} (m0 : Mem) (q1 : Nat) (hq1 : oRow q1) : qM l G 3 yX0_firstLeaving cX0_firstLeaving 7 (some .int) [.ref 32, .ref 6, .ref q1] (lay m0) (lf eI (f_X0_firstLeaving m0 q1)) := by
  refine qM_of (L := [some (.ref 32), some (.ref 6), some (.ref q1), none, none, none, none]) (by decide +kernel) (Nat.le_of_ble_eq_true rfl) rfl ?_
  unfold f_X0_firstLeaving
  refine J_iconst (pc := 0) dX0_firstLeaving_0 ?_
  refine J_istore_n (pc := 1) (L' := [some (.ref 32), some (.ref 6), some (.ref q1), some (.int (iI 1)), none, none, none]) dX0_firstLeaving_1 rfl (by decide) rfl rfl ?_
  refine j_X0_firstLeaving_L2 hq1 100000 1 m0
def f_X9_parts (m0 : Mem) (p0 : Int) : Option (Int × Mem) := bd (f_X9_rowRefusal m0 p0) fun r2 m1 => if w32 r2 = 0 then (ck p0 6 (if w32 (m1 (38 + 2 * (w32 p0).toNat) 1) = w32 (m1 6 7) then (bd (f_X0_weigh m1) fun _u m6 => ck p0 6 (bd (f_X0_firstLeaving m6 (38 + 2 * (w32 p0).toNat)) fun r9 m8 => vm (wr m8 0 13 r9) fun m10 => vl (if w32 (m10 0 13) = w32 (-9) then 1 else 0) fun v11 => some (v11, m10))) else (bd (f_X9_found m1 5) fun r15 m14 => some (r15, m14)))) else (some (r2, m1))
set_option maxRecDepth 40000 in
theorem m_X9_parts {l : Launch} {G : qG} (m0 : Mem) (p0 : Int) : qM l G 5 yX9_parts cX9_parts 3 (some .int) [.ref 0, .int (iI p0)] (lay m0) (lf eI (f_X9_parts m0 p0)) := by
  refine qM_of (L := [some (.ref 0), some (.int (iI p0)), none]) (by decide +kernel) (Nat.le_of_ble_eq_true rfl) rfl ?_
  unfold f_X9_parts
  refine J_aload_n (pc := 0) dX9_parts_0 rfl rfl rfl ?_
  refine J_iload_n (pc := 1) dX9_parts_1 rfl rfl ?_
  refine T_callVI (pc := 2) (As := [.int (iI p0)]) (k := 0) (st := []) ok_yX9_rowRefusal lm_X9_282 dX9_parts_2 (by decide) rfl rfl (by decide) (Nat.le_of_ble_eq_true rfl) (m_X9_rowRefusal m0 p0) (fun r2 m1 em1 => ?_)
  refine J_istore_n (pc := 5) (L' := [some (.ref 0), some (.int (iI p0)), some (.int (iI r2))]) dX9_parts_5 rfl (by decide) rfl rfl ?_
  refine J_iload_n (pc := 6) dX9_parts_6 rfl rfl ?_
  refine T_if_eq (pc := 7) (tgt := 12) dX9_parts_7 (by decide) (fun h3 => ?_) (fun h3 => ?_)
  · refine J_aload_n (pc := 12) dX9_parts_12 rfl rfl rfl ?_
    refine tg_X9_11 (pc := 13) rfl dX9_parts_13 ?_
    refine J_iload_n (pc := 16) dX9_parts_16 rfl rfl ?_
    refine T_aaload (pc := 17) (by decide) rfl rfl dX9_parts_17 (fun h4 => ?_)
    refine tg_X9_123 (pc := 18) (oRow_e h4) rfl dX9_parts_18 ?_
    refine J_aload_n (pc := 21) dX9_parts_21 rfl rfl rfl ?_
    refine tg_X9_31 (pc := 22) rfl dX9_parts_22 ?_
    refine tg_X9_208 (pc := 25) rfl dX9_parts_25 ?_
    refine T_icmp_eq (pc := 28) (tgt := 37) dX9_parts_28 (by decide) (fun h5 => ?_) (fun h5 => ?_)
    · refine J_aload_n (pc := 37) dX9_parts_37 rfl rfl rfl ?_
      refine tg_X9_70 (pc := 38) rfl dX9_parts_38 ?_
      refine J_aload_n (pc := 41) dX9_parts_41 rfl rfl rfl ?_
      refine tg_X9_31 (pc := 42) rfl dX9_parts_42 ?_
      refine J_aload_n (pc := 45) dX9_parts_45 rfl rfl rfl ?_
      refine tg_X9_38 (pc := 46) rfl dX9_parts_46 ?_
      refine T_callVU (pc := 49) (As := [.ref 6, .ref 13]) (k := 32) (st := []) ok_yX0_weigh lm_X9_265 dX9_parts_49 (by decide) rfl rfl (by decide) (Nat.le_of_ble_eq_true rfl) (m_X0_weigh m1) (fun _u m6 em6 => ?_)
      refine J_aload_n (pc := 52) dX9_parts_52 rfl rfl rfl ?_
      refine J_aload_n (pc := 53) dX9_parts_53 rfl rfl rfl ?_
      refine tg_X9_70 (pc := 54) rfl dX9_parts_54 ?_
      refine J_aload_n (pc := 57) dX9_parts_57 rfl rfl rfl ?_
      refine tg_X9_31 (pc := 58) rfl dX9_parts_58 ?_
      refine J_aload_n (pc := 61) dX9_parts_61 rfl rfl rfl ?_
      refine tg_X9_11 (pc := 62) rfl dX9_parts_62 ?_
      refine J_iload_n (pc := 65) dX9_parts_65 rfl rfl ?_
      refine T_aaload (pc := 66) (by decide) rfl rfl dX9_parts_66 (fun h7 => ?_)
      refine T_callVI (pc := 67) (As := [.ref 6, .ref (38 + 2 * (w32 p0).toNat)]) (k := 32) (st := [.ref 0]) ok_yX0_firstLeaving lm_X9_285 dX9_parts_67 (by decide) rfl rfl (by decide) (Nat.le_of_ble_eq_true rfl) (m_X0_firstLeaving m6 (38 + 2 * (w32 p0).toNat) (oRow_e h7)) (fun r9 m8 em8 => ?_)
      refine tp_X9_85 (pc := 70) rfl dX9_parts_70 ?_
      refine T_vm (fun m10 em10 => ?_)
      refine J_aload_n (pc := 73) dX9_parts_73 rfl rfl rfl ?_
      refine tg_X9_85 (pc := 74) rfl dX9_parts_74 ?_
      refine J_bipush (pc := 77) dX9_parts_77 (by decide) (by decide) ?_
      refine T_vl (fun v11 ev11 => ?_)
      refine T_dia (j := 87) (v := v11) (LT := [some (.ref 0), some (.int (iI p0)), some (.int (iI r2))]) (sT := []) ?_ (fun hj12 => ?_)
      · exact T_retI (pc := 87) rfl dX9_parts_87
      · refine T_icmp_ne_same (pc := 79) (tgt := 86) dX9_parts_79 (by decide) (fun h13 => ?_) (fun h13 => ?_)
        · refine J_iconst (pc := 86) dX9_parts_86 ?_
          exact T_top (by rw [ev11, if_neg h13]) hj12
        · refine J_iconst (pc := 82) dX9_parts_82 ?_
          refine J_goto (pc := 83) (tgt := 87) dX9_parts_83 (by decide) ?_
          exact T_top (by rw [ev11, if_pos h13]) hj12
    · refine J_aload_n (pc := 31) dX9_parts_31 rfl rfl rfl ?_
      refine J_iconst (pc := 32) dX9_parts_32 ?_
      refine T_callVI (pc := 33) (As := [.int (iI 5)]) (k := 0) (st := []) ok_yX9_found lm_X9_104 dX9_parts_33 (by decide) rfl rfl (by decide) (Nat.le_of_ble_eq_true rfl) (m_X9_found m1 5) (fun r15 m14 em14 => ?_)
      exact T_retI (pc := 36) rfl dX9_parts_36
  · refine J_iload_n (pc := 10) dX9_parts_10 rfl rfl ?_
    exact T_retI (pc := 11) rfl dX9_parts_11
def f_X9_minutesRefusal (m0 : Mem) (p0 : Int) : Option (Int × Mem) := bd (f_X9_rowRefusal m0 p0) fun r2 m1 => if w32 r2 = 0 then (ck p0 6 (if w32 3 < w32 (m1 (38 + 2 * (w32 p0).toNat) 1) then (bd (f_X9_found m1 5) fun r7 m6 => some (r7, m6)) else (some (0, m1)))) else (some (r2, m1))
set_option maxRecDepth 40000 in
theorem m_X9_minutesRefusal {l : Launch} {G : qG} (m0 : Mem) (p0 : Int) : qM l G 3 yX9_minutesRefusal cX9_minutesRefusal 3 (some .int) [.ref 0, .int (iI p0)] (lay m0) (lf eI (f_X9_minutesRefusal m0 p0)) := by
  refine qM_of (L := [some (.ref 0), some (.int (iI p0)), none]) (by decide +kernel) (Nat.le_of_ble_eq_true rfl) rfl ?_
  unfold f_X9_minutesRefusal
  refine J_aload_n (pc := 0) dX9_minutesRefusal_0 rfl rfl rfl ?_
  refine J_iload_n (pc := 1) dX9_minutesRefusal_1 rfl rfl ?_
  refine T_callVI (pc := 2) (As := [.int (iI p0)]) (k := 0) (st := []) ok_yX9_rowRefusal lm_X9_282 dX9_minutesRefusal_2 (by decide) rfl rfl (by decide) (Nat.le_of_ble_eq_true rfl) (m_X9_rowRefusal m0 p0) (fun r2 m1 em1 => ?_)
  refine J_istore_n (pc := 5) (L' := [some (.ref 0), some (.int (iI p0)), some (.int (iI r2))]) dX9_minutesRefusal_5 rfl (by decide) rfl rfl ?_
  refine J_iload_n (pc := 6) dX9_minutesRefusal_6 rfl rfl ?_
  refine T_if_eq (pc := 7) (tgt := 12) dX9_minutesRefusal_7 (by decide) (fun h3 => ?_) (fun h3 => ?_)
  · refine J_aload_n (pc := 12) dX9_minutesRefusal_12 rfl rfl rfl ?_
    refine tg_X9_11 (pc := 13) rfl dX9_minutesRefusal_13 ?_
    refine J_iload_n (pc := 16) dX9_minutesRefusal_16 rfl rfl ?_
    refine T_aaload (pc := 17) (by decide) rfl rfl dX9_minutesRefusal_17 (fun h4 => ?_)
    refine tg_X9_123 (pc := 18) (oRow_e h4) rfl dX9_minutesRefusal_18 ?_
    refine J_iconst (pc := 21) dX9_minutesRefusal_21 ?_
    refine T_icmp_le (pc := 22) (tgt := 33) dX9_minutesRefusal_22 (by decide) (fun h5 => ?_) (fun h5 => ?_)
    · refine J_iconst (pc := 33) dX9_minutesRefusal_33 ?_
      exact T_retI (pc := 34) rfl dX9_minutesRefusal_34
    · refine J_aload_n (pc := 25) dX9_minutesRefusal_25 rfl rfl rfl ?_
      refine J_iconst (pc := 26) dX9_minutesRefusal_26 ?_
      refine T_callVI (pc := 27) (As := [.int (iI 5)]) (k := 0) (st := []) ok_yX9_found lm_X9_104 dX9_minutesRefusal_27 (by decide) rfl rfl (by decide) (Nat.le_of_ble_eq_true rfl) (m_X9_found m1 5) (fun r7 m6 em6 => ?_)
      refine J_goto (pc := 30) (tgt := 34) dX9_minutesRefusal_30 (by decide) ?_
      exact T_retI (pc := 34) rfl dX9_minutesRefusal_34
  · refine J_iload_n (pc := 10) dX9_minutesRefusal_10 rfl rfl ?_
    exact T_retI (pc := 11) rfl dX9_minutesRefusal_11
def f_X6_seekFitting_L64 (R : Mem → Int → Int → Int → Nat → Option (Unit × Mem)) (p1 : Int) (p2 : Int) (p3 : Int) (q4 : Nat) : Nat → Int → Mem → Option (Unit × Mem)
  | 0, _, _ => none
  | u + 1, i7, mu64 => if w32 p2 < w32 i7 then (some ((), mu64)) else (jn (κ := Mem → Option (Unit × Mem)) (fun m15 => f_X6_seekFitting_L64 R p1 p2 p3 q4 u (i7 + 1) m15) fun k14 => if w32 (zand i7 (zxor p2 (-1))) = 0 then (bd (f_X1_minuteBehind mu64 (26 + 2 * (w32 p1).toNat) i7) fun r18 m17 => ck p1 40 (if w32 r18 = w32 (m17 (q4 + 1) (w32 p1).toNat) then (bd (f_X6_step m17 p1 i7) fun _u m21 => bd (R m21 (p1 + 1) p2 (zor p3 (zand p2 (zxor i7 (-1)))) q4) fun _u m22 => k14 m22) else (k14 m17))) else (k14 mu64))
set_option maxRecDepth 40000 in
theorem j_X6_seekFitting_L64 {l : Launch} {G : qG} {R : Mem → Int → Int → Int → Nat → Option (Unit × Mem)} {p1 : Int} {p2 : Int} {p3 : Int} {q4 : Nat} {d : Nat} (hd0 : 6 ≤ d) (hR : ∀ (m : Mem) (p1 : Int) (p2 : Int) (p3 : Int) (q4 : Nat) (hq4 : oRow q4), qM l G d yX6_seekFitting cX6_seekFitting 8 none [.ref 22, .ref 6, .int (iI p1), .int (iI p2), .int (iI p3), .ref q4] (lay m) (lf eU (R m p1 p2 p3 q4))) (hq4 : oRow q4) (h11 : 0 ≤ w32 p1 ∧ w32 p1 < 3) : ∀ (u : Nat) (i7 : Int) (mu64 : Mem), qJ l G yX6_seekFitting cX6_seekFitting 8 none (d + 1) 64 [some (.ref 22), some (.ref 6), some (.int (iI p1)), some (.int (iI p2)), some (.int (iI p3)), some (.ref q4), some (.ref (26 + 2 * (w32 p1).toNat)), some (.int (iI i7))] [] (lay mu64) (lf eU (f_X6_seekFitting_L64 R p1 p2 p3 q4 u i7 mu64)) := by
  intro u
  induction u with
  | zero => intro _ mu64; exact T_none
  | succ u ih =>
    intro i7 mu64
    rw [f_X6_seekFitting_L64]
    refine J_iload (pc := 64) dX6_seekFitting_64 rfl ?_
    refine J_iload_n (pc := 66) dX6_seekFitting_66 rfl rfl ?_
    refine T_icmp_gt (pc := 67) (tgt := 131) dX6_seekFitting_67 (by decide) (fun h13 => ?_) (fun h13 => ?_)
    · exact T_retV (pc := 131) rfl dX6_seekFitting_131
    · refine J_iload (pc := 70) dX6_seekFitting_70 rfl ?_
      refine J_iload_n (pc := 72) dX6_seekFitting_72 rfl rfl ?_
      refine J_iconst (pc := 73) dX6_seekFitting_73 ?_
      refine J_ixor (pc := 74) dX6_seekFitting_74 ?_
      refine J_iand (pc := 75) dX6_seekFitting_75 ?_
      refine T_jn (κ := Mem → Option (Unit × Mem)) (fun k => ∀ (m15 : Mem), qJ l G yX6_seekFitting cX6_seekFitting 8 none (d + 1) 125 [some (.ref 22), some (.ref 6), some (.int (iI p1)), some (.int (iI p2)), some (.int (iI p3)), some (.ref q4), some (.ref (26 + 2 * (w32 p1).toNat)), some (.int (iI i7))] [] (lay m15) (lf eU (k m15))) ?_ (fun k14 hk14 => ?_)
      · intro m15
        refine J_iinc (pc := 125) (L' := [some (.ref 22), some (.ref 6), some (.int (iI p1)), some (.int (iI p2)), some (.int (iI p3)), some (.ref q4), some (.ref (26 + 2 * (w32 p1).toNat)), some (.int (iI (i7 + 1)))]) dX6_seekFitting_125 rfl (by decide) rfl rfl ?_
        refine J_goto (pc := 128) (tgt := 64) dX6_seekFitting_128 (by decide) ?_
        exact ih (i7 + 1) m15
      · refine T_if_ne (pc := 76) (tgt := 125) dX6_seekFitting_76 (by decide) (fun h16 => ?_) (fun h16 => ?_)
        · exact hk14  mu64
        · refine J_aload (pc := 79) dX6_seekFitting_79 rfl rfl ?_
          refine J_aload_n (pc := 81) dX6_seekFitting_81 rfl rfl rfl ?_
          refine J_iload (pc := 82) dX6_seekFitting_82 rfl ?_
          refine T_callVI (pc := 84) (As := [.ref 6, .int (iI i7)]) (k := (26 + 2 * (w32 p1).toNat)) (st := []) ok_yX1_minuteBehind lm_X6_78 dX6_seekFitting_84 (oDay_l (oDay_e h11)) (oDay_o (oDay_e h11)) rfl (by omega) (Nat.le_of_ble_eq_true rfl) (m_X1_minuteBehind mu64 (26 + 2 * (w32 p1).toNat) i7 (oDay_e h11)) (fun r18 m17 em17 => ?_)
          refine J_aload (pc := 87) dX6_seekFitting_87 rfl rfl ?_
          refine tg_X6_91 (pc := 89) hq4 rfl dX6_seekFitting_89 ?_
          refine J_iload_n (pc := 92) dX6_seekFitting_92 rfl rfl ?_
          refine T_iaload (pc := 93) (oRow_l1 hq4) (oRow_a1 hq4) dX6_seekFitting_93 (fun h19 => ?_)
          refine T_icmp_ne (pc := 94) (tgt := 125) dX6_seekFitting_94 (by decide) (fun h20 => ?_) (fun h20 => ?_)
          · exact hk14  m17
          · refine J_aload_n (pc := 97) dX6_seekFitting_97 rfl rfl rfl ?_
            refine J_aload_n (pc := 98) dX6_seekFitting_98 rfl rfl rfl ?_
            refine J_iload_n (pc := 99) dX6_seekFitting_99 rfl rfl ?_
            refine J_iload (pc := 100) dX6_seekFitting_100 rfl ?_
            refine T_callVU (pc := 102) (As := [.ref 6, .int (iI p1), .int (iI i7)]) (k := 22) (st := []) ok_yX6_step lm_X6_69 dX6_seekFitting_102 (by decide) rfl rfl (by omega) (Nat.le_of_ble_eq_true rfl) (m_X6_step m17 p1 i7) (fun _u m21 em21 => ?_)
            refine J_aload_n (pc := 105) dX6_seekFitting_105 rfl rfl rfl ?_
            refine J_aload_n (pc := 106) dX6_seekFitting_106 rfl rfl rfl ?_
            refine J_iload_n (pc := 107) dX6_seekFitting_107 rfl rfl ?_
            refine J_iconst (pc := 108) dX6_seekFitting_108 ?_
            refine J_iadd (pc := 109) dX6_seekFitting_109 ?_
            refine J_iload_n (pc := 110) dX6_seekFitting_110 rfl rfl ?_
            refine J_iload (pc := 111) dX6_seekFitting_111 rfl ?_
            refine J_iload_n (pc := 113) dX6_seekFitting_113 rfl rfl ?_
            refine J_iload (pc := 114) dX6_seekFitting_114 rfl ?_
            refine J_iconst (pc := 116) dX6_seekFitting_116 ?_
            refine J_ixor (pc := 117) dX6_seekFitting_117 ?_
            refine J_iand (pc := 118) dX6_seekFitting_118 ?_
            refine J_ior (pc := 119) dX6_seekFitting_119 ?_
            refine J_aload (pc := 120) dX6_seekFitting_120 rfl rfl ?_
            refine T_callVU (pc := 122) (As := [.ref 6, .int (iI (p1 + 1)), .int (iI p2), .int (iI (zor p3 (zand p2 (zxor i7 (-1))))), .ref q4]) (k := 22) (st := []) ok_yX6_seekFitting lm_X6_87 dX6_seekFitting_122 (by decide) rfl rfl (Nat.lt_succ_self _) (Nat.le_of_ble_eq_true rfl) (hR m21 (p1 + 1) p2 (zor p3 (zand p2 (zxor i7 (-1)))) q4 hq4) (fun _u m22 em22 => ?_)
            exact hk14  m22
def f_X6_seekFitting_B (R : Mem → Int → Int → Int → Nat → Option (Unit × Mem)) (m0 : Mem) (p1 : Int) (p2 : Int) (p3 : Int) (q4 : Nat) : Option (Unit × Mem) := jn (κ := Mem → Option (Unit × Mem)) (fun m2 => jn (κ := Mem → Option (Unit × Mem)) (fun m4 => vm (wr m4 22 6 ((m4 22 6) + 1)) fun m5 => vm (wr m5 22 7 (zand (m5 22 7) p3)) fun m6 => some ((), m6)) fun k3 => if w32 (m2 22 6) = 0 then (bd (f_X6_setFirst m2 0) fun _u m8 => k3 m8) else (k3 m2)) fun k1 => if w32 p1 < w32 (m0 22 3) then (if w32 p1 < w32 3 then (ck p1 3 (bd (f_X1_look m0 (26 + 2 * (w32 p1).toNat)) fun _u m12 => f_X6_seekFitting_L64 R p1 p2 p3 q4 100000 0 m12)) else (k1 m0)) else (k1 m0)
def f_X6_seekFitting : Nat → Mem → Int → Int → Int → Nat → Option (Unit × Mem)
  | 0 => fun _ _ _ _ _ => none
  | u + 1 => f_X6_seekFitting_B (f_X6_seekFitting u)
set_option maxRecDepth 40000 in
theorem b_X6_seekFitting {l : Launch} {G : qG} {d : Nat} {R : Mem → Int → Int → Int → Nat → Option (Unit × Mem)} (hd0 : 6 ≤ d) (hR : ∀ (m : Mem) (p1 : Int) (p2 : Int) (p3 : Int) (q4 : Nat) (hq4 : oRow q4), qM l G d yX6_seekFitting cX6_seekFitting 8 none [.ref 22, .ref 6, .int (iI p1), .int (iI p2), .int (iI p3), .ref q4] (lay m) (lf eU (R m p1 p2 p3 q4))) (m0 : Mem) (p1 : Int) (p2 : Int) (p3 : Int) (q4 : Nat) (hq4 : oRow q4) : qM l G (d + 1) yX6_seekFitting cX6_seekFitting 8 none [.ref 22, .ref 6, .int (iI p1), .int (iI p2), .int (iI p3), .ref q4] (lay m0) (lf eU (f_X6_seekFitting_B R m0 p1 p2 p3 q4)) := by
  refine qM_of (L := [some (.ref 22), some (.ref 6), some (.int (iI p1)), some (.int (iI p2)), some (.int (iI p3)), some (.ref q4), none, none]) (by decide +kernel) (Nat.le_of_ble_eq_true rfl) rfl ?_
  unfold f_X6_seekFitting_B
  refine J_iload_n (pc := 0) dX6_seekFitting_0 rfl rfl ?_
  refine J_aload_n (pc := 1) dX6_seekFitting_1 rfl rfl rfl ?_
  refine tg_X6_24 (pc := 2) rfl dX6_seekFitting_2 ?_
  refine T_jn (κ := Mem → Option (Unit × Mem)) (fun k => ∀ (m2 : Mem), qJ l G yX6_seekFitting cX6_seekFitting 8 none (d + 1) 13 [some (.ref 22), none, none, none, some (.int (iI p3)), none, none, none] [] (lay m2) (lf eU (k m2))) ?_ (fun k1 hk1 => ?_)
  · intro m2
    refine J_aload_n (pc := 13) dX6_seekFitting_13 rfl rfl rfl ?_
    refine tg_X6_34 (pc := 14) rfl dX6_seekFitting_14 ?_
    refine T_jn (κ := Mem → Option (Unit × Mem)) (fun k => ∀ (m4 : Mem), qJ l G yX6_seekFitting cX6_seekFitting 8 none (d + 1) 25 [some (.ref 22), none, none, none, some (.int (iI p3)), none, none, none] [] (lay m4) (lf eU (k m4))) ?_ (fun k3 hk3 => ?_)
    · intro m4
      refine J_aload_n (pc := 25) dX6_seekFitting_25 rfl rfl rfl ?_
      refine J_dup (pc := 26) dX6_seekFitting_26 rfl ?_
      refine tg_X6_34 (pc := 27) rfl dX6_seekFitting_27 ?_
      refine J_iconst (pc := 30) dX6_seekFitting_30 ?_
      refine J_iadd (pc := 31) dX6_seekFitting_31 ?_
      refine tp_X6_34 (pc := 32) rfl dX6_seekFitting_32 ?_
      refine T_vm (fun m5 em5 => ?_)
      refine J_aload_n (pc := 35) dX6_seekFitting_35 rfl rfl rfl ?_
      refine J_dup (pc := 36) dX6_seekFitting_36 rfl ?_
      refine tg_X6_37 (pc := 37) rfl dX6_seekFitting_37 ?_
      refine J_iload (pc := 40) dX6_seekFitting_40 rfl ?_
      refine J_iand (pc := 42) dX6_seekFitting_42 ?_
      refine tp_X6_37 (pc := 43) rfl dX6_seekFitting_43 ?_
      refine T_vm (fun m6 em6 => ?_)
      exact T_retV (pc := 46) rfl dX6_seekFitting_46
    · refine T_if_ne (pc := 17) (tgt := 25) dX6_seekFitting_17 (by decide) (fun h7 => ?_) (fun h7 => ?_)
      · exact hk3  m2
      · refine J_aload_n (pc := 20) dX6_seekFitting_20 rfl rfl rfl ?_
        refine J_iconst (pc := 21) dX6_seekFitting_21 ?_
        refine T_callVU (pc := 22) (As := [.int (iI 0)]) (k := 22) (st := []) ok_yX6_setFirst lm_X6_49 dX6_seekFitting_22 (by decide) rfl rfl (by omega) (Nat.le_of_ble_eq_true rfl) (m_X6_setFirst m2 0) (fun _u m8 em8 => ?_)
        exact hk3  m8
  · refine T_icmp_ge (pc := 5) (tgt := 13) dX6_seekFitting_5 (by decide) (fun h9 => ?_) (fun h9 => ?_)
    · refine J_dropf (pc := 13) (L' := [some (.ref 22), none, none, none, some (.int (iI p3)), none, none, none]) [true, false, false, false, true, false, false, false] rfl ?_
      exact hk1  m0
    · refine J_iload_n (pc := 8) dX6_seekFitting_8 rfl rfl ?_
      refine J_iconst (pc := 9) dX6_seekFitting_9 ?_
      refine T_icmp_lt (pc := 10) (tgt := 47) dX6_seekFitting_10 (by decide) (fun h10 => ?_) (fun h10 => ?_)
      · refine J_aload_n (pc := 47) dX6_seekFitting_47 rfl rfl rfl ?_
        refine tg_X6_11 (pc := 48) rfl dX6_seekFitting_48 ?_
        refine J_iload_n (pc := 51) dX6_seekFitting_51 rfl rfl ?_
        refine T_aaload (pc := 52) (by decide) rfl rfl dX6_seekFitting_52 (fun h11 => ?_)
        refine J_astore (pc := 53) (L' := [some (.ref 22), some (.ref 6), some (.int (iI p1)), some (.int (iI p2)), some (.int (iI p3)), some (.ref q4), some (.ref (26 + 2 * (w32 p1).toNat)), none]) dX6_seekFitting_53 (by decide) rfl rfl ?_
        refine J_aload (pc := 55) dX6_seekFitting_55 rfl rfl ?_
        refine J_aload_n (pc := 57) dX6_seekFitting_57 rfl rfl rfl ?_
        refine T_callVU (pc := 58) (As := [.ref 6]) (k := (26 + 2 * (w32 p1).toNat)) (st := []) ok_yX1_look lm_X6_53 dX6_seekFitting_58 (oDay_l (oDay_e h11)) (oDay_o (oDay_e h11)) rfl (by omega) (Nat.le_of_ble_eq_true rfl) (m_X1_look m0 (26 + 2 * (w32 p1).toNat) (oDay_e h11)) (fun _u m12 em12 => ?_)
        refine J_iconst (pc := 61) dX6_seekFitting_61 ?_
        refine J_istore (pc := 62) (L' := [some (.ref 22), some (.ref 6), some (.int (iI p1)), some (.int (iI p2)), some (.int (iI p3)), some (.ref q4), some (.ref (26 + 2 * (w32 p1).toNat)), some (.int (iI 0))]) dX6_seekFitting_62 (by decide) rfl rfl ?_
        refine j_X6_seekFitting_L64 hd0 hR hq4 h11 100000 0 m12
      · refine J_dropf (pc := 13) (L' := [some (.ref 22), none, none, none, some (.int (iI p3)), none, none, none]) [true, false, false, false, true, false, false, false] rfl ?_
        exact hk1  m0
theorem m_X6_seekFitting {l : Launch} {G : qG} : ∀ (u : Nat) (m0 : Mem) (p1 : Int) (p2 : Int) (p3 : Int) (q4 : Nat) (hq4 : oRow q4), qM l G (6 + u) yX6_seekFitting cX6_seekFitting 8 none [.ref 22, .ref 6, .int (iI p1), .int (iI p2), .int (iI p3), .ref q4] (lay m0) (lf eU (f_X6_seekFitting u m0 p1 p2 p3 q4)) := by
  intro u
  induction u with
  | zero => intro m0 p1 p2 p3 q4 hq4 r B h; cases h
  | succ u ih => intro m0 p1 p2 p3 q4 hq4; exact b_X6_seekFitting (by omega) ih m0 p1 p2 p3 q4 hq4
def f_X6_waysThatFit (m0 : Mem) (p2 : Int) (q3 : Nat) : Option (Int × Mem) := bd (f_X6_begin m0 (m0 q3 1)) fun _u m1 => vm (wr m1 22 6 0) fun m2 => vm (wr m2 22 7 p2) fun m3 => bd (f_X6_seekFitting 9 m3 0 p2 0 q3) fun _u m4 => some (m4 22 6, m4)
set_option maxRecDepth 40000 in
theorem m_X6_waysThatFit {l : Launch} {G : qG} (m0 : Mem) (p2 : Int) (q3 : Nat) (hq3 : oRow q3) : qM l G 16 yX6_waysThatFit cX6_waysThatFit 5 (some .int) [.ref 22, .ref 6, .ref 13, .int (iI p2), .ref q3] (lay m0) (lf eI (f_X6_waysThatFit m0 p2 q3)) := by
  refine qM_of (L := [some (.ref 22), some (.ref 6), some (.ref 13), some (.int (iI p2)), some (.ref q3)]) (by decide +kernel) (Nat.le_of_ble_eq_true rfl) rfl ?_
  unfold f_X6_waysThatFit
  refine J_aload_n (pc := 0) dX6_waysThatFit_0 rfl rfl rfl ?_
  refine J_aload_n (pc := 1) dX6_waysThatFit_1 rfl rfl rfl ?_
  refine J_aload (pc := 2) dX6_waysThatFit_2 rfl rfl ?_
  refine tg_X6_82 (pc := 4) hq3 rfl dX6_waysThatFit_4 ?_
  refine T_callVU (pc := 7) (As := [.ref 13, .int (iI (m0 q3 1))]) (k := 22) (st := []) ok_yX6_begin lm_X6_41 dX6_waysThatFit_7 (by decide) rfl rfl (by decide) (Nat.le_of_ble_eq_true rfl) (m_X6_begin m0 (m0 q3 1)) (fun _u m1 em1 => ?_)
  refine J_aload_n (pc := 10) dX6_waysThatFit_10 rfl rfl rfl ?_
  refine J_iconst (pc := 11) dX6_waysThatFit_11 ?_
  refine tp_X6_34 (pc := 12) rfl dX6_waysThatFit_12 ?_
  refine T_vm (fun m2 em2 => ?_)
  refine J_aload_n (pc := 15) dX6_waysThatFit_15 rfl rfl rfl ?_
  refine J_iload_n (pc := 16) dX6_waysThatFit_16 rfl rfl ?_
  refine tp_X6_37 (pc := 17) rfl dX6_waysThatFit_17 ?_
  refine T_vm (fun m3 em3 => ?_)
  refine J_aload_n (pc := 20) dX6_waysThatFit_20 rfl rfl rfl ?_
  refine J_aload_n (pc := 21) dX6_waysThatFit_21 rfl rfl rfl ?_
  refine J_iconst (pc := 22) dX6_waysThatFit_22 ?_
  refine J_iload_n (pc := 23) dX6_waysThatFit_23 rfl rfl ?_
  refine J_iconst (pc := 24) dX6_waysThatFit_24 ?_
  refine J_aload (pc := 25) dX6_waysThatFit_25 rfl rfl ?_
  refine T_callVU (pc := 27) (As := [.ref 6, .int (iI 0), .int (iI p2), .int (iI 0), .ref q3]) (k := 22) (st := []) ok_yX6_seekFitting lm_X6_87 dX6_waysThatFit_27 (by decide) rfl rfl (by decide) (Nat.le_of_ble_eq_true rfl) (m_X6_seekFitting 9 m3 0 p2 0 q3 hq3) (fun _u m4 em4 => ?_)
  refine J_aload_n (pc := 30) dX6_waysThatFit_30 rfl rfl rfl ?_
  refine tg_X6_34 (pc := 31) rfl dX6_waysThatFit_31 ?_
  exact T_retI (pc := 34) rfl dX6_waysThatFit_34
def f_X9_fits (m0 : Mem) (p0 : Int) (p1 : Int) (p2 : Int) : Option (Int × Mem) := bd (f_X8_hasSet m0 p0) fun r2 m1 => if w32 r2 = 0 then (some ((-1), m1)) else (bd (f_X9_isRow m1 p2) fun r5 m4 => if w32 r5 = 0 then (some ((-1), m4)) else (bd (f_X9_minutesRefusal m4 p1) fun r8 m7 => if w32 r8 = 0 then (ck p1 6 (vl (m7 (38 + 2 * (w32 p1).toNat) 1) fun x11 => ck p1 6 (bd (f_X6_waysThatFit m7 p0 (38 + 2 * (w32 p1).toNat)) fun r14 m13 => if 0 < w32 r14 then (ck p2 6 (bd (f_X5_take m13 (38 + 2 * (w32 p2).toNat) 25 3 x11) fun _u m17 => some (r14, m17))) else (some (r14, m13))))) else (some (r8, m7))))
set_option maxRecDepth 40000 in
theorem m_X9_fits {l : Launch} {G : qG} (m0 : Mem) (p0 : Int) (p1 : Int) (p2 : Int) : qM l G 17 yX9_fits cX9_fits 7 (some .int) [.ref 0, .int (iI p0), .int (iI p1), .int (iI p2)] (lay m0) (lf eI (f_X9_fits m0 p0 p1 p2)) := by
  refine qM_of (L := [some (.ref 0), some (.int (iI p0)), some (.int (iI p1)), some (.int (iI p2)), none, none, none]) (by decide +kernel) (Nat.le_of_ble_eq_true rfl) rfl ?_
  unfold f_X9_fits
  refine J_aload_n (pc := 0) dX9_fits_0 rfl rfl rfl ?_
  refine tg_X9_31 (pc := 1) rfl dX9_fits_1 ?_
  refine J_iload_n (pc := 4) dX9_fits_4 rfl rfl ?_
  refine T_callVI (pc := 5) (As := [.int (iI p0)]) (k := 6) (st := []) ok_yX8_hasSet lm_X9_180 dX9_fits_5 (by decide) rfl rfl (by decide) (Nat.le_of_ble_eq_true rfl) (m_X8_hasSet m0 p0) (fun r2 m1 em1 => ?_)
  refine T_if_eq (pc := 8) (tgt := 18) dX9_fits_8 (by decide) (fun h3 => ?_) (fun h3 => ?_)
  · refine J_iconst (pc := 18) dX9_fits_18 ?_
    exact T_retI (pc := 19) rfl dX9_fits_19
  · refine J_iload_n (pc := 11) dX9_fits_11 rfl rfl ?_
    refine T_callSI (pc := 12) (As := [.int (iI p2)]) (st := []) ok_yX9_isRow lm_X9_100 dX9_fits_12 (by decide) (Nat.le_of_ble_eq_true rfl) (m_X9_isRow m1 p2) (fun r5 m4 em4 => ?_)
    refine T_if_ne (pc := 15) (tgt := 20) dX9_fits_15 (by decide) (fun h6 => ?_) (fun h6 => ?_)
    · refine J_aload_n (pc := 20) dX9_fits_20 rfl rfl rfl ?_
      refine J_iload_n (pc := 21) dX9_fits_21 rfl rfl ?_
      refine T_callVI (pc := 22) (As := [.int (iI p1)]) (k := 0) (st := []) ok_yX9_minutesRefusal lm_X9_289 dX9_fits_22 (by decide) rfl rfl (by decide) (Nat.le_of_ble_eq_true rfl) (m_X9_minutesRefusal m4 p1) (fun r8 m7 em7 => ?_)
      refine J_istore (pc := 25) (L' := [some (.ref 0), some (.int (iI p0)), some (.int (iI p1)), some (.int (iI p2)), some (.int (iI r8)), none, none]) dX9_fits_25 (by decide) rfl rfl ?_
      refine J_iload (pc := 27) dX9_fits_27 rfl ?_
      refine T_if_eq (pc := 29) (tgt := 35) dX9_fits_29 (by decide) (fun h9 => ?_) (fun h9 => ?_)
      · refine J_aload_n (pc := 35) dX9_fits_35 rfl rfl rfl ?_
        refine tg_X9_11 (pc := 36) rfl dX9_fits_36 ?_
        refine J_iload_n (pc := 39) dX9_fits_39 rfl rfl ?_
        refine T_aaload (pc := 40) (by decide) rfl rfl dX9_fits_40 (fun h10 => ?_)
        refine tg_X9_123 (pc := 41) (oRow_e h10) rfl dX9_fits_41 ?_
        refine T_vlI (pc := 44) (fun x11 ex11 => ?_)
        refine J_istore (pc := 44) (L' := [some (.ref 0), some (.int (iI p0)), some (.int (iI p1)), some (.int (iI p2)), some (.int (iI r8)), some (.int (iI x11)), none]) dX9_fits_44 (by decide) rfl rfl ?_
        refine J_aload_n (pc := 46) dX9_fits_46 rfl rfl rfl ?_
        refine tg_X9_63 (pc := 47) rfl dX9_fits_47 ?_
        refine J_aload_n (pc := 50) dX9_fits_50 rfl rfl rfl ?_
        refine tg_X9_31 (pc := 51) rfl dX9_fits_51 ?_
        refine J_aload_n (pc := 54) dX9_fits_54 rfl rfl rfl ?_
        refine tg_X9_38 (pc := 55) rfl dX9_fits_55 ?_
        refine J_iload_n (pc := 58) dX9_fits_58 rfl rfl ?_
        refine J_aload_n (pc := 59) dX9_fits_59 rfl rfl rfl ?_
        refine tg_X9_11 (pc := 60) rfl dX9_fits_60 ?_
        refine J_iload_n (pc := 63) dX9_fits_63 rfl rfl ?_
        refine T_aaload (pc := 64) (by decide) rfl rfl dX9_fits_64 (fun h12 => ?_)
        refine T_callVI (pc := 65) (As := [.ref 6, .ref 13, .int (iI p0), .ref (38 + 2 * (w32 p1).toNat)]) (k := 22) (st := []) ok_yX6_waysThatFit lm_X9_292 dX9_fits_65 (by decide) rfl rfl (by decide) (Nat.le_of_ble_eq_true rfl) (m_X6_waysThatFit m7 p0 (38 + 2 * (w32 p1).toNat) (oRow_e h12)) (fun r14 m13 em13 => ?_)
        refine J_istore (pc := 68) (L' := [some (.ref 0), some (.int (iI p0)), some (.int (iI p1)), some (.int (iI p2)), some (.int (iI r8)), some (.int (iI x11)), some (.int (iI r14))]) dX9_fits_68 (by decide) rfl rfl ?_
        refine J_iload (pc := 70) dX9_fits_70 rfl ?_
        refine T_if_le (pc := 72) (tgt := 93) dX9_fits_72 (by decide) (fun h15 => ?_) (fun h15 => ?_)
        · refine J_iload (pc := 93) dX9_fits_93 rfl ?_
          exact T_retI (pc := 95) rfl dX9_fits_95
        · refine J_aload_n (pc := 75) dX9_fits_75 rfl rfl rfl ?_
          refine tg_X9_11 (pc := 76) rfl dX9_fits_76 ?_
          refine J_iload_n (pc := 79) dX9_fits_79 rfl rfl ?_
          refine T_aaload (pc := 80) (by decide) rfl rfl dX9_fits_80 (fun h16 => ?_)
          refine J_aload_n (pc := 81) dX9_fits_81 rfl rfl rfl ?_
          refine tg_X9_63 (pc := 82) rfl dX9_fits_82 ?_
          refine tg_X9_240 (pc := 85) rfl dX9_fits_85 ?_
          refine J_iload (pc := 88) dX9_fits_88 rfl ?_
          refine T_callVU (pc := 90) (As := [.ref 25, .int (iI x11)]) (k := (38 + 2 * (w32 p2).toNat)) (st := []) ok_yX5_take lm_X9_243 dX9_fits_90 (oRow_l (oRow_e h16)) (oRow_o (oRow_e h16)) rfl (by decide) (Nat.le_of_ble_eq_true rfl) (m_X5_take m13 (38 + 2 * (w32 p2).toNat) 25 3 x11 (oRow_e h16) (by decide) rfl) (fun _u m17 em17 => ?_)
          refine J_iload (pc := 93) dX9_fits_93 rfl ?_
          exact T_retI (pc := 95) rfl dX9_fits_95
      · refine J_iload (pc := 32) dX9_fits_32 rfl ?_
        exact T_retI (pc := 34) rfl dX9_fits_34
    · refine J_iconst (pc := 18) dX9_fits_18 ?_
      exact T_retI (pc := 19) rfl dX9_fits_19
def f_X9_slipped (m0 : Mem) (p0 : Int) (p1 : Int) : Option (Int × Mem) := bd (f_X8_hasSet m0 p0) fun r2 m1 => if w32 r2 = 0 then (some ((-1), m1)) else (bd (f_X9_minutesRefusal m1 p1) fun r5 m4 => if w32 r5 = 0 then (ck p1 6 (bd (f_X6_waysThatFit m4 p0 (38 + 2 * (w32 p1).toNat)) fun r9 m8 => vl (if 0 < w32 r9 then (m8 22 7) else 0) fun v10 => some (v10, m8))) else (some (r5, m4)))
set_option maxRecDepth 40000 in
theorem m_X9_slipped {l : Launch} {G : qG} (m0 : Mem) (p0 : Int) (p1 : Int) : qM l G 17 yX9_slipped cX9_slipped 4 (some .int) [.ref 0, .int (iI p0), .int (iI p1)] (lay m0) (lf eI (f_X9_slipped m0 p0 p1)) := by
  refine qM_of (L := [some (.ref 0), some (.int (iI p0)), some (.int (iI p1)), none]) (by decide +kernel) (Nat.le_of_ble_eq_true rfl) rfl ?_
  unfold f_X9_slipped
  refine J_aload_n (pc := 0) dX9_slipped_0 rfl rfl rfl ?_
  refine tg_X9_31 (pc := 1) rfl dX9_slipped_1 ?_
  refine J_iload_n (pc := 4) dX9_slipped_4 rfl rfl ?_
  refine T_callVI (pc := 5) (As := [.int (iI p0)]) (k := 6) (st := []) ok_yX8_hasSet lm_X9_180 dX9_slipped_5 (by decide) rfl rfl (by decide) (Nat.le_of_ble_eq_true rfl) (m_X8_hasSet m0 p0) (fun r2 m1 em1 => ?_)
  refine T_if_ne (pc := 8) (tgt := 13) dX9_slipped_8 (by decide) (fun h3 => ?_) (fun h3 => ?_)
  · refine J_aload_n (pc := 13) dX9_slipped_13 rfl rfl rfl ?_
    refine J_iload_n (pc := 14) dX9_slipped_14 rfl rfl ?_
    refine T_callVI (pc := 15) (As := [.int (iI p1)]) (k := 0) (st := []) ok_yX9_minutesRefusal lm_X9_289 dX9_slipped_15 (by decide) rfl rfl (by decide) (Nat.le_of_ble_eq_true rfl) (m_X9_minutesRefusal m1 p1) (fun r5 m4 em4 => ?_)
    refine J_istore_n (pc := 18) (L' := [some (.ref 0), some (.int (iI p0)), some (.int (iI p1)), some (.int (iI r5))]) dX9_slipped_18 rfl (by decide) rfl rfl ?_
    refine J_iload_n (pc := 19) dX9_slipped_19 rfl rfl ?_
    refine T_if_eq (pc := 20) (tgt := 25) dX9_slipped_20 (by decide) (fun h6 => ?_) (fun h6 => ?_)
    · refine J_aload_n (pc := 25) dX9_slipped_25 rfl rfl rfl ?_
      refine tg_X9_63 (pc := 26) rfl dX9_slipped_26 ?_
      refine J_aload_n (pc := 29) dX9_slipped_29 rfl rfl rfl ?_
      refine tg_X9_31 (pc := 30) rfl dX9_slipped_30 ?_
      refine J_aload_n (pc := 33) dX9_slipped_33 rfl rfl rfl ?_
      refine tg_X9_38 (pc := 34) rfl dX9_slipped_34 ?_
      refine J_iload_n (pc := 37) dX9_slipped_37 rfl rfl ?_
      refine J_aload_n (pc := 38) dX9_slipped_38 rfl rfl rfl ?_
      refine tg_X9_11 (pc := 39) rfl dX9_slipped_39 ?_
      refine J_iload_n (pc := 42) dX9_slipped_42 rfl rfl ?_
      refine T_aaload (pc := 43) (by decide) rfl rfl dX9_slipped_43 (fun h7 => ?_)
      refine T_callVI (pc := 44) (As := [.ref 6, .ref 13, .int (iI p0), .ref (38 + 2 * (w32 p1).toNat)]) (k := 22) (st := []) ok_yX6_waysThatFit lm_X9_292 dX9_slipped_44 (by decide) rfl rfl (by decide) (Nat.le_of_ble_eq_true rfl) (m_X6_waysThatFit m4 p0 (38 + 2 * (w32 p1).toNat) (oRow_e h7)) (fun r9 m8 em8 => ?_)
      refine T_vl (fun v10 ev10 => ?_)
      refine T_dia (j := 61) (v := v10) (LT := [some (.ref 0), some (.int (iI p0)), some (.int (iI p1)), some (.int (iI r5))]) (sT := []) ?_ (fun hj11 => ?_)
      · exact T_retI (pc := 61) rfl dX9_slipped_61
      · refine T_if_le_same (pc := 47) (tgt := 60) dX9_slipped_47 (by decide) (fun h12 => ?_) (fun h12 => ?_)
        · refine J_iconst (pc := 60) dX9_slipped_60 ?_
          exact T_top (by rw [ev10, if_neg h12]) hj11
        · refine J_aload_n (pc := 50) dX9_slipped_50 rfl rfl rfl ?_
          refine tg_X9_63 (pc := 51) rfl dX9_slipped_51 ?_
          refine tg_X9_296 (pc := 54) rfl dX9_slipped_54 ?_
          refine J_goto (pc := 57) (tgt := 61) dX9_slipped_57 (by decide) ?_
          exact T_top (by rw [ev10, if_pos h12]) hj11
    · refine J_iload_n (pc := 23) dX9_slipped_23 rfl rfl ?_
      exact T_retI (pc := 24) rfl dX9_slipped_24
  · refine J_iconst (pc := 11) dX9_slipped_11 ?_
    exact T_retI (pc := 12) rfl dX9_slipped_12
def f_X6_waysFrom_L48 (R : Mem → Int → Int → Int → Option (Int × Mem)) (p1 : Int) (p2 : Int) : Nat → Int → Int → Mem → Option (Int × Mem)
  | 0, _, _, _ => none
  | u + 1, i6, i7, mu48 => if w32 p2 < w32 i7 then (some (i6, mu48)) else (jn (κ := Int → Mem → Option (Int × Mem)) (fun x13 m12 => f_X6_waysFrom_L48 R p1 p2 u x13 (i7 + 1) m12) fun k11 => if w32 (zand i7 (zxor p2 (-1))) = 0 then (bd (f_X6_step mu48 p1 i7) fun _u m15 => bd (f_X1_minuteBehind m15 (26 + 2 * (w32 p1).toNat) i7) fun r17 m16 => bd (R m16 (p1 + 1) p2 r17) fun r19 m18 => vl (i6 + r19) fun x20 => k11 x20 m18) else (k11 i6 mu48))
set_option maxRecDepth 40000 in
theorem j_X6_waysFrom_L48 {l : Launch} {G : qG} {R : Mem → Int → Int → Int → Option (Int × Mem)} {p1 : Int} {p2 : Int} {d : Nat} (hd0 : 6 ≤ d) (hR : ∀ (m : Mem) (p1 : Int) (p2 : Int) (p3 : Int), qM l G d yX6_waysFrom cX6_waysFrom 8 (some .int) [.ref 22, .ref 6, .int (iI p1), .int (iI p2), .int (iI p3)] (lay m) (lf eI (R m p1 p2 p3))) (h8 : 0 ≤ w32 p1 ∧ w32 p1 < 3) : ∀ (u : Nat) (i6 : Int) (i7 : Int) (mu48 : Mem), qJ l G yX6_waysFrom cX6_waysFrom 8 (some .int) (d + 1) 48 [some (.ref 22), some (.ref 6), some (.int (iI p1)), some (.int (iI p2)), none, some (.ref (26 + 2 * (w32 p1).toNat)), some (.int (iI i6)), some (.int (iI i7))] [] (lay mu48) (lf eI (f_X6_waysFrom_L48 R p1 p2 u i6 i7 mu48)) := by
  intro u
  induction u with
  | zero => intro _ _ mu48; exact T_none
  | succ u ih =>
    intro i6 i7 mu48
    rw [f_X6_waysFrom_L48]
    refine J_iload (pc := 48) dX6_waysFrom_48 rfl ?_
    refine J_iload_n (pc := 50) dX6_waysFrom_50 rfl rfl ?_
    refine T_icmp_gt (pc := 51) (tgt := 99) dX6_waysFrom_51 (by decide) (fun h10 => ?_) (fun h10 => ?_)
    · refine J_iload (pc := 99) dX6_waysFrom_99 rfl ?_
      exact T_retI (pc := 101) rfl dX6_waysFrom_101
    · refine J_iload (pc := 54) dX6_waysFrom_54 rfl ?_
      refine J_iload_n (pc := 56) dX6_waysFrom_56 rfl rfl ?_
      refine J_iconst (pc := 57) dX6_waysFrom_57 ?_
      refine J_ixor (pc := 58) dX6_waysFrom_58 ?_
      refine J_iand (pc := 59) dX6_waysFrom_59 ?_
      refine T_jn (κ := Int → Mem → Option (Int × Mem)) (fun k => ∀ (x13 : Int) (m12 : Mem), qJ l G yX6_waysFrom cX6_waysFrom 8 (some .int) (d + 1) 93 [some (.ref 22), some (.ref 6), some (.int (iI p1)), some (.int (iI p2)), none, some (.ref (26 + 2 * (w32 p1).toNat)), some (.int (iI x13)), some (.int (iI i7))] [] (lay m12) (lf eI (k x13 m12))) ?_ (fun k11 hk11 => ?_)
      · intro x13 m12
        refine J_iinc (pc := 93) (L' := [some (.ref 22), some (.ref 6), some (.int (iI p1)), some (.int (iI p2)), none, some (.ref (26 + 2 * (w32 p1).toNat)), some (.int (iI x13)), some (.int (iI (i7 + 1)))]) dX6_waysFrom_93 rfl (by decide) rfl rfl ?_
        refine J_goto (pc := 96) (tgt := 48) dX6_waysFrom_96 (by decide) ?_
        exact ih x13 (i7 + 1) m12
      · refine T_if_ne (pc := 60) (tgt := 93) dX6_waysFrom_60 (by decide) (fun h14 => ?_) (fun h14 => ?_)
        · exact hk11 i6 mu48
        · refine J_aload_n (pc := 63) dX6_waysFrom_63 rfl rfl rfl ?_
          refine J_aload_n (pc := 64) dX6_waysFrom_64 rfl rfl rfl ?_
          refine J_iload_n (pc := 65) dX6_waysFrom_65 rfl rfl ?_
          refine J_iload (pc := 66) dX6_waysFrom_66 rfl ?_
          refine T_callVU (pc := 68) (As := [.ref 6, .int (iI p1), .int (iI i7)]) (k := 22) (st := []) ok_yX6_step lm_X6_69 dX6_waysFrom_68 (by decide) rfl rfl (by omega) (Nat.le_of_ble_eq_true rfl) (m_X6_step mu48 p1 i7) (fun _u m15 em15 => ?_)
          refine J_iload (pc := 71) dX6_waysFrom_71 rfl ?_
          refine J_aload_n (pc := 73) dX6_waysFrom_73 rfl rfl rfl ?_
          refine J_aload_n (pc := 74) dX6_waysFrom_74 rfl rfl rfl ?_
          refine J_iload_n (pc := 75) dX6_waysFrom_75 rfl rfl ?_
          refine J_iconst (pc := 76) dX6_waysFrom_76 ?_
          refine J_iadd (pc := 77) dX6_waysFrom_77 ?_
          refine J_iload_n (pc := 78) dX6_waysFrom_78 rfl rfl ?_
          refine J_aload (pc := 79) dX6_waysFrom_79 rfl rfl ?_
          refine J_aload_n (pc := 81) dX6_waysFrom_81 rfl rfl rfl ?_
          refine J_iload (pc := 82) dX6_waysFrom_82 rfl ?_
          refine T_callVI (pc := 84) (As := [.ref 6, .int (iI i7)]) (k := (26 + 2 * (w32 p1).toNat)) (st := [.int (iI p2), .int (iI (p1 + 1)), .ref 6, .ref 22, .int (iI i6)]) ok_yX1_minuteBehind lm_X6_78 dX6_waysFrom_84 (oDay_l (oDay_e h8)) (oDay_o (oDay_e h8)) rfl (by omega) (Nat.le_of_ble_eq_true rfl) (m_X1_minuteBehind m15 (26 + 2 * (w32 p1).toNat) i7 (oDay_e h8)) (fun r17 m16 em16 => ?_)
          refine T_callVI (pc := 87) (As := [.ref 6, .int (iI (p1 + 1)), .int (iI p2), .int (iI r17)]) (k := 22) (st := [.int (iI i6)]) ok_yX6_waysFrom lm_X6_94 dX6_waysFrom_87 (by decide) rfl rfl (Nat.lt_succ_self _) (Nat.le_of_ble_eq_true rfl) (hR m16 (p1 + 1) p2 r17) (fun r19 m18 em18 => ?_)
          refine J_iadd (pc := 90) dX6_waysFrom_90 ?_
          refine T_vlI (pc := 91) (fun x20 ex20 => ?_)
          refine J_istore (pc := 91) (L' := [some (.ref 22), some (.ref 6), some (.int (iI p1)), some (.int (iI p2)), none, some (.ref (26 + 2 * (w32 p1).toNat)), some (.int (iI x20)), some (.int (iI i7))]) dX6_waysFrom_91 (by decide) rfl rfl ?_
          exact hk11 x20 m18
def f_X6_waysFrom_B (R : Mem → Int → Int → Int → Option (Int × Mem)) (m0 : Mem) (p1 : Int) (p2 : Int) (p3 : Int) : Option (Int × Mem) := jn (κ := Mem → Option (Int × Mem)) (fun m2 => vl (if w32 p3 < w32 (m2 22 5) then 0 else 1) fun v3 => some (v3, m2)) fun k1 => if w32 p1 < w32 (m0 22 3) then (if w32 p1 < w32 3 then (ck p1 3 (bd (f_X1_look m0 (26 + 2 * (w32 p1).toNat)) fun _u m9 => f_X6_waysFrom_L48 R p1 p2 100000 0 0 m9)) else (k1 m0)) else (k1 m0)
def f_X6_waysFrom : Nat → Mem → Int → Int → Int → Option (Int × Mem)
  | 0 => fun _ _ _ _ => none
  | u + 1 => f_X6_waysFrom_B (f_X6_waysFrom u)
set_option maxRecDepth 40000 in
theorem b_X6_waysFrom {l : Launch} {G : qG} {d : Nat} {R : Mem → Int → Int → Int → Option (Int × Mem)} (hd0 : 6 ≤ d) (hR : ∀ (m : Mem) (p1 : Int) (p2 : Int) (p3 : Int), qM l G d yX6_waysFrom cX6_waysFrom 8 (some .int) [.ref 22, .ref 6, .int (iI p1), .int (iI p2), .int (iI p3)] (lay m) (lf eI (R m p1 p2 p3))) (m0 : Mem) (p1 : Int) (p2 : Int) (p3 : Int) : qM l G (d + 1) yX6_waysFrom cX6_waysFrom 8 (some .int) [.ref 22, .ref 6, .int (iI p1), .int (iI p2), .int (iI p3)] (lay m0) (lf eI (f_X6_waysFrom_B R m0 p1 p2 p3)) := by
  refine qM_of (L := [some (.ref 22), some (.ref 6), some (.int (iI p1)), some (.int (iI p2)), some (.int (iI p3)), none, none, none]) (by decide +kernel) (Nat.le_of_ble_eq_true rfl) rfl ?_
  unfold f_X6_waysFrom_B
  refine J_iload_n (pc := 0) dX6_waysFrom_0 rfl rfl ?_
  refine J_aload_n (pc := 1) dX6_waysFrom_1 rfl rfl rfl ?_
  refine tg_X6_24 (pc := 2) rfl dX6_waysFrom_2 ?_
  refine T_jn (κ := Mem → Option (Int × Mem)) (fun k => ∀ (m2 : Mem), qJ l G yX6_waysFrom cX6_waysFrom 8 (some .int) (d + 1) 13 [some (.ref 22), none, none, none, some (.int (iI p3)), none, none, none] [] (lay m2) (lf eI (k m2))) ?_ (fun k1 hk1 => ?_)
  · intro m2
    refine J_iload (pc := 13) dX6_waysFrom_13 rfl ?_
    refine J_aload_n (pc := 15) dX6_waysFrom_15 rfl rfl rfl ?_
    refine tg_X6_31 (pc := 16) rfl dX6_waysFrom_16 ?_
    refine T_vl (fun v3 ev3 => ?_)
    refine T_dia (j := 27) (v := v3) (LT := [some (.ref 22), none, none, none, some (.int (iI p3)), none, none, none]) (sT := []) ?_ (fun hj4 => ?_)
    · exact T_retI (pc := 27) rfl dX6_waysFrom_27
    · refine T_icmp_lt_same (pc := 19) (tgt := 26) dX6_waysFrom_19 (by decide) (fun h5 => ?_) (fun h5 => ?_)
      · refine J_iconst (pc := 26) dX6_waysFrom_26 ?_
        exact T_top (by rw [ev3, if_pos h5]) hj4
      · refine J_iconst (pc := 22) dX6_waysFrom_22 ?_
        refine J_goto (pc := 23) (tgt := 27) dX6_waysFrom_23 (by decide) ?_
        exact T_top (by rw [ev3, if_neg h5]) hj4
  · refine T_icmp_ge (pc := 5) (tgt := 13) dX6_waysFrom_5 (by decide) (fun h6 => ?_) (fun h6 => ?_)
    · refine J_dropf (pc := 13) (L' := [some (.ref 22), none, none, none, some (.int (iI p3)), none, none, none]) [true, false, false, false, true, false, false, false] rfl ?_
      exact hk1  m0
    · refine J_iload_n (pc := 8) dX6_waysFrom_8 rfl rfl ?_
      refine J_iconst (pc := 9) dX6_waysFrom_9 ?_
      refine T_icmp_lt (pc := 10) (tgt := 28) dX6_waysFrom_10 (by decide) (fun h7 => ?_) (fun h7 => ?_)
      · refine J_aload_n (pc := 28) dX6_waysFrom_28 rfl rfl rfl ?_
        refine tg_X6_11 (pc := 29) rfl dX6_waysFrom_29 ?_
        refine J_iload_n (pc := 32) dX6_waysFrom_32 rfl rfl ?_
        refine T_aaload (pc := 33) (by decide) rfl rfl dX6_waysFrom_33 (fun h8 => ?_)
        refine J_astore (pc := 34) (L' := [some (.ref 22), some (.ref 6), some (.int (iI p1)), some (.int (iI p2)), some (.int (iI p3)), some (.ref (26 + 2 * (w32 p1).toNat)), none, none]) dX6_waysFrom_34 (by decide) rfl rfl ?_
        refine J_aload (pc := 36) dX6_waysFrom_36 rfl rfl ?_
        refine J_aload_n (pc := 38) dX6_waysFrom_38 rfl rfl rfl ?_
        refine T_callVU (pc := 39) (As := [.ref 6]) (k := (26 + 2 * (w32 p1).toNat)) (st := []) ok_yX1_look lm_X6_53 dX6_waysFrom_39 (oDay_l (oDay_e h8)) (oDay_o (oDay_e h8)) rfl (by omega) (Nat.le_of_ble_eq_true rfl) (m_X1_look m0 (26 + 2 * (w32 p1).toNat) (oDay_e h8)) (fun _u m9 em9 => ?_)
        refine J_iconst (pc := 42) dX6_waysFrom_42 ?_
        refine J_istore (pc := 43) (L' := [some (.ref 22), some (.ref 6), some (.int (iI p1)), some (.int (iI p2)), some (.int (iI p3)), some (.ref (26 + 2 * (w32 p1).toNat)), some (.int (iI 0)), none]) dX6_waysFrom_43 (by decide) rfl rfl ?_
        refine J_iconst (pc := 45) dX6_waysFrom_45 ?_
        refine J_istore (pc := 46) (L' := [some (.ref 22), some (.ref 6), some (.int (iI p1)), some (.int (iI p2)), some (.int (iI p3)), some (.ref (26 + 2 * (w32 p1).toNat)), some (.int (iI 0)), some (.int (iI 0))]) dX6_waysFrom_46 (by decide) rfl rfl ?_
        refine J_dropf (pc := 48) (L' := [some (.ref 22), some (.ref 6), some (.int (iI p1)), some (.int (iI p2)), none, some (.ref (26 + 2 * (w32 p1).toNat)), some (.int (iI 0)), some (.int (iI 0))]) [true, true, true, true, false, true, true, true] rfl ?_
        refine j_X6_waysFrom_L48 hd0 hR h8 100000 0 0 m9
      · refine J_dropf (pc := 13) (L' := [some (.ref 22), none, none, none, some (.int (iI p3)), none, none, none]) [true, false, false, false, true, false, false, false] rfl ?_
        exact hk1  m0
theorem m_X6_waysFrom {l : Launch} {G : qG} : ∀ (u : Nat) (m0 : Mem) (p1 : Int) (p2 : Int) (p3 : Int), qM l G (6 + u) yX6_waysFrom cX6_waysFrom 8 (some .int) [.ref 22, .ref 6, .int (iI p1), .int (iI p2), .int (iI p3)] (lay m0) (lf eI (f_X6_waysFrom u m0 p1 p2 p3)) := by
  intro u
  induction u with
  | zero => intro m0 p1 p2 p3 r B h; cases h
  | succ u ih => intro m0 p1 p2 p3; exact b_X6_waysFrom (by omega) ih m0 p1 p2 p3
def f_X6_waysTo (m0 : Mem) (p2 : Int) (p3 : Int) (p4 : Int) : Option (Int × Mem) := bd (f_X6_begin m0 p3) fun _u m1 => vm (wr m1 22 5 p4) fun m2 => ck 0 16 (bd (f_X6_waysFrom 9 m2 0 p2 (m2 (13 + 1) (w32 0).toNat)) fun r5 m4 => some (r5, m4))
set_option maxRecDepth 40000 in
theorem m_X6_waysTo {l : Launch} {G : qG} (m0 : Mem) (p2 : Int) (p3 : Int) (p4 : Int) : qM l G 16 yX6_waysTo cX6_waysTo 6 (some .int) [.ref 22, .ref 6, .ref 13, .int (iI p2), .int (iI p3), .int (iI p4)] (lay m0) (lf eI (f_X6_waysTo m0 p2 p3 p4)) := by
  refine qM_of (L := [some (.ref 22), some (.ref 6), some (.ref 13), some (.int (iI p2)), some (.int (iI p3)), some (.int (iI p4))]) (by decide +kernel) (Nat.le_of_ble_eq_true rfl) rfl ?_
  unfold f_X6_waysTo
  refine J_aload_n (pc := 0) dX6_waysTo_0 rfl rfl rfl ?_
  refine J_aload_n (pc := 1) dX6_waysTo_1 rfl rfl rfl ?_
  refine J_iload (pc := 2) dX6_waysTo_2 rfl ?_
  refine T_callVU (pc := 4) (As := [.ref 13, .int (iI p3)]) (k := 22) (st := []) ok_yX6_begin lm_X6_41 dX6_waysTo_4 (by decide) rfl rfl (by decide) (Nat.le_of_ble_eq_true rfl) (m_X6_begin m0 p3) (fun _u m1 em1 => ?_)
  refine J_aload_n (pc := 7) dX6_waysTo_7 rfl rfl rfl ?_
  refine J_iload (pc := 8) dX6_waysTo_8 rfl ?_
  refine tp_X6_31 (pc := 10) rfl dX6_waysTo_10 ?_
  refine T_vm (fun m2 em2 => ?_)
  refine J_aload_n (pc := 13) dX6_waysTo_13 rfl rfl rfl ?_
  refine J_aload_n (pc := 14) dX6_waysTo_14 rfl rfl rfl ?_
  refine J_iconst (pc := 15) dX6_waysTo_15 ?_
  refine J_iload_n (pc := 16) dX6_waysTo_16 rfl rfl ?_
  refine J_aload_n (pc := 17) dX6_waysTo_17 rfl rfl rfl ?_
  refine tg_X6_60 (pc := 18) (by unfold oDay; decide) rfl dX6_waysTo_18 ?_
  refine J_iconst (pc := 21) dX6_waysTo_21 ?_
  refine T_iaload (pc := 22) (oDay_l1 (by unfold oDay; decide)) (oDay_a1 (by unfold oDay; decide)) dX6_waysTo_22 (fun h3 => ?_)
  refine T_callVI (pc := 23) (As := [.ref 6, .int (iI 0), .int (iI p2), .int (iI (m2 (13 + 1) (w32 0).toNat))]) (k := 22) (st := []) ok_yX6_waysFrom lm_X6_94 dX6_waysTo_23 (by decide) rfl rfl (by decide) (Nat.le_of_ble_eq_true rfl) (m_X6_waysFrom 9 m2 0 p2 (m2 (13 + 1) (w32 0).toNat)) (fun r5 m4 em4 => ?_)
  exact T_retI (pc := 26) rfl dX6_waysTo_26
def f_X9_tellChance_L15 (p1 : Int) : Nat → Int → Mem → Option (Unit × Mem)
  | 0, _, _ => none
  | u + 1, i3, mu15 => if w32 i3 < w32 p1 then (if 0 < w32 (ycmp (mu15 0 15) 1) then (if w32 (ycmp (yand (mu15 0 14) 1) 0) = 0 then (ckl 2 (vm (wr mu15 0 14 (ydiv (mu15 0 14) 2)) fun m6 => ckl 2 (vm (wr m6 0 15 (ydiv (m6 0 15) 2)) fun m7 => f_X9_tellChance_L15 p1 u (i3 + 1) m7))) else (some ((), mu15))) else (some ((), mu15))) else (some ((), mu15))
set_option maxRecDepth 40000 in
theorem j_X9_tellChance_L15 {l : Launch} {G : qG} {p1 : Int} : ∀ (u : Nat) (i3 : Int) (mu15 : Mem), qJ l G yX9_tellChance cX9_tellChance 4 none 1 15 [some (.ref 0), none, some (.int (iI p1)), some (.int (iI i3))] [] (lay mu15) (lf eU (f_X9_tellChance_L15 p1 u i3 mu15)) := by
  intro u
  induction u with
  | zero => intro _ mu15; exact T_none
  | succ u ih =>
    intro i3 mu15
    rw [f_X9_tellChance_L15]
    refine J_iload_n (pc := 15) dX9_tellChance_15 rfl rfl ?_
    refine J_iload_n (pc := 16) dX9_tellChance_16 rfl rfl ?_
    refine T_icmp_ge (pc := 17) (tgt := 70) dX9_tellChance_17 (by decide) (fun h3 => ?_) (fun h3 => ?_)
    · exact T_retV (pc := 70) rfl dX9_tellChance_70
    · refine J_aload_n (pc := 20) dX9_tellChance_20 rfl rfl rfl ?_
      refine tg_X9_92 (pc := 21) rfl dX9_tellChance_21 ?_
      refine J_lconst (pc := 24) (z := 1) dX9_tellChance_24 (by decide) ?_
      refine J_lcmp (pc := 25) dX9_tellChance_25 ?_
      refine T_if_le (pc := 26) (tgt := 70) dX9_tellChance_26 (by decide) (fun h4 => ?_) (fun h4 => ?_)
      · exact T_retV (pc := 70) rfl dX9_tellChance_70
      · refine J_aload_n (pc := 29) dX9_tellChance_29 rfl rfl rfl ?_
        refine tg_X9_88 (pc := 30) rfl dX9_tellChance_30 ?_
        refine J_lconst (pc := 33) (z := 1) dX9_tellChance_33 (by decide) ?_
        refine J_land (pc := 34) dX9_tellChance_34 ?_
        refine J_lconst (pc := 35) (z := 0) dX9_tellChance_35 (by decide) ?_
        refine J_lcmp (pc := 36) dX9_tellChance_36 ?_
        refine T_if_ne (pc := 37) (tgt := 70) dX9_tellChance_37 (by decide) (fun h5 => ?_) (fun h5 => ?_)
        · exact T_retV (pc := 70) rfl dX9_tellChance_70
        · refine J_aload_n (pc := 40) dX9_tellChance_40 rfl rfl rfl ?_
          refine J_dup (pc := 41) dX9_tellChance_41 rfl ?_
          refine tg_X9_88 (pc := 42) rfl dX9_tellChance_42 ?_
          refine J_ldc2 (pc := 45) (z := 2) dX9_tellChance_45 lk_X9_366 (by decide) ?_
          refine T_ldiv (pc := 48) dX9_tellChance_48 ?_
          refine tp_X9_88 (pc := 49) rfl dX9_tellChance_49 ?_
          refine T_vm (fun m6 em6 => ?_)
          refine J_aload_n (pc := 52) dX9_tellChance_52 rfl rfl rfl ?_
          refine J_dup (pc := 53) dX9_tellChance_53 rfl ?_
          refine tg_X9_92 (pc := 54) rfl dX9_tellChance_54 ?_
          refine J_ldc2 (pc := 57) (z := 2) dX9_tellChance_57 lk_X9_366 (by decide) ?_
          refine T_ldiv (pc := 60) dX9_tellChance_60 ?_
          refine tp_X9_92 (pc := 61) rfl dX9_tellChance_61 ?_
          refine T_vm (fun m7 em7 => ?_)
          refine J_iinc (pc := 64) (L' := [some (.ref 0), none, some (.int (iI p1)), some (.int (iI (i3 + 1)))]) dX9_tellChance_64 rfl (by decide) rfl rfl ?_
          refine J_goto (pc := 67) (tgt := 15) dX9_tellChance_67 (by decide) ?_
          exact ih (i3 + 1) m7
def f_X9_tellChance (m0 : Mem) (p0 : Int) (p1 : Int) : Option (Unit × Mem) := vm (wr m0 0 14 (w32 p0)) fun m1 => vm (wr m1 0 15 (yshl 1 p1)) fun m2 => f_X9_tellChance_L15 p1 100000 0 m2
set_option maxRecDepth 40000 in
theorem m_X9_tellChance {l : Launch} {G : qG} (m0 : Mem) (p0 : Int) (p1 : Int) : qM l G 1 yX9_tellChance cX9_tellChance 4 none [.ref 0, .int (iI p0), .int (iI p1)] (lay m0) (lf eU (f_X9_tellChance m0 p0 p1)) := by
  refine qM_of (L := [some (.ref 0), some (.int (iI p0)), some (.int (iI p1)), none]) (by decide +kernel) (Nat.le_of_ble_eq_true rfl) rfl ?_
  unfold f_X9_tellChance
  refine J_aload_n (pc := 0) dX9_tellChance_0 rfl rfl rfl ?_
  refine J_iload_n (pc := 1) dX9_tellChance_1 rfl rfl ?_
  refine J_i2l (pc := 2) dX9_tellChance_2 ?_
  refine tp_X9_88 (pc := 3) rfl dX9_tellChance_3 ?_
  refine T_vm (fun m1 em1 => ?_)
  refine J_aload_n (pc := 6) dX9_tellChance_6 rfl rfl rfl ?_
  refine J_lconst (pc := 7) (z := 1) dX9_tellChance_7 (by decide) ?_
  refine J_iload_n (pc := 8) dX9_tellChance_8 rfl rfl ?_
  refine J_lshl (pc := 9) dX9_tellChance_9 ?_
  refine tp_X9_92 (pc := 10) rfl dX9_tellChance_10 ?_
  refine T_vm (fun m2 em2 => ?_)
  refine J_iconst (pc := 13) dX9_tellChance_13 ?_
  refine J_istore_n (pc := 14) (L' := [some (.ref 0), some (.int (iI p0)), some (.int (iI p1)), some (.int (iI 0))]) dX9_tellChance_14 rfl (by decide) rfl rfl ?_
  refine J_dropf (pc := 15) (L' := [some (.ref 0), none, some (.int (iI p1)), some (.int (iI 0))]) [true, false, true, true] rfl ?_
  refine j_X9_tellChance_L15 100000 0 m2
def f_X9_odds (m0 : Mem) (p0 : Int) (p1 : Int) (p2 : Int) : Option (Int × Mem) := bd (f_X8_hasSet m0 p0) fun r2 m1 => if w32 r2 = 0 then (some ((-1), m1)) else (if w32 p1 < 0 then (some ((-1), m1)) else (if w32 3 < w32 p1 then (some ((-1), m1)) else (if w32 p2 < 0 then (some ((-1), m1)) else (if w32 99 < w32 p2 then (some ((-1), m1)) else (if w32 (m1 6 6) = 0 then (some ((-4), m1)) else (bd (f_X6_waysTo m1 p0 p1 p2) fun r10 m9 => bd (f_J6_bitCount_0f7a4 m9 p0) fun r12 m11 => bd (f_X9_tellChance m11 r10 (r12 * p1)) fun _u m13 => some (1, m13)))))))
set_option maxRecDepth 40000 in
theorem m_X9_odds {l : Launch} {G : qG} (m0 : Mem) (p0 : Int) (p1 : Int) (p2 : Int) : qM l G 17 yX9_odds cX9_odds 4 (some .int) [.ref 0, .int (iI p0), .int (iI p1), .int (iI p2)] (lay m0) (lf eI (f_X9_odds m0 p0 p1 p2)) := by
  refine qM_of (L := [some (.ref 0), some (.int (iI p0)), some (.int (iI p1)), some (.int (iI p2))]) (by decide +kernel) (Nat.le_of_ble_eq_true rfl) rfl ?_
  unfold f_X9_odds
  refine J_aload_n (pc := 0) dX9_odds_0 rfl rfl rfl ?_
  refine tg_X9_31 (pc := 1) rfl dX9_odds_1 ?_
  refine J_iload_n (pc := 4) dX9_odds_4 rfl rfl ?_
  refine T_callVI (pc := 5) (As := [.int (iI p0)]) (k := 6) (st := []) ok_yX8_hasSet lm_X9_180 dX9_odds_5 (by decide) rfl rfl (by decide) (Nat.le_of_ble_eq_true rfl) (m_X8_hasSet m0 p0) (fun r2 m1 em1 => ?_)
  refine T_if_eq (pc := 8) (tgt := 30) dX9_odds_8 (by decide) (fun h3 => ?_) (fun h3 => ?_)
  · refine J_iconst (pc := 30) dX9_odds_30 ?_
    exact T_retI (pc := 31) rfl dX9_odds_31
  · refine J_iload_n (pc := 11) dX9_odds_11 rfl rfl ?_
    refine T_if_lt (pc := 12) (tgt := 30) dX9_odds_12 (by decide) (fun h4 => ?_) (fun h4 => ?_)
    · refine J_iconst (pc := 30) dX9_odds_30 ?_
      exact T_retI (pc := 31) rfl dX9_odds_31
    · refine J_iload_n (pc := 15) dX9_odds_15 rfl rfl ?_
      refine J_iconst (pc := 16) dX9_odds_16 ?_
      refine T_icmp_gt (pc := 17) (tgt := 30) dX9_odds_17 (by decide) (fun h5 => ?_) (fun h5 => ?_)
      · refine J_iconst (pc := 30) dX9_odds_30 ?_
        exact T_retI (pc := 31) rfl dX9_odds_31
      · refine J_iload_n (pc := 20) dX9_odds_20 rfl rfl ?_
        refine T_if_lt (pc := 21) (tgt := 30) dX9_odds_21 (by decide) (fun h6 => ?_) (fun h6 => ?_)
        · refine J_iconst (pc := 30) dX9_odds_30 ?_
          exact T_retI (pc := 31) rfl dX9_odds_31
        · refine J_iload_n (pc := 24) dX9_odds_24 rfl rfl ?_
          refine J_bipush (pc := 25) dX9_odds_25 (by decide) (by decide) ?_
          refine T_icmp_le (pc := 27) (tgt := 32) dX9_odds_27 (by decide) (fun h7 => ?_) (fun h7 => ?_)
          · refine J_aload_n (pc := 32) dX9_odds_32 rfl rfl rfl ?_
            refine tg_X9_31 (pc := 33) rfl dX9_odds_33 ?_
            refine tg_X9_156 (pc := 36) rfl dX9_odds_36 ?_
            refine T_if_ne (pc := 39) (tgt := 45) dX9_odds_39 (by decide) (fun h8 => ?_) (fun h8 => ?_)
            · refine J_aload_n (pc := 45) dX9_odds_45 rfl rfl rfl ?_
              refine J_aload_n (pc := 46) dX9_odds_46 rfl rfl rfl ?_
              refine tg_X9_63 (pc := 47) rfl dX9_odds_47 ?_
              refine J_aload_n (pc := 50) dX9_odds_50 rfl rfl rfl ?_
              refine tg_X9_31 (pc := 51) rfl dX9_odds_51 ?_
              refine J_aload_n (pc := 54) dX9_odds_54 rfl rfl rfl ?_
              refine tg_X9_38 (pc := 55) rfl dX9_odds_55 ?_
              refine J_iload_n (pc := 58) dX9_odds_58 rfl rfl ?_
              refine J_iload_n (pc := 59) dX9_odds_59 rfl rfl ?_
              refine J_iload_n (pc := 60) dX9_odds_60 rfl rfl ?_
              refine T_callVI (pc := 61) (As := [.ref 6, .ref 13, .int (iI p0), .int (iI p1), .int (iI p2)]) (k := 22) (st := [.ref 0]) ok_yX6_waysTo lm_X9_299 dX9_odds_61 (by decide) rfl rfl (by decide) (Nat.le_of_ble_eq_true rfl) (m_X6_waysTo m1 p0 p1 p2) (fun r10 m9 em9 => ?_)
              refine J_iload_n (pc := 64) dX9_odds_64 rfl rfl ?_
              refine T_callSI (pc := 65) (As := [.int (iI p0)]) (st := [.int (iI r10), .ref 0]) ok_yJ6_bitCount_0f7a4 lm_X9_273 dX9_odds_65 (by decide) (Nat.le_of_ble_eq_true rfl) (m_J6_bitCount_0f7a4 m9 p0) (fun r12 m11 em11 => ?_)
              refine J_iload_n (pc := 68) dX9_odds_68 rfl rfl ?_
              refine J_imul (pc := 69) dX9_odds_69 ?_
              refine T_callVU (pc := 70) (As := [.int (iI r10), .int (iI (r12 * p1))]) (k := 0) (st := []) ok_yX9_tellChance lm_X9_303 dX9_odds_70 (by decide) rfl rfl (by decide) (Nat.le_of_ble_eq_true rfl) (m_X9_tellChance m11 r10 (r12 * p1)) (fun _u m13 em13 => ?_)
              refine J_iconst (pc := 73) dX9_odds_73 ?_
              exact T_retI (pc := 74) rfl dX9_odds_74
            · refine J_bipush (pc := 42) dX9_odds_42 (by decide) (by decide) ?_
              exact T_retI (pc := 44) rfl dX9_odds_44
          · refine J_iconst (pc := 30) dX9_odds_30 ?_
            exact T_retI (pc := 31) rfl dX9_odds_31
def f_X9_lots_L66 (p0 : Int) : Nat → Int → Int → Int → Mem → Option (Int × Mem)
  | 0, _, _, _, _ => none
  | u + 1, i3, i5, i6, mu66 => if w32 i6 < w32 p0 then (ckl 2147483647 (vl (yrem (48271 * i3) 2147483647) fun x9 => ckl 32 (bd (f_X8_allCapes mu66) fun r11 m10 => bd (f_X9_trueHour m10 (zand (ydiv x9 32) r11)) fun r13 m12 => vl (i5 + r13) fun x14 => f_X9_lots_L66 p0 u x9 x14 (i6 + 1) m12))) else (some (i5, mu66))
set_option maxRecDepth 40000 in
theorem j_X9_lots_L66 {l : Launch} {G : qG} {p0 : Int} : ∀ (u : Nat) (i3 : Int) (i5 : Int) (i6 : Int) (mu66 : Mem), qJ l G yX9_lots cX9_lots 7 (some .int) 6 66 [some (.ref 0), some (.int (iI p0)), none, some (.long (iL i3)), none, some (.int (iI i5)), some (.int (iI i6))] [] (lay mu66) (lf eI (f_X9_lots_L66 p0 u i3 i5 i6 mu66)) := by
  intro u
  induction u with
  | zero => intro _ _ _ mu66; exact T_none
  | succ u ih =>
    intro i3 i5 i6 mu66
    rw [f_X9_lots_L66]
    refine J_iload (pc := 66) dX9_lots_66 rfl ?_
    refine J_iload_n (pc := 68) dX9_lots_68 rfl rfl ?_
    refine T_icmp_ge (pc := 69) (tgt := 111) dX9_lots_69 (by decide) (fun h8 => ?_) (fun h8 => ?_)
    · refine J_iload (pc := 111) dX9_lots_111 rfl ?_
      exact T_retI (pc := 113) rfl dX9_lots_113
    · refine J_ldc2 (pc := 72) (z := 48271) dX9_lots_72 lk_X9_309 (by decide) ?_
      refine J_lload_n (pc := 75) dX9_lots_75 rfl rfl ?_
      refine J_lmul (pc := 76) dX9_lots_76 ?_
      refine J_ldc2 (pc := 77) (z := 2147483647) dX9_lots_77 lk_X9_307 (by decide) ?_
      refine T_lrem (pc := 80) dX9_lots_80 ?_
      refine T_vlL (pc := 81) (fun x9 ex9 => ?_)
      refine J_lstore_n (pc := 81) (L' := [some (.ref 0), some (.int (iI p0)), none, some (.long (iL x9)), none, some (.int (iI i5)), some (.int (iI i6))]) dX9_lots_81 rfl (by decide) rfl rfl ?_
      refine J_iload (pc := 82) dX9_lots_82 rfl ?_
      refine J_aload_n (pc := 84) dX9_lots_84 rfl rfl rfl ?_
      refine J_lload_n (pc := 85) dX9_lots_85 rfl rfl ?_
      refine J_ldc2 (pc := 86) (z := 32) dX9_lots_86 lk_X9_311 (by decide) ?_
      refine T_ldiv (pc := 89) dX9_lots_89 ?_
      refine J_l2i (pc := 90) dX9_lots_90 ?_
      refine J_aload_n (pc := 91) dX9_lots_91 rfl rfl rfl ?_
      refine tg_X9_31 (pc := 92) rfl dX9_lots_92 ?_
      refine T_callVI (pc := 95) (As := []) (k := 6) (st := [.int (iI (ydiv x9 32)), .ref 0, .int (iI i5)]) ok_yX8_allCapes lm_X9_252 dX9_lots_95 (by decide) rfl rfl (by decide) (Nat.le_of_ble_eq_true rfl) (m_X8_allCapes mu66) (fun r11 m10 em10 => ?_)
      refine J_iand (pc := 98) dX9_lots_98 ?_
      refine T_callVI (pc := 99) (As := [.int (iI (zand (ydiv x9 32) r11))]) (k := 0) (st := [.int (iI i5)]) ok_yX9_trueHour lm_X9_183 dX9_lots_99 (by decide) rfl rfl (by decide) (Nat.le_of_ble_eq_true rfl) (m_X9_trueHour m10 (zand (ydiv x9 32) r11)) (fun r13 m12 em12 => ?_)
      refine J_iadd (pc := 102) dX9_lots_102 ?_
      refine T_vlI (pc := 103) (fun x14 ex14 => ?_)
      refine J_istore (pc := 103) (L' := [some (.ref 0), some (.int (iI p0)), none, some (.long (iL x9)), none, some (.int (iI x14)), some (.int (iI i6))]) dX9_lots_103 (by decide) rfl rfl ?_
      refine J_iinc (pc := 105) (L' := [some (.ref 0), some (.int (iI p0)), none, some (.long (iL x9)), none, some (.int (iI x14)), some (.int (iI (i6 + 1)))]) dX9_lots_105 rfl (by decide) rfl rfl ?_
      refine J_goto (pc := 108) (tgt := 66) dX9_lots_108 (by decide) ?_
      exact ih x9 x14 (i6 + 1) m12
def f_X9_lots (m0 : Mem) (p0 : Int) (p1 : Int) : Option (Int × Mem) := if w32 p0 < w32 1 then (some ((-1), m0)) else (if w32 20 < w32 p0 then (some ((-1), m0)) else (if w32 p1 < w32 1 then (some ((-1), m0)) else (if w32 (ycmp (w32 p1) 2147483647) < 0 then (if w32 (m0 6 6) = 0 then (some ((-4), m0)) else (if w32 60 < w32 ((m0 15 2) + p0) then (some ((-2), m0)) else (vl (w32 p1) fun x7 => f_X9_lots_L66 p0 100000 x7 0 0 m0))) else (some ((-1), m0)))))
set_option maxRecDepth 40000 in
theorem m_X9_lots {l : Launch} {G : qG} (m0 : Mem) (p0 : Int) (p1 : Int) : qM l G 6 yX9_lots cX9_lots 7 (some .int) [.ref 0, .int (iI p0), .int (iI p1)] (lay m0) (lf eI (f_X9_lots m0 p0 p1)) := by
  refine qM_of (L := [some (.ref 0), some (.int (iI p0)), some (.int (iI p1)), none, none, none, none]) (by decide +kernel) (Nat.le_of_ble_eq_true rfl) rfl ?_
  unfold f_X9_lots
  refine J_iload_n (pc := 0) dX9_lots_0 rfl rfl ?_
  refine J_iconst (pc := 1) dX9_lots_1 ?_
  refine T_icmp_lt (pc := 2) (tgt := 25) dX9_lots_2 (by decide) (fun h1 => ?_) (fun h1 => ?_)
  · refine J_iconst (pc := 25) dX9_lots_25 ?_
    exact T_retI (pc := 26) rfl dX9_lots_26
  · refine J_iload_n (pc := 5) dX9_lots_5 rfl rfl ?_
    refine J_bipush (pc := 6) dX9_lots_6 (by decide) (by decide) ?_
    refine T_icmp_gt (pc := 8) (tgt := 25) dX9_lots_8 (by decide) (fun h2 => ?_) (fun h2 => ?_)
    · refine J_iconst (pc := 25) dX9_lots_25 ?_
      exact T_retI (pc := 26) rfl dX9_lots_26
    · refine J_iload_n (pc := 11) dX9_lots_11 rfl rfl ?_
      refine J_iconst (pc := 12) dX9_lots_12 ?_
      refine T_icmp_lt (pc := 13) (tgt := 25) dX9_lots_13 (by decide) (fun h3 => ?_) (fun h3 => ?_)
      · refine J_iconst (pc := 25) dX9_lots_25 ?_
        exact T_retI (pc := 26) rfl dX9_lots_26
      · refine J_iload_n (pc := 16) dX9_lots_16 rfl rfl ?_
        refine J_i2l (pc := 17) dX9_lots_17 ?_
        refine J_ldc2 (pc := 18) (z := 2147483647) dX9_lots_18 lk_X9_307 (by decide) ?_
        refine J_lcmp (pc := 21) dX9_lots_21 ?_
        refine T_if_lt (pc := 22) (tgt := 27) dX9_lots_22 (by decide) (fun h4 => ?_) (fun h4 => ?_)
        · refine J_aload_n (pc := 27) dX9_lots_27 rfl rfl rfl ?_
          refine tg_X9_31 (pc := 28) rfl dX9_lots_28 ?_
          refine tg_X9_156 (pc := 31) rfl dX9_lots_31 ?_
          refine T_if_ne (pc := 34) (tgt := 40) dX9_lots_34 (by decide) (fun h5 => ?_) (fun h5 => ?_)
          · refine J_aload_n (pc := 40) dX9_lots_40 rfl rfl rfl ?_
            refine tg_X9_45 (pc := 41) rfl dX9_lots_41 ?_
            refine tg_X9_97 (pc := 44) (by unfold oDiary; decide) rfl dX9_lots_44 ?_
            refine J_iload_n (pc := 47) dX9_lots_47 rfl rfl ?_
            refine J_iadd (pc := 48) dX9_lots_48 ?_
            refine J_bipush (pc := 49) dX9_lots_49 (by decide) (by decide) ?_
            refine T_icmp_le (pc := 51) (tgt := 57) dX9_lots_51 (by decide) (fun h6 => ?_) (fun h6 => ?_)
            · refine J_iload_n (pc := 57) dX9_lots_57 rfl rfl ?_
              refine J_i2l (pc := 58) dX9_lots_58 ?_
              refine T_vlL (pc := 59) (fun x7 ex7 => ?_)
              refine J_lstore_n (pc := 59) (L' := [some (.ref 0), some (.int (iI p0)), some (.int (iI p1)), some (.long (iL x7)), none, none, none]) dX9_lots_59 rfl (by decide) rfl rfl ?_
              refine J_iconst (pc := 60) dX9_lots_60 ?_
              refine J_istore (pc := 61) (L' := [some (.ref 0), some (.int (iI p0)), some (.int (iI p1)), some (.long (iL x7)), none, some (.int (iI 0)), none]) dX9_lots_61 (by decide) rfl rfl ?_
              refine J_iconst (pc := 63) dX9_lots_63 ?_
              refine J_istore (pc := 64) (L' := [some (.ref 0), some (.int (iI p0)), some (.int (iI p1)), some (.long (iL x7)), none, some (.int (iI 0)), some (.int (iI 0))]) dX9_lots_64 (by decide) rfl rfl ?_
              refine J_dropf (pc := 66) (L' := [some (.ref 0), some (.int (iI p0)), none, some (.long (iL x7)), none, some (.int (iI 0)), some (.int (iI 0))]) [true, true, false, true, false, true, true] rfl ?_
              refine j_X9_lots_L66 100000 x7 0 0 m0
            · refine J_bipush (pc := 54) dX9_lots_54 (by decide) (by decide) ?_
              exact T_retI (pc := 56) rfl dX9_lots_56
          · refine J_bipush (pc := 37) dX9_lots_37 (by decide) (by decide) ?_
            exact T_retI (pc := 39) rfl dX9_lots_39
        · refine J_iconst (pc := 25) dX9_lots_25 ?_
          exact T_retI (pc := 26) rfl dX9_lots_26
