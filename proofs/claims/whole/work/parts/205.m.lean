def f_X9_asked (m0 : Mem) : Option (Int × Mem) := some (m0 0 13, m0)
set_option maxRecDepth 40000 in
theorem m_X9_asked {l : Launch} {G : qG} (m0 : Mem) : qM l G 1 yX9_asked cX9_asked 1 (some .int) [.ref 0] (lay m0) (lf eI (f_X9_asked m0)) := by
  refine qM_of (L := [some (.ref 0)]) (by decide +kernel) (Nat.le_of_ble_eq_true rfl) rfl ?_
  unfold f_X9_asked
  refine J_aload_n (pc := 0) dX9_asked_0 rfl rfl rfl ?_
  refine tg_X9_85 (pc := 1) rfl dX9_asked_1 ?_
  exact T_retI (pc := 4) rfl dX9_asked_4
def f_X9_upper (m0 : Mem) : Option (Int × Mem) := some (m0 0 14, m0)
set_option maxRecDepth 40000 in
theorem m_X9_upper {l : Launch} {G : qG} (m0 : Mem) : qM l G 1 yX9_upper cX9_upper 1 (some .long) [.ref 0] (lay m0) (lf eL (f_X9_upper m0)) := by
  refine qM_of (L := [some (.ref 0)]) (by decide +kernel) (Nat.le_of_ble_eq_true rfl) rfl ?_
  unfold f_X9_upper
  refine J_aload_n (pc := 0) dX9_upper_0 rfl rfl rfl ?_
  refine tg_X9_88 (pc := 1) rfl dX9_upper_1 ?_
  exact T_retL (pc := 4) rfl dX9_upper_4
def f_X9_lower (m0 : Mem) : Option (Int × Mem) := some (m0 0 15, m0)
set_option maxRecDepth 40000 in
theorem m_X9_lower {l : Launch} {G : qG} (m0 : Mem) : qM l G 1 yX9_lower cX9_lower 1 (some .long) [.ref 0] (lay m0) (lf eL (f_X9_lower m0)) := by
  refine qM_of (L := [some (.ref 0)]) (by decide +kernel) (Nat.le_of_ble_eq_true rfl) rfl ?_
  unfold f_X9_lower
  refine J_aload_n (pc := 0) dX9_lower_0 rfl rfl rfl ?_
  refine tg_X9_92 (pc := 1) rfl dX9_lower_1 ?_
  exact T_retL (pc := 4) rfl dX9_lower_4
def f_X9_rowsThere_L4 : Nat → Int → Int → Mem → Option (Int × Mem)
  | 0, _, _, _ => none
  | u + 1, i1, i2, mu4 => if w32 i2 < w32 6 then (ck i2 6 (bd (f_X5_isThere mu4 (38 + 2 * (w32 i2).toNat)) fun r4 m3 => vl (if w32 r4 = 0 then 0 else 1) fun v5 => vl (i1 + v5) fun x7 => f_X9_rowsThere_L4 u x7 (i2 + 1) m3)) else (some (i1, mu4))
set_option maxRecDepth 40000 in
theorem j_X9_rowsThere_L4 {l : Launch} {G : qG} : ∀ (u : Nat) (i1 : Int) (i2 : Int) (mu4 : Mem), qJ l G yX9_rowsThere cX9_rowsThere 3 (some .int) 2 4 [some (.ref 0), some (.int (iI i1)), some (.int (iI i2))] [] (lay mu4) (lf eI (f_X9_rowsThere_L4 u i1 i2 mu4)) := by
  intro u
  induction u with
  | zero => intro _ _ mu4; exact T_none
  | succ u ih =>
    intro i1 i2 mu4
    rw [f_X9_rowsThere_L4]
    refine J_iload_n (pc := 4) dX9_rowsThere_4 rfl rfl ?_
    refine J_bipush (pc := 5) dX9_rowsThere_5 (by decide) (by decide) ?_
    refine T_icmp_ge (pc := 7) (tgt := 36) dX9_rowsThere_7 (by decide) (fun h1 => ?_) (fun h1 => ?_)
    · refine J_iload_n (pc := 36) dX9_rowsThere_36 rfl rfl ?_
      exact T_retI (pc := 37) rfl dX9_rowsThere_37
    · refine J_iload_n (pc := 10) dX9_rowsThere_10 rfl rfl ?_
      refine J_aload_n (pc := 11) dX9_rowsThere_11 rfl rfl rfl ?_
      refine tg_X9_11 (pc := 12) rfl dX9_rowsThere_12 ?_
      refine J_iload_n (pc := 15) dX9_rowsThere_15 rfl rfl ?_
      refine T_aaload (pc := 16) (by decide) rfl rfl dX9_rowsThere_16 (fun h2 => ?_)
      refine T_callVI (pc := 17) (As := []) (k := (38 + 2 * (w32 i2).toNat)) (st := [.int (iI i1)]) ok_yX5_isThere lm_X9_119 dX9_rowsThere_17 (oRow_l (oRow_e h2)) (oRow_o (oRow_e h2)) rfl (by decide) (Nat.le_of_ble_eq_true rfl) (m_X5_isThere mu4 (38 + 2 * (w32 i2).toNat) (oRow_e h2)) (fun r4 m3 em3 => ?_)
      refine T_vl (fun v5 ev5 => ?_)
      refine T_dia (j := 28) (v := v5) (LT := [some (.ref 0), some (.int (iI i1)), some (.int (iI i2))]) (sT := [.int (iI i1)]) ?_ (fun hj6 => ?_)
      · refine J_iadd (pc := 28) dX9_rowsThere_28 ?_
        refine T_vlI (pc := 29) (fun x7 ex7 => ?_)
        refine J_istore_n (pc := 29) (L' := [some (.ref 0), some (.int (iI x7)), some (.int (iI i2))]) dX9_rowsThere_29 rfl (by decide) rfl rfl ?_
        refine J_iinc (pc := 30) (L' := [some (.ref 0), some (.int (iI x7)), some (.int (iI (i2 + 1)))]) dX9_rowsThere_30 rfl (by decide) rfl rfl ?_
        refine J_goto (pc := 33) (tgt := 4) dX9_rowsThere_33 (by decide) ?_
        exact ih x7 (i2 + 1) m3
      · refine T_if_eq_same (pc := 20) (tgt := 27) dX9_rowsThere_20 (by decide) (fun h8 => ?_) (fun h8 => ?_)
        · refine J_iconst (pc := 27) dX9_rowsThere_27 ?_
          exact T_top (by rw [ev5, if_pos h8]) hj6
        · refine J_iconst (pc := 23) dX9_rowsThere_23 ?_
          refine J_goto (pc := 24) (tgt := 28) dX9_rowsThere_24 (by decide) ?_
          exact T_top (by rw [ev5, if_neg h8]) hj6
def f_X9_rowsThere (m0 : Mem) : Option (Int × Mem) := f_X9_rowsThere_L4 100000 0 0 m0
set_option maxRecDepth 40000 in
theorem m_X9_rowsThere {l : Launch} {G : qG} (m0 : Mem) : qM l G 2 yX9_rowsThere cX9_rowsThere 3 (some .int) [.ref 0] (lay m0) (lf eI (f_X9_rowsThere m0)) := by
  refine qM_of (L := [some (.ref 0), none, none]) (by decide +kernel) (Nat.le_of_ble_eq_true rfl) rfl ?_
  unfold f_X9_rowsThere
  refine J_iconst (pc := 0) dX9_rowsThere_0 ?_
  refine J_istore_n (pc := 1) (L' := [some (.ref 0), some (.int (iI 0)), none]) dX9_rowsThere_1 rfl (by decide) rfl rfl ?_
  refine J_iconst (pc := 2) dX9_rowsThere_2 ?_
  refine J_istore_n (pc := 3) (L' := [some (.ref 0), some (.int (iI 0)), some (.int (iI 0))]) dX9_rowsThere_3 rfl (by decide) rfl rfl ?_
  refine j_X9_rowsThere_L4 100000 0 0 m0
def f_X9_textsThere_L4 : Nat → Int → Int → Mem → Option (Int × Mem)
  | 0, _, _, _ => none
  | u + 1, i1, i2, mu4 => if w32 i2 < w32 4 then (ck i2 4 (bd (f_X7_isThere mu4 (50 + 2 * (w32 i2).toNat)) fun r4 m3 => vl (if w32 r4 = 0 then 0 else 1) fun v5 => vl (i1 + v5) fun x7 => f_X9_textsThere_L4 u x7 (i2 + 1) m3)) else (some (i1, mu4))
set_option maxRecDepth 40000 in
theorem j_X9_textsThere_L4 {l : Launch} {G : qG} : ∀ (u : Nat) (i1 : Int) (i2 : Int) (mu4 : Mem), qJ l G yX9_textsThere cX9_textsThere 3 (some .int) 2 4 [some (.ref 0), some (.int (iI i1)), some (.int (iI i2))] [] (lay mu4) (lf eI (f_X9_textsThere_L4 u i1 i2 mu4)) := by
  intro u
  induction u with
  | zero => intro _ _ mu4; exact T_none
  | succ u ih =>
    intro i1 i2 mu4
    rw [f_X9_textsThere_L4]
    refine J_iload_n (pc := 4) dX9_textsThere_4 rfl rfl ?_
    refine J_iconst (pc := 5) dX9_textsThere_5 ?_
    refine T_icmp_ge (pc := 6) (tgt := 35) dX9_textsThere_6 (by decide) (fun h1 => ?_) (fun h1 => ?_)
    · refine J_iload_n (pc := 35) dX9_textsThere_35 rfl rfl ?_
      exact T_retI (pc := 36) rfl dX9_textsThere_36
    · refine J_iload_n (pc := 9) dX9_textsThere_9 rfl rfl ?_
      refine J_aload_n (pc := 10) dX9_textsThere_10 rfl rfl rfl ?_
      refine tg_X9_17 (pc := 11) rfl dX9_textsThere_11 ?_
      refine J_iload_n (pc := 14) dX9_textsThere_14 rfl rfl ?_
      refine T_aaload (pc := 15) (by decide) rfl rfl dX9_textsThere_15 (fun h2 => ?_)
      refine T_callVI (pc := 16) (As := []) (k := (50 + 2 * (w32 i2).toNat)) (st := [.int (iI i1)]) ok_yX7_isThere lm_X9_142 dX9_textsThere_16 (oText_l (oText_e h2)) (oText_o (oText_e h2)) rfl (by decide) (Nat.le_of_ble_eq_true rfl) (m_X7_isThere mu4 (50 + 2 * (w32 i2).toNat) (oText_e h2)) (fun r4 m3 em3 => ?_)
      refine T_vl (fun v5 ev5 => ?_)
      refine T_dia (j := 27) (v := v5) (LT := [some (.ref 0), some (.int (iI i1)), some (.int (iI i2))]) (sT := [.int (iI i1)]) ?_ (fun hj6 => ?_)
      · refine J_iadd (pc := 27) dX9_textsThere_27 ?_
        refine T_vlI (pc := 28) (fun x7 ex7 => ?_)
        refine J_istore_n (pc := 28) (L' := [some (.ref 0), some (.int (iI x7)), some (.int (iI i2))]) dX9_textsThere_28 rfl (by decide) rfl rfl ?_
        refine J_iinc (pc := 29) (L' := [some (.ref 0), some (.int (iI x7)), some (.int (iI (i2 + 1)))]) dX9_textsThere_29 rfl (by decide) rfl rfl ?_
        refine J_goto (pc := 32) (tgt := 4) dX9_textsThere_32 (by decide) ?_
        exact ih x7 (i2 + 1) m3
      · refine T_if_eq_same (pc := 19) (tgt := 26) dX9_textsThere_19 (by decide) (fun h8 => ?_) (fun h8 => ?_)
        · refine J_iconst (pc := 26) dX9_textsThere_26 ?_
          exact T_top (by rw [ev5, if_pos h8]) hj6
        · refine J_iconst (pc := 22) dX9_textsThere_22 ?_
          refine J_goto (pc := 23) (tgt := 27) dX9_textsThere_23 (by decide) ?_
          exact T_top (by rw [ev5, if_neg h8]) hj6
def f_X9_textsThere (m0 : Mem) : Option (Int × Mem) := f_X9_textsThere_L4 100000 0 0 m0
set_option maxRecDepth 40000 in
theorem m_X9_textsThere {l : Launch} {G : qG} (m0 : Mem) : qM l G 2 yX9_textsThere cX9_textsThere 3 (some .int) [.ref 0] (lay m0) (lf eI (f_X9_textsThere m0)) := by
  refine qM_of (L := [some (.ref 0), none, none]) (by decide +kernel) (Nat.le_of_ble_eq_true rfl) rfl ?_
  unfold f_X9_textsThere
  refine J_iconst (pc := 0) dX9_textsThere_0 ?_
  refine J_istore_n (pc := 1) (L' := [some (.ref 0), some (.int (iI 0)), none]) dX9_textsThere_1 rfl (by decide) rfl rfl ?_
  refine J_iconst (pc := 2) dX9_textsThere_2 ?_
  refine J_istore_n (pc := 3) (L' := [some (.ref 0), some (.int (iI 0)), some (.int (iI 0))]) dX9_textsThere_3 rfl (by decide) rfl rfl ?_
  refine j_X9_textsThere_L4 100000 0 0 m0
def f_X9_yearsKept_L4 : Nat → Int → Int → Mem → Option (Int × Mem)
  | 0, _, _, _ => none
  | u + 1, i1, i2, mu4 => if w32 i2 < w32 3 then (ck i2 3 (vl (if w32 (mu4 (58 + 3 * (w32 i2).toNat) 2) = w32 (-1) then 0 else 1) fun v3 => vl (i1 + v3) fun x5 => f_X9_yearsKept_L4 u x5 (i2 + 1) mu4)) else (some (i1, mu4))
set_option maxRecDepth 40000 in
theorem j_X9_yearsKept_L4 {l : Launch} {G : qG} : ∀ (u : Nat) (i1 : Int) (i2 : Int) (mu4 : Mem), qJ l G yX9_yearsKept cX9_yearsKept 3 (some .int) 1 4 [some (.ref 0), some (.int (iI i1)), some (.int (iI i2))] [] (lay mu4) (lf eI (f_X9_yearsKept_L4 u i1 i2 mu4)) := by
  intro u
  induction u with
  | zero => intro _ _ mu4; exact T_none
  | succ u ih =>
    intro i1 i2 mu4
    rw [f_X9_yearsKept_L4]
    refine J_iload_n (pc := 4) dX9_yearsKept_4 rfl rfl ?_
    refine J_iconst (pc := 5) dX9_yearsKept_5 ?_
    refine T_icmp_ge (pc := 6) (tgt := 36) dX9_yearsKept_6 (by decide) (fun h1 => ?_) (fun h1 => ?_)
    · refine J_iload_n (pc := 36) dX9_yearsKept_36 rfl rfl ?_
      exact T_retI (pc := 37) rfl dX9_yearsKept_37
    · refine J_iload_n (pc := 9) dX9_yearsKept_9 rfl rfl ?_
      refine J_aload_n (pc := 10) dX9_yearsKept_10 rfl rfl rfl ?_
      refine tg_X9_49 (pc := 11) rfl dX9_yearsKept_11 ?_
      refine J_iload_n (pc := 14) dX9_yearsKept_14 rfl rfl ?_
      refine T_aaload (pc := 15) (by decide) rfl rfl dX9_yearsKept_15 (fun h2 => ?_)
      refine tg_X9_97 (pc := 16) (oDiary_e h2) rfl dX9_yearsKept_16 ?_
      refine J_iconst (pc := 19) dX9_yearsKept_19 ?_
      refine T_vl (fun v3 ev3 => ?_)
      refine T_dia (j := 28) (v := v3) (LT := [some (.ref 0), some (.int (iI i1)), some (.int (iI i2))]) (sT := [.int (iI i1)]) ?_ (fun hj4 => ?_)
      · refine J_iadd (pc := 28) dX9_yearsKept_28 ?_
        refine T_vlI (pc := 29) (fun x5 ex5 => ?_)
        refine J_istore_n (pc := 29) (L' := [some (.ref 0), some (.int (iI x5)), some (.int (iI i2))]) dX9_yearsKept_29 rfl (by decide) rfl rfl ?_
        refine J_iinc (pc := 30) (L' := [some (.ref 0), some (.int (iI x5)), some (.int (iI (i2 + 1)))]) dX9_yearsKept_30 rfl (by decide) rfl rfl ?_
        refine J_goto (pc := 33) (tgt := 4) dX9_yearsKept_33 (by decide) ?_
        exact ih x5 (i2 + 1) mu4
      · refine T_icmp_ne_same (pc := 20) (tgt := 27) dX9_yearsKept_20 (by decide) (fun h6 => ?_) (fun h6 => ?_)
        · refine J_iconst (pc := 27) dX9_yearsKept_27 ?_
          exact T_top (by rw [ev3, if_neg h6]) hj4
        · refine J_iconst (pc := 23) dX9_yearsKept_23 ?_
          refine J_goto (pc := 24) (tgt := 28) dX9_yearsKept_24 (by decide) ?_
          exact T_top (by rw [ev3, if_pos h6]) hj4
def f_X9_yearsKept (m0 : Mem) : Option (Int × Mem) := f_X9_yearsKept_L4 100000 0 0 m0
set_option maxRecDepth 40000 in
theorem m_X9_yearsKept {l : Launch} {G : qG} (m0 : Mem) : qM l G 1 yX9_yearsKept cX9_yearsKept 3 (some .int) [.ref 0] (lay m0) (lf eI (f_X9_yearsKept m0)) := by
  refine qM_of (L := [some (.ref 0), none, none]) (by decide +kernel) (Nat.le_of_ble_eq_true rfl) rfl ?_
  unfold f_X9_yearsKept
  refine J_iconst (pc := 0) dX9_yearsKept_0 ?_
  refine J_istore_n (pc := 1) (L' := [some (.ref 0), some (.int (iI 0)), none]) dX9_yearsKept_1 rfl (by decide) rfl rfl ?_
  refine J_iconst (pc := 2) dX9_yearsKept_2 ?_
  refine J_istore_n (pc := 3) (L' := [some (.ref 0), some (.int (iI 0)), some (.int (iI 0))]) dX9_yearsKept_3 rfl (by decide) rfl rfl ?_
  refine j_X9_yearsKept_L4 100000 0 0 m0
def f_X9_countOf (m0 : Mem) (p0 : Int) : Option (Int × Mem) := if w32 p0 = 0 then (some (m0 6 6, m0)) else (if w32 p0 = 1 then (some (m0 6 7, m0)) else (if w32 p0 = 2 then (some (m0 15 2, m0)) else (if w32 p0 = 3 then (bd (f_X1_look m0 13) fun _u m5 => bd (f_J6_bitCount_0f7a4 m5 (m5 13 1)) fun r7 m6 => some (r7, m6)) else (if w32 p0 = 4 then (bd (f_X1_isDown m0 13) fun r10 m9 => vl (if w32 r10 = 0 then 0 else 1) fun v11 => some (v11, m9)) else (if w32 p0 = 5 then (ck 2 6 (bd (f_J6_bitCount_0f7a4 m0 (m0 8 (w32 2).toNat)) fun r17 m16 => some (r17, m16))) else (if w32 p0 = 6 then (bd (f_X9_rowsThere m0) fun r20 m19 => some (r20, m19)) else (if w32 p0 = 7 then (bd (f_X9_textsThere m0) fun r23 m22 => some (r23, m22)) else (bd (f_X9_yearsKept m0) fun r25 m24 => some (r25, m24)))))))))
set_option maxRecDepth 40000 in
theorem m_X9_countOf {l : Launch} {G : qG} (m0 : Mem) (p0 : Int) : qM l G 3 yX9_countOf cX9_countOf 2 (some .int) [.ref 0, .int (iI p0)] (lay m0) (lf eI (f_X9_countOf m0 p0)) := by
  refine qM_of (L := [some (.ref 0), some (.int (iI p0))]) (by decide +kernel) (Nat.le_of_ble_eq_true rfl) rfl ?_
  unfold f_X9_countOf
  refine J_iload_n (pc := 0) dX9_countOf_0 rfl rfl ?_
  by_cases h1 : w32 p0 = 0
  · rw [if_pos h1]
    refine J_swIn (pc := 1) (j := 0) (tgt := 48) dX9_countOf_1 h1 (by decide) (by decide) rfl (by decide) ?_
    refine J_aload_n (pc := 48) dX9_countOf_48 rfl rfl rfl ?_
    refine tg_X9_31 (pc := 49) rfl dX9_countOf_49 ?_
    refine tg_X9_156 (pc := 52) rfl dX9_countOf_52 ?_
    exact T_retI (pc := 55) rfl dX9_countOf_55
  rw [if_neg h1]
  by_cases h2 : w32 p0 = 1
  · rw [if_pos h2]
    refine J_swIn (pc := 1) (j := 1) (tgt := 56) dX9_countOf_1 h2 (by decide) (by decide) rfl (by decide) ?_
    refine J_aload_n (pc := 56) dX9_countOf_56 rfl rfl rfl ?_
    refine tg_X9_31 (pc := 57) rfl dX9_countOf_57 ?_
    refine tg_X9_208 (pc := 60) rfl dX9_countOf_60 ?_
    exact T_retI (pc := 63) rfl dX9_countOf_63
  rw [if_neg h2]
  by_cases h3 : w32 p0 = 2
  · rw [if_pos h3]
    refine J_swIn (pc := 1) (j := 2) (tgt := 64) dX9_countOf_1 h3 (by decide) (by decide) rfl (by decide) ?_
    refine J_aload_n (pc := 64) dX9_countOf_64 rfl rfl rfl ?_
    refine tg_X9_45 (pc := 65) rfl dX9_countOf_65 ?_
    refine tg_X9_97 (pc := 68) (by unfold oDiary; decide) rfl dX9_countOf_68 ?_
    exact T_retI (pc := 71) rfl dX9_countOf_71
  rw [if_neg h3]
  by_cases h4 : w32 p0 = 3
  · rw [if_pos h4]
    refine J_swIn (pc := 1) (j := 3) (tgt := 72) dX9_countOf_1 h4 (by decide) (by decide) rfl (by decide) ?_
    refine J_aload_n (pc := 72) dX9_countOf_72 rfl rfl rfl ?_
    refine tg_X9_38 (pc := 73) rfl dX9_countOf_73 ?_
    refine J_aload_n (pc := 76) dX9_countOf_76 rfl rfl rfl ?_
    refine tg_X9_31 (pc := 77) rfl dX9_countOf_77 ?_
    refine T_callVU (pc := 80) (As := [.ref 6]) (k := 13) (st := []) ok_yX1_look lm_X9_336 dX9_countOf_80 (oDay_l (by unfold oDay; decide)) (oDay_o (by unfold oDay; decide)) rfl (by decide) (Nat.le_of_ble_eq_true rfl) (m_X1_look m0 13 (by unfold oDay; decide)) (fun _u m5 em5 => ?_)
    refine J_aload_n (pc := 83) dX9_countOf_83 rfl rfl rfl ?_
    refine tg_X9_38 (pc := 84) rfl dX9_countOf_84 ?_
    refine tg_X9_339 (pc := 87) (by unfold oDay; decide) rfl dX9_countOf_87 ?_
    refine T_callSI (pc := 90) (As := [.int (iI (m5 13 1))]) (st := []) ok_yJ6_bitCount_0f7a4 lm_X9_273 dX9_countOf_90 (by decide) (Nat.le_of_ble_eq_true rfl) (m_J6_bitCount_0f7a4 m5 (m5 13 1)) (fun r7 m6 em6 => ?_)
    exact T_retI (pc := 93) rfl dX9_countOf_93
  rw [if_neg h4]
  by_cases h8 : w32 p0 = 4
  · rw [if_pos h8]
    refine J_swIn (pc := 1) (j := 4) (tgt := 94) dX9_countOf_1 h8 (by decide) (by decide) rfl (by decide) ?_
    refine J_aload_n (pc := 94) dX9_countOf_94 rfl rfl rfl ?_
    refine tg_X9_38 (pc := 95) rfl dX9_countOf_95 ?_
    refine T_callVI (pc := 98) (As := []) (k := 13) (st := []) ok_yX1_isDown lm_X9_196 dX9_countOf_98 (oDay_l (by unfold oDay; decide)) (oDay_o (by unfold oDay; decide)) rfl (by decide) (Nat.le_of_ble_eq_true rfl) (m_X1_isDown m0 13 (by unfold oDay; decide)) (fun r10 m9 em9 => ?_)
    refine T_vl (fun v11 ev11 => ?_)
    refine T_dia (j := 109) (v := v11) (LT := [some (.ref 0), some (.int (iI p0))]) (sT := []) ?_ (fun hj12 => ?_)
    · exact T_retI (pc := 109) rfl dX9_countOf_109
    · refine T_if_eq_same (pc := 101) (tgt := 108) dX9_countOf_101 (by decide) (fun h13 => ?_) (fun h13 => ?_)
      · refine J_iconst (pc := 108) dX9_countOf_108 ?_
        exact T_top (by rw [ev11, if_pos h13]) hj12
      · refine J_iconst (pc := 104) dX9_countOf_104 ?_
        refine J_goto (pc := 105) (tgt := 109) dX9_countOf_105 (by decide) ?_
        exact T_top (by rw [ev11, if_neg h13]) hj12
  rw [if_neg h8]
  by_cases h14 : w32 p0 = 5
  · rw [if_pos h14]
    refine J_swIn (pc := 1) (j := 5) (tgt := 110) dX9_countOf_1 h14 (by decide) (by decide) rfl (by decide) ?_
    refine J_aload_n (pc := 110) dX9_countOf_110 rfl rfl rfl ?_
    refine tg_X9_31 (pc := 111) rfl dX9_countOf_111 ?_
    refine tg_X9_171 (pc := 114) rfl dX9_countOf_114 ?_
    refine J_iconst (pc := 117) dX9_countOf_117 ?_
    refine T_iaload (pc := 118) (by decide) rfl dX9_countOf_118 (fun h15 => ?_)
    refine T_callSI (pc := 119) (As := [.int (iI (m0 8 (w32 2).toNat))]) (st := []) ok_yJ6_bitCount_0f7a4 lm_X9_273 dX9_countOf_119 (by decide) (Nat.le_of_ble_eq_true rfl) (m_J6_bitCount_0f7a4 m0 (m0 8 (w32 2).toNat)) (fun r17 m16 em16 => ?_)
    exact T_retI (pc := 122) rfl dX9_countOf_122
  rw [if_neg h14]
  by_cases h18 : w32 p0 = 6
  · rw [if_pos h18]
    refine J_swIn (pc := 1) (j := 6) (tgt := 123) dX9_countOf_1 h18 (by decide) (by decide) rfl (by decide) ?_
    refine J_aload_n (pc := 123) dX9_countOf_123 rfl rfl rfl ?_
    refine T_callVI (pc := 124) (As := []) (k := 0) (st := []) ok_yX9_rowsThere lm_X9_357 dX9_countOf_124 (by decide) rfl rfl (by decide) (Nat.le_of_ble_eq_true rfl) (m_X9_rowsThere m0) (fun r20 m19 em19 => ?_)
    exact T_retI (pc := 127) rfl dX9_countOf_127
  rw [if_neg h18]
  by_cases h21 : w32 p0 = 7
  · rw [if_pos h21]
    refine J_swIn (pc := 1) (j := 7) (tgt := 128) dX9_countOf_1 h21 (by decide) (by decide) rfl (by decide) ?_
    refine J_aload_n (pc := 128) dX9_countOf_128 rfl rfl rfl ?_
    refine T_callVI (pc := 129) (As := []) (k := 0) (st := []) ok_yX9_textsThere lm_X9_360 dX9_countOf_129 (by decide) rfl rfl (by decide) (Nat.le_of_ble_eq_true rfl) (m_X9_textsThere m0) (fun r23 m22 em22 => ?_)
    exact T_retI (pc := 132) rfl dX9_countOf_132
  rw [if_neg h21]
  refine J_swOut (pc := 1) (tgt := 133) dX9_countOf_1 (by omega) (by decide) ?_
  refine J_aload_n (pc := 133) dX9_countOf_133 rfl rfl rfl ?_
  refine T_callVI (pc := 134) (As := []) (k := 0) (st := []) ok_yX9_yearsKept lm_X9_363 dX9_countOf_134 (by decide) rfl rfl (by decide) (Nat.le_of_ble_eq_true rfl) (m_X9_yearsKept m0) (fun r25 m24 em24 => ?_)
  exact T_retI (pc := 137) rfl dX9_countOf_137
def f_X9_count (m0 : Mem) (p0 : Int) : Option (Int × Mem) := jn (κ := Mem → Option (Int × Mem)) (fun m2 => some ((-1), m2)) fun k1 => if w32 p0 < 0 then (k1 m0) else (if w32 p0 < w32 9 then (bd (f_X9_countOf m0 p0) fun r6 m5 => some (r6, m5)) else (k1 m0))
set_option maxRecDepth 40000 in
theorem m_X9_count {l : Launch} {G : qG} (m0 : Mem) (p0 : Int) : qM l G 4 yX9_count cX9_count 2 (some .int) [.ref 0, .int (iI p0)] (lay m0) (lf eI (f_X9_count m0 p0)) := by
  refine qM_of (L := [some (.ref 0), some (.int (iI p0))]) (by decide +kernel) (Nat.le_of_ble_eq_true rfl) rfl ?_
  unfold f_X9_count
  refine J_iload_n (pc := 0) dX9_count_0 rfl rfl ?_
  refine T_jn (κ := Mem → Option (Int × Mem)) (fun k => ∀ (m2 : Mem), qJ l G yX9_count cX9_count 2 (some .int) 4 10 [none, none] [] (lay m2) (lf eI (k m2))) ?_ (fun k1 hk1 => ?_)
  · intro m2
    refine J_iconst (pc := 10) dX9_count_10 ?_
    refine J_goto (pc := 11) (tgt := 19) dX9_count_11 (by decide) ?_
    exact T_retI (pc := 19) rfl dX9_count_19
  · refine T_if_lt (pc := 1) (tgt := 10) dX9_count_1 (by decide) (fun h3 => ?_) (fun h3 => ?_)
    · refine J_dropf (pc := 10) (L' := [none, none]) [false, false] rfl ?_
      exact hk1  m0
    · refine J_iload_n (pc := 4) dX9_count_4 rfl rfl ?_
      refine J_bipush (pc := 5) dX9_count_5 (by decide) (by decide) ?_
      refine T_icmp_lt (pc := 7) (tgt := 14) dX9_count_7 (by decide) (fun h4 => ?_) (fun h4 => ?_)
      · refine J_aload_n (pc := 14) dX9_count_14 rfl rfl rfl ?_
        refine J_iload_n (pc := 15) dX9_count_15 rfl rfl ?_
        refine T_callVI (pc := 16) (As := [.int (iI p0)]) (k := 0) (st := []) ok_yX9_countOf lm_X9_313 dX9_count_16 (by decide) rfl rfl (by decide) (Nat.le_of_ble_eq_true rfl) (m_X9_countOf m0 p0) (fun r6 m5 em5 => ?_)
        exact T_retI (pc := 19) rfl dX9_count_19
      · refine J_dropf (pc := 10) (L' := [none, none]) [false, false] rfl ?_
        exact hk1  m0
def f_X9_finding (m0 : Mem) : Option (Int × Mem) := some (m0 0 12, m0)
set_option maxRecDepth 40000 in
theorem m_X9_finding {l : Launch} {G : qG} (m0 : Mem) : qM l G 1 yX9_finding cX9_finding 1 (some .int) [.ref 0] (lay m0) (lf eI (f_X9_finding m0)) := by
  refine qM_of (L := [some (.ref 0)]) (by decide +kernel) (Nat.le_of_ble_eq_true rfl) rfl ?_
  unfold f_X9_finding
  refine J_aload_n (pc := 0) dX9_finding_0 rfl rfl rfl ?_
  refine tg_X9_81 (pc := 1) rfl dX9_finding_1 ?_
  exact T_retI (pc := 4) rfl dX9_finding_4
def f_X9_findings (m0 : Mem) (p0 : Int) : Option (Int × Mem) := jn (κ := Mem → Option (Int × Mem)) (fun m2 => some ((-1), m2)) fun k1 => if w32 p0 < w32 1 then (k1 m0) else (if w32 5 < w32 p0 then (k1 m0) else (ck p0 6 (some (m0 37 (w32 p0).toNat, m0))))
set_option maxRecDepth 40000 in
theorem m_X9_findings {l : Launch} {G : qG} (m0 : Mem) (p0 : Int) : qM l G 1 yX9_findings cX9_findings 2 (some .int) [.ref 0, .int (iI p0)] (lay m0) (lf eI (f_X9_findings m0 p0)) := by
  refine qM_of (L := [some (.ref 0), some (.int (iI p0))]) (by decide +kernel) (Nat.le_of_ble_eq_true rfl) rfl ?_
  unfold f_X9_findings
  refine J_iload_n (pc := 0) dX9_findings_0 rfl rfl ?_
  refine J_iconst (pc := 1) dX9_findings_1 ?_
  refine T_jn (κ := Mem → Option (Int × Mem)) (fun k => ∀ (m2 : Mem), qJ l G yX9_findings cX9_findings 2 (some .int) 1 10 [none, none] [] (lay m2) (lf eI (k m2))) ?_ (fun k1 hk1 => ?_)
  · intro m2
    refine J_iconst (pc := 10) dX9_findings_10 ?_
    refine J_goto (pc := 11) (tgt := 20) dX9_findings_11 (by decide) ?_
    exact T_retI (pc := 20) rfl dX9_findings_20
  · refine T_icmp_lt (pc := 2) (tgt := 10) dX9_findings_2 (by decide) (fun h3 => ?_) (fun h3 => ?_)
    · refine J_dropf (pc := 10) (L' := [none, none]) [false, false] rfl ?_
      exact hk1  m0
    · refine J_iload_n (pc := 5) dX9_findings_5 rfl rfl ?_
      refine J_iconst (pc := 6) dX9_findings_6 ?_
      refine T_icmp_le (pc := 7) (tgt := 14) dX9_findings_7 (by decide) (fun h4 => ?_) (fun h4 => ?_)
      · refine J_aload_n (pc := 14) dX9_findings_14 rfl rfl rfl ?_
        refine tg_X9_78 (pc := 15) rfl dX9_findings_15 ?_
        refine J_iload_n (pc := 18) dX9_findings_18 rfl rfl ?_
        refine T_iaload (pc := 19) (by decide) rfl dX9_findings_19 (fun h5 => ?_)
        exact T_retI (pc := 20) rfl dX9_findings_20
      · refine J_dropf (pc := 10) (L' := [none, none]) [false, false] rfl ?_
        exact hk1  m0
def f_X5_digestFrom_L15 (t : Nat) : Nat → Int → Int → Mem → Option (Int × Mem)
  | 0, _, _, _ => none
  | u + 1, i3, i5, mu15 => if w32 i5 < w32 (mu15 t 1) then (ck i5 40 (vl ((31 * i3) + (w32 (mu15 (t + 1) (w32 i5).toNat))) fun x4 => f_X5_digestFrom_L15 t u x4 (i5 + 1) mu15)) else (some (i3, mu15))
set_option maxRecDepth 40000 in
theorem j_X5_digestFrom_L15 {l : Launch} {G : qG} {t : Nat} (ht : oRow t) : ∀ (u : Nat) (i3 : Int) (i5 : Int) (mu15 : Mem), qJ l G yX5_digestFrom cX5_digestFrom 6 (some .long) 1 15 [some (.ref t), none, none, some (.long (iL i3)), none, some (.int (iI i5))] [] (lay mu15) (lf eL (f_X5_digestFrom_L15 t u i3 i5 mu15)) := by
  intro u
  induction u with
  | zero => intro _ _ mu15; exact T_none
  | succ u ih =>
    intro i3 i5 mu15
    rw [f_X5_digestFrom_L15]
    refine J_iload (pc := 15) dX5_digestFrom_15 rfl ?_
    refine J_aload_n (pc := 17) dX5_digestFrom_17 rfl rfl rfl ?_
    refine tg_X5_15 (pc := 18) ht rfl dX5_digestFrom_18 ?_
    refine T_icmp_ge (pc := 21) (tgt := 45) dX5_digestFrom_21 (by decide) (fun h2 => ?_) (fun h2 => ?_)
    · refine J_lload_n (pc := 45) dX5_digestFrom_45 rfl rfl ?_
      exact T_retL (pc := 46) rfl dX5_digestFrom_46
    · refine J_ldc2 (pc := 24) (z := 31) dX5_digestFrom_24 lk_X5_31 (by decide) ?_
      refine J_lload_n (pc := 27) dX5_digestFrom_27 rfl rfl ?_
      refine J_lmul (pc := 28) dX5_digestFrom_28 ?_
      refine J_aload_n (pc := 29) dX5_digestFrom_29 rfl rfl rfl ?_
      refine tg_X5_9 (pc := 30) ht rfl dX5_digestFrom_30 ?_
      refine J_iload (pc := 33) dX5_digestFrom_33 rfl ?_
      refine T_iaload (pc := 35) (oRow_l1 ht) (oRow_a1 ht) dX5_digestFrom_35 (fun h3 => ?_)
      refine J_i2l (pc := 36) dX5_digestFrom_36 ?_
      refine J_ladd (pc := 37) dX5_digestFrom_37 ?_
      refine T_vlL (pc := 38) (fun x4 ex4 => ?_)
      refine J_lstore_n (pc := 38) (L' := [some (.ref t), none, none, some (.long (iL x4)), none, some (.int (iI i5))]) dX5_digestFrom_38 rfl (by decide) rfl rfl ?_
      refine J_iinc (pc := 39) (L' := [some (.ref t), none, none, some (.long (iL x4)), none, some (.int (iI (i5 + 1)))]) dX5_digestFrom_39 rfl (by decide) rfl rfl ?_
      refine J_goto (pc := 42) (tgt := 15) dX5_digestFrom_42 (by decide) ?_
      exact ih x4 (i5 + 1) mu15
def f_X5_digestFrom (m0 : Mem) (t : Nat) (p0 : Int) : Option (Int × Mem) := vl ((31 * p0) + (w32 (m0 t 1))) fun x1 => f_X5_digestFrom_L15 t 100000 x1 0 m0
set_option maxRecDepth 40000 in
theorem m_X5_digestFrom {l : Launch} {G : qG} (m0 : Mem) (t : Nat) (p0 : Int) (ht : oRow t) : qM l G 1 yX5_digestFrom cX5_digestFrom 6 (some .long) [.ref t, .long (iL p0)] (lay m0) (lf eL (f_X5_digestFrom m0 t p0)) := by
  refine qM_of (L := [some (.ref t), some (.long (iL p0)), none, none, none, none]) (by decide +kernel) (Nat.le_of_ble_eq_true rfl) rfl ?_
  unfold f_X5_digestFrom
  refine J_ldc2 (pc := 0) (z := 31) dX5_digestFrom_0 lk_X5_31 (by decide) ?_
  refine J_lload_n (pc := 3) dX5_digestFrom_3 rfl rfl ?_
  refine J_lmul (pc := 4) dX5_digestFrom_4 ?_
  refine J_aload_n (pc := 5) dX5_digestFrom_5 rfl rfl rfl ?_
  refine tg_X5_15 (pc := 6) ht rfl dX5_digestFrom_6 ?_
  refine J_i2l (pc := 9) dX5_digestFrom_9 ?_
  refine J_ladd (pc := 10) dX5_digestFrom_10 ?_
  refine T_vlL (pc := 11) (fun x1 ex1 => ?_)
  refine J_lstore_n (pc := 11) (L' := [some (.ref t), some (.long (iL p0)), none, some (.long (iL x1)), none, none]) dX5_digestFrom_11 rfl (by decide) rfl rfl ?_
  refine J_iconst (pc := 12) dX5_digestFrom_12 ?_
  refine J_istore (pc := 13) (L' := [some (.ref t), some (.long (iL p0)), none, some (.long (iL x1)), none, some (.int (iI 0))]) dX5_digestFrom_13 (by decide) rfl rfl ?_
  refine J_dropf (pc := 15) (L' := [some (.ref t), none, none, some (.long (iL x1)), none, some (.int (iI 0))]) [true, false, false, true, false, true] rfl ?_
  refine j_X5_digestFrom_L15 ht 100000 x1 0 m0
def f_X7_digestFrom_L15 (t : Nat) : Nat → Int → Int → Mem → Option (Int × Mem)
  | 0, _, _, _ => none
  | u + 1, i3, i5, mu15 => if w32 i5 < w32 (mu15 t 1) then (ck i5 60 (vl ((31 * i3) + (w32 (mu15 (t + 1) (w32 i5).toNat))) fun x4 => f_X7_digestFrom_L15 t u x4 (i5 + 1) mu15)) else (some (i3, mu15))
set_option maxRecDepth 40000 in
theorem j_X7_digestFrom_L15 {l : Launch} {G : qG} {t : Nat} (ht : oText t) : ∀ (u : Nat) (i3 : Int) (i5 : Int) (mu15 : Mem), qJ l G yX7_digestFrom cX7_digestFrom 6 (some .long) 1 15 [some (.ref t), none, none, some (.long (iL i3)), none, some (.int (iI i5))] [] (lay mu15) (lf eL (f_X7_digestFrom_L15 t u i3 i5 mu15)) := by
  intro u
  induction u with
  | zero => intro _ _ mu15; exact T_none
  | succ u ih =>
    intro i3 i5 mu15
    rw [f_X7_digestFrom_L15]
    refine J_iload (pc := 15) dX7_digestFrom_15 rfl ?_
    refine J_aload_n (pc := 17) dX7_digestFrom_17 rfl rfl rfl ?_
    refine tg_X7_15 (pc := 18) ht rfl dX7_digestFrom_18 ?_
    refine T_icmp_ge (pc := 21) (tgt := 45) dX7_digestFrom_21 (by decide) (fun h2 => ?_) (fun h2 => ?_)
    · refine J_lload_n (pc := 45) dX7_digestFrom_45 rfl rfl ?_
      exact T_retL (pc := 46) rfl dX7_digestFrom_46
    · refine J_ldc2 (pc := 24) (z := 31) dX7_digestFrom_24 lk_X7_25 (by decide) ?_
      refine J_lload_n (pc := 27) dX7_digestFrom_27 rfl rfl ?_
      refine J_lmul (pc := 28) dX7_digestFrom_28 ?_
      refine J_aload_n (pc := 29) dX7_digestFrom_29 rfl rfl rfl ?_
      refine tg_X7_9 (pc := 30) ht rfl dX7_digestFrom_30 ?_
      refine J_iload (pc := 33) dX7_digestFrom_33 rfl ?_
      refine T_baload (pc := 35) (oText_l1 ht) (oText_a1 ht) dX7_digestFrom_35 (fun h3 => ?_)
      refine J_i2l (pc := 36) dX7_digestFrom_36 ?_
      refine J_ladd (pc := 37) dX7_digestFrom_37 ?_
      refine T_vlL (pc := 38) (fun x4 ex4 => ?_)
      refine J_lstore_n (pc := 38) (L' := [some (.ref t), none, none, some (.long (iL x4)), none, some (.int (iI i5))]) dX7_digestFrom_38 rfl (by decide) rfl rfl ?_
      refine J_iinc (pc := 39) (L' := [some (.ref t), none, none, some (.long (iL x4)), none, some (.int (iI (i5 + 1)))]) dX7_digestFrom_39 rfl (by decide) rfl rfl ?_
      refine J_goto (pc := 42) (tgt := 15) dX7_digestFrom_42 (by decide) ?_
      exact ih x4 (i5 + 1) mu15
def f_X7_digestFrom (m0 : Mem) (t : Nat) (p0 : Int) : Option (Int × Mem) := vl ((31 * p0) + (w32 (m0 t 1))) fun x1 => f_X7_digestFrom_L15 t 100000 x1 0 m0
set_option maxRecDepth 40000 in
theorem m_X7_digestFrom {l : Launch} {G : qG} (m0 : Mem) (t : Nat) (p0 : Int) (ht : oText t) : qM l G 1 yX7_digestFrom cX7_digestFrom 6 (some .long) [.ref t, .long (iL p0)] (lay m0) (lf eL (f_X7_digestFrom m0 t p0)) := by
  refine qM_of (L := [some (.ref t), some (.long (iL p0)), none, none, none, none]) (by decide +kernel) (Nat.le_of_ble_eq_true rfl) rfl ?_
  unfold f_X7_digestFrom
  refine J_ldc2 (pc := 0) (z := 31) dX7_digestFrom_0 lk_X7_25 (by decide) ?_
  refine J_lload_n (pc := 3) dX7_digestFrom_3 rfl rfl ?_
  refine J_lmul (pc := 4) dX7_digestFrom_4 ?_
  refine J_aload_n (pc := 5) dX7_digestFrom_5 rfl rfl rfl ?_
  refine tg_X7_15 (pc := 6) ht rfl dX7_digestFrom_6 ?_
  refine J_i2l (pc := 9) dX7_digestFrom_9 ?_
  refine J_ladd (pc := 10) dX7_digestFrom_10 ?_
  refine T_vlL (pc := 11) (fun x1 ex1 => ?_)
  refine J_lstore_n (pc := 11) (L' := [some (.ref t), some (.long (iL p0)), none, some (.long (iL x1)), none, none]) dX7_digestFrom_11 rfl (by decide) rfl rfl ?_
  refine J_iconst (pc := 12) dX7_digestFrom_12 ?_
  refine J_istore (pc := 13) (L' := [some (.ref t), some (.long (iL p0)), none, some (.long (iL x1)), none, some (.int (iI 0))]) dX7_digestFrom_13 (by decide) rfl rfl ?_
  refine J_dropf (pc := 15) (L' := [some (.ref t), none, none, some (.long (iL x1)), none, some (.int (iI 0))]) [true, false, false, true, false, true] rfl ?_
  refine j_X7_digestFrom_L15 ht 100000 x1 0 m0
def f_X9_digest_L6 (K : Int → Mem → Option (Int × Mem)) : Nat → Int → Int → Mem → Option (Int × Mem)
  | 0, _, _, _ => none
  | u + 1, i1, i3, mu6 => if w32 i3 < w32 9 then (bd (f_X9_countOf mu6 i3) fun r3 m2 => vl ((31 * i1) + (w32 r3)) fun x4 => f_X9_digest_L6 K u x4 (i3 + 1) m2) else (K i1 mu6)
set_option maxRecDepth 40000 in
theorem j_X9_digest_L6 {l : Launch} {G : qG} {K : Int → Mem → Option (Int × Mem)} (hK : ∀ (x1 : Int) (m : Mem), qJ l G yX9_digest cX9_digest 5 (some .long) 4 31 [some (.ref 0), some (.long (iL x1)), none, none, none] [] (lay m) (lf eL (K x1 m))) : ∀ (u : Nat) (i1 : Int) (i3 : Int) (mu6 : Mem), qJ l G yX9_digest cX9_digest 5 (some .long) 4 6 [some (.ref 0), some (.long (iL i1)), none, some (.int (iI i3)), none] [] (lay mu6) (lf eL (f_X9_digest_L6 K u i1 i3 mu6)) := by
  intro u
  induction u with
  | zero => intro _ _ mu6; exact T_none
  | succ u ih =>
    intro i1 i3 mu6
    rw [f_X9_digest_L6]
    refine J_iload_n (pc := 6) dX9_digest_6 rfl rfl ?_
    refine J_bipush (pc := 7) dX9_digest_7 (by decide) (by decide) ?_
    refine T_icmp_ge (pc := 9) (tgt := 31) dX9_digest_9 (by decide) (fun h1 => ?_) (fun h1 => ?_)
    · refine J_dropf (pc := 31) (L' := [some (.ref 0), some (.long (iL i1)), none, none, none]) [true, true, false, false, false] rfl ?_
      exact hK i1 mu6
    · refine J_ldc2 (pc := 12) (z := 31) dX9_digest_12 lk_X9_318 (by decide) ?_
      refine J_lload_n (pc := 15) dX9_digest_15 rfl rfl ?_
      refine J_lmul (pc := 16) dX9_digest_16 ?_
      refine J_aload_n (pc := 17) dX9_digest_17 rfl rfl rfl ?_
      refine J_iload_n (pc := 18) dX9_digest_18 rfl rfl ?_
      refine T_callVI (pc := 19) (As := [.int (iI i3)]) (k := 0) (st := [.long (iL (31 * i1))]) ok_yX9_countOf lm_X9_313 dX9_digest_19 (by decide) rfl rfl (by decide) (Nat.le_of_ble_eq_true rfl) (m_X9_countOf mu6 i3) (fun r3 m2 em2 => ?_)
      refine J_i2l (pc := 22) dX9_digest_22 ?_
      refine J_ladd (pc := 23) dX9_digest_23 ?_
      refine T_vlL (pc := 24) (fun x4 ex4 => ?_)
      refine J_lstore_n (pc := 24) (L' := [some (.ref 0), some (.long (iL x4)), none, some (.int (iI i3)), none]) dX9_digest_24 rfl (by decide) rfl rfl ?_
      refine J_iinc (pc := 25) (L' := [some (.ref 0), some (.long (iL x4)), none, some (.int (iI (i3 + 1))), none]) dX9_digest_25 rfl (by decide) rfl rfl ?_
      refine J_goto (pc := 28) (tgt := 6) dX9_digest_28 (by decide) ?_
      exact ih x4 (i3 + 1) m2
def f_X9_digest_L81 (K : Int → Mem → Option (Int × Mem)) (i3 : Int) : Nat → Int → Int → Mem → Option (Int × Mem)
  | 0, _, _, _ => none
  | u + 1, i1, i4, mu81 => if w32 3 < w32 i4 then (K i1 mu81) else (bd (f_X9_factOfCape mu81 i3 i4) fun r14 m13 => vl ((31 * i1) + (w32 r14)) fun x15 => f_X9_digest_L81 K i3 u x15 (i4 + 1) m13)
set_option maxRecDepth 40000 in
theorem j_X9_digest_L81 {l : Launch} {G : qG} {K : Int → Mem → Option (Int × Mem)} {i3 : Int} (hK : ∀ (x1 : Int) (m : Mem), qJ l G yX9_digest cX9_digest 5 (some .long) 4 108 [some (.ref 0), some (.long (iL x1)), none, some (.int (iI i3)), none] [] (lay m) (lf eL (K x1 m))) : ∀ (u : Nat) (i1 : Int) (i4 : Int) (mu81 : Mem), qJ l G yX9_digest cX9_digest 5 (some .long) 4 81 [some (.ref 0), some (.long (iL i1)), none, some (.int (iI i3)), some (.int (iI i4))] [] (lay mu81) (lf eL (f_X9_digest_L81 K i3 u i1 i4 mu81)) := by
  intro u
  induction u with
  | zero => intro _ _ mu81; exact T_none
  | succ u ih =>
    intro i1 i4 mu81
    rw [f_X9_digest_L81]
    refine J_iload (pc := 81) dX9_digest_81 rfl ?_
    refine J_iconst (pc := 83) dX9_digest_83 ?_
    refine T_icmp_gt (pc := 84) (tgt := 108) dX9_digest_84 (by decide) (fun h12 => ?_) (fun h12 => ?_)
    · refine J_dropf (pc := 108) (L' := [some (.ref 0), some (.long (iL i1)), none, some (.int (iI i3)), none]) [true, true, false, true, false] rfl ?_
      exact hK i1 mu81
    · refine J_ldc2 (pc := 87) (z := 31) dX9_digest_87 lk_X9_318 (by decide) ?_
      refine J_lload_n (pc := 90) dX9_digest_90 rfl rfl ?_
      refine J_lmul (pc := 91) dX9_digest_91 ?_
      refine J_aload_n (pc := 92) dX9_digest_92 rfl rfl rfl ?_
      refine J_iload_n (pc := 93) dX9_digest_93 rfl rfl ?_
      refine J_iload (pc := 94) dX9_digest_94 rfl ?_
      refine T_callVI (pc := 96) (As := [.int (iI i3), .int (iI i4)]) (k := 0) (st := [.long (iL (31 * i1))]) ok_yX9_factOfCape lm_X9_162 dX9_digest_96 (by decide) rfl rfl (by decide) (Nat.le_of_ble_eq_true rfl) (m_X9_factOfCape mu81 i3 i4) (fun r14 m13 em13 => ?_)
      refine J_i2l (pc := 99) dX9_digest_99 ?_
      refine J_ladd (pc := 100) dX9_digest_100 ?_
      refine T_vlL (pc := 101) (fun x15 ex15 => ?_)
      refine J_lstore_n (pc := 101) (L' := [some (.ref 0), some (.long (iL x15)), none, some (.int (iI i3)), some (.int (iI i4))]) dX9_digest_101 rfl (by decide) rfl rfl ?_
      refine J_iinc (pc := 102) (L' := [some (.ref 0), some (.long (iL x15)), none, some (.int (iI i3)), some (.int (iI (i4 + 1)))]) dX9_digest_102 rfl (by decide) rfl rfl ?_
      refine J_goto (pc := 105) (tgt := 81) dX9_digest_105 (by decide) ?_
      exact ih x15 (i4 + 1) m13
def f_X9_digest_L67 (K : Int → Mem → Option (Int × Mem)) : Nat → Int → Int → Mem → Option (Int × Mem)
  | 0, _, _, _ => none
  | u + 1, i1, i3, mu67 => if w32 i3 < w32 (mu67 6 6) then (f_X9_digest_L81 (fun x16 m17 => f_X9_digest_L67 K u x16 (i3 + 1) m17) i3 100000 i1 0 mu67) else (K i1 mu67)
set_option maxRecDepth 40000 in
theorem j_X9_digest_L67 {l : Launch} {G : qG} {K : Int → Mem → Option (Int × Mem)} (hK : ∀ (x1 : Int) (m : Mem), qJ l G yX9_digest cX9_digest 5 (some .long) 4 114 [some (.ref 0), some (.long (iL x1)), none, none, none] [] (lay m) (lf eL (K x1 m))) : ∀ (u : Nat) (i1 : Int) (i3 : Int) (mu67 : Mem), qJ l G yX9_digest cX9_digest 5 (some .long) 4 67 [some (.ref 0), some (.long (iL i1)), none, some (.int (iI i3)), none] [] (lay mu67) (lf eL (f_X9_digest_L67 K u i1 i3 mu67)) := by
  intro u
  induction u with
  | zero => intro _ _ mu67; exact T_none
  | succ u ih =>
    intro i1 i3 mu67
    rw [f_X9_digest_L67]
    refine J_iload_n (pc := 67) dX9_digest_67 rfl rfl ?_
    refine J_aload_n (pc := 68) dX9_digest_68 rfl rfl rfl ?_
    refine tg_X9_31 (pc := 69) rfl dX9_digest_69 ?_
    refine tg_X9_156 (pc := 72) rfl dX9_digest_72 ?_
    refine T_icmp_ge (pc := 75) (tgt := 114) dX9_digest_75 (by decide) (fun h11 => ?_) (fun h11 => ?_)
    · refine J_dropf (pc := 114) (L' := [some (.ref 0), some (.long (iL i1)), none, none, none]) [true, true, false, false, false] rfl ?_
      exact hK i1 mu67
    · refine J_iconst (pc := 78) dX9_digest_78 ?_
      refine J_istore (pc := 79) (L' := [some (.ref 0), some (.long (iL i1)), none, some (.int (iI i3)), some (.int (iI 0))]) dX9_digest_79 (by decide) rfl rfl ?_
      refine j_X9_digest_L81 ?_ 100000 i1 0 mu67
      · intro x16 m17
        refine J_iinc (pc := 108) (L' := [some (.ref 0), some (.long (iL x16)), none, some (.int (iI (i3 + 1))), none]) dX9_digest_108 rfl (by decide) rfl rfl ?_
        refine J_goto (pc := 111) (tgt := 67) dX9_digest_111 (by decide) ?_
        exact ih x16 (i3 + 1) m17
def f_X9_digest_L130 (K : Int → Mem → Option (Int × Mem)) (i3 : Int) : Nat → Int → Int → Mem → Option (Int × Mem)
  | 0, _, _, _ => none
  | u + 1, i1, i4, mu130 => if w32 4 < w32 i4 then (K i1 mu130) else (bd (f_X9_factOfValley mu130 i3 i4) fun r23 m22 => vl ((31 * i1) + (w32 r23)) fun x24 => f_X9_digest_L130 K i3 u x24 (i4 + 1) m22)
set_option maxRecDepth 40000 in
theorem j_X9_digest_L130 {l : Launch} {G : qG} {K : Int → Mem → Option (Int × Mem)} {i3 : Int} (hK : ∀ (x1 : Int) (m : Mem), qJ l G yX9_digest cX9_digest 5 (some .long) 4 157 [some (.ref 0), some (.long (iL x1)), none, some (.int (iI i3)), none] [] (lay m) (lf eL (K x1 m))) : ∀ (u : Nat) (i1 : Int) (i4 : Int) (mu130 : Mem), qJ l G yX9_digest cX9_digest 5 (some .long) 4 130 [some (.ref 0), some (.long (iL i1)), none, some (.int (iI i3)), some (.int (iI i4))] [] (lay mu130) (lf eL (f_X9_digest_L130 K i3 u i1 i4 mu130)) := by
  intro u
  induction u with
  | zero => intro _ _ mu130; exact T_none
  | succ u ih =>
    intro i1 i4 mu130
    rw [f_X9_digest_L130]
    refine J_iload (pc := 130) dX9_digest_130 rfl ?_
    refine J_iconst (pc := 132) dX9_digest_132 ?_
    refine T_icmp_gt (pc := 133) (tgt := 157) dX9_digest_133 (by decide) (fun h21 => ?_) (fun h21 => ?_)
    · refine J_dropf (pc := 157) (L' := [some (.ref 0), some (.long (iL i1)), none, some (.int (iI i3)), none]) [true, true, false, true, false] rfl ?_
      exact hK i1 mu130
    · refine J_ldc2 (pc := 136) (z := 31) dX9_digest_136 lk_X9_318 (by decide) ?_
      refine J_lload_n (pc := 139) dX9_digest_139 rfl rfl ?_
      refine J_lmul (pc := 140) dX9_digest_140 ?_
      refine J_aload_n (pc := 141) dX9_digest_141 rfl rfl rfl ?_
      refine J_iload_n (pc := 142) dX9_digest_142 rfl rfl ?_
      refine J_iload (pc := 143) dX9_digest_143 rfl ?_
      refine T_callVI (pc := 145) (As := [.int (iI i3), .int (iI i4)]) (k := 0) (st := [.long (iL (31 * i1))]) ok_yX9_factOfValley lm_X9_168 dX9_digest_145 (by decide) rfl rfl (by decide) (Nat.le_of_ble_eq_true rfl) (m_X9_factOfValley mu130 i3 i4) (fun r23 m22 em22 => ?_)
      refine J_i2l (pc := 148) dX9_digest_148 ?_
      refine J_ladd (pc := 149) dX9_digest_149 ?_
      refine T_vlL (pc := 150) (fun x24 ex24 => ?_)
      refine J_lstore_n (pc := 150) (L' := [some (.ref 0), some (.long (iL x24)), none, some (.int (iI i3)), some (.int (iI i4))]) dX9_digest_150 rfl (by decide) rfl rfl ?_
      refine J_iinc (pc := 151) (L' := [some (.ref 0), some (.long (iL x24)), none, some (.int (iI i3)), some (.int (iI (i4 + 1)))]) dX9_digest_151 rfl (by decide) rfl rfl ?_
      refine J_goto (pc := 154) (tgt := 130) dX9_digest_154 (by decide) ?_
      exact ih x24 (i4 + 1) m22
def f_X9_digest_L116 (K : Int → Mem → Option (Int × Mem)) : Nat → Int → Int → Mem → Option (Int × Mem)
  | 0, _, _, _ => none
  | u + 1, i1, i3, mu116 => if w32 i3 < w32 (mu116 6 7) then (f_X9_digest_L130 (fun x25 m26 => f_X9_digest_L116 K u x25 (i3 + 1) m26) i3 100000 i1 0 mu116) else (K i1 mu116)
set_option maxRecDepth 40000 in
theorem j_X9_digest_L116 {l : Launch} {G : qG} {K : Int → Mem → Option (Int × Mem)} (hK : ∀ (x1 : Int) (m : Mem), qJ l G yX9_digest cX9_digest 5 (some .long) 4 163 [some (.ref 0), some (.long (iL x1)), none, none, none] [] (lay m) (lf eL (K x1 m))) : ∀ (u : Nat) (i1 : Int) (i3 : Int) (mu116 : Mem), qJ l G yX9_digest cX9_digest 5 (some .long) 4 116 [some (.ref 0), some (.long (iL i1)), none, some (.int (iI i3)), none] [] (lay mu116) (lf eL (f_X9_digest_L116 K u i1 i3 mu116)) := by
  intro u
  induction u with
  | zero => intro _ _ mu116; exact T_none
  | succ u ih =>
    intro i1 i3 mu116
    rw [f_X9_digest_L116]
    refine J_iload_n (pc := 116) dX9_digest_116 rfl rfl ?_
    refine J_aload_n (pc := 117) dX9_digest_117 rfl rfl rfl ?_
    refine tg_X9_31 (pc := 118) rfl dX9_digest_118 ?_
    refine tg_X9_208 (pc := 121) rfl dX9_digest_121 ?_
    refine T_icmp_ge (pc := 124) (tgt := 163) dX9_digest_124 (by decide) (fun h20 => ?_) (fun h20 => ?_)
    · refine J_dropf (pc := 163) (L' := [some (.ref 0), some (.long (iL i1)), none, none, none]) [true, true, false, false, false] rfl ?_
      exact hK i1 mu116
    · refine J_iconst (pc := 127) dX9_digest_127 ?_
      refine J_istore (pc := 128) (L' := [some (.ref 0), some (.long (iL i1)), none, some (.int (iI i3)), some (.int (iI 0))]) dX9_digest_128 (by decide) rfl rfl ?_
      refine j_X9_digest_L130 ?_ 100000 i1 0 mu116
      · intro x25 m26
        refine J_iinc (pc := 157) (L' := [some (.ref 0), some (.long (iL x25)), none, some (.int (iI (i3 + 1))), none]) dX9_digest_157 rfl (by decide) rfl rfl ?_
        refine J_goto (pc := 160) (tgt := 116) dX9_digest_160 (by decide) ?_
        exact ih x25 (i3 + 1) m26
def f_X9_digest_L165 (K : Int → Mem → Option (Int × Mem)) : Nat → Int → Int → Mem → Option (Int × Mem)
  | 0, _, _, _ => none
  | u + 1, i1, i3, mu165 => if w32 i3 < w32 3 then (ck i3 3 (vl ((31 * i1) + (w32 (mu165 (58 + 3 * (w32 i3).toNat) 2))) fun x31 => f_X9_digest_L165 K u x31 (i3 + 1) mu165)) else (K i1 mu165)
set_option maxRecDepth 40000 in
theorem j_X9_digest_L165 {l : Launch} {G : qG} {K : Int → Mem → Option (Int × Mem)} (hK : ∀ (x1 : Int) (m : Mem), qJ l G yX9_digest cX9_digest 5 (some .long) 4 193 [some (.ref 0), some (.long (iL x1)), none, none, none] [] (lay m) (lf eL (K x1 m))) : ∀ (u : Nat) (i1 : Int) (i3 : Int) (mu165 : Mem), qJ l G yX9_digest cX9_digest 5 (some .long) 4 165 [some (.ref 0), some (.long (iL i1)), none, some (.int (iI i3)), none] [] (lay mu165) (lf eL (f_X9_digest_L165 K u i1 i3 mu165)) := by
  intro u
  induction u with
  | zero => intro _ _ mu165; exact T_none
  | succ u ih =>
    intro i1 i3 mu165
    rw [f_X9_digest_L165]
    refine J_iload_n (pc := 165) dX9_digest_165 rfl rfl ?_
    refine J_iconst (pc := 166) dX9_digest_166 ?_
    refine T_icmp_ge (pc := 167) (tgt := 193) dX9_digest_167 (by decide) (fun h29 => ?_) (fun h29 => ?_)
    · refine J_dropf (pc := 193) (L' := [some (.ref 0), some (.long (iL i1)), none, none, none]) [true, true, false, false, false] rfl ?_
      exact hK i1 mu165
    · refine J_ldc2 (pc := 170) (z := 31) dX9_digest_170 lk_X9_318 (by decide) ?_
      refine J_lload_n (pc := 173) dX9_digest_173 rfl rfl ?_
      refine J_lmul (pc := 174) dX9_digest_174 ?_
      refine J_aload_n (pc := 175) dX9_digest_175 rfl rfl rfl ?_
      refine tg_X9_49 (pc := 176) rfl dX9_digest_176 ?_
      refine J_iload_n (pc := 179) dX9_digest_179 rfl rfl ?_
      refine T_aaload (pc := 180) (by decide) rfl rfl dX9_digest_180 (fun h30 => ?_)
      refine tg_X9_97 (pc := 181) (oDiary_e h30) rfl dX9_digest_181 ?_
      refine J_i2l (pc := 184) dX9_digest_184 ?_
      refine J_ladd (pc := 185) dX9_digest_185 ?_
      refine T_vlL (pc := 186) (fun x31 ex31 => ?_)
      refine J_lstore_n (pc := 186) (L' := [some (.ref 0), some (.long (iL x31)), none, some (.int (iI i3)), none]) dX9_digest_186 rfl (by decide) rfl rfl ?_
      refine J_iinc (pc := 187) (L' := [some (.ref 0), some (.long (iL x31)), none, some (.int (iI (i3 + 1))), none]) dX9_digest_187 rfl (by decide) rfl rfl ?_
      refine J_goto (pc := 190) (tgt := 165) dX9_digest_190 (by decide) ?_
      exact ih x31 (i3 + 1) mu165
def f_X9_digest_L195 (K : Int → Mem → Option (Int × Mem)) : Nat → Int → Int → Mem → Option (Int × Mem)
  | 0, _, _, _ => none
  | u + 1, i1, i3, mu195 => if w32 i3 < w32 6 then (ck i3 6 (bd (f_X5_digestFrom mu195 (38 + 2 * (w32 i3).toNat) i1) fun r37 m36 => f_X9_digest_L195 K u r37 (i3 + 1) m36)) else (K i1 mu195)
set_option maxRecDepth 40000 in
theorem j_X9_digest_L195 {l : Launch} {G : qG} {K : Int → Mem → Option (Int × Mem)} (hK : ∀ (x1 : Int) (m : Mem), qJ l G yX9_digest cX9_digest 5 (some .long) 4 218 [some (.ref 0), some (.long (iL x1)), none, none, none] [] (lay m) (lf eL (K x1 m))) : ∀ (u : Nat) (i1 : Int) (i3 : Int) (mu195 : Mem), qJ l G yX9_digest cX9_digest 5 (some .long) 4 195 [some (.ref 0), some (.long (iL i1)), none, some (.int (iI i3)), none] [] (lay mu195) (lf eL (f_X9_digest_L195 K u i1 i3 mu195)) := by
  intro u
  induction u with
  | zero => intro _ _ mu195; exact T_none
  | succ u ih =>
    intro i1 i3 mu195
    rw [f_X9_digest_L195]
    refine J_iload_n (pc := 195) dX9_digest_195 rfl rfl ?_
    refine J_bipush (pc := 196) dX9_digest_196 (by decide) (by decide) ?_
    refine T_icmp_ge (pc := 198) (tgt := 218) dX9_digest_198 (by decide) (fun h34 => ?_) (fun h34 => ?_)
    · refine J_dropf (pc := 218) (L' := [some (.ref 0), some (.long (iL i1)), none, none, none]) [true, true, false, false, false] rfl ?_
      exact hK i1 mu195
    · refine J_aload_n (pc := 201) dX9_digest_201 rfl rfl rfl ?_
      refine tg_X9_11 (pc := 202) rfl dX9_digest_202 ?_
      refine J_iload_n (pc := 205) dX9_digest_205 rfl rfl ?_
      refine T_aaload (pc := 206) (by decide) rfl rfl dX9_digest_206 (fun h35 => ?_)
      refine J_lload_n (pc := 207) dX9_digest_207 rfl rfl ?_
      refine T_callVL (pc := 208) (As := [.long (iL i1)]) (k := (38 + 2 * (w32 i3).toNat)) (st := []) ok_yX5_digestFrom lm_X9_320 dX9_digest_208 (oRow_l (oRow_e h35)) (oRow_o (oRow_e h35)) rfl (by decide) (Nat.le_of_ble_eq_true rfl) (m_X5_digestFrom mu195 (38 + 2 * (w32 i3).toNat) i1 (oRow_e h35)) (fun r37 m36 em36 => ?_)
      refine J_lstore_n (pc := 211) (L' := [some (.ref 0), some (.long (iL r37)), none, some (.int (iI i3)), none]) dX9_digest_211 rfl (by decide) rfl rfl ?_
      refine J_iinc (pc := 212) (L' := [some (.ref 0), some (.long (iL r37)), none, some (.int (iI (i3 + 1))), none]) dX9_digest_212 rfl (by decide) rfl rfl ?_
      refine J_goto (pc := 215) (tgt := 195) dX9_digest_215 (by decide) ?_
      exact ih r37 (i3 + 1) m36
def f_X9_digest_L220 : Nat → Int → Int → Mem → Option (Int × Mem)
  | 0, _, _, _ => none
  | u + 1, i1, i3, mu220 => if w32 i3 < w32 4 then (ck i3 4 (bd (f_X7_digestFrom mu220 (50 + 2 * (w32 i3).toNat) i1) fun r43 m42 => f_X9_digest_L220 u r43 (i3 + 1) m42)) else (some (i1, mu220))
set_option maxRecDepth 40000 in
theorem j_X9_digest_L220 {l : Launch} {G : qG} : ∀ (u : Nat) (i1 : Int) (i3 : Int) (mu220 : Mem), qJ l G yX9_digest cX9_digest 5 (some .long) 4 220 [some (.ref 0), some (.long (iL i1)), none, some (.int (iI i3)), none] [] (lay mu220) (lf eL (f_X9_digest_L220 u i1 i3 mu220)) := by
  intro u
  induction u with
  | zero => intro _ _ mu220; exact T_none
  | succ u ih =>
    intro i1 i3 mu220
    rw [f_X9_digest_L220]
    refine J_iload_n (pc := 220) dX9_digest_220 rfl rfl ?_
    refine J_iconst (pc := 221) dX9_digest_221 ?_
    refine T_icmp_ge (pc := 222) (tgt := 242) dX9_digest_222 (by decide) (fun h40 => ?_) (fun h40 => ?_)
    · refine J_lload_n (pc := 242) dX9_digest_242 rfl rfl ?_
      exact T_retL (pc := 243) rfl dX9_digest_243
    · refine J_aload_n (pc := 225) dX9_digest_225 rfl rfl rfl ?_
      refine tg_X9_17 (pc := 226) rfl dX9_digest_226 ?_
      refine J_iload_n (pc := 229) dX9_digest_229 rfl rfl ?_
      refine T_aaload (pc := 230) (by decide) rfl rfl dX9_digest_230 (fun h41 => ?_)
      refine J_lload_n (pc := 231) dX9_digest_231 rfl rfl ?_
      refine T_callVL (pc := 232) (As := [.long (iL i1)]) (k := (50 + 2 * (w32 i3).toNat)) (st := []) ok_yX7_digestFrom lm_X9_324 dX9_digest_232 (oText_l (oText_e h41)) (oText_o (oText_e h41)) rfl (by decide) (Nat.le_of_ble_eq_true rfl) (m_X7_digestFrom mu220 (50 + 2 * (w32 i3).toNat) i1 (oText_e h41)) (fun r43 m42 em42 => ?_)
      refine J_lstore_n (pc := 235) (L' := [some (.ref 0), some (.long (iL r43)), none, some (.int (iI i3)), none]) dX9_digest_235 rfl (by decide) rfl rfl ?_
      refine J_iinc (pc := 236) (L' := [some (.ref 0), some (.long (iL r43)), none, some (.int (iI (i3 + 1))), none]) dX9_digest_236 rfl (by decide) rfl rfl ?_
      refine J_goto (pc := 239) (tgt := 220) dX9_digest_239 (by decide) ?_
      exact ih r43 (i3 + 1) m42
def f_X9_digest (m0 : Mem) : Option (Int × Mem) := f_X9_digest_L6 (fun x5 m6 => ck 0 16 (vl ((31 * x5) + (w32 (m6 (13 + 1) (w32 0).toNat))) fun x8 => ck 1 16 (vl ((31 * x8) + (w32 (m6 (13 + 1) (w32 1).toNat))) fun x10 => f_X9_digest_L67 (fun x18 m19 => f_X9_digest_L116 (fun x27 m28 => f_X9_digest_L165 (fun x32 m33 => f_X9_digest_L195 (fun x38 m39 => f_X9_digest_L220 100000 x38 0 m39) 100000 x32 0 m33) 100000 x27 0 m28) 100000 x18 0 m19) 100000 x10 0 m6))) 100000 17 0 m0
set_option maxRecDepth 40000 in
theorem m_X9_digest {l : Launch} {G : qG} (m0 : Mem) : qM l G 4 yX9_digest cX9_digest 5 (some .long) [.ref 0] (lay m0) (lf eL (f_X9_digest m0)) := by
  refine qM_of (L := [some (.ref 0), none, none, none, none]) (by decide +kernel) (Nat.le_of_ble_eq_true rfl) rfl ?_
  unfold f_X9_digest
  refine J_ldc2 (pc := 0) (z := 17) dX9_digest_0 lk_X9_316 (by decide) ?_
  refine J_lstore_n (pc := 3) (L' := [some (.ref 0), some (.long (iL 17)), none, none, none]) dX9_digest_3 rfl (by decide) rfl rfl ?_
  refine J_iconst (pc := 4) dX9_digest_4 ?_
  refine J_istore_n (pc := 5) (L' := [some (.ref 0), some (.long (iL 17)), none, some (.int (iI 0)), none]) dX9_digest_5 rfl (by decide) rfl rfl ?_
  refine j_X9_digest_L6 ?_ 100000 17 0 m0
  · intro x5 m6
    refine J_ldc2 (pc := 31) (z := 31) dX9_digest_31 lk_X9_318 (by decide) ?_
    refine J_lload_n (pc := 34) dX9_digest_34 rfl rfl ?_
    refine J_lmul (pc := 35) dX9_digest_35 ?_
    refine J_aload_n (pc := 36) dX9_digest_36 rfl rfl rfl ?_
    refine tg_X9_38 (pc := 37) rfl dX9_digest_37 ?_
    refine tg_X9_193 (pc := 40) (by unfold oDay; decide) rfl dX9_digest_40 ?_
    refine J_iconst (pc := 43) dX9_digest_43 ?_
    refine T_iaload (pc := 44) (oDay_l1 (by unfold oDay; decide)) (oDay_a1 (by unfold oDay; decide)) dX9_digest_44 (fun h7 => ?_)
    refine J_i2l (pc := 45) dX9_digest_45 ?_
    refine J_ladd (pc := 46) dX9_digest_46 ?_
    refine T_vlL (pc := 47) (fun x8 ex8 => ?_)
    refine J_lstore_n (pc := 47) (L' := [some (.ref 0), some (.long (iL x8)), none, none, none]) dX9_digest_47 rfl (by decide) rfl rfl ?_
    refine J_ldc2 (pc := 48) (z := 31) dX9_digest_48 lk_X9_318 (by decide) ?_
    refine J_lload_n (pc := 51) dX9_digest_51 rfl rfl ?_
    refine J_lmul (pc := 52) dX9_digest_52 ?_
    refine J_aload_n (pc := 53) dX9_digest_53 rfl rfl rfl ?_
    refine tg_X9_38 (pc := 54) rfl dX9_digest_54 ?_
    refine tg_X9_193 (pc := 57) (by unfold oDay; decide) rfl dX9_digest_57 ?_
    refine J_iconst (pc := 60) dX9_digest_60 ?_
    refine T_iaload (pc := 61) (oDay_l1 (by unfold oDay; decide)) (oDay_a1 (by unfold oDay; decide)) dX9_digest_61 (fun h9 => ?_)
    refine J_i2l (pc := 62) dX9_digest_62 ?_
    refine J_ladd (pc := 63) dX9_digest_63 ?_
    refine T_vlL (pc := 64) (fun x10 ex10 => ?_)
    refine J_lstore_n (pc := 64) (L' := [some (.ref 0), some (.long (iL x10)), none, none, none]) dX9_digest_64 rfl (by decide) rfl rfl ?_
    refine J_iconst (pc := 65) dX9_digest_65 ?_
    refine J_istore_n (pc := 66) (L' := [some (.ref 0), some (.long (iL x10)), none, some (.int (iI 0)), none]) dX9_digest_66 rfl (by decide) rfl rfl ?_
    refine j_X9_digest_L67 ?_ 100000 x10 0 m6
    · intro x18 m19
      refine J_iconst (pc := 114) dX9_digest_114 ?_
      refine J_istore_n (pc := 115) (L' := [some (.ref 0), some (.long (iL x18)), none, some (.int (iI 0)), none]) dX9_digest_115 rfl (by decide) rfl rfl ?_
      refine j_X9_digest_L116 ?_ 100000 x18 0 m19
      · intro x27 m28
        refine J_iconst (pc := 163) dX9_digest_163 ?_
        refine J_istore_n (pc := 164) (L' := [some (.ref 0), some (.long (iL x27)), none, some (.int (iI 0)), none]) dX9_digest_164 rfl (by decide) rfl rfl ?_
        refine j_X9_digest_L165 ?_ 100000 x27 0 m28
        · intro x32 m33
          refine J_iconst (pc := 193) dX9_digest_193 ?_
          refine J_istore_n (pc := 194) (L' := [some (.ref 0), some (.long (iL x32)), none, some (.int (iI 0)), none]) dX9_digest_194 rfl (by decide) rfl rfl ?_
          refine j_X9_digest_L195 ?_ 100000 x32 0 m33
          · intro x38 m39
            refine J_iconst (pc := 218) dX9_digest_218 ?_
            refine J_istore_n (pc := 219) (L' := [some (.ref 0), some (.long (iL x38)), none, some (.int (iI 0)), none]) dX9_digest_219 rfl (by decide) rfl rfl ?_
            refine j_X9_digest_L220 100000 x38 0 m39
def f_X10_in (m0 : Mem) (p0 : Int) (p1 : Int) (p2 : Int) : Option (Int × Mem) := vl (if w32 (ycmp p0 p1) < 0 then 0 else (if 0 < w32 (ycmp p0 p2) then 0 else 1)) fun v1 => some (v1, m0)
set_option maxRecDepth 40000 in
theorem m_X10_in {l : Launch} {G : qG} (m0 : Mem) (p0 : Int) (p1 : Int) (p2 : Int) : qM l G 1 yX10_in cX10_in 6 (some .boolean) [.long (iL p0), .long (iL p1), .long (iL p2)] (lay m0) (lf eI (f_X10_in m0 p0 p1 p2)) := by
  refine qM_of (L := [some (.long (iL p0)), none, some (.long (iL p1)), none, some (.long (iL p2)), none]) (by decide +kernel) (Nat.le_of_ble_eq_true rfl) rfl ?_
  unfold f_X10_in
  refine J_lload_n (pc := 0) dX10_in_0 rfl rfl ?_
  refine J_lload_n (pc := 1) dX10_in_1 rfl rfl ?_
  refine J_lcmp (pc := 2) dX10_in_2 ?_
  refine T_vl (fun v1 ev1 => ?_)
  refine T_dia (j := 18) (v := v1) (LT := [some (.long (iL p0)), none, some (.long (iL p1)), none, some (.long (iL p2)), none]) (sT := []) ?_ (fun hj2 => ?_)
  · exact T_retZ (pc := 18) rfl (by rw [ev1]; repeat' (first | exact Or.inl rfl | exact Or.inr rfl | split)) dX10_in_18
  · refine T_if_lt_same (pc := 3) (tgt := 17) dX10_in_3 (by decide) (fun h3 => ?_) (fun h3 => ?_)
    · refine J_iconst (pc := 17) dX10_in_17 ?_
      exact T_top (by rw [ev1, if_pos h3]) hj2
    · refine J_lload_n (pc := 6) dX10_in_6 rfl rfl ?_
      refine J_lload (pc := 7) dX10_in_7 rfl ?_
      refine J_lcmp (pc := 9) dX10_in_9 ?_
      refine T_if_gt_same (pc := 10) (tgt := 17) dX10_in_10 (by decide) (fun h4 => ?_) (fun h4 => ?_)
      · refine J_iconst (pc := 17) dX10_in_17 ?_
        exact T_top (by rw [ev1, if_neg h3, if_pos h4]) hj2
      · refine J_iconst (pc := 13) dX10_in_13 ?_
        refine J_goto (pc := 14) (tgt := 18) dX10_in_14 (by decide) ?_
        exact T_top (by rw [ev1, if_neg h3, if_neg h4]) hj2
def f_X10_has (m0 : Mem) (p0 : Int) (p1 : Int) : Option (Int × Mem) := vl (if w32 (zand (zshr p0 p1) 1) = w32 1 then 1 else 0) fun v1 => some (v1, m0)
set_option maxRecDepth 40000 in
theorem m_X10_has {l : Launch} {G : qG} (m0 : Mem) (p0 : Int) (p1 : Int) : qM l G 1 yX10_has cX10_has 2 (some .boolean) [.int (iI p0), .int (iI p1)] (lay m0) (lf eI (f_X10_has m0 p0 p1)) := by
  refine qM_of (L := [some (.int (iI p0)), some (.int (iI p1))]) (by decide +kernel) (Nat.le_of_ble_eq_true rfl) rfl ?_
  unfold f_X10_has
  refine J_iload_n (pc := 0) dX10_has_0 rfl rfl ?_
  refine J_iload_n (pc := 1) dX10_has_1 rfl rfl ?_
  refine J_ishr (pc := 2) dX10_has_2 ?_
  refine J_iconst (pc := 3) dX10_has_3 ?_
  refine J_iand (pc := 4) dX10_has_4 ?_
  refine J_iconst (pc := 5) dX10_has_5 ?_
  refine T_vl (fun v1 ev1 => ?_)
  refine T_dia (j := 14) (v := v1) (LT := [some (.int (iI p0)), some (.int (iI p1))]) (sT := []) ?_ (fun hj2 => ?_)
  · exact T_retZ (pc := 14) rfl (by rw [ev1]; repeat' (first | exact Or.inl rfl | exact Or.inr rfl | split)) dX10_has_14
  · refine T_icmp_ne_same (pc := 6) (tgt := 13) dX10_has_6 (by decide) (fun h3 => ?_) (fun h3 => ?_)
    · refine J_iconst (pc := 13) dX10_has_13 ?_
      exact T_top (by rw [ev1, if_neg h3]) hj2
    · refine J_iconst (pc := 9) dX10_has_9 ?_
      refine J_goto (pc := 10) (tgt := 14) dX10_has_10 (by decide) ?_
      exact T_top (by rw [ev1, if_pos h3]) hj2
def f_X10_bits_L4 (p0 : Int) : Nat → Int → Int → Mem → Option (Int × Mem)
  | 0, _, _, _ => none
  | u + 1, i1, i2, mu4 => if w32 i2 < w32 8 then (vl (i1 + (zand (zshr p0 i2) 1)) fun x2 => f_X10_bits_L4 p0 u x2 (i2 + 1) mu4) else (some (i1, mu4))
set_option maxRecDepth 40000 in
theorem j_X10_bits_L4 {l : Launch} {G : qG} {p0 : Int} : ∀ (u : Nat) (i1 : Int) (i2 : Int) (mu4 : Mem), qJ l G yX10_bits cX10_bits 3 (some .int) 1 4 [some (.int (iI p0)), some (.int (iI i1)), some (.int (iI i2))] [] (lay mu4) (lf eI (f_X10_bits_L4 p0 u i1 i2 mu4)) := by
  intro u
  induction u with
  | zero => intro _ _ mu4; exact T_none
  | succ u ih =>
    intro i1 i2 mu4
    rw [f_X10_bits_L4]
    refine J_iload_n (pc := 4) dX10_bits_4 rfl rfl ?_
    refine J_bipush (pc := 5) dX10_bits_5 (by decide) (by decide) ?_
    refine T_icmp_ge (pc := 7) (tgt := 24) dX10_bits_7 (by decide) (fun h1 => ?_) (fun h1 => ?_)
    · refine J_iload_n (pc := 24) dX10_bits_24 rfl rfl ?_
      exact T_retI (pc := 25) rfl dX10_bits_25
    · refine J_iload_n (pc := 10) dX10_bits_10 rfl rfl ?_
      refine J_iload_n (pc := 11) dX10_bits_11 rfl rfl ?_
      refine J_iload_n (pc := 12) dX10_bits_12 rfl rfl ?_
      refine J_ishr (pc := 13) dX10_bits_13 ?_
      refine J_iconst (pc := 14) dX10_bits_14 ?_
      refine J_iand (pc := 15) dX10_bits_15 ?_
      refine J_iadd (pc := 16) dX10_bits_16 ?_
      refine T_vlI (pc := 17) (fun x2 ex2 => ?_)
      refine J_istore_n (pc := 17) (L' := [some (.int (iI p0)), some (.int (iI x2)), some (.int (iI i2))]) dX10_bits_17 rfl (by decide) rfl rfl ?_
      refine J_iinc (pc := 18) (L' := [some (.int (iI p0)), some (.int (iI x2)), some (.int (iI (i2 + 1)))]) dX10_bits_18 rfl (by decide) rfl rfl ?_
      refine J_goto (pc := 21) (tgt := 4) dX10_bits_21 (by decide) ?_
      exact ih x2 (i2 + 1) mu4
def f_X10_bits (m0 : Mem) (p0 : Int) : Option (Int × Mem) := f_X10_bits_L4 p0 100000 0 0 m0
set_option maxRecDepth 40000 in
theorem m_X10_bits {l : Launch} {G : qG} (m0 : Mem) (p0 : Int) : qM l G 1 yX10_bits cX10_bits 3 (some .int) [.int (iI p0)] (lay m0) (lf eI (f_X10_bits m0 p0)) := by
  refine qM_of (L := [some (.int (iI p0)), none, none]) (by decide +kernel) (Nat.le_of_ble_eq_true rfl) rfl ?_
  unfold f_X10_bits
  refine J_iconst (pc := 0) dX10_bits_0 ?_
  refine J_istore_n (pc := 1) (L' := [some (.int (iI p0)), some (.int (iI 0)), none]) dX10_bits_1 rfl (by decide) rfl rfl ?_
  refine J_iconst (pc := 2) dX10_bits_2 ?_
  refine J_istore_n (pc := 3) (L' := [some (.int (iI p0)), some (.int (iI 0)), some (.int (iI 0))]) dX10_bits_3 rfl (by decide) rfl rfl ?_
  refine j_X10_bits_L4 100000 0 0 m0
def f_X10_finds (m0 : Mem) (p0 : Int) : Option (Int × Mem) := vm (wr m0 67 13 p0) fun m1 => ck p0 6 (ck p0 6 (vm (wr m1 75 (w32 p0).toNat ((m1 75 (w32 p0).toNat) + 1)) fun m4 => some ((-3), m4)))
set_option maxRecDepth 40000 in
theorem m_X10_finds {l : Launch} {G : qG} (m0 : Mem) (p0 : Int) : qM l G 1 yX10_finds cX10_finds 2 (some .int) [.ref 67, .int (iI p0)] (lay m0) (lf eI (f_X10_finds m0 p0)) := by
  refine qM_of (L := [some (.ref 67), some (.int (iI p0))]) (by decide +kernel) (Nat.le_of_ble_eq_true rfl) rfl ?_
  unfold f_X10_finds
  refine J_aload_n (pc := 0) dX10_finds_0 rfl rfl rfl ?_
  refine J_iload_n (pc := 1) dX10_finds_1 rfl rfl ?_
  refine tp_X10_92 (pc := 2) rfl dX10_finds_2 ?_
  refine T_vm (fun m1 em1 => ?_)
  refine J_aload_n (pc := 5) dX10_finds_5 rfl rfl rfl ?_
  refine tg_X10_35 (pc := 6) rfl dX10_finds_6 ?_
  refine J_iload_n (pc := 9) dX10_finds_9 rfl rfl ?_
  refine J_dup2 (pc := 10) dX10_finds_10 rfl rfl ?_
  refine T_iaload (pc := 11) (by decide) rfl dX10_finds_11 (fun h2 => ?_)
  refine J_iconst (pc := 12) dX10_finds_12 ?_
  refine J_iadd (pc := 13) dX10_finds_13 ?_
  refine T_iastore (pc := 14) (by decide) rfl dX10_finds_14 (fun h3 => ?_)
  refine T_vm (fun m4 em4 => ?_)
  refine J_bipush (pc := 15) dX10_finds_15 (by decide) (by decide) ?_
  exact T_retI (pc := 17) rfl dX10_finds_17
def f_X10_isRow (m0 : Mem) (p0 : Int) : Option (Int × Mem) := bd (f_X10_in m0 (w32 p0) 0 5) fun r2 m1 => ckb r2 (some (r2, m1))
set_option maxRecDepth 40000 in
theorem m_X10_isRow {l : Launch} {G : qG} (m0 : Mem) (p0 : Int) : qM l G 2 yX10_isRow cX10_isRow 1 (some .boolean) [.int (iI p0)] (lay m0) (lf eI (f_X10_isRow m0 p0)) := by
  refine qM_of (L := [some (.int (iI p0))]) (by decide +kernel) (Nat.le_of_ble_eq_true rfl) rfl ?_
  unfold f_X10_isRow
  refine J_iload_n (pc := 0) dX10_isRow_0 rfl rfl ?_
  refine J_i2l (pc := 1) dX10_isRow_1 ?_
  refine J_lconst (pc := 2) (z := 0) dX10_isRow_2 (by decide) ?_
  refine J_ldc2 (pc := 3) (z := 5) dX10_isRow_3 lk_X10_96 (by decide) ?_
  refine T_callSI (pc := 6) (As := [.long (iL (w32 p0)), .long (iL 0), .long (iL 5)]) (st := []) ok_yX10_in lm_X10_98 dX10_isRow_6 (by decide) (Nat.le_of_ble_eq_true rfl) (m_X10_in m0 (w32 p0) 0 5) (fun r2 m1 em1 => ?_)
  exact T_retB (pc := 9) rfl dX10_isRow_9
def f_X10_isText (m0 : Mem) (p0 : Int) : Option (Int × Mem) := bd (f_X10_in m0 (w32 p0) 0 3) fun r2 m1 => ckb r2 (some (r2, m1))
set_option maxRecDepth 40000 in
theorem m_X10_isText {l : Launch} {G : qG} (m0 : Mem) (p0 : Int) : qM l G 2 yX10_isText cX10_isText 1 (some .boolean) [.int (iI p0)] (lay m0) (lf eI (f_X10_isText m0 p0)) := by
  refine qM_of (L := [some (.int (iI p0))]) (by decide +kernel) (Nat.le_of_ble_eq_true rfl) rfl ?_
  unfold f_X10_isText
  refine J_iload_n (pc := 0) dX10_isText_0 rfl rfl ?_
  refine J_i2l (pc := 1) dX10_isText_1 ?_
  refine J_lconst (pc := 2) (z := 0) dX10_isText_2 (by decide) ?_
  refine J_ldc2 (pc := 3) (z := 3) dX10_isText_3 lk_X10_102 (by decide) ?_
  refine T_callSI (pc := 6) (As := [.long (iL (w32 p0)), .long (iL 0), .long (iL 3)]) (st := []) ok_yX10_in lm_X10_98 dX10_isText_6 (by decide) (Nat.le_of_ble_eq_true rfl) (m_X10_in m0 (w32 p0) 0 3) (fun r2 m1 em1 => ?_)
  exact T_retB (pc := 9) rfl dX10_isText_9
def f_X10_isCape (m0 : Mem) (p0 : Int) : Option (Int × Mem) := bd (f_X10_in m0 (w32 p0) 0 (w32 ((m0 67 0) - 1))) fun r2 m1 => ckb r2 (some (r2, m1))
set_option maxRecDepth 40000 in
theorem m_X10_isCape {l : Launch} {G : qG} (m0 : Mem) (p0 : Int) : qM l G 2 yX10_isCape cX10_isCape 2 (some .boolean) [.ref 67, .int (iI p0)] (lay m0) (lf eI (f_X10_isCape m0 p0)) := by
  refine qM_of (L := [some (.ref 67), some (.int (iI p0))]) (by decide +kernel) (Nat.le_of_ble_eq_true rfl) rfl ?_
  unfold f_X10_isCape
  refine J_iload_n (pc := 0) dX10_isCape_0 rfl rfl ?_
  refine J_i2l (pc := 1) dX10_isCape_1 ?_
  refine J_lconst (pc := 2) (z := 0) dX10_isCape_2 (by decide) ?_
  refine J_aload_n (pc := 3) dX10_isCape_3 rfl rfl rfl ?_
  refine tg_X10_104 (pc := 4) rfl dX10_isCape_4 ?_
  refine J_iconst (pc := 7) dX10_isCape_7 ?_
  refine J_isub (pc := 8) dX10_isCape_8 ?_
  refine J_i2l (pc := 9) dX10_isCape_9 ?_
  refine T_callSI (pc := 10) (As := [.long (iL (w32 p0)), .long (iL 0), .long (iL (w32 ((m0 67 0) - 1)))]) (st := []) ok_yX10_in lm_X10_98 dX10_isCape_10 (by decide) (Nat.le_of_ble_eq_true rfl) (m_X10_in m0 (w32 p0) 0 (w32 ((m0 67 0) - 1))) (fun r2 m1 em1 => ?_)
  exact T_retB (pc := 13) rfl dX10_isCape_13
def f_X10_isValley (m0 : Mem) (p0 : Int) : Option (Int × Mem) := bd (f_X10_in m0 (w32 p0) 0 (w32 ((m0 67 1) - 1))) fun r2 m1 => ckb r2 (some (r2, m1))
set_option maxRecDepth 40000 in
theorem m_X10_isValley {l : Launch} {G : qG} (m0 : Mem) (p0 : Int) : qM l G 2 yX10_isValley cX10_isValley 2 (some .boolean) [.ref 67, .int (iI p0)] (lay m0) (lf eI (f_X10_isValley m0 p0)) := by
  refine qM_of (L := [some (.ref 67), some (.int (iI p0))]) (by decide +kernel) (Nat.le_of_ble_eq_true rfl) rfl ?_
  unfold f_X10_isValley
  refine J_iload_n (pc := 0) dX10_isValley_0 rfl rfl ?_
  refine J_i2l (pc := 1) dX10_isValley_1 ?_
  refine J_lconst (pc := 2) (z := 0) dX10_isValley_2 (by decide) ?_
  refine J_aload_n (pc := 3) dX10_isValley_3 rfl rfl rfl ?_
  refine tg_X10_107 (pc := 4) rfl dX10_isValley_4 ?_
  refine J_iconst (pc := 7) dX10_isValley_7 ?_
  refine J_isub (pc := 8) dX10_isValley_8 ?_
  refine J_i2l (pc := 9) dX10_isValley_9 ?_
  refine T_callSI (pc := 10) (As := [.long (iL (w32 p0)), .long (iL 0), .long (iL (w32 ((m0 67 1) - 1)))]) (st := []) ok_yX10_in lm_X10_98 dX10_isValley_10 (by decide) (Nat.le_of_ble_eq_true rfl) (m_X10_in m0 (w32 p0) 0 (w32 ((m0 67 1) - 1))) (fun r2 m1 em1 => ?_)
  exact T_retB (pc := 13) rfl dX10_isValley_13
def f_X10_isSet (m0 : Mem) (p0 : Int) : Option (Int × Mem) := bd (f_X10_in m0 (w32 p0) 0 (w32 ((zshl 1 (m0 67 0)) - 1))) fun r2 m1 => ckb r2 (some (r2, m1))
set_option maxRecDepth 40000 in
theorem m_X10_isSet {l : Launch} {G : qG} (m0 : Mem) (p0 : Int) : qM l G 2 yX10_isSet cX10_isSet 2 (some .boolean) [.ref 67, .int (iI p0)] (lay m0) (lf eI (f_X10_isSet m0 p0)) := by
  refine qM_of (L := [some (.ref 67), some (.int (iI p0))]) (by decide +kernel) (Nat.le_of_ble_eq_true rfl) rfl ?_
  unfold f_X10_isSet
  refine J_iload_n (pc := 0) dX10_isSet_0 rfl rfl ?_
  refine J_i2l (pc := 1) dX10_isSet_1 ?_
  refine J_lconst (pc := 2) (z := 0) dX10_isSet_2 (by decide) ?_
  refine J_iconst (pc := 3) dX10_isSet_3 ?_
  refine J_aload_n (pc := 4) dX10_isSet_4 rfl rfl rfl ?_
  refine tg_X10_104 (pc := 5) rfl dX10_isSet_5 ?_
  refine J_ishl (pc := 8) dX10_isSet_8 ?_
  refine J_iconst (pc := 9) dX10_isSet_9 ?_
  refine J_isub (pc := 10) dX10_isSet_10 ?_
  refine J_i2l (pc := 11) dX10_isSet_11 ?_
  refine T_callSI (pc := 12) (As := [.long (iL (w32 p0)), .long (iL 0), .long (iL (w32 ((zshl 1 (m0 67 0)) - 1)))]) (st := []) ok_yX10_in lm_X10_98 dX10_isSet_12 (by decide) (Nat.le_of_ble_eq_true rfl) (m_X10_in m0 (w32 p0) 0 (w32 ((zshl 1 (m0 67 0)) - 1))) (fun r2 m1 em1 => ?_)
  exact T_retB (pc := 15) rfl dX10_isSet_15
def f_X10_row_L34 (p0 : Int) (p1 : Int) : Nat → Int → Mem → Option (Int × Mem)
  | 0, _, _ => none
  | u + 1, i3, mu34 => if w32 i3 < w32 40 then (ck ((40 * p0) + i3) 240 (vm (wr mu34 77 (w32 ((40 * p0) + i3)).toNat 0) fun m10 => f_X10_row_L34 p0 p1 u (i3 + 1) m10)) else (some (p1, mu34))
set_option maxRecDepth 40000 in
theorem j_X10_row_L34 {l : Launch} {G : qG} {p0 : Int} {p1 : Int} : ∀ (u : Nat) (i3 : Int) (mu34 : Mem), qJ l G yX10_row cX10_row 4 (some .int) 3 34 [some (.ref 67), some (.int (iI p0)), some (.int (iI p1)), some (.int (iI i3))] [] (lay mu34) (lf eI (f_X10_row_L34 p0 p1 u i3 mu34)) := by
  intro u
  induction u with
  | zero => intro _ mu34; exact T_none
  | succ u ih =>
    intro i3 mu34
    rw [f_X10_row_L34]
    refine J_iload_n (pc := 34) dX10_row_34 rfl rfl ?_
    refine J_bipush (pc := 35) dX10_row_35 (by decide) (by decide) ?_
    refine T_icmp_ge (pc := 37) (tgt := 58) dX10_row_37 (by decide) (fun h8 => ?_) (fun h8 => ?_)
    · refine J_iload_n (pc := 58) dX10_row_58 rfl rfl ?_
      exact T_retI (pc := 59) rfl dX10_row_59
    · refine J_aload_n (pc := 40) dX10_row_40 rfl rfl rfl ?_
      refine tg_X10_41 (pc := 41) rfl dX10_row_41 ?_
      refine J_bipush (pc := 44) dX10_row_44 (by decide) (by decide) ?_
      refine J_iload_n (pc := 46) dX10_row_46 rfl rfl ?_
      refine J_imul (pc := 47) dX10_row_47 ?_
      refine J_iload_n (pc := 48) dX10_row_48 rfl rfl ?_
      refine J_iadd (pc := 49) dX10_row_49 ?_
      refine J_iconst (pc := 50) dX10_row_50 ?_
      refine T_iastore (pc := 51) (by decide) rfl dX10_row_51 (fun h9 => ?_)
      refine T_vm (fun m10 em10 => ?_)
      refine J_iinc (pc := 52) (L' := [some (.ref 67), some (.int (iI p0)), some (.int (iI p1)), some (.int (iI (i3 + 1)))]) dX10_row_52 rfl (by decide) rfl rfl ?_
      refine J_goto (pc := 55) (tgt := 34) dX10_row_55 (by decide) ?_
      exact ih (i3 + 1) m10
def f_X10_row (m0 : Mem) (p0 : Int) (p1 : Int) : Option (Int × Mem) := bd (f_X10_isRow m0 p0) fun r2 m1 => if w32 r2 = 0 then (some ((-1), m1)) else (if w32 40 < w32 p1 then (some ((-1), m1)) else (if w32 p1 < 0 then (bd (f_X10_finds m1 5) fun r12 m11 => some (r12, m11)) else (ck p0 6 (vm (wr m1 76 (w32 p0).toNat p1) fun m7 => f_X10_row_L34 p0 p1 100000 0 m7))))
set_option maxRecDepth 40000 in
theorem m_X10_row {l : Launch} {G : qG} (m0 : Mem) (p0 : Int) (p1 : Int) : qM l G 3 yX10_row cX10_row 4 (some .int) [.ref 67, .int (iI p0), .int (iI p1)] (lay m0) (lf eI (f_X10_row m0 p0 p1)) := by
  refine qM_of (L := [some (.ref 67), some (.int (iI p0)), some (.int (iI p1)), none]) (by decide +kernel) (Nat.le_of_ble_eq_true rfl) rfl ?_
  unfold f_X10_row
  refine J_iload_n (pc := 0) dX10_row_0 rfl rfl ?_
  refine T_callSI (pc := 1) (As := [.int (iI p0)]) (st := []) ok_yX10_isRow lm_X10_110 dX10_row_1 (by decide) (Nat.le_of_ble_eq_true rfl) (m_X10_isRow m0 p0) (fun r2 m1 em1 => ?_)
  refine T_if_eq (pc := 4) (tgt := 13) dX10_row_4 (by decide) (fun h3 => ?_) (fun h3 => ?_)
  · refine J_iconst (pc := 13) dX10_row_13 ?_
    exact T_retI (pc := 14) rfl dX10_row_14
  · refine J_iload_n (pc := 7) dX10_row_7 rfl rfl ?_
    refine J_bipush (pc := 8) dX10_row_8 (by decide) (by decide) ?_
    refine T_icmp_le (pc := 10) (tgt := 15) dX10_row_10 (by decide) (fun h4 => ?_) (fun h4 => ?_)
    · refine J_iload_n (pc := 15) dX10_row_15 rfl rfl ?_
      refine T_if_ge (pc := 16) (tgt := 25) dX10_row_16 (by decide) (fun h5 => ?_) (fun h5 => ?_)
      · refine J_aload_n (pc := 25) dX10_row_25 rfl rfl rfl ?_
        refine tg_X10_38 (pc := 26) rfl dX10_row_26 ?_
        refine J_iload_n (pc := 29) dX10_row_29 rfl rfl ?_
        refine J_iload_n (pc := 30) dX10_row_30 rfl rfl ?_
        refine T_iastore (pc := 31) (by decide) rfl dX10_row_31 (fun h6 => ?_)
        refine T_vm (fun m7 em7 => ?_)
        refine J_iconst (pc := 32) dX10_row_32 ?_
        refine J_istore_n (pc := 33) (L' := [some (.ref 67), some (.int (iI p0)), some (.int (iI p1)), some (.int (iI 0))]) dX10_row_33 rfl (by decide) rfl rfl ?_
        refine j_X10_row_L34 100000 0 m7
      · refine J_aload_n (pc := 19) dX10_row_19 rfl rfl rfl ?_
        refine J_iconst (pc := 20) dX10_row_20 ?_
        refine T_callVI (pc := 21) (As := [.int (iI 5)]) (k := 67) (st := []) ok_yX10_finds lm_X10_114 dX10_row_21 (by decide) rfl rfl (by decide) (Nat.le_of_ble_eq_true rfl) (m_X10_finds m1 5) (fun r12 m11 em11 => ?_)
        exact T_retI (pc := 24) rfl dX10_row_24
    · refine J_iconst (pc := 13) dX10_row_13 ?_
      exact T_retI (pc := 14) rfl dX10_row_14
def f_X10_lay (m0 : Mem) (p0 : Int) (p1 : Int) (p2 : Int) : Option (Int × Mem) := bd (f_X10_isRow m0 p0) fun r2 m1 => if w32 r2 = 0 then (some ((-1), m1)) else (ck p0 6 (if w32 (m1 76 (w32 p0).toNat) < 0 then (bd (f_X10_finds m1 1) fun r17 m16 => some (r17, m16)) else (ck p0 6 (bd (f_X10_in m1 (w32 p1) 0 (w32 ((m1 76 (w32 p0).toNat) - 1))) fun r8 m7 => if w32 r8 = 0 then (bd (f_X10_finds m7 2) fun r15 m14 => some (r15, m14)) else (ck ((40 * p0) + p1) 240 (vm (wr m7 67 10 (m7 77 (w32 ((40 * p0) + p1)).toNat)) fun m11 => ck ((40 * p0) + p1) 240 (vm (wr m11 77 (w32 ((40 * p0) + p1)).toNat p2) fun m13 => some (1, m13))))))))
set_option maxRecDepth 40000 in
theorem m_X10_lay {l : Launch} {G : qG} (m0 : Mem) (p0 : Int) (p1 : Int) (p2 : Int) : qM l G 3 yX10_lay cX10_lay 4 (some .int) [.ref 67, .int (iI p0), .int (iI p1), .int (iI p2)] (lay m0) (lf eI (f_X10_lay m0 p0 p1 p2)) := by
  refine qM_of (L := [some (.ref 67), some (.int (iI p0)), some (.int (iI p1)), some (.int (iI p2))]) (by decide +kernel) (Nat.le_of_ble_eq_true rfl) rfl ?_
  unfold f_X10_lay
  refine J_iload_n (pc := 0) dX10_lay_0 rfl rfl ?_
  refine T_callSI (pc := 1) (As := [.int (iI p0)]) (st := []) ok_yX10_isRow lm_X10_110 dX10_lay_1 (by decide) (Nat.le_of_ble_eq_true rfl) (m_X10_isRow m0 p0) (fun r2 m1 em1 => ?_)
  refine T_if_ne (pc := 4) (tgt := 9) dX10_lay_4 (by decide) (fun h3 => ?_) (fun h3 => ?_)
  · refine J_aload_n (pc := 9) dX10_lay_9 rfl rfl rfl ?_
    refine tg_X10_38 (pc := 10) rfl dX10_lay_10 ?_
    refine J_iload_n (pc := 13) dX10_lay_13 rfl rfl ?_
    refine T_iaload (pc := 14) (by decide) rfl dX10_lay_14 (fun h4 => ?_)
    refine T_if_ge (pc := 15) (tgt := 24) dX10_lay_15 (by decide) (fun h5 => ?_) (fun h5 => ?_)
    · refine J_iload_n (pc := 24) dX10_lay_24 rfl rfl ?_
      refine J_i2l (pc := 25) dX10_lay_25 ?_
      refine J_lconst (pc := 26) (z := 0) dX10_lay_26 (by decide) ?_
      refine J_aload_n (pc := 27) dX10_lay_27 rfl rfl rfl ?_
      refine tg_X10_38 (pc := 28) rfl dX10_lay_28 ?_
      refine J_iload_n (pc := 31) dX10_lay_31 rfl rfl ?_
      refine T_iaload (pc := 32) (by decide) rfl dX10_lay_32 (fun h6 => ?_)
      refine J_iconst (pc := 33) dX10_lay_33 ?_
      refine J_isub (pc := 34) dX10_lay_34 ?_
      refine J_i2l (pc := 35) dX10_lay_35 ?_
      refine T_callSI (pc := 36) (As := [.long (iL (w32 p1)), .long (iL 0), .long (iL (w32 ((m1 76 (w32 p0).toNat) - 1)))]) (st := []) ok_yX10_in lm_X10_98 dX10_lay_36 (by decide) (Nat.le_of_ble_eq_true rfl) (m_X10_in m1 (w32 p1) 0 (w32 ((m1 76 (w32 p0).toNat) - 1))) (fun r8 m7 em7 => ?_)
      refine T_if_ne (pc := 39) (tgt := 48) dX10_lay_39 (by decide) (fun h9 => ?_) (fun h9 => ?_)
      · refine J_aload_n (pc := 48) dX10_lay_48 rfl rfl rfl ?_
        refine J_aload_n (pc := 49) dX10_lay_49 rfl rfl rfl ?_
        refine tg_X10_41 (pc := 50) rfl dX10_lay_50 ?_
        refine J_bipush (pc := 53) dX10_lay_53 (by decide) (by decide) ?_
        refine J_iload_n (pc := 55) dX10_lay_55 rfl rfl ?_
        refine J_imul (pc := 56) dX10_lay_56 ?_
        refine J_iload_n (pc := 57) dX10_lay_57 rfl rfl ?_
        refine J_iadd (pc := 58) dX10_lay_58 ?_
        refine T_iaload (pc := 59) (by decide) rfl dX10_lay_59 (fun h10 => ?_)
        refine tp_X10_118 (pc := 60) rfl dX10_lay_60 ?_
        refine T_vm (fun m11 em11 => ?_)
        refine J_aload_n (pc := 63) dX10_lay_63 rfl rfl rfl ?_
        refine tg_X10_41 (pc := 64) rfl dX10_lay_64 ?_
        refine J_bipush (pc := 67) dX10_lay_67 (by decide) (by decide) ?_
        refine J_iload_n (pc := 69) dX10_lay_69 rfl rfl ?_
        refine J_imul (pc := 70) dX10_lay_70 ?_
        refine J_iload_n (pc := 71) dX10_lay_71 rfl rfl ?_
        refine J_iadd (pc := 72) dX10_lay_72 ?_
        refine J_iload_n (pc := 73) dX10_lay_73 rfl rfl ?_
        refine T_iastore (pc := 74) (by decide) rfl dX10_lay_74 (fun h12 => ?_)
        refine T_vm (fun m13 em13 => ?_)
        refine J_iconst (pc := 75) dX10_lay_75 ?_
        exact T_retI (pc := 76) rfl dX10_lay_76
      · refine J_aload_n (pc := 42) dX10_lay_42 rfl rfl rfl ?_
        refine J_iconst (pc := 43) dX10_lay_43 ?_
        refine T_callVI (pc := 44) (As := [.int (iI 2)]) (k := 67) (st := []) ok_yX10_finds lm_X10_114 dX10_lay_44 (by decide) rfl rfl (by decide) (Nat.le_of_ble_eq_true rfl) (m_X10_finds m7 2) (fun r15 m14 em14 => ?_)
        exact T_retI (pc := 47) rfl dX10_lay_47
    · refine J_aload_n (pc := 18) dX10_lay_18 rfl rfl rfl ?_
      refine J_iconst (pc := 19) dX10_lay_19 ?_
      refine T_callVI (pc := 20) (As := [.int (iI 1)]) (k := 67) (st := []) ok_yX10_finds lm_X10_114 dX10_lay_20 (by decide) rfl rfl (by decide) (Nat.le_of_ble_eq_true rfl) (m_X10_finds m1 1) (fun r17 m16 em16 => ?_)
      exact T_retI (pc := 23) rfl dX10_lay_23
  · refine J_iconst (pc := 7) dX10_lay_7 ?_
    exact T_retI (pc := 8) rfl dX10_lay_8
def f_X10_at (m0 : Mem) (p0 : Int) (p1 : Int) : Option (Int × Mem) := bd (f_X10_isRow m0 p0) fun r2 m1 => if w32 r2 = 0 then (some ((-1), m1)) else (ck p0 6 (if w32 (m1 76 (w32 p0).toNat) < 0 then (bd (f_X10_finds m1 1) fun r15 m14 => some (r15, m14)) else (ck p0 6 (bd (f_X10_in m1 (w32 p1) 0 (w32 ((m1 76 (w32 p0).toNat) - 1))) fun r8 m7 => if w32 r8 = 0 then (bd (f_X10_finds m7 2) fun r13 m12 => some (r13, m12)) else (ck ((40 * p0) + p1) 240 (vm (wr m7 67 10 (m7 77 (w32 ((40 * p0) + p1)).toNat)) fun m11 => some (1, m11)))))))
set_option maxRecDepth 40000 in
theorem m_X10_at {l : Launch} {G : qG} (m0 : Mem) (p0 : Int) (p1 : Int) : qM l G 3 yX10_at cX10_at 3 (some .int) [.ref 67, .int (iI p0), .int (iI p1)] (lay m0) (lf eI (f_X10_at m0 p0 p1)) := by
  refine qM_of (L := [some (.ref 67), some (.int (iI p0)), some (.int (iI p1))]) (by decide +kernel) (Nat.le_of_ble_eq_true rfl) rfl ?_
  unfold f_X10_at
  refine J_iload_n (pc := 0) dX10_at_0 rfl rfl ?_
  refine T_callSI (pc := 1) (As := [.int (iI p0)]) (st := []) ok_yX10_isRow lm_X10_110 dX10_at_1 (by decide) (Nat.le_of_ble_eq_true rfl) (m_X10_isRow m0 p0) (fun r2 m1 em1 => ?_)
  refine T_if_ne (pc := 4) (tgt := 9) dX10_at_4 (by decide) (fun h3 => ?_) (fun h3 => ?_)
  · refine J_aload_n (pc := 9) dX10_at_9 rfl rfl rfl ?_
    refine tg_X10_38 (pc := 10) rfl dX10_at_10 ?_
    refine J_iload_n (pc := 13) dX10_at_13 rfl rfl ?_
    refine T_iaload (pc := 14) (by decide) rfl dX10_at_14 (fun h4 => ?_)
    refine T_if_ge (pc := 15) (tgt := 24) dX10_at_15 (by decide) (fun h5 => ?_) (fun h5 => ?_)
    · refine J_iload_n (pc := 24) dX10_at_24 rfl rfl ?_
      refine J_i2l (pc := 25) dX10_at_25 ?_
      refine J_lconst (pc := 26) (z := 0) dX10_at_26 (by decide) ?_
      refine J_aload_n (pc := 27) dX10_at_27 rfl rfl rfl ?_
      refine tg_X10_38 (pc := 28) rfl dX10_at_28 ?_
      refine J_iload_n (pc := 31) dX10_at_31 rfl rfl ?_
      refine T_iaload (pc := 32) (by decide) rfl dX10_at_32 (fun h6 => ?_)
      refine J_iconst (pc := 33) dX10_at_33 ?_
      refine J_isub (pc := 34) dX10_at_34 ?_
      refine J_i2l (pc := 35) dX10_at_35 ?_
      refine T_callSI (pc := 36) (As := [.long (iL (w32 p1)), .long (iL 0), .long (iL (w32 ((m1 76 (w32 p0).toNat) - 1)))]) (st := []) ok_yX10_in lm_X10_98 dX10_at_36 (by decide) (Nat.le_of_ble_eq_true rfl) (m_X10_in m1 (w32 p1) 0 (w32 ((m1 76 (w32 p0).toNat) - 1))) (fun r8 m7 em7 => ?_)
      refine T_if_ne (pc := 39) (tgt := 48) dX10_at_39 (by decide) (fun h9 => ?_) (fun h9 => ?_)
      · refine J_aload_n (pc := 48) dX10_at_48 rfl rfl rfl ?_
        refine J_aload_n (pc := 49) dX10_at_49 rfl rfl rfl ?_
        refine tg_X10_41 (pc := 50) rfl dX10_at_50 ?_
        refine J_bipush (pc := 53) dX10_at_53 (by decide) (by decide) ?_
        refine J_iload_n (pc := 55) dX10_at_55 rfl rfl ?_
        refine J_imul (pc := 56) dX10_at_56 ?_
        refine J_iload_n (pc := 57) dX10_at_57 rfl rfl ?_
        refine J_iadd (pc := 58) dX10_at_58 ?_
        refine T_iaload (pc := 59) (by decide) rfl dX10_at_59 (fun h10 => ?_)
        refine tp_X10_118 (pc := 60) rfl dX10_at_60 ?_
        refine T_vm (fun m11 em11 => ?_)
        refine J_iconst (pc := 63) dX10_at_63 ?_
        exact T_retI (pc := 64) rfl dX10_at_64
      · refine J_aload_n (pc := 42) dX10_at_42 rfl rfl rfl ?_
        refine J_iconst (pc := 43) dX10_at_43 ?_
        refine T_callVI (pc := 44) (As := [.int (iI 2)]) (k := 67) (st := []) ok_yX10_finds lm_X10_114 dX10_at_44 (by decide) rfl rfl (by decide) (Nat.le_of_ble_eq_true rfl) (m_X10_finds m7 2) (fun r13 m12 em12 => ?_)
        exact T_retI (pc := 47) rfl dX10_at_47
    · refine J_aload_n (pc := 18) dX10_at_18 rfl rfl rfl ?_
      refine J_iconst (pc := 19) dX10_at_19 ?_
      refine T_callVI (pc := 20) (As := [.int (iI 1)]) (k := 67) (st := []) ok_yX10_finds lm_X10_114 dX10_at_20 (by decide) rfl rfl (by decide) (Nat.le_of_ble_eq_true rfl) (m_X10_finds m1 1) (fun r15 m14 em14 => ?_)
      exact T_retI (pc := 23) rfl dX10_at_23
  · refine J_iconst (pc := 7) dX10_at_7 ?_
    exact T_retI (pc := 8) rfl dX10_at_8
def f_X10_tear (m0 : Mem) (p0 : Int) : Option (Int × Mem) := bd (f_X10_isRow m0 p0) fun r2 m1 => if w32 r2 = 0 then (some ((-1), m1)) else (ck p0 6 (if w32 (m1 76 (w32 p0).toNat) < 0 then (bd (f_X10_finds m1 1) fun r9 m8 => some (r9, m8)) else (ck p0 6 (vm (wr m1 76 (w32 p0).toNat (-1)) fun m7 => some (1, m7)))))
set_option maxRecDepth 40000 in
theorem m_X10_tear {l : Launch} {G : qG} (m0 : Mem) (p0 : Int) : qM l G 3 yX10_tear cX10_tear 2 (some .int) [.ref 67, .int (iI p0)] (lay m0) (lf eI (f_X10_tear m0 p0)) := by
  refine qM_of (L := [some (.ref 67), some (.int (iI p0))]) (by decide +kernel) (Nat.le_of_ble_eq_true rfl) rfl ?_
  unfold f_X10_tear
  refine J_iload_n (pc := 0) dX10_tear_0 rfl rfl ?_
  refine T_callSI (pc := 1) (As := [.int (iI p0)]) (st := []) ok_yX10_isRow lm_X10_110 dX10_tear_1 (by decide) (Nat.le_of_ble_eq_true rfl) (m_X10_isRow m0 p0) (fun r2 m1 em1 => ?_)
  refine T_if_ne (pc := 4) (tgt := 9) dX10_tear_4 (by decide) (fun h3 => ?_) (fun h3 => ?_)
  · refine J_aload_n (pc := 9) dX10_tear_9 rfl rfl rfl ?_
    refine tg_X10_38 (pc := 10) rfl dX10_tear_10 ?_
    refine J_iload_n (pc := 13) dX10_tear_13 rfl rfl ?_
    refine T_iaload (pc := 14) (by decide) rfl dX10_tear_14 (fun h4 => ?_)
    refine T_if_ge (pc := 15) (tgt := 24) dX10_tear_15 (by decide) (fun h5 => ?_) (fun h5 => ?_)
    · refine J_aload_n (pc := 24) dX10_tear_24 rfl rfl rfl ?_
      refine tg_X10_38 (pc := 25) rfl dX10_tear_25 ?_
      refine J_iload_n (pc := 28) dX10_tear_28 rfl rfl ?_
      refine J_iconst (pc := 29) dX10_tear_29 ?_
      refine T_iastore (pc := 30) (by decide) rfl dX10_tear_30 (fun h6 => ?_)
      refine T_vm (fun m7 em7 => ?_)
      refine J_iconst (pc := 31) dX10_tear_31 ?_
      exact T_retI (pc := 32) rfl dX10_tear_32
    · refine J_aload_n (pc := 18) dX10_tear_18 rfl rfl rfl ?_
      refine J_iconst (pc := 19) dX10_tear_19 ?_
      refine T_callVI (pc := 20) (As := [.int (iI 1)]) (k := 67) (st := []) ok_yX10_finds lm_X10_114 dX10_tear_20 (by decide) rfl rfl (by decide) (Nat.le_of_ble_eq_true rfl) (m_X10_finds m1 1) (fun r9 m8 em8 => ?_)
      exact T_retI (pc := 23) rfl dX10_tear_23
  · refine J_iconst (pc := 7) dX10_tear_7 ?_
    exact T_retI (pc := 8) rfl dX10_tear_8
def f_X10_copy_L96 (K : Mem → Option (Int × Mem)) (p0 : Int) (p1 : Int) (p4 : Int) : Nat → Int → Mem → Option (Int × Mem)
  | 0, _, _ => none
  | u + 1, i6, mu96 => if w32 i6 < w32 p4 then (ck (((40 * p0) + p1) + i6) 240 (ck i6 40 (vm (wr mu96 84 (w32 i6).toNat (mu96 77 (w32 (((40 * p0) + p1) + i6)).toNat)) fun m29 => f_X10_copy_L96 K p0 p1 p4 u (i6 + 1) m29))) else (K mu96)
set_option maxRecDepth 40000 in
theorem j_X10_copy_L96 {l : Launch} {G : qG} {K : Mem → Option (Int × Mem)} {p0 : Int} {p1 : Int} {p4 : Int} {p2 : Int} {p3 : Int} (hK : ∀ (m : Mem), qJ l G yX10_copy cX10_copy 7 (some .int) 3 130 [some (.ref 67), none, none, some (.int (iI p2)), some (.int (iI p3)), some (.int (iI p4)), none] [] (lay m) (lf eI (K m))) : ∀ (u : Nat) (i6 : Int) (mu96 : Mem), qJ l G yX10_copy cX10_copy 7 (some .int) 3 96 [some (.ref 67), some (.int (iI p0)), some (.int (iI p1)), some (.int (iI p2)), some (.int (iI p3)), some (.int (iI p4)), some (.int (iI i6))] [] (lay mu96) (lf eI (f_X10_copy_L96 K p0 p1 p4 u i6 mu96)) := by
  intro u
  induction u with
  | zero => intro _ mu96; exact T_none
  | succ u ih =>
    intro i6 mu96
    rw [f_X10_copy_L96]
    refine J_iload (pc := 96) dX10_copy_96 rfl ?_
    refine J_iload (pc := 98) dX10_copy_98 rfl ?_
    refine T_icmp_ge (pc := 100) (tgt := 130) dX10_copy_100 (by decide) (fun h26 => ?_) (fun h26 => ?_)
    · refine J_dropf (pc := 130) (L' := [some (.ref 67), none, none, some (.int (iI p2)), some (.int (iI p3)), some (.int (iI p4)), none]) [true, false, false, true, true, true, false] rfl ?_
      exact hK  mu96
    · refine J_aload_n (pc := 103) dX10_copy_103 rfl rfl rfl ?_
      refine tg_X10_62 (pc := 104) rfl dX10_copy_104 ?_
      refine J_iload (pc := 107) dX10_copy_107 rfl ?_
      refine J_aload_n (pc := 109) dX10_copy_109 rfl rfl rfl ?_
      refine tg_X10_41 (pc := 110) rfl dX10_copy_110 ?_
      refine J_bipush (pc := 113) dX10_copy_113 (by decide) (by decide) ?_
      refine J_iload_n (pc := 115) dX10_copy_115 rfl rfl ?_
      refine J_imul (pc := 116) dX10_copy_116 ?_
      refine J_iload_n (pc := 117) dX10_copy_117 rfl rfl ?_
      refine J_iadd (pc := 118) dX10_copy_118 ?_
      refine J_iload (pc := 119) dX10_copy_119 rfl ?_
      refine J_iadd (pc := 121) dX10_copy_121 ?_
      refine T_iaload (pc := 122) (by decide) rfl dX10_copy_122 (fun h27 => ?_)
      refine T_iastore (pc := 123) (by decide) rfl dX10_copy_123 (fun h28 => ?_)
      refine T_vm (fun m29 em29 => ?_)
      refine J_iinc (pc := 124) (L' := [some (.ref 67), some (.int (iI p0)), some (.int (iI p1)), some (.int (iI p2)), some (.int (iI p3)), some (.int (iI p4)), some (.int (iI (i6 + 1)))]) dX10_copy_124 rfl (by decide) rfl rfl ?_
      refine J_goto (pc := 127) (tgt := 96) dX10_copy_127 (by decide) ?_
      exact ih (i6 + 1) m29
def f_X10_copy_L133 (p2 : Int) (p3 : Int) (p4 : Int) : Nat → Int → Mem → Option (Int × Mem)
  | 0, _, _ => none
  | u + 1, i6, mu133 => if w32 i6 < w32 p4 then (ck i6 40 (ck (((40 * p2) + p3) + i6) 240 (vm (wr mu133 77 (w32 (((40 * p2) + p3) + i6)).toNat (mu133 84 (w32 i6).toNat)) fun m34 => f_X10_copy_L133 p2 p3 p4 u (i6 + 1) m34))) else (some (1, mu133))
set_option maxRecDepth 40000 in
theorem j_X10_copy_L133 {l : Launch} {G : qG} {p2 : Int} {p3 : Int} {p4 : Int} : ∀ (u : Nat) (i6 : Int) (mu133 : Mem), qJ l G yX10_copy cX10_copy 7 (some .int) 3 133 [some (.ref 67), none, none, some (.int (iI p2)), some (.int (iI p3)), some (.int (iI p4)), some (.int (iI i6))] [] (lay mu133) (lf eI (f_X10_copy_L133 p2 p3 p4 u i6 mu133)) := by
  intro u
  induction u with
  | zero => intro _ mu133; exact T_none
  | succ u ih =>
    intro i6 mu133
    rw [f_X10_copy_L133]
    refine J_iload (pc := 133) dX10_copy_133 rfl ?_
    refine J_iload (pc := 135) dX10_copy_135 rfl ?_
    refine T_icmp_ge (pc := 137) (tgt := 168) dX10_copy_137 (by decide) (fun h31 => ?_) (fun h31 => ?_)
    · refine J_iconst (pc := 168) dX10_copy_168 ?_
      exact T_retI (pc := 169) rfl dX10_copy_169
    · refine J_aload_n (pc := 140) dX10_copy_140 rfl rfl rfl ?_
      refine tg_X10_41 (pc := 141) rfl dX10_copy_141 ?_
      refine J_bipush (pc := 144) dX10_copy_144 (by decide) (by decide) ?_
      refine J_iload_n (pc := 146) dX10_copy_146 rfl rfl ?_
      refine J_imul (pc := 147) dX10_copy_147 ?_
      refine J_iload (pc := 148) dX10_copy_148 rfl ?_
      refine J_iadd (pc := 150) dX10_copy_150 ?_
      refine J_iload (pc := 151) dX10_copy_151 rfl ?_
      refine J_iadd (pc := 153) dX10_copy_153 ?_
      refine J_aload_n (pc := 154) dX10_copy_154 rfl rfl rfl ?_
      refine tg_X10_62 (pc := 155) rfl dX10_copy_155 ?_
      refine J_iload (pc := 158) dX10_copy_158 rfl ?_
      refine T_iaload (pc := 160) (by decide) rfl dX10_copy_160 (fun h32 => ?_)
      refine T_iastore (pc := 161) (by decide) rfl dX10_copy_161 (fun h33 => ?_)
      refine T_vm (fun m34 em34 => ?_)
      refine J_iinc (pc := 162) (L' := [some (.ref 67), none, none, some (.int (iI p2)), some (.int (iI p3)), some (.int (iI p4)), some (.int (iI (i6 + 1)))]) dX10_copy_162 rfl (by decide) rfl rfl ?_
      refine J_goto (pc := 165) (tgt := 133) dX10_copy_165 (by decide) ?_
      exact ih (i6 + 1) m34
def f_X10_copy (m0 : Mem) (p0 : Int) (p1 : Int) (p2 : Int) (p3 : Int) (p4 : Int) : Option (Int × Mem) := bd (f_X10_isRow m0 p0) fun r2 m1 => if w32 r2 = 0 then (some ((-1), m1)) else (bd (f_X10_isRow m1 p2) fun r5 m4 => if w32 r5 = 0 then (some ((-1), m4)) else (if w32 p4 < 0 then (bd (f_X10_finds m4 5) fun r36 m35 => some (r36, m35)) else (ck p0 6 (jn (κ := Mem → Option (Int × Mem)) (fun m10 => bd (f_X10_finds m10 1) fun r12 m11 => some (r12, m11)) fun k9 => if w32 (m4 76 (w32 p0).toNat) < 0 then (k9 m4) else (ck p2 6 (if w32 (m4 76 (w32 p2).toNat) < 0 then (k9 m4) else (jn (κ := Mem → Option (Int × Mem)) (fun m17 => bd (f_X10_finds m17 2) fun r19 m18 => some (r19, m18)) fun k16 => if w32 p1 < 0 then (k16 m4) else (if w32 p3 < 0 then (k16 m4) else (ck p0 6 (if w32 ((m4 76 (w32 p0).toNat) - p4) < w32 p1 then (k16 m4) else (ck p2 6 (if w32 ((m4 76 (w32 p2).toNat) - p4) < w32 p3 then (k16 m4) else (f_X10_copy_L96 (fun m30 => f_X10_copy_L133 p2 p3 p4 100000 0 m30) p0 p1 p4 100000 0 m4)))))))))))))
set_option maxRecDepth 40000 in
theorem m_X10_copy {l : Launch} {G : qG} (m0 : Mem) (p0 : Int) (p1 : Int) (p2 : Int) (p3 : Int) (p4 : Int) : qM l G 3 yX10_copy cX10_copy 7 (some .int) [.ref 67, .int (iI p0), .int (iI p1), .int (iI p2), .int (iI p3), .int (iI p4)] (lay m0) (lf eI (f_X10_copy m0 p0 p1 p2 p3 p4)) := by
  refine qM_of (L := [some (.ref 67), some (.int (iI p0)), some (.int (iI p1)), some (.int (iI p2)), some (.int (iI p3)), some (.int (iI p4)), none]) (by decide +kernel) (Nat.le_of_ble_eq_true rfl) rfl ?_
  unfold f_X10_copy
  refine J_iload_n (pc := 0) dX10_copy_0 rfl rfl ?_
  refine T_callSI (pc := 1) (As := [.int (iI p0)]) (st := []) ok_yX10_isRow lm_X10_110 dX10_copy_1 (by decide) (Nat.le_of_ble_eq_true rfl) (m_X10_isRow m0 p0) (fun r2 m1 em1 => ?_)
  refine T_if_eq (pc := 4) (tgt := 14) dX10_copy_4 (by decide) (fun h3 => ?_) (fun h3 => ?_)
  · refine J_iconst (pc := 14) dX10_copy_14 ?_
    exact T_retI (pc := 15) rfl dX10_copy_15
  · refine J_iload_n (pc := 7) dX10_copy_7 rfl rfl ?_
    refine T_callSI (pc := 8) (As := [.int (iI p2)]) (st := []) ok_yX10_isRow lm_X10_110 dX10_copy_8 (by decide) (Nat.le_of_ble_eq_true rfl) (m_X10_isRow m1 p2) (fun r5 m4 em4 => ?_)
    refine T_if_ne (pc := 11) (tgt := 16) dX10_copy_11 (by decide) (fun h6 => ?_) (fun h6 => ?_)
    · refine J_iload (pc := 16) dX10_copy_16 rfl ?_
      refine T_if_ge (pc := 18) (tgt := 27) dX10_copy_18 (by decide) (fun h7 => ?_) (fun h7 => ?_)
      · refine J_aload_n (pc := 27) dX10_copy_27 rfl rfl rfl ?_
        refine tg_X10_38 (pc := 28) rfl dX10_copy_28 ?_
        refine J_iload_n (pc := 31) dX10_copy_31 rfl rfl ?_
        refine T_iaload (pc := 32) (by decide) rfl dX10_copy_32 (fun h8 => ?_)
        refine T_jn (κ := Mem → Option (Int × Mem)) (fun k => ∀ (m10 : Mem), qJ l G yX10_copy cX10_copy 7 (some .int) 3 45 [some (.ref 67), none, none, none, none, none, none] [] (lay m10) (lf eI (k m10))) ?_ (fun k9 hk9 => ?_)
        · intro m10
          refine J_aload_n (pc := 45) dX10_copy_45 rfl rfl rfl ?_
          refine J_iconst (pc := 46) dX10_copy_46 ?_
          refine T_callVI (pc := 47) (As := [.int (iI 1)]) (k := 67) (st := []) ok_yX10_finds lm_X10_114 dX10_copy_47 (by decide) rfl rfl (by decide) (Nat.le_of_ble_eq_true rfl) (m_X10_finds m10 1) (fun r12 m11 em11 => ?_)
          exact T_retI (pc := 50) rfl dX10_copy_50
        · refine T_if_lt (pc := 33) (tgt := 45) dX10_copy_33 (by decide) (fun h13 => ?_) (fun h13 => ?_)
          · refine J_dropf (pc := 45) (L' := [some (.ref 67), none, none, none, none, none, none]) [true, false, false, false, false, false, false] rfl ?_
            exact hk9  m4
          · refine J_aload_n (pc := 36) dX10_copy_36 rfl rfl rfl ?_
            refine tg_X10_38 (pc := 37) rfl dX10_copy_37 ?_
            refine J_iload_n (pc := 40) dX10_copy_40 rfl rfl ?_
            refine T_iaload (pc := 41) (by decide) rfl dX10_copy_41 (fun h14 => ?_)
            refine T_if_ge (pc := 42) (tgt := 51) dX10_copy_42 (by decide) (fun h15 => ?_) (fun h15 => ?_)
            · refine J_iload_n (pc := 51) dX10_copy_51 rfl rfl ?_
              refine T_jn (κ := Mem → Option (Int × Mem)) (fun k => ∀ (m17 : Mem), qJ l G yX10_copy cX10_copy 7 (some .int) 3 87 [some (.ref 67), none, none, none, none, none, none] [] (lay m17) (lf eI (k m17))) ?_ (fun k16 hk16 => ?_)
              · intro m17
                refine J_aload_n (pc := 87) dX10_copy_87 rfl rfl rfl ?_
                refine J_iconst (pc := 88) dX10_copy_88 ?_
                refine T_callVI (pc := 89) (As := [.int (iI 2)]) (k := 67) (st := []) ok_yX10_finds lm_X10_114 dX10_copy_89 (by decide) rfl rfl (by decide) (Nat.le_of_ble_eq_true rfl) (m_X10_finds m17 2) (fun r19 m18 em18 => ?_)
                exact T_retI (pc := 92) rfl dX10_copy_92
              · refine T_if_lt (pc := 52) (tgt := 87) dX10_copy_52 (by decide) (fun h20 => ?_) (fun h20 => ?_)
                · refine J_dropf (pc := 87) (L' := [some (.ref 67), none, none, none, none, none, none]) [true, false, false, false, false, false, false] rfl ?_
                  exact hk16  m4
                · refine J_iload (pc := 55) dX10_copy_55 rfl ?_
                  refine T_if_lt (pc := 57) (tgt := 87) dX10_copy_57 (by decide) (fun h21 => ?_) (fun h21 => ?_)
                  · refine J_dropf (pc := 87) (L' := [some (.ref 67), none, none, none, none, none, none]) [true, false, false, false, false, false, false] rfl ?_
                    exact hk16  m4
                  · refine J_iload_n (pc := 60) dX10_copy_60 rfl rfl ?_
                    refine J_aload_n (pc := 61) dX10_copy_61 rfl rfl rfl ?_
                    refine tg_X10_38 (pc := 62) rfl dX10_copy_62 ?_
                    refine J_iload_n (pc := 65) dX10_copy_65 rfl rfl ?_
                    refine T_iaload (pc := 66) (by decide) rfl dX10_copy_66 (fun h22 => ?_)
                    refine J_iload (pc := 67) dX10_copy_67 rfl ?_
                    refine J_isub (pc := 69) dX10_copy_69 ?_
                    refine T_icmp_gt (pc := 70) (tgt := 87) dX10_copy_70 (by decide) (fun h23 => ?_) (fun h23 => ?_)
                    · refine J_dropf (pc := 87) (L' := [some (.ref 67), none, none, none, none, none, none]) [true, false, false, false, false, false, false] rfl ?_
                      exact hk16  m4
                    · refine J_iload (pc := 73) dX10_copy_73 rfl ?_
                      refine J_aload_n (pc := 75) dX10_copy_75 rfl rfl rfl ?_
                      refine tg_X10_38 (pc := 76) rfl dX10_copy_76 ?_
                      refine J_iload_n (pc := 79) dX10_copy_79 rfl rfl ?_
                      refine T_iaload (pc := 80) (by decide) rfl dX10_copy_80 (fun h24 => ?_)
                      refine J_iload (pc := 81) dX10_copy_81 rfl ?_
                      refine J_isub (pc := 83) dX10_copy_83 ?_
                      refine T_icmp_le (pc := 84) (tgt := 93) dX10_copy_84 (by decide) (fun h25 => ?_) (fun h25 => ?_)
                      · refine J_iconst (pc := 93) dX10_copy_93 ?_
                        refine J_istore (pc := 94) (L' := [some (.ref 67), some (.int (iI p0)), some (.int (iI p1)), some (.int (iI p2)), some (.int (iI p3)), some (.int (iI p4)), some (.int (iI 0))]) dX10_copy_94 (by decide) rfl rfl ?_
                        refine j_X10_copy_L96 ?_ 100000 0 m4
                        · intro m30
                          refine J_iconst (pc := 130) dX10_copy_130 ?_
                          refine J_istore (pc := 131) (L' := [some (.ref 67), none, none, some (.int (iI p2)), some (.int (iI p3)), some (.int (iI p4)), some (.int (iI 0))]) dX10_copy_131 (by decide) rfl rfl ?_
                          refine j_X10_copy_L133 100000 0 m30
                      · refine J_dropf (pc := 87) (L' := [some (.ref 67), none, none, none, none, none, none]) [true, false, false, false, false, false, false] rfl ?_
                        exact hk16  m4
            · refine J_dropf (pc := 45) (L' := [some (.ref 67), none, none, none, none, none, none]) [true, false, false, false, false, false, false] rfl ?_
              exact hk9  m4
      · refine J_aload_n (pc := 21) dX10_copy_21 rfl rfl rfl ?_
        refine J_iconst (pc := 22) dX10_copy_22 ?_
        refine T_callVI (pc := 23) (As := [.int (iI 5)]) (k := 67) (st := []) ok_yX10_finds lm_X10_114 dX10_copy_23 (by decide) rfl rfl (by decide) (Nat.le_of_ble_eq_true rfl) (m_X10_finds m4 5) (fun r36 m35 em35 => ?_)
        exact T_retI (pc := 26) rfl dX10_copy_26
    · refine J_iconst (pc := 14) dX10_copy_14 ?_
      exact T_retI (pc := 15) rfl dX10_copy_15
