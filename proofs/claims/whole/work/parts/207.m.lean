def f_X10_rest (m0 : Mem) (p0 : Int) : Option (Unit × Mem) := ck (7 + p0) 16 (ck p0 5 (vl (if w32 (m0 68 (w32 p0).toNat) = w32 4 then 2 else 1) fun v3 => vl ((m0 73 (w32 (7 + p0)).toNat) + v3) fun x5 => vl (if w32 9 < w32 x5 then 9 else x5) fun v6 => ck (7 + p0) 16 (vm (wr m0 73 (w32 (7 + p0)).toNat v6) fun m9 => some ((), m9))))
set_option maxRecDepth 40000 in
theorem m_X10_rest {l : Launch} {G : qG} (m0 : Mem) (p0 : Int) : qM l G 1 yX10_rest cX10_rest 3 none [.ref 67, .int (iI p0)] (lay m0) (lf eU (f_X10_rest m0 p0)) := by
  refine qM_of (L := [some (.ref 67), some (.int (iI p0)), none]) (by decide +kernel) (Nat.le_of_ble_eq_true rfl) rfl ?_
  unfold f_X10_rest
  refine J_aload_n (pc := 0) dX10_rest_0 rfl rfl rfl ?_
  refine tg_X10_25 (pc := 1) rfl dX10_rest_1 ?_
  refine J_bipush (pc := 4) dX10_rest_4 (by decide) (by decide) ?_
  refine J_iload_n (pc := 6) dX10_rest_6 rfl rfl ?_
  refine J_iadd (pc := 7) dX10_rest_7 ?_
  refine T_iaload (pc := 8) (by decide) rfl dX10_rest_8 (fun h1 => ?_)
  refine J_aload_n (pc := 9) dX10_rest_9 rfl rfl rfl ?_
  refine tg_X10_7 (pc := 10) rfl dX10_rest_10 ?_
  refine J_iload_n (pc := 13) dX10_rest_13 rfl rfl ?_
  refine T_iaload (pc := 14) (by decide) rfl dX10_rest_14 (fun h2 => ?_)
  refine J_iconst (pc := 15) dX10_rest_15 ?_
  refine T_vl (fun v3 ev3 => ?_)
  refine T_dia (j := 24) (v := v3) (LT := [some (.ref 67), some (.int (iI p0)), none]) (sT := [.int (iI (m0 73 (w32 (7 + p0)).toNat))]) ?_ (fun hj4 => ?_)
  · refine J_iadd (pc := 24) dX10_rest_24 ?_
    refine T_vlI (pc := 25) (fun x5 ex5 => ?_)
    refine J_istore_n (pc := 25) (L' := [some (.ref 67), some (.int (iI p0)), some (.int (iI x5))]) dX10_rest_25 rfl (by decide) rfl rfl ?_
    refine J_aload_n (pc := 26) dX10_rest_26 rfl rfl rfl ?_
    refine tg_X10_25 (pc := 27) rfl dX10_rest_27 ?_
    refine J_bipush (pc := 30) dX10_rest_30 (by decide) (by decide) ?_
    refine J_iload_n (pc := 32) dX10_rest_32 rfl rfl ?_
    refine J_iadd (pc := 33) dX10_rest_33 ?_
    refine J_iload_n (pc := 34) dX10_rest_34 rfl rfl ?_
    refine J_bipush (pc := 35) dX10_rest_35 (by decide) (by decide) ?_
    refine T_vl (fun v6 ev6 => ?_)
    refine T_dia (j := 46) (v := v6) (LT := [some (.ref 67), some (.int (iI p0)), some (.int (iI x5))]) (sT := [.int (iI (7 + p0)), .ref 73]) ?_ (fun hj7 => ?_)
    · refine T_iastore (pc := 46) (by decide) rfl dX10_rest_46 (fun h8 => ?_)
      refine T_vm (fun m9 em9 => ?_)
      exact T_retV (pc := 47) rfl dX10_rest_47
    · refine T_icmp_le_same (pc := 37) (tgt := 45) dX10_rest_37 (by decide) (fun h10 => ?_) (fun h10 => ?_)
      · refine J_iload_n (pc := 45) dX10_rest_45 rfl rfl ?_
        exact T_top (by rw [ev6, if_neg h10]) hj7
      · refine J_bipush (pc := 40) dX10_rest_40 (by decide) (by decide) ?_
        refine J_goto (pc := 42) (tgt := 46) dX10_rest_42 (by decide) ?_
        exact T_top (by rw [ev6, if_pos h10]) hj7
  · refine T_icmp_ne_same (pc := 16) (tgt := 23) dX10_rest_16 (by decide) (fun h11 => ?_) (fun h11 => ?_)
    · refine J_iconst (pc := 23) dX10_rest_23 ?_
      exact T_top (by rw [ev3, if_neg h11]) hj4
    · refine J_iconst (pc := 19) dX10_rest_19 ?_
      refine J_goto (pc := 20) (tgt := 24) dX10_rest_20 (by decide) ?_
      exact T_top (by rw [ev3, if_pos h11]) hj4
def f_X10_tire (m0 : Mem) (p0 : Int) (p1 : Int) : Option (Unit × Mem) := ck (2 + p0) 16 (ck p0 5 (vl (if w32 (m0 68 (w32 p0).toNat) = w32 1 then (if w32 p1 = 0 then 0 else 1) else 1) fun v3 => ck (2 + p0) 16 (vm (wr m0 73 (w32 (2 + p0)).toNat ((m0 73 (w32 (2 + p0)).toNat) - v3)) fun m6 => ck (7 + p0) 16 (ck p0 5 (vl (if w32 (m6 68 (w32 p0).toNat) = w32 5 then 0 else 1) fun v9 => ck (7 + p0) 16 (vm (wr m6 73 (w32 (7 + p0)).toNat ((m6 73 (w32 (7 + p0)).toNat) - v9)) fun m12 => ck (2 + p0) 16 (vl (if w32 (m12 73 (w32 (2 + p0)).toNat) = 0 then (zshl 1 p0) else 0) fun v14 => vm (wr m12 67 36 (zor (m12 67 36) v14)) fun m16 => some ((), m16))))))))
set_option maxRecDepth 40000 in
theorem m_X10_tire {l : Launch} {G : qG} (m0 : Mem) (p0 : Int) (p1 : Int) : qM l G 1 yX10_tire cX10_tire 3 none [.ref 67, .int (iI p0), .int (iI p1)] (lay m0) (lf eU (f_X10_tire m0 p0 p1)) := by
  refine qM_of (L := [some (.ref 67), some (.int (iI p0)), some (.int (iI p1))]) (by decide +kernel) (Nat.le_of_ble_eq_true rfl) rfl ?_
  unfold f_X10_tire
  refine J_aload_n (pc := 0) dX10_tire_0 rfl rfl rfl ?_
  refine tg_X10_25 (pc := 1) rfl dX10_tire_1 ?_
  refine J_iconst (pc := 4) dX10_tire_4 ?_
  refine J_iload_n (pc := 5) dX10_tire_5 rfl rfl ?_
  refine J_iadd (pc := 6) dX10_tire_6 ?_
  refine J_dup2 (pc := 7) dX10_tire_7 rfl rfl ?_
  refine T_iaload (pc := 8) (by decide) rfl dX10_tire_8 (fun h1 => ?_)
  refine J_aload_n (pc := 9) dX10_tire_9 rfl rfl rfl ?_
  refine tg_X10_7 (pc := 10) rfl dX10_tire_10 ?_
  refine J_iload_n (pc := 13) dX10_tire_13 rfl rfl ?_
  refine T_iaload (pc := 14) (by decide) rfl dX10_tire_14 (fun h2 => ?_)
  refine J_iconst (pc := 15) dX10_tire_15 ?_
  refine T_vl (fun v3 ev3 => ?_)
  refine T_dia (j := 28) (v := v3) (LT := [some (.ref 67), some (.int (iI p0)), some (.int (iI p1))]) (sT := [.int (iI (m0 73 (w32 (2 + p0)).toNat)), .int (iI (2 + p0)), .ref 73]) ?_ (fun hj4 => ?_)
  · refine J_isub (pc := 28) dX10_tire_28 ?_
    refine T_iastore (pc := 29) (by decide) rfl dX10_tire_29 (fun h5 => ?_)
    refine T_vm (fun m6 em6 => ?_)
    refine J_aload_n (pc := 30) dX10_tire_30 rfl rfl rfl ?_
    refine tg_X10_25 (pc := 31) rfl dX10_tire_31 ?_
    refine J_bipush (pc := 34) dX10_tire_34 (by decide) (by decide) ?_
    refine J_iload_n (pc := 36) dX10_tire_36 rfl rfl ?_
    refine J_iadd (pc := 37) dX10_tire_37 ?_
    refine J_dup2 (pc := 38) dX10_tire_38 rfl rfl ?_
    refine T_iaload (pc := 39) (by decide) rfl dX10_tire_39 (fun h7 => ?_)
    refine J_aload_n (pc := 40) dX10_tire_40 rfl rfl rfl ?_
    refine tg_X10_7 (pc := 41) rfl dX10_tire_41 ?_
    refine J_iload_n (pc := 44) dX10_tire_44 rfl rfl ?_
    refine T_iaload (pc := 45) (by decide) rfl dX10_tire_45 (fun h8 => ?_)
    refine J_iconst (pc := 46) dX10_tire_46 ?_
    refine T_vl (fun v9 ev9 => ?_)
    refine T_dia (j := 55) (v := v9) (LT := [some (.ref 67), some (.int (iI p0)), some (.int (iI p1))]) (sT := [.int (iI (m6 73 (w32 (7 + p0)).toNat)), .int (iI (7 + p0)), .ref 73]) ?_ (fun hj10 => ?_)
    · refine J_isub (pc := 55) dX10_tire_55 ?_
      refine T_iastore (pc := 56) (by decide) rfl dX10_tire_56 (fun h11 => ?_)
      refine T_vm (fun m12 em12 => ?_)
      refine J_aload_n (pc := 57) dX10_tire_57 rfl rfl rfl ?_
      refine J_dup (pc := 58) dX10_tire_58 rfl ?_
      refine tg_X10_170 (pc := 59) rfl dX10_tire_59 ?_
      refine J_aload_n (pc := 62) dX10_tire_62 rfl rfl rfl ?_
      refine tg_X10_25 (pc := 63) rfl dX10_tire_63 ?_
      refine J_iconst (pc := 66) dX10_tire_66 ?_
      refine J_iload_n (pc := 67) dX10_tire_67 rfl rfl ?_
      refine J_iadd (pc := 68) dX10_tire_68 ?_
      refine T_iaload (pc := 69) (by decide) rfl dX10_tire_69 (fun h13 => ?_)
      refine T_vl (fun v14 ev14 => ?_)
      refine T_dia (j := 80) (v := v14) (LT := [some (.ref 67), some (.int (iI p0)), some (.int (iI p1))]) (sT := [.int (iI (m12 67 36)), .ref 67]) ?_ (fun hj15 => ?_)
      · refine J_ior (pc := 80) dX10_tire_80 ?_
        refine tp_X10_170 (pc := 81) rfl dX10_tire_81 ?_
        refine T_vm (fun m16 em16 => ?_)
        exact T_retV (pc := 84) rfl dX10_tire_84
      · refine T_if_ne_same (pc := 70) (tgt := 79) dX10_tire_70 (by decide) (fun h17 => ?_) (fun h17 => ?_)
        · refine J_iconst (pc := 79) dX10_tire_79 ?_
          exact T_top (by rw [ev14, if_neg h17]) hj15
        · refine J_iconst (pc := 73) dX10_tire_73 ?_
          refine J_iload_n (pc := 74) dX10_tire_74 rfl rfl ?_
          refine J_ishl (pc := 75) dX10_tire_75 ?_
          refine J_goto (pc := 76) (tgt := 80) dX10_tire_76 (by decide) ?_
          exact T_top (by rw [ev14, if_pos h17]) hj15
    · refine T_icmp_ne_same (pc := 47) (tgt := 54) dX10_tire_47 (by decide) (fun h18 => ?_) (fun h18 => ?_)
      · refine J_iconst (pc := 54) dX10_tire_54 ?_
        exact T_top (by rw [ev9, if_neg h18]) hj10
      · refine J_iconst (pc := 50) dX10_tire_50 ?_
        refine J_goto (pc := 51) (tgt := 55) dX10_tire_51 (by decide) ?_
        exact T_top (by rw [ev9, if_pos h18]) hj10
  · refine T_icmp_ne_same (pc := 16) (tgt := 23) dX10_tire_16 (by decide) (fun h19 => ?_) (fun h19 => ?_)
    · refine J_iconst (pc := 23) dX10_tire_23 ?_
      refine J_goto (pc := 24) (tgt := 28) dX10_tire_24 (by decide) ?_
      exact T_top (by rw [ev3, if_neg h19]) hj4
    · refine J_iload_n (pc := 19) dX10_tire_19 rfl rfl ?_
      refine T_if_eq_same (pc := 20) (tgt := 27) dX10_tire_20 (by decide) (fun h20 => ?_) (fun h20 => ?_)
      · refine J_iconst (pc := 27) dX10_tire_27 ?_
        exact T_top (by rw [ev3, if_pos h19, if_pos h20]) hj4
      · refine J_iconst (pc := 23) dX10_tire_23 ?_
        refine J_goto (pc := 24) (tgt := 28) dX10_tire_24 (by decide) ?_
        exact T_top (by rw [ev3, if_pos h19, if_neg h20]) hj4
def f_X10_goHour_L45 (K : Int → Mem → Option (Int × Mem)) (p0 : Int) : Nat → Int → Int → Mem → Option (Int × Mem)
  | 0, _, _, _ => none
  | u + 1, i4, i5, mu45 => if w32 i5 < w32 (mu45 67 0) then (bd (f_X10_has mu45 p0 i5) fun r11 m10 => jn (κ := Int → Mem → Option (Int × Mem)) (fun s14 m13 => vl (if w32 s14 = 0 then 0 else (zshl 1 i5)) fun v15 => vm (wr m13 67 35 (zor (m13 67 35) v15)) fun m17 => jn (κ := Int → Mem → Option (Int × Mem)) (fun s20 m19 => vl (i4 + s20) fun x21 => f_X10_goHour_L45 K p0 u x21 (i5 + 1) m19) fun k18 => if w32 s14 = 0 then (k18 0 m17) else (bd (f_X10_pullBy m17 i5) fun r24 m23 => k18 r24 m23)) fun k12 => jn (κ := Mem → Option (Int × Mem)) (fun m27 => k12 0 m27) fun k26 => if w32 r11 = 0 then (k26 m10) else (bd (f_X10_canPull m10 i5) fun r30 m29 => if w32 r30 = 0 then (k26 m29) else (k12 1 m29))) else (K i4 mu45)
set_option maxRecDepth 40000 in
theorem j_X10_goHour_L45 {l : Launch} {G : qG} {K : Int → Mem → Option (Int × Mem)} {p0 : Int} {r5 : Int} {v7 : Int} (hK : ∀ (x4 : Int) (m : Mem), qJ l G yX10_goHour cX10_goHour 7 (some .int) 4 127 [some (.ref 67), none, some (.int (iI r5)), some (.int (iI v7)), some (.int (iI x4)), none, none] [] (lay m) (lf eI (K x4 m))) : ∀ (u : Nat) (i4 : Int) (i5 : Int) (mu45 : Mem), qJ l G yX10_goHour cX10_goHour 7 (some .int) 4 45 [some (.ref 67), some (.int (iI p0)), some (.int (iI r5)), some (.int (iI v7)), some (.int (iI i4)), some (.int (iI i5)), none] [] (lay mu45) (lf eI (f_X10_goHour_L45 K p0 u i4 i5 mu45)) := by
  intro u
  induction u with
  | zero => intro _ _ mu45; exact T_none
  | succ u ih =>
    intro i4 i5 mu45
    rw [f_X10_goHour_L45]
    refine J_iload (pc := 45) dX10_goHour_45 rfl ?_
    refine J_aload_n (pc := 47) dX10_goHour_47 rfl rfl rfl ?_
    refine tg_X10_104 (pc := 48) rfl dX10_goHour_48 ?_
    refine T_icmp_ge (pc := 51) (tgt := 127) dX10_goHour_51 (by decide) (fun h9 => ?_) (fun h9 => ?_)
    · refine J_dropf (pc := 127) (L' := [some (.ref 67), none, some (.int (iI r5)), some (.int (iI v7)), some (.int (iI i4)), none, none]) [true, false, true, true, true, false, false] rfl ?_
      exact hK i4 mu45
    · refine J_iload_n (pc := 54) dX10_goHour_54 rfl rfl ?_
      refine J_iload (pc := 55) dX10_goHour_55 rfl ?_
      refine T_callSI (pc := 57) (As := [.int (iI p0), .int (iI i5)]) (st := []) ok_yX10_has lm_X10_179 dX10_goHour_57 (by decide) (Nat.le_of_ble_eq_true rfl) (m_X10_has mu45 p0 i5) (fun r11 m10 em10 => ?_)
      refine T_jn (κ := Int → Mem → Option (Int × Mem)) (fun k => ∀ (s14 : Int) (m13 : Mem), qJ l G yX10_goHour cX10_goHour 7 (some .int) 4 77 [some (.ref 67), some (.int (iI p0)), some (.int (iI r5)), some (.int (iI v7)), some (.int (iI i4)), some (.int (iI i5)), none] [.int (iI s14)] (lay m13) (lf eI (k s14 m13))) ?_ (fun k12 hk12 => ?_)
      · intro s14 m13
        refine J_istore (pc := 77) (L' := [some (.ref 67), some (.int (iI p0)), some (.int (iI r5)), some (.int (iI v7)), some (.int (iI i4)), some (.int (iI i5)), some (.int (iI s14))]) dX10_goHour_77 (by decide) rfl rfl ?_
        refine J_aload_n (pc := 79) dX10_goHour_79 rfl rfl rfl ?_
        refine J_dup (pc := 80) dX10_goHour_80 rfl ?_
        refine tg_X10_173 (pc := 81) rfl dX10_goHour_81 ?_
        refine J_iload (pc := 84) dX10_goHour_84 rfl ?_
        refine T_vl (fun v15 ev15 => ?_)
        refine T_dia (j := 97) (v := v15) (LT := [some (.ref 67), some (.int (iI p0)), some (.int (iI r5)), some (.int (iI v7)), some (.int (iI i4)), some (.int (iI i5)), some (.int (iI s14))]) (sT := [.int (iI (m13 67 35)), .ref 67]) ?_ (fun hj16 => ?_)
        · refine J_ior (pc := 97) dX10_goHour_97 ?_
          refine tp_X10_173 (pc := 98) rfl dX10_goHour_98 ?_
          refine T_vm (fun m17 em17 => ?_)
          refine J_iload (pc := 101) dX10_goHour_101 rfl ?_
          refine J_iload (pc := 103) dX10_goHour_103 rfl ?_
          refine T_jn (κ := Int → Mem → Option (Int × Mem)) (fun k => ∀ (s20 : Int) (m19 : Mem), qJ l G yX10_goHour cX10_goHour 7 (some .int) 4 118 [some (.ref 67), some (.int (iI p0)), some (.int (iI r5)), some (.int (iI v7)), none, some (.int (iI i5)), none] [.int (iI s20), .int (iI i4)] (lay m19) (lf eI (k s20 m19))) ?_ (fun k18 hk18 => ?_)
          · intro s20 m19
            refine J_iadd (pc := 118) dX10_goHour_118 ?_
            refine T_vlI (pc := 119) (fun x21 ex21 => ?_)
            refine J_istore (pc := 119) (L' := [some (.ref 67), some (.int (iI p0)), some (.int (iI r5)), some (.int (iI v7)), some (.int (iI x21)), some (.int (iI i5)), none]) dX10_goHour_119 (by decide) rfl rfl ?_
            refine J_iinc (pc := 121) (L' := [some (.ref 67), some (.int (iI p0)), some (.int (iI r5)), some (.int (iI v7)), some (.int (iI x21)), some (.int (iI (i5 + 1))), none]) dX10_goHour_121 rfl (by decide) rfl rfl ?_
            refine J_goto (pc := 124) (tgt := 45) dX10_goHour_124 (by decide) ?_
            exact ih x21 (i5 + 1) m19
          · refine T_if_eq (pc := 105) (tgt := 117) dX10_goHour_105 (by decide) (fun h22 => ?_) (fun h22 => ?_)
            · refine J_iconst (pc := 117) dX10_goHour_117 ?_
              refine J_dropf (pc := 118) (L' := [some (.ref 67), some (.int (iI p0)), some (.int (iI r5)), some (.int (iI v7)), none, some (.int (iI i5)), none]) [true, true, true, true, false, true, false] rfl ?_
              exact hk18 0 m17
            · refine J_aload_n (pc := 108) dX10_goHour_108 rfl rfl rfl ?_
              refine J_iload (pc := 109) dX10_goHour_109 rfl ?_
              refine T_callVI (pc := 111) (As := [.int (iI i5)]) (k := 67) (st := [.int (iI i4)]) ok_yX10_pullBy lm_X10_185 dX10_goHour_111 (by decide) rfl rfl (by decide) (Nat.le_of_ble_eq_true rfl) (m_X10_pullBy m17 i5) (fun r24 m23 em23 => ?_)
              refine J_goto (pc := 114) (tgt := 118) dX10_goHour_114 (by decide) ?_
              refine J_dropf (pc := 118) (L' := [some (.ref 67), some (.int (iI p0)), some (.int (iI r5)), some (.int (iI v7)), none, some (.int (iI i5)), none]) [true, true, true, true, false, true, false] rfl ?_
              exact hk18 r24 m23
        · refine T_if_eq_same (pc := 86) (tgt := 96) dX10_goHour_86 (by decide) (fun h25 => ?_) (fun h25 => ?_)
          · refine J_iconst (pc := 96) dX10_goHour_96 ?_
            exact T_top (by rw [ev15, if_pos h25]) hj16
          · refine J_iconst (pc := 89) dX10_goHour_89 ?_
            refine J_iload (pc := 90) dX10_goHour_90 rfl ?_
            refine J_ishl (pc := 92) dX10_goHour_92 ?_
            refine J_goto (pc := 93) (tgt := 97) dX10_goHour_93 (by decide) ?_
            exact T_top (by rw [ev15, if_neg h25]) hj16
      · refine T_jn (κ := Mem → Option (Int × Mem)) (fun k => ∀ (m27 : Mem), qJ l G yX10_goHour cX10_goHour 7 (some .int) 4 76 [some (.ref 67), some (.int (iI p0)), some (.int (iI r5)), some (.int (iI v7)), some (.int (iI i4)), some (.int (iI i5)), none] [] (lay m27) (lf eI (k m27))) ?_ (fun k26 hk26 => ?_)
        · intro m27
          refine J_iconst (pc := 76) dX10_goHour_76 ?_
          exact hk12 0 m27
        · refine T_if_eq (pc := 60) (tgt := 76) dX10_goHour_60 (by decide) (fun h28 => ?_) (fun h28 => ?_)
          · exact hk26  m10
          · refine J_aload_n (pc := 63) dX10_goHour_63 rfl rfl rfl ?_
            refine J_iload (pc := 64) dX10_goHour_64 rfl ?_
            refine T_callVI (pc := 66) (As := [.int (iI i5)]) (k := 67) (st := []) ok_yX10_canPull lm_X10_182 dX10_goHour_66 (by decide) rfl rfl (by decide) (Nat.le_of_ble_eq_true rfl) (m_X10_canPull m10 i5) (fun r30 m29 em29 => ?_)
            refine T_if_eq (pc := 69) (tgt := 76) dX10_goHour_69 (by decide) (fun h31 => ?_) (fun h31 => ?_)
            · exact hk26  m29
            · refine J_iconst (pc := 72) dX10_goHour_72 ?_
              refine J_goto (pc := 73) (tgt := 77) dX10_goHour_73 (by decide) ?_
              exact hk12 1 m29
def f_X10_goHour_L130 (K : Mem → Option (Int × Mem)) (v7 : Int) : Nat → Int → Mem → Option (Int × Mem)
  | 0, _, _ => none
  | u + 1, i5, mu130 => if w32 i5 < w32 (mu130 67 0) then (bd (f_X10_has mu130 (mu130 67 35) i5) fun r36 m35 => jn (κ := Mem → Option (Int × Mem)) (fun m38 => f_X10_goHour_L130 K v7 u (i5 + 1) m38) fun k37 => if w32 r36 = 0 then (bd (f_X10_rest m35 i5) fun _u m40 => k37 m40) else (bd (f_X10_tire m35 i5 v7) fun _u m41 => k37 m41)) else (K mu130)
set_option maxRecDepth 40000 in
theorem j_X10_goHour_L130 {l : Launch} {G : qG} {K : Mem → Option (Int × Mem)} {v7 : Int} {r5 : Int} {x32 : Int} (hK : ∀ (m : Mem), qJ l G yX10_goHour cX10_goHour 7 (some .int) 4 173 [some (.ref 67), none, some (.int (iI r5)), none, some (.int (iI x32)), none, none] [] (lay m) (lf eI (K m))) : ∀ (u : Nat) (i5 : Int) (mu130 : Mem), qJ l G yX10_goHour cX10_goHour 7 (some .int) 4 130 [some (.ref 67), none, some (.int (iI r5)), some (.int (iI v7)), some (.int (iI x32)), some (.int (iI i5)), none] [] (lay mu130) (lf eI (f_X10_goHour_L130 K v7 u i5 mu130)) := by
  intro u
  induction u with
  | zero => intro _ mu130; exact T_none
  | succ u ih =>
    intro i5 mu130
    rw [f_X10_goHour_L130]
    refine J_iload (pc := 130) dX10_goHour_130 rfl ?_
    refine J_aload_n (pc := 132) dX10_goHour_132 rfl rfl rfl ?_
    refine tg_X10_104 (pc := 133) rfl dX10_goHour_133 ?_
    refine T_icmp_ge (pc := 136) (tgt := 173) dX10_goHour_136 (by decide) (fun h34 => ?_) (fun h34 => ?_)
    · refine J_dropf (pc := 173) (L' := [some (.ref 67), none, some (.int (iI r5)), none, some (.int (iI x32)), none, none]) [true, false, true, false, true, false, false] rfl ?_
      exact hK  mu130
    · refine J_aload_n (pc := 139) dX10_goHour_139 rfl rfl rfl ?_
      refine tg_X10_173 (pc := 140) rfl dX10_goHour_140 ?_
      refine J_iload (pc := 143) dX10_goHour_143 rfl ?_
      refine T_callSI (pc := 145) (As := [.int (iI (mu130 67 35)), .int (iI i5)]) (st := []) ok_yX10_has lm_X10_179 dX10_goHour_145 (by decide) (Nat.le_of_ble_eq_true rfl) (m_X10_has mu130 (mu130 67 35) i5) (fun r36 m35 em35 => ?_)
      refine T_jn (κ := Mem → Option (Int × Mem)) (fun k => ∀ (m38 : Mem), qJ l G yX10_goHour cX10_goHour 7 (some .int) 4 167 [some (.ref 67), none, some (.int (iI r5)), some (.int (iI v7)), some (.int (iI x32)), some (.int (iI i5)), none] [] (lay m38) (lf eI (k m38))) ?_ (fun k37 hk37 => ?_)
      · intro m38
        refine J_iinc (pc := 167) (L' := [some (.ref 67), none, some (.int (iI r5)), some (.int (iI v7)), some (.int (iI x32)), some (.int (iI (i5 + 1))), none]) dX10_goHour_167 rfl (by decide) rfl rfl ?_
        refine J_goto (pc := 170) (tgt := 130) dX10_goHour_170 (by decide) ?_
        exact ih (i5 + 1) m38
      · refine T_if_eq (pc := 148) (tgt := 161) dX10_goHour_148 (by decide) (fun h39 => ?_) (fun h39 => ?_)
        · refine J_aload_n (pc := 161) dX10_goHour_161 rfl rfl rfl ?_
          refine J_iload (pc := 162) dX10_goHour_162 rfl ?_
          refine T_callVU (pc := 164) (As := [.int (iI i5)]) (k := 67) (st := []) ok_yX10_rest lm_X10_192 dX10_goHour_164 (by decide) rfl rfl (by decide) (Nat.le_of_ble_eq_true rfl) (m_X10_rest m35 i5) (fun _u m40 em40 => ?_)
          exact hk37  m40
        · refine J_aload_n (pc := 151) dX10_goHour_151 rfl rfl rfl ?_
          refine J_iload (pc := 152) dX10_goHour_152 rfl ?_
          refine J_iload_n (pc := 154) dX10_goHour_154 rfl rfl ?_
          refine T_callVU (pc := 155) (As := [.int (iI i5), .int (iI v7)]) (k := 67) (st := []) ok_yX10_tire lm_X10_188 dX10_goHour_155 (by decide) rfl rfl (by decide) (Nat.le_of_ble_eq_true rfl) (m_X10_tire m35 i5 v7) (fun _u m41 em41 => ?_)
          refine J_goto (pc := 158) (tgt := 167) dX10_goHour_158 (by decide) ?_
          exact hk37  m41
def f_X10_goHour (m0 : Mem) (p0 : Int) : Option (Int × Mem) := vm (wr m0 67 35 0) fun m1 => vm (wr m1 67 36 0) fun m2 => bd (f_X10_gainAll m2) fun _u m3 => bd (f_X10_isDown m3) fun r5 m4 => ck 0 16 (ckz 6 (ckz 2 (vl (if w32 (zrem (zdiv (m4 73 (w32 0).toNat) 6) 2) = 0 then 1 else 0) fun v7 => f_X10_goHour_L45 (fun x32 m33 => f_X10_goHour_L130 (fun m42 => if w32 r5 = 0 then (vl (if w32 5 < w32 x32 then 1 else (6 - x32)) fun v44 => ck 1 16 (ck 1 16 (vm (wr m42 73 (w32 1).toNat ((m42 73 (w32 1).toNat) + (6 - v44))) fun m48 => ck 0 16 (bd (f_X10_bits m48 (m48 67 36)) fun r51 m50 => ck 0 16 (vm (wr m50 73 (w32 0).toNat ((m48 73 (w32 0).toNat) + (v44 + (2 * r51)))) fun m53 => bd (f_X10_bits m53 (m53 67 36)) fun r55 m54 => some (v44 + (2 * r55), m54)))))) else (some (0, m42))) v7 100000 0 m33) p0 100000 0 0 m4)))
set_option maxRecDepth 40000 in
theorem m_X10_goHour {l : Launch} {G : qG} (m0 : Mem) (p0 : Int) : qM l G 4 yX10_goHour cX10_goHour 7 (some .int) [.ref 67, .int (iI p0)] (lay m0) (lf eI (f_X10_goHour m0 p0)) := by
  refine qM_of (L := [some (.ref 67), some (.int (iI p0)), none, none, none, none, none]) (by decide +kernel) (Nat.le_of_ble_eq_true rfl) rfl ?_
  unfold f_X10_goHour
  refine J_aload_n (pc := 0) dX10_goHour_0 rfl rfl rfl ?_
  refine J_iconst (pc := 1) dX10_goHour_1 ?_
  refine tp_X10_173 (pc := 2) rfl dX10_goHour_2 ?_
  refine T_vm (fun m1 em1 => ?_)
  refine J_aload_n (pc := 5) dX10_goHour_5 rfl rfl rfl ?_
  refine J_iconst (pc := 6) dX10_goHour_6 ?_
  refine tp_X10_170 (pc := 7) rfl dX10_goHour_7 ?_
  refine T_vm (fun m2 em2 => ?_)
  refine J_aload_n (pc := 10) dX10_goHour_10 rfl rfl rfl ?_
  refine T_callVU (pc := 11) (As := []) (k := 67) (st := []) ok_yX10_gainAll lm_X10_176 dX10_goHour_11 (by decide) rfl rfl (by decide) (Nat.le_of_ble_eq_true rfl) (m_X10_gainAll m2) (fun _u m3 em3 => ?_)
  refine J_aload_n (pc := 14) dX10_goHour_14 rfl rfl rfl ?_
  refine T_callVI (pc := 15) (As := []) (k := 67) (st := []) ok_yX10_isDown lm_X10_163 dX10_goHour_15 (by decide) rfl rfl (by decide) (Nat.le_of_ble_eq_true rfl) (m_X10_isDown m3) (fun r5 m4 em4 => ?_)
  refine J_istore_n (pc := 18) (L' := [some (.ref 67), some (.int (iI p0)), some (.int (iI r5)), none, none, none, none]) dX10_goHour_18 rfl (by decide) rfl rfl ?_
  refine J_aload_n (pc := 19) dX10_goHour_19 rfl rfl rfl ?_
  refine tg_X10_25 (pc := 20) rfl dX10_goHour_20 ?_
  refine J_iconst (pc := 23) dX10_goHour_23 ?_
  refine T_iaload (pc := 24) (by decide) rfl dX10_goHour_24 (fun h6 => ?_)
  refine J_bipush (pc := 25) dX10_goHour_25 (by decide) (by decide) ?_
  refine T_idiv (pc := 27) dX10_goHour_27 ?_
  refine J_iconst (pc := 28) dX10_goHour_28 ?_
  refine T_irem (pc := 29) dX10_goHour_29 ?_
  refine T_vl (fun v7 ev7 => ?_)
  refine T_dia (j := 38) (v := v7) (LT := [some (.ref 67), some (.int (iI p0)), some (.int (iI r5)), none, none, none, none]) (sT := []) ?_ (fun hj8 => ?_)
  · refine J_istore_n (pc := 38) (L' := [some (.ref 67), some (.int (iI p0)), some (.int (iI r5)), some (.int (iI v7)), none, none, none]) dX10_goHour_38 rfl (by decide) rfl rfl ?_
    refine J_iconst (pc := 39) dX10_goHour_39 ?_
    refine J_istore (pc := 40) (L' := [some (.ref 67), some (.int (iI p0)), some (.int (iI r5)), some (.int (iI v7)), some (.int (iI 0)), none, none]) dX10_goHour_40 (by decide) rfl rfl ?_
    refine J_iconst (pc := 42) dX10_goHour_42 ?_
    refine J_istore (pc := 43) (L' := [some (.ref 67), some (.int (iI p0)), some (.int (iI r5)), some (.int (iI v7)), some (.int (iI 0)), some (.int (iI 0)), none]) dX10_goHour_43 (by decide) rfl rfl ?_
    refine j_X10_goHour_L45 ?_ 100000 0 0 m4
    · intro x32 m33
      refine J_iconst (pc := 127) dX10_goHour_127 ?_
      refine J_istore (pc := 128) (L' := [some (.ref 67), none, some (.int (iI r5)), some (.int (iI v7)), some (.int (iI x32)), some (.int (iI 0)), none]) dX10_goHour_128 (by decide) rfl rfl ?_
      refine j_X10_goHour_L130 ?_ 100000 0 m33
      · intro m42
        refine J_iload_n (pc := 173) dX10_goHour_173 rfl rfl ?_
        refine T_if_eq (pc := 174) (tgt := 179) dX10_goHour_174 (by decide) (fun h43 => ?_) (fun h43 => ?_)
        · refine J_iload (pc := 179) dX10_goHour_179 rfl ?_
          refine J_iconst (pc := 181) dX10_goHour_181 ?_
          refine T_vl (fun v44 ev44 => ?_)
          refine T_dia (j := 194) (v := v44) (LT := [some (.ref 67), none, some (.int (iI r5)), none, some (.int (iI x32)), none, none]) (sT := []) ?_ (fun hj45 => ?_)
          · refine J_istore (pc := 194) (L' := [some (.ref 67), none, some (.int (iI r5)), none, some (.int (iI x32)), some (.int (iI v44)), none]) dX10_goHour_194 (by decide) rfl rfl ?_
            refine J_aload_n (pc := 196) dX10_goHour_196 rfl rfl rfl ?_
            refine tg_X10_25 (pc := 197) rfl dX10_goHour_197 ?_
            refine J_iconst (pc := 200) dX10_goHour_200 ?_
            refine J_dup2 (pc := 201) dX10_goHour_201 rfl rfl ?_
            refine T_iaload (pc := 202) (by decide) rfl dX10_goHour_202 (fun h46 => ?_)
            refine J_bipush (pc := 203) dX10_goHour_203 (by decide) (by decide) ?_
            refine J_iload (pc := 205) dX10_goHour_205 rfl ?_
            refine J_isub (pc := 207) dX10_goHour_207 ?_
            refine J_iadd (pc := 208) dX10_goHour_208 ?_
            refine T_iastore (pc := 209) (by decide) rfl dX10_goHour_209 (fun h47 => ?_)
            refine T_vm (fun m48 em48 => ?_)
            refine J_aload_n (pc := 210) dX10_goHour_210 rfl rfl rfl ?_
            refine tg_X10_25 (pc := 211) rfl dX10_goHour_211 ?_
            refine J_iconst (pc := 214) dX10_goHour_214 ?_
            refine J_dup2 (pc := 215) dX10_goHour_215 rfl rfl ?_
            refine T_iaload (pc := 216) (by decide) rfl dX10_goHour_216 (fun h49 => ?_)
            refine J_iload (pc := 217) dX10_goHour_217 rfl ?_
            refine J_iconst (pc := 219) dX10_goHour_219 ?_
            refine J_aload_n (pc := 220) dX10_goHour_220 rfl rfl rfl ?_
            refine tg_X10_170 (pc := 221) rfl dX10_goHour_221 ?_
            refine T_callSI (pc := 224) (As := [.int (iI (m48 67 36))]) (st := [.int (iI 2), .int (iI v44), .int (iI (m48 73 (w32 0).toNat)), .int (iI 0), .ref 73]) ok_yX10_bits lm_X10_195 dX10_goHour_224 (by decide) (Nat.le_of_ble_eq_true rfl) (m_X10_bits m48 (m48 67 36)) (fun r51 m50 em50 => ?_)
            refine J_imul (pc := 227) dX10_goHour_227 ?_
            refine J_iadd (pc := 228) dX10_goHour_228 ?_
            refine J_iadd (pc := 229) dX10_goHour_229 ?_
            refine T_iastore (pc := 230) (by decide) rfl dX10_goHour_230 (fun h52 => ?_)
            refine T_vm (fun m53 em53 => ?_)
            refine J_iload (pc := 231) dX10_goHour_231 rfl ?_
            refine J_iconst (pc := 233) dX10_goHour_233 ?_
            refine J_aload_n (pc := 234) dX10_goHour_234 rfl rfl rfl ?_
            refine tg_X10_170 (pc := 235) rfl dX10_goHour_235 ?_
            refine T_callSI (pc := 238) (As := [.int (iI (m53 67 36))]) (st := [.int (iI 2), .int (iI v44)]) ok_yX10_bits lm_X10_195 dX10_goHour_238 (by decide) (Nat.le_of_ble_eq_true rfl) (m_X10_bits m53 (m53 67 36)) (fun r55 m54 em54 => ?_)
            refine J_imul (pc := 241) dX10_goHour_241 ?_
            refine J_iadd (pc := 242) dX10_goHour_242 ?_
            exact T_retI (pc := 243) rfl dX10_goHour_243
          · refine T_icmp_le_same (pc := 182) (tgt := 189) dX10_goHour_182 (by decide) (fun h56 => ?_) (fun h56 => ?_)
            · refine J_bipush (pc := 189) dX10_goHour_189 (by decide) (by decide) ?_
              refine J_iload (pc := 191) dX10_goHour_191 rfl ?_
              refine J_isub (pc := 193) dX10_goHour_193 ?_
              exact T_top (by rw [ev44, if_neg h56]) hj45
            · refine J_iconst (pc := 185) dX10_goHour_185 ?_
              refine J_goto (pc := 186) (tgt := 194) dX10_goHour_186 (by decide) ?_
              exact T_top (by rw [ev44, if_pos h56]) hj45
        · refine J_iconst (pc := 177) dX10_goHour_177 ?_
          exact T_retI (pc := 178) rfl dX10_goHour_178
  · refine T_if_ne_same (pc := 30) (tgt := 37) dX10_goHour_30 (by decide) (fun h57 => ?_) (fun h57 => ?_)
    · refine J_iconst (pc := 37) dX10_goHour_37 ?_
      exact T_top (by rw [ev7, if_neg h57]) hj8
    · refine J_iconst (pc := 33) dX10_goHour_33 ?_
      refine J_goto (pc := 34) (tgt := 38) dX10_goHour_34 (by decide) ?_
      exact T_top (by rw [ev7, if_pos h57]) hj8
def f_X10_remember_L2 (K : Mem → Option (Unit × Mem)) : Nat → Int → Mem → Option (Unit × Mem)
  | 0, _, _ => none
  | u + 1, i1, mu2 => if w32 i1 < w32 16 then (ck i1 16 (ck ((16 * (mu2 67 8)) + i1) 960 (vm (wr mu2 74 (w32 ((16 * (mu2 67 8)) + i1)).toNat (mu2 73 (w32 i1).toNat)) fun m4 => f_X10_remember_L2 K u (i1 + 1) m4))) else (K mu2)
set_option maxRecDepth 40000 in
theorem j_X10_remember_L2 {l : Launch} {G : qG} {K : Mem → Option (Unit × Mem)} (hK : ∀ (m : Mem), qJ l G yX10_remember cX10_remember 2 none 1 34 [some (.ref 67), none] [] (lay m) (lf eU (K m))) : ∀ (u : Nat) (i1 : Int) (mu2 : Mem), qJ l G yX10_remember cX10_remember 2 none 1 2 [some (.ref 67), some (.int (iI i1))] [] (lay mu2) (lf eU (f_X10_remember_L2 K u i1 mu2)) := by
  intro u
  induction u with
  | zero => intro _ mu2; exact T_none
  | succ u ih =>
    intro i1 mu2
    rw [f_X10_remember_L2]
    refine J_iload_n (pc := 2) dX10_remember_2 rfl rfl ?_
    refine J_bipush (pc := 3) dX10_remember_3 (by decide) (by decide) ?_
    refine T_icmp_ge (pc := 5) (tgt := 34) dX10_remember_5 (by decide) (fun h1 => ?_) (fun h1 => ?_)
    · refine J_dropf (pc := 34) (L' := [some (.ref 67), none]) [true, false] rfl ?_
      exact hK  mu2
    · refine J_aload_n (pc := 8) dX10_remember_8 rfl rfl rfl ?_
      refine tg_X10_28 (pc := 9) rfl dX10_remember_9 ?_
      refine J_bipush (pc := 12) dX10_remember_12 (by decide) (by decide) ?_
      refine J_aload_n (pc := 14) dX10_remember_14 rfl rfl rfl ?_
      refine tg_X10_156 (pc := 15) rfl dX10_remember_15 ?_
      refine J_imul (pc := 18) dX10_remember_18 ?_
      refine J_iload_n (pc := 19) dX10_remember_19 rfl rfl ?_
      refine J_iadd (pc := 20) dX10_remember_20 ?_
      refine J_aload_n (pc := 21) dX10_remember_21 rfl rfl rfl ?_
      refine tg_X10_25 (pc := 22) rfl dX10_remember_22 ?_
      refine J_iload_n (pc := 25) dX10_remember_25 rfl rfl ?_
      refine T_iaload (pc := 26) (by decide) rfl dX10_remember_26 (fun h2 => ?_)
      refine T_iastore (pc := 27) (by decide) rfl dX10_remember_27 (fun h3 => ?_)
      refine T_vm (fun m4 em4 => ?_)
      refine J_iinc (pc := 28) (L' := [some (.ref 67), some (.int (iI (i1 + 1)))]) dX10_remember_28 rfl (by decide) rfl rfl ?_
      refine J_goto (pc := 31) (tgt := 2) dX10_remember_31 (by decide) ?_
      exact ih (i1 + 1) m4
def f_X10_remember (m0 : Mem) : Option (Unit × Mem) := f_X10_remember_L2 (fun m5 => vm (wr m5 67 8 ((m5 67 8) + 1)) fun m6 => some ((), m6)) 100000 0 m0
set_option maxRecDepth 40000 in
theorem m_X10_remember {l : Launch} {G : qG} (m0 : Mem) : qM l G 1 yX10_remember cX10_remember 2 none [.ref 67] (lay m0) (lf eU (f_X10_remember m0)) := by
  refine qM_of (L := [some (.ref 67), none]) (by decide +kernel) (Nat.le_of_ble_eq_true rfl) rfl ?_
  unfold f_X10_remember
  refine J_iconst (pc := 0) dX10_remember_0 ?_
  refine J_istore_n (pc := 1) (L' := [some (.ref 67), some (.int (iI 0))]) dX10_remember_1 rfl (by decide) rfl rfl ?_
  refine j_X10_remember_L2 ?_ 100000 0 m0
  · intro m5
    refine J_aload_n (pc := 34) dX10_remember_34 rfl rfl rfl ?_
    refine J_dup (pc := 35) dX10_remember_35 rfl ?_
    refine tg_X10_156 (pc := 36) rfl dX10_remember_36 ?_
    refine J_iconst (pc := 39) dX10_remember_39 ?_
    refine J_iadd (pc := 40) dX10_remember_40 ?_
    refine tp_X10_156 (pc := 41) rfl dX10_remember_41 ?_
    refine T_vm (fun m6 em6 => ?_)
    exact T_retV (pc := 44) rfl dX10_remember_44
def f_X10_capeOf (m0 : Mem) (p0 : Int) (p1 : Int) : Option (Int × Mem) := if w32 p1 = 0 then (ck p0 5 (some (m0 68 (w32 p0).toNat, m0))) else (if w32 p1 = 1 then (ck (2 + p0) 16 (some (m0 73 (w32 (2 + p0)).toNat, m0))) else (if w32 p1 = 2 then (ck (7 + p0) 16 (some (m0 73 (w32 (7 + p0)).toNat, m0))) else (bd (f_X10_canPull m0 p0) fun r8 m7 => if w32 r8 = 0 then (some (0, m7)) else (bd (f_X10_pullBy m7 p0) fun r11 m10 => some (r11, m10)))))
set_option maxRecDepth 40000 in
theorem m_X10_capeOf {l : Launch} {G : qG} (m0 : Mem) (p0 : Int) (p1 : Int) : qM l G 3 yX10_capeOf cX10_capeOf 3 (some .int) [.ref 67, .int (iI p0), .int (iI p1)] (lay m0) (lf eI (f_X10_capeOf m0 p0 p1)) := by
  refine qM_of (L := [some (.ref 67), some (.int (iI p0)), some (.int (iI p1))]) (by decide +kernel) (Nat.le_of_ble_eq_true rfl) rfl ?_
  unfold f_X10_capeOf
  refine J_iload_n (pc := 0) dX10_capeOf_0 rfl rfl ?_
  by_cases h1 : w32 p1 = 0
  · rw [if_pos h1]
    refine J_swIn (pc := 1) (j := 0) (tgt := 28) dX10_capeOf_1 h1 (by decide) (by decide) rfl (by decide) ?_
    refine J_aload_n (pc := 28) dX10_capeOf_28 rfl rfl rfl ?_
    refine tg_X10_7 (pc := 29) rfl dX10_capeOf_29 ?_
    refine J_iload_n (pc := 32) dX10_capeOf_32 rfl rfl ?_
    refine T_iaload (pc := 33) (by decide) rfl dX10_capeOf_33 (fun h2 => ?_)
    exact T_retI (pc := 34) rfl dX10_capeOf_34
  rw [if_neg h1]
  by_cases h3 : w32 p1 = 1
  · rw [if_pos h3]
    refine J_swIn (pc := 1) (j := 1) (tgt := 35) dX10_capeOf_1 h3 (by decide) (by decide) rfl (by decide) ?_
    refine J_aload_n (pc := 35) dX10_capeOf_35 rfl rfl rfl ?_
    refine tg_X10_25 (pc := 36) rfl dX10_capeOf_36 ?_
    refine J_iconst (pc := 39) dX10_capeOf_39 ?_
    refine J_iload_n (pc := 40) dX10_capeOf_40 rfl rfl ?_
    refine J_iadd (pc := 41) dX10_capeOf_41 ?_
    refine T_iaload (pc := 42) (by decide) rfl dX10_capeOf_42 (fun h4 => ?_)
    exact T_retI (pc := 43) rfl dX10_capeOf_43
  rw [if_neg h3]
  by_cases h5 : w32 p1 = 2
  · rw [if_pos h5]
    refine J_swIn (pc := 1) (j := 2) (tgt := 44) dX10_capeOf_1 h5 (by decide) (by decide) rfl (by decide) ?_
    refine J_aload_n (pc := 44) dX10_capeOf_44 rfl rfl rfl ?_
    refine tg_X10_25 (pc := 45) rfl dX10_capeOf_45 ?_
    refine J_bipush (pc := 48) dX10_capeOf_48 (by decide) (by decide) ?_
    refine J_iload_n (pc := 50) dX10_capeOf_50 rfl rfl ?_
    refine J_iadd (pc := 51) dX10_capeOf_51 ?_
    refine T_iaload (pc := 52) (by decide) rfl dX10_capeOf_52 (fun h6 => ?_)
    exact T_retI (pc := 53) rfl dX10_capeOf_53
  rw [if_neg h5]
  refine J_swOut (pc := 1) (tgt := 54) dX10_capeOf_1 (by omega) (by decide) ?_
  refine J_aload_n (pc := 54) dX10_capeOf_54 rfl rfl rfl ?_
  refine J_iload_n (pc := 55) dX10_capeOf_55 rfl rfl ?_
  refine T_callVI (pc := 56) (As := [.int (iI p0)]) (k := 67) (st := []) ok_yX10_canPull lm_X10_182 dX10_capeOf_56 (by decide) rfl rfl (by decide) (Nat.le_of_ble_eq_true rfl) (m_X10_canPull m0 p0) (fun r8 m7 em7 => ?_)
  refine T_if_eq (pc := 59) (tgt := 70) dX10_capeOf_59 (by decide) (fun h9 => ?_) (fun h9 => ?_)
  · refine J_iconst (pc := 70) dX10_capeOf_70 ?_
    exact T_retI (pc := 71) rfl dX10_capeOf_71
  · refine J_aload_n (pc := 62) dX10_capeOf_62 rfl rfl rfl ?_
    refine J_iload_n (pc := 63) dX10_capeOf_63 rfl rfl ?_
    refine T_callVI (pc := 64) (As := [.int (iI p0)]) (k := 67) (st := []) ok_yX10_pullBy lm_X10_185 dX10_capeOf_64 (by decide) rfl rfl (by decide) (Nat.le_of_ble_eq_true rfl) (m_X10_pullBy m7 p0) (fun r11 m10 em10 => ?_)
    refine J_goto (pc := 67) (tgt := 71) dX10_capeOf_67 (by decide) ?_
    exact T_retI (pc := 71) rfl dX10_capeOf_71
def f_X10_cape (m0 : Mem) (p0 : Int) (p1 : Int) : Option (Int × Mem) := bd (f_X10_isCape m0 p0) fun r2 m1 => if w32 r2 = 0 then (some ((-1), m1)) else (bd (f_X10_in m1 (w32 p1) 0 3) fun r5 m4 => if w32 r5 = 0 then (some ((-1), m4)) else (bd (f_X10_capeOf m4 p0 p1) fun r8 m7 => vm (wr m7 67 10 r8) fun m9 => some (1, m9)))
set_option maxRecDepth 40000 in
theorem m_X10_cape {l : Launch} {G : qG} (m0 : Mem) (p0 : Int) (p1 : Int) : qM l G 4 yX10_cape cX10_cape 3 (some .int) [.ref 67, .int (iI p0), .int (iI p1)] (lay m0) (lf eI (f_X10_cape m0 p0 p1)) := by
  refine qM_of (L := [some (.ref 67), some (.int (iI p0)), some (.int (iI p1))]) (by decide +kernel) (Nat.le_of_ble_eq_true rfl) rfl ?_
  unfold f_X10_cape
  refine J_aload_n (pc := 0) dX10_cape_0 rfl rfl rfl ?_
  refine J_iload_n (pc := 1) dX10_cape_1 rfl rfl ?_
  refine T_callVI (pc := 2) (As := [.int (iI p0)]) (k := 67) (st := []) ok_yX10_isCape lm_X10_198 dX10_cape_2 (by decide) rfl rfl (by decide) (Nat.le_of_ble_eq_true rfl) (m_X10_isCape m0 p0) (fun r2 m1 em1 => ?_)
  refine T_if_eq (pc := 5) (tgt := 20) dX10_cape_5 (by decide) (fun h3 => ?_) (fun h3 => ?_)
  · refine J_iconst (pc := 20) dX10_cape_20 ?_
    exact T_retI (pc := 21) rfl dX10_cape_21
  · refine J_iload_n (pc := 8) dX10_cape_8 rfl rfl ?_
    refine J_i2l (pc := 9) dX10_cape_9 ?_
    refine J_lconst (pc := 10) (z := 0) dX10_cape_10 (by decide) ?_
    refine J_ldc2 (pc := 11) (z := 3) dX10_cape_11 lk_X10_102 (by decide) ?_
    refine T_callSI (pc := 14) (As := [.long (iL (w32 p1)), .long (iL 0), .long (iL 3)]) (st := []) ok_yX10_in lm_X10_98 dX10_cape_14 (by decide) (Nat.le_of_ble_eq_true rfl) (m_X10_in m1 (w32 p1) 0 3) (fun r5 m4 em4 => ?_)
    refine T_if_ne (pc := 17) (tgt := 22) dX10_cape_17 (by decide) (fun h6 => ?_) (fun h6 => ?_)
    · refine J_aload_n (pc := 22) dX10_cape_22 rfl rfl rfl ?_
      refine J_aload_n (pc := 23) dX10_cape_23 rfl rfl rfl ?_
      refine J_iload_n (pc := 24) dX10_cape_24 rfl rfl ?_
      refine J_iload_n (pc := 25) dX10_cape_25 rfl rfl ?_
      refine T_callVI (pc := 26) (As := [.int (iI p0), .int (iI p1)]) (k := 67) (st := [.ref 67]) ok_yX10_capeOf lm_X10_201 dX10_cape_26 (by decide) rfl rfl (by decide) (Nat.le_of_ble_eq_true rfl) (m_X10_capeOf m4 p0 p1) (fun r8 m7 em7 => ?_)
      refine tp_X10_118 (pc := 29) rfl dX10_cape_29 ?_
      refine T_vm (fun m9 em9 => ?_)
      refine J_iconst (pc := 32) dX10_cape_32 ?_
      exact T_retI (pc := 33) rfl dX10_cape_33
    · refine J_iconst (pc := 20) dX10_cape_20 ?_
      exact T_retI (pc := 21) rfl dX10_cape_21
def f_X10_valleyOf (m0 : Mem) (p0 : Int) (p1 : Int) : Option (Int × Mem) := if w32 p1 = 0 then (ck p0 4 (some (m0 69 (w32 p0).toNat, m0))) else (if w32 p1 = 1 then (ck p0 4 (some (m0 70 (w32 p0).toNat, m0))) else (if w32 p1 = 2 then (ck p0 4 (some (m0 71 (w32 p0).toNat, m0))) else (if w32 p1 = 3 then (ck p0 4 (some (m0 72 (w32 p0).toNat, m0))) else (ck (12 + p0) 16 (some (m0 73 (w32 (12 + p0)).toNat, m0))))))
set_option maxRecDepth 40000 in
theorem m_X10_valleyOf {l : Launch} {G : qG} (m0 : Mem) (p0 : Int) (p1 : Int) : qM l G 1 yX10_valleyOf cX10_valleyOf 3 (some .int) [.ref 67, .int (iI p0), .int (iI p1)] (lay m0) (lf eI (f_X10_valleyOf m0 p0 p1)) := by
  refine qM_of (L := [some (.ref 67), some (.int (iI p0)), some (.int (iI p1))]) (by decide +kernel) (Nat.le_of_ble_eq_true rfl) rfl ?_
  unfold f_X10_valleyOf
  refine J_iload_n (pc := 0) dX10_valleyOf_0 rfl rfl ?_
  by_cases h1 : w32 p1 = 0
  · rw [if_pos h1]
    refine J_swIn (pc := 1) (j := 0) (tgt := 32) dX10_valleyOf_1 h1 (by decide) (by decide) rfl (by decide) ?_
    refine J_aload_n (pc := 32) dX10_valleyOf_32 rfl rfl rfl ?_
    refine tg_X10_13 (pc := 33) rfl dX10_valleyOf_33 ?_
    refine J_iload_n (pc := 36) dX10_valleyOf_36 rfl rfl ?_
    refine T_iaload (pc := 37) (by decide) rfl dX10_valleyOf_37 (fun h2 => ?_)
    exact T_retI (pc := 38) rfl dX10_valleyOf_38
  rw [if_neg h1]
  by_cases h3 : w32 p1 = 1
  · rw [if_pos h3]
    refine J_swIn (pc := 1) (j := 1) (tgt := 39) dX10_valleyOf_1 h3 (by decide) (by decide) rfl (by decide) ?_
    refine J_aload_n (pc := 39) dX10_valleyOf_39 rfl rfl rfl ?_
    refine tg_X10_16 (pc := 40) rfl dX10_valleyOf_40 ?_
    refine J_iload_n (pc := 43) dX10_valleyOf_43 rfl rfl ?_
    refine T_iaload (pc := 44) (by decide) rfl dX10_valleyOf_44 (fun h4 => ?_)
    exact T_retI (pc := 45) rfl dX10_valleyOf_45
  rw [if_neg h3]
  by_cases h5 : w32 p1 = 2
  · rw [if_pos h5]
    refine J_swIn (pc := 1) (j := 2) (tgt := 46) dX10_valleyOf_1 h5 (by decide) (by decide) rfl (by decide) ?_
    refine J_aload_n (pc := 46) dX10_valleyOf_46 rfl rfl rfl ?_
    refine tg_X10_19 (pc := 47) rfl dX10_valleyOf_47 ?_
    refine J_iload_n (pc := 50) dX10_valleyOf_50 rfl rfl ?_
    refine T_iaload (pc := 51) (by decide) rfl dX10_valleyOf_51 (fun h6 => ?_)
    exact T_retI (pc := 52) rfl dX10_valleyOf_52
  rw [if_neg h5]
  by_cases h7 : w32 p1 = 3
  · rw [if_pos h7]
    refine J_swIn (pc := 1) (j := 3) (tgt := 53) dX10_valleyOf_1 h7 (by decide) (by decide) rfl (by decide) ?_
    refine J_aload_n (pc := 53) dX10_valleyOf_53 rfl rfl rfl ?_
    refine tg_X10_22 (pc := 54) rfl dX10_valleyOf_54 ?_
    refine J_iload_n (pc := 57) dX10_valleyOf_57 rfl rfl ?_
    refine T_iaload (pc := 58) (by decide) rfl dX10_valleyOf_58 (fun h8 => ?_)
    exact T_retI (pc := 59) rfl dX10_valleyOf_59
  rw [if_neg h7]
  refine J_swOut (pc := 1) (tgt := 60) dX10_valleyOf_1 (by omega) (by decide) ?_
  refine J_aload_n (pc := 60) dX10_valleyOf_60 rfl rfl rfl ?_
  refine tg_X10_25 (pc := 61) rfl dX10_valleyOf_61 ?_
  refine J_bipush (pc := 64) dX10_valleyOf_64 (by decide) (by decide) ?_
  refine J_iload_n (pc := 66) dX10_valleyOf_66 rfl rfl ?_
  refine J_iadd (pc := 67) dX10_valleyOf_67 ?_
  refine T_iaload (pc := 68) (by decide) rfl dX10_valleyOf_68 (fun h9 => ?_)
  exact T_retI (pc := 69) rfl dX10_valleyOf_69
def f_X10_valley (m0 : Mem) (p0 : Int) (p1 : Int) : Option (Int × Mem) := bd (f_X10_isValley m0 p0) fun r2 m1 => if w32 r2 = 0 then (some ((-1), m1)) else (bd (f_X10_in m1 (w32 p1) 0 4) fun r5 m4 => if w32 r5 = 0 then (some ((-1), m4)) else (bd (f_X10_valleyOf m4 p0 p1) fun r8 m7 => vm (wr m7 67 10 r8) fun m9 => some (1, m9)))
set_option maxRecDepth 40000 in
theorem m_X10_valley {l : Launch} {G : qG} (m0 : Mem) (p0 : Int) (p1 : Int) : qM l G 3 yX10_valley cX10_valley 3 (some .int) [.ref 67, .int (iI p0), .int (iI p1)] (lay m0) (lf eI (f_X10_valley m0 p0 p1)) := by
  refine qM_of (L := [some (.ref 67), some (.int (iI p0)), some (.int (iI p1))]) (by decide +kernel) (Nat.le_of_ble_eq_true rfl) rfl ?_
  unfold f_X10_valley
  refine J_aload_n (pc := 0) dX10_valley_0 rfl rfl rfl ?_
  refine J_iload_n (pc := 1) dX10_valley_1 rfl rfl ?_
  refine T_callVI (pc := 2) (As := [.int (iI p0)]) (k := 67) (st := []) ok_yX10_isValley lm_X10_205 dX10_valley_2 (by decide) rfl rfl (by decide) (Nat.le_of_ble_eq_true rfl) (m_X10_isValley m0 p0) (fun r2 m1 em1 => ?_)
  refine T_if_eq (pc := 5) (tgt := 20) dX10_valley_5 (by decide) (fun h3 => ?_) (fun h3 => ?_)
  · refine J_iconst (pc := 20) dX10_valley_20 ?_
    exact T_retI (pc := 21) rfl dX10_valley_21
  · refine J_iload_n (pc := 8) dX10_valley_8 rfl rfl ?_
    refine J_i2l (pc := 9) dX10_valley_9 ?_
    refine J_lconst (pc := 10) (z := 0) dX10_valley_10 (by decide) ?_
    refine J_ldc2 (pc := 11) (z := 4) dX10_valley_11 lk_X10_208 (by decide) ?_
    refine T_callSI (pc := 14) (As := [.long (iL (w32 p1)), .long (iL 0), .long (iL 4)]) (st := []) ok_yX10_in lm_X10_98 dX10_valley_14 (by decide) (Nat.le_of_ble_eq_true rfl) (m_X10_in m1 (w32 p1) 0 4) (fun r5 m4 em4 => ?_)
    refine T_if_ne (pc := 17) (tgt := 22) dX10_valley_17 (by decide) (fun h6 => ?_) (fun h6 => ?_)
    · refine J_aload_n (pc := 22) dX10_valley_22 rfl rfl rfl ?_
      refine J_aload_n (pc := 23) dX10_valley_23 rfl rfl rfl ?_
      refine J_iload_n (pc := 24) dX10_valley_24 rfl rfl ?_
      refine J_iload_n (pc := 25) dX10_valley_25 rfl rfl ?_
      refine T_callVI (pc := 26) (As := [.int (iI p0), .int (iI p1)]) (k := 67) (st := [.ref 67]) ok_yX10_valleyOf lm_X10_210 dX10_valley_26 (by decide) rfl rfl (by decide) (Nat.le_of_ble_eq_true rfl) (m_X10_valleyOf m4 p0 p1) (fun r8 m7 em7 => ?_)
      refine tp_X10_118 (pc := 29) rfl dX10_valley_29 ?_
      refine T_vm (fun m9 em9 => ?_)
      refine J_iconst (pc := 32) dX10_valley_32 ?_
      exact T_retI (pc := 33) rfl dX10_valley_33
    · refine J_iconst (pc := 20) dX10_valley_20 ?_
      exact T_retI (pc := 21) rfl dX10_valley_21
def f_X10_weaker_L4 (p0 : Int) : Nat → Int → Int → Mem → Option (Int × Mem)
  | 0, _, _, _ => none
  | u + 1, i2, i3, mu4 => if w32 i3 < w32 (mu4 67 0) then (bd (f_X10_pullBy mu4 i3) fun r3 m2 => bd (f_X10_pullBy m2 p0) fun r5 m4 => vl (if w32 r3 < w32 r5 then 1 else 0) fun v6 => vl (i2 + v6) fun x8 => f_X10_weaker_L4 p0 u x8 (i3 + 1) m4) else (some (i2, mu4))
set_option maxRecDepth 40000 in
theorem j_X10_weaker_L4 {l : Launch} {G : qG} {p0 : Int} : ∀ (u : Nat) (i2 : Int) (i3 : Int) (mu4 : Mem), qJ l G yX10_weaker cX10_weaker 4 (some .int) 3 4 [some (.ref 67), some (.int (iI p0)), some (.int (iI i2)), some (.int (iI i3))] [] (lay mu4) (lf eI (f_X10_weaker_L4 p0 u i2 i3 mu4)) := by
  intro u
  induction u with
  | zero => intro _ _ mu4; exact T_none
  | succ u ih =>
    intro i2 i3 mu4
    rw [f_X10_weaker_L4]
    refine J_iload_n (pc := 4) dX10_weaker_4 rfl rfl ?_
    refine J_aload_n (pc := 5) dX10_weaker_5 rfl rfl rfl ?_
    refine tg_X10_104 (pc := 6) rfl dX10_weaker_6 ?_
    refine T_icmp_ge (pc := 9) (tgt := 39) dX10_weaker_9 (by decide) (fun h1 => ?_) (fun h1 => ?_)
    · refine J_iload_n (pc := 39) dX10_weaker_39 rfl rfl ?_
      exact T_retI (pc := 40) rfl dX10_weaker_40
    · refine J_iload_n (pc := 12) dX10_weaker_12 rfl rfl ?_
      refine J_aload_n (pc := 13) dX10_weaker_13 rfl rfl rfl ?_
      refine J_iload_n (pc := 14) dX10_weaker_14 rfl rfl ?_
      refine T_callVI (pc := 15) (As := [.int (iI i3)]) (k := 67) (st := [.int (iI i2)]) ok_yX10_pullBy lm_X10_185 dX10_weaker_15 (by decide) rfl rfl (by decide) (Nat.le_of_ble_eq_true rfl) (m_X10_pullBy mu4 i3) (fun r3 m2 em2 => ?_)
      refine J_aload_n (pc := 18) dX10_weaker_18 rfl rfl rfl ?_
      refine J_iload_n (pc := 19) dX10_weaker_19 rfl rfl ?_
      refine T_callVI (pc := 20) (As := [.int (iI p0)]) (k := 67) (st := [.int (iI r3), .int (iI i2)]) ok_yX10_pullBy lm_X10_185 dX10_weaker_20 (by decide) rfl rfl (by decide) (Nat.le_of_ble_eq_true rfl) (m_X10_pullBy m2 p0) (fun r5 m4 em4 => ?_)
      refine T_vl (fun v6 ev6 => ?_)
      refine T_dia (j := 31) (v := v6) (LT := [some (.ref 67), some (.int (iI p0)), some (.int (iI i2)), some (.int (iI i3))]) (sT := [.int (iI i2)]) ?_ (fun hj7 => ?_)
      · refine J_iadd (pc := 31) dX10_weaker_31 ?_
        refine T_vlI (pc := 32) (fun x8 ex8 => ?_)
        refine J_istore_n (pc := 32) (L' := [some (.ref 67), some (.int (iI p0)), some (.int (iI x8)), some (.int (iI i3))]) dX10_weaker_32 rfl (by decide) rfl rfl ?_
        refine J_iinc (pc := 33) (L' := [some (.ref 67), some (.int (iI p0)), some (.int (iI x8)), some (.int (iI (i3 + 1)))]) dX10_weaker_33 rfl (by decide) rfl rfl ?_
        refine J_goto (pc := 36) (tgt := 4) dX10_weaker_36 (by decide) ?_
        exact ih x8 (i3 + 1) m4
      · refine T_icmp_ge_same (pc := 23) (tgt := 30) dX10_weaker_23 (by decide) (fun h9 => ?_) (fun h9 => ?_)
        · refine J_iconst (pc := 30) dX10_weaker_30 ?_
          exact T_top (by rw [ev6, if_neg h9]) hj7
        · refine J_iconst (pc := 26) dX10_weaker_26 ?_
          refine J_goto (pc := 27) (tgt := 31) dX10_weaker_27 (by decide) ?_
          exact T_top (by rw [ev6, if_pos h9]) hj7
def f_X10_weaker (m0 : Mem) (p0 : Int) : Option (Int × Mem) := f_X10_weaker_L4 p0 100000 0 0 m0
set_option maxRecDepth 40000 in
theorem m_X10_weaker {l : Launch} {G : qG} (m0 : Mem) (p0 : Int) : qM l G 3 yX10_weaker cX10_weaker 4 (some .int) [.ref 67, .int (iI p0)] (lay m0) (lf eI (f_X10_weaker m0 p0)) := by
  refine qM_of (L := [some (.ref 67), some (.int (iI p0)), none, none]) (by decide +kernel) (Nat.le_of_ble_eq_true rfl) rfl ?_
  unfold f_X10_weaker
  refine J_iconst (pc := 0) dX10_weaker_0 ?_
  refine J_istore_n (pc := 1) (L' := [some (.ref 67), some (.int (iI p0)), some (.int (iI 0)), none]) dX10_weaker_1 rfl (by decide) rfl rfl ?_
  refine J_iconst (pc := 2) dX10_weaker_2 ?_
  refine J_istore_n (pc := 3) (L' := [some (.ref 67), some (.int (iI p0)), some (.int (iI 0)), some (.int (iI 0))]) dX10_weaker_3 rfl (by decide) rfl rfl ?_
  refine j_X10_weaker_L4 100000 0 0 m0
def f_X10_mark (m0 : Mem) (p0 : Int) (p1 : Int) : Option (Int × Mem) := bd (f_X10_isCape m0 p0) fun r2 m1 => if w32 r2 = 0 then (some ((-1), m1)) else (bd (f_X10_in m1 (w32 p1) 1 5) fun r5 m4 => if w32 r5 = 0 then (some ((-1), m4)) else (bd (f_X10_isOf m4 p0 p1) fun r8 m7 => if w32 r8 = 0 then (bd (f_X10_finds m7 3) fun r31 m30 => some (r31, m30)) else (if w32 p1 = 1 then (bd (f_X10_isDown m7) fun r12 m11 => if w32 r12 = 0 then (ck 0 16 (ckz 6 (ckz 2 (vl (if w32 (zrem (zdiv (m11 73 (w32 0).toNat) 6) 2) = 0 then 1 else 0) fun v15 => some (v15, m11))))) else (some (0, m11))) else (if w32 p1 = 2 then (bd (f_X10_weaker m7 p0) fun r20 m19 => some (r20, m19)) else (if w32 p1 = 3 then (ck 0 16 (if w32 (m7 73 (w32 0).toNat) < w32 24 then (ck 0 16 (some (24 - (m7 73 (w32 0).toNat), m7))) else (some (0, m7)))) else (if w32 p1 = 4 then (ck (7 + p0) 16 (ckz 2 (some (zdiv (10 - (m7 73 (w32 (7 + p0)).toNat)) 2, m7)))) else (ck (7 + p0) 16 (if 0 < w32 (m7 73 (w32 (7 + p0)).toNat) then (ck (2 + p0) 16 (some (m7 73 (w32 (2 + p0)).toNat, m7))) else (some (0, m7))))))))))
set_option maxRecDepth 40000 in
theorem m_X10_mark {l : Launch} {G : qG} (m0 : Mem) (p0 : Int) (p1 : Int) : qM l G 4 yX10_mark cX10_mark 3 (some .int) [.ref 67, .int (iI p0), .int (iI p1)] (lay m0) (lf eI (f_X10_mark m0 p0 p1)) := by
  refine qM_of (L := [some (.ref 67), some (.int (iI p0)), some (.int (iI p1))]) (by decide +kernel) (Nat.le_of_ble_eq_true rfl) rfl ?_
  unfold f_X10_mark
  refine J_aload_n (pc := 0) dX10_mark_0 rfl rfl rfl ?_
  refine J_iload_n (pc := 1) dX10_mark_1 rfl rfl ?_
  refine T_callVI (pc := 2) (As := [.int (iI p0)]) (k := 67) (st := []) ok_yX10_isCape lm_X10_198 dX10_mark_2 (by decide) rfl rfl (by decide) (Nat.le_of_ble_eq_true rfl) (m_X10_isCape m0 p0) (fun r2 m1 em1 => ?_)
  refine T_if_eq (pc := 5) (tgt := 20) dX10_mark_5 (by decide) (fun h3 => ?_) (fun h3 => ?_)
  · refine J_iconst (pc := 20) dX10_mark_20 ?_
    exact T_retI (pc := 21) rfl dX10_mark_21
  · refine J_iload_n (pc := 8) dX10_mark_8 rfl rfl ?_
    refine J_i2l (pc := 9) dX10_mark_9 ?_
    refine J_lconst (pc := 10) (z := 1) dX10_mark_10 (by decide) ?_
    refine J_ldc2 (pc := 11) (z := 5) dX10_mark_11 lk_X10_96 (by decide) ?_
    refine T_callSI (pc := 14) (As := [.long (iL (w32 p1)), .long (iL 1), .long (iL 5)]) (st := []) ok_yX10_in lm_X10_98 dX10_mark_14 (by decide) (Nat.le_of_ble_eq_true rfl) (m_X10_in m1 (w32 p1) 1 5) (fun r5 m4 em4 => ?_)
    refine T_if_ne (pc := 17) (tgt := 22) dX10_mark_17 (by decide) (fun h6 => ?_) (fun h6 => ?_)
    · refine J_aload_n (pc := 22) dX10_mark_22 rfl rfl rfl ?_
      refine J_iload_n (pc := 23) dX10_mark_23 rfl rfl ?_
      refine J_iload_n (pc := 24) dX10_mark_24 rfl rfl ?_
      refine T_callVI (pc := 25) (As := [.int (iI p0), .int (iI p1)]) (k := 67) (st := []) ok_yX10_isOf lm_X10_159 dX10_mark_25 (by decide) rfl rfl (by decide) (Nat.le_of_ble_eq_true rfl) (m_X10_isOf m4 p0 p1) (fun r8 m7 em7 => ?_)
      refine T_if_ne (pc := 28) (tgt := 37) dX10_mark_28 (by decide) (fun h9 => ?_) (fun h9 => ?_)
      · refine J_iload_n (pc := 37) dX10_mark_37 rfl rfl ?_
        by_cases h10 : w32 p1 = 1
        · rw [if_pos h10]
          refine J_swIn (pc := 38) (j := 1) (tgt := 68) dX10_mark_38 h10 (by decide) (by decide) rfl (by decide) ?_
          refine J_aload_n (pc := 68) dX10_mark_68 rfl rfl rfl ?_
          refine T_callVI (pc := 69) (As := []) (k := 67) (st := []) ok_yX10_isDown lm_X10_163 dX10_mark_69 (by decide) rfl rfl (by decide) (Nat.le_of_ble_eq_true rfl) (m_X10_isDown m7) (fun r12 m11 em11 => ?_)
          refine T_if_ne (pc := 72) (tgt := 93) dX10_mark_72 (by decide) (fun h13 => ?_) (fun h13 => ?_)
          · refine J_iconst (pc := 93) dX10_mark_93 ?_
            exact T_retI (pc := 94) rfl dX10_mark_94
          · refine J_aload_n (pc := 75) dX10_mark_75 rfl rfl rfl ?_
            refine tg_X10_25 (pc := 76) rfl dX10_mark_76 ?_
            refine J_iconst (pc := 79) dX10_mark_79 ?_
            refine T_iaload (pc := 80) (by decide) rfl dX10_mark_80 (fun h14 => ?_)
            refine J_bipush (pc := 81) dX10_mark_81 (by decide) (by decide) ?_
            refine T_idiv (pc := 83) dX10_mark_83 ?_
            refine J_iconst (pc := 84) dX10_mark_84 ?_
            refine T_irem (pc := 85) dX10_mark_85 ?_
            refine T_vl (fun v15 ev15 => ?_)
            refine T_dia (j := 94) (v := v15) (LT := [some (.ref 67), some (.int (iI p0)), some (.int (iI p1))]) (sT := []) ?_ (fun hj16 => ?_)
            · exact T_retI (pc := 94) rfl dX10_mark_94
            · refine T_if_ne_same (pc := 86) (tgt := 93) dX10_mark_86 (by decide) (fun h17 => ?_) (fun h17 => ?_)
              · refine J_iconst (pc := 93) dX10_mark_93 ?_
                exact T_top (by rw [ev15, if_neg h17]) hj16
              · refine J_iconst (pc := 89) dX10_mark_89 ?_
                refine J_goto (pc := 90) (tgt := 94) dX10_mark_90 (by decide) ?_
                exact T_top (by rw [ev15, if_pos h17]) hj16
        rw [if_neg h10]
        by_cases h18 : w32 p1 = 2
        · rw [if_pos h18]
          refine J_swIn (pc := 38) (j := 2) (tgt := 95) dX10_mark_38 h18 (by decide) (by decide) rfl (by decide) ?_
          refine J_aload_n (pc := 95) dX10_mark_95 rfl rfl rfl ?_
          refine J_iload_n (pc := 96) dX10_mark_96 rfl rfl ?_
          refine T_callVI (pc := 97) (As := [.int (iI p0)]) (k := 67) (st := []) ok_yX10_weaker lm_X10_213 dX10_mark_97 (by decide) rfl rfl (by decide) (Nat.le_of_ble_eq_true rfl) (m_X10_weaker m7 p0) (fun r20 m19 em19 => ?_)
          exact T_retI (pc := 100) rfl dX10_mark_100
        rw [if_neg h18]
        by_cases h21 : w32 p1 = 3
        · rw [if_pos h21]
          refine J_swIn (pc := 38) (j := 3) (tgt := 101) dX10_mark_38 h21 (by decide) (by decide) rfl (by decide) ?_
          refine J_aload_n (pc := 101) dX10_mark_101 rfl rfl rfl ?_
          refine tg_X10_25 (pc := 102) rfl dX10_mark_102 ?_
          refine J_iconst (pc := 105) dX10_mark_105 ?_
          refine T_iaload (pc := 106) (by decide) rfl dX10_mark_106 (fun h22 => ?_)
          refine J_bipush (pc := 107) dX10_mark_107 (by decide) (by decide) ?_
          refine T_icmp_ge (pc := 109) (tgt := 124) dX10_mark_109 (by decide) (fun h23 => ?_) (fun h23 => ?_)
          · refine J_iconst (pc := 124) dX10_mark_124 ?_
            exact T_retI (pc := 125) rfl dX10_mark_125
          · refine J_bipush (pc := 112) dX10_mark_112 (by decide) (by decide) ?_
            refine J_aload_n (pc := 114) dX10_mark_114 rfl rfl rfl ?_
            refine tg_X10_25 (pc := 115) rfl dX10_mark_115 ?_
            refine J_iconst (pc := 118) dX10_mark_118 ?_
            refine T_iaload (pc := 119) (by decide) rfl dX10_mark_119 (fun h24 => ?_)
            refine J_isub (pc := 120) dX10_mark_120 ?_
            refine J_goto (pc := 121) (tgt := 125) dX10_mark_121 (by decide) ?_
            exact T_retI (pc := 125) rfl dX10_mark_125
        rw [if_neg h21]
        by_cases h25 : w32 p1 = 4
        · rw [if_pos h25]
          refine J_swIn (pc := 38) (j := 4) (tgt := 126) dX10_mark_38 h25 (by decide) (by decide) rfl (by decide) ?_
          refine J_bipush (pc := 126) dX10_mark_126 (by decide) (by decide) ?_
          refine J_aload_n (pc := 128) dX10_mark_128 rfl rfl rfl ?_
          refine tg_X10_25 (pc := 129) rfl dX10_mark_129 ?_
          refine J_bipush (pc := 132) dX10_mark_132 (by decide) (by decide) ?_
          refine J_iload_n (pc := 134) dX10_mark_134 rfl rfl ?_
          refine J_iadd (pc := 135) dX10_mark_135 ?_
          refine T_iaload (pc := 136) (by decide) rfl dX10_mark_136 (fun h26 => ?_)
          refine J_isub (pc := 137) dX10_mark_137 ?_
          refine J_iconst (pc := 138) dX10_mark_138 ?_
          refine T_idiv (pc := 139) dX10_mark_139 ?_
          exact T_retI (pc := 140) rfl dX10_mark_140
        rw [if_neg h25]
        refine J_swOut (pc := 38) (tgt := 141) dX10_mark_38 (by omega) (by decide) ?_
        refine J_aload_n (pc := 141) dX10_mark_141 rfl rfl rfl ?_
        refine tg_X10_25 (pc := 142) rfl dX10_mark_142 ?_
        refine J_bipush (pc := 145) dX10_mark_145 (by decide) (by decide) ?_
        refine J_iload_n (pc := 147) dX10_mark_147 rfl rfl ?_
        refine J_iadd (pc := 148) dX10_mark_148 ?_
        refine T_iaload (pc := 149) (by decide) rfl dX10_mark_149 (fun h27 => ?_)
        refine T_if_le (pc := 150) (tgt := 164) dX10_mark_150 (by decide) (fun h28 => ?_) (fun h28 => ?_)
        · refine J_iconst (pc := 164) dX10_mark_164 ?_
          exact T_retI (pc := 165) rfl dX10_mark_165
        · refine J_aload_n (pc := 153) dX10_mark_153 rfl rfl rfl ?_
          refine tg_X10_25 (pc := 154) rfl dX10_mark_154 ?_
          refine J_iconst (pc := 157) dX10_mark_157 ?_
          refine J_iload_n (pc := 158) dX10_mark_158 rfl rfl ?_
          refine J_iadd (pc := 159) dX10_mark_159 ?_
          refine T_iaload (pc := 160) (by decide) rfl dX10_mark_160 (fun h29 => ?_)
          refine J_goto (pc := 161) (tgt := 165) dX10_mark_161 (by decide) ?_
          exact T_retI (pc := 165) rfl dX10_mark_165
      · refine J_aload_n (pc := 31) dX10_mark_31 rfl rfl rfl ?_
        refine J_iconst (pc := 32) dX10_mark_32 ?_
        refine T_callVI (pc := 33) (As := [.int (iI 3)]) (k := 67) (st := []) ok_yX10_finds lm_X10_114 dX10_mark_33 (by decide) rfl rfl (by decide) (Nat.le_of_ble_eq_true rfl) (m_X10_finds m7 3) (fun r31 m30 em30 => ?_)
        exact T_retI (pc := 36) rfl dX10_mark_36
    · refine J_iconst (pc := 20) dX10_mark_20 ?_
      exact T_retI (pc := 21) rfl dX10_mark_21
def f_X10_price (m0 : Mem) (p0 : Int) (p1 : Int) : Option (Int × Mem) := bd (f_X10_isValley m0 p0) fun r2 m1 => if w32 r2 = 0 then (some ((-1), m1)) else (bd (f_X10_in m1 (w32 p1) 0 9) fun r5 m4 => if w32 r5 = 0 then (some ((-1), m4)) else (ck p0 4 (vl (m4 72 (w32 p0).toNat) fun x8 => ck p0 4 (vm (wr m4 72 (w32 p0).toNat p1) fun m10 => some (x8, m10)))))
set_option maxRecDepth 40000 in
theorem m_X10_price {l : Launch} {G : qG} (m0 : Mem) (p0 : Int) (p1 : Int) : qM l G 3 yX10_price cX10_price 4 (some .int) [.ref 67, .int (iI p0), .int (iI p1)] (lay m0) (lf eI (f_X10_price m0 p0 p1)) := by
  refine qM_of (L := [some (.ref 67), some (.int (iI p0)), some (.int (iI p1)), none]) (by decide +kernel) (Nat.le_of_ble_eq_true rfl) rfl ?_
  unfold f_X10_price
  refine J_aload_n (pc := 0) dX10_price_0 rfl rfl rfl ?_
  refine J_iload_n (pc := 1) dX10_price_1 rfl rfl ?_
  refine T_callVI (pc := 2) (As := [.int (iI p0)]) (k := 67) (st := []) ok_yX10_isValley lm_X10_205 dX10_price_2 (by decide) rfl rfl (by decide) (Nat.le_of_ble_eq_true rfl) (m_X10_isValley m0 p0) (fun r2 m1 em1 => ?_)
  refine T_if_eq (pc := 5) (tgt := 20) dX10_price_5 (by decide) (fun h3 => ?_) (fun h3 => ?_)
  · refine J_iconst (pc := 20) dX10_price_20 ?_
    exact T_retI (pc := 21) rfl dX10_price_21
  · refine J_iload_n (pc := 8) dX10_price_8 rfl rfl ?_
    refine J_i2l (pc := 9) dX10_price_9 ?_
    refine J_lconst (pc := 10) (z := 0) dX10_price_10 (by decide) ?_
    refine J_ldc2 (pc := 11) (z := 9) dX10_price_11 lk_X10_216 (by decide) ?_
    refine T_callSI (pc := 14) (As := [.long (iL (w32 p1)), .long (iL 0), .long (iL 9)]) (st := []) ok_yX10_in lm_X10_98 dX10_price_14 (by decide) (Nat.le_of_ble_eq_true rfl) (m_X10_in m1 (w32 p1) 0 9) (fun r5 m4 em4 => ?_)
    refine T_if_ne (pc := 17) (tgt := 22) dX10_price_17 (by decide) (fun h6 => ?_) (fun h6 => ?_)
    · refine J_aload_n (pc := 22) dX10_price_22 rfl rfl rfl ?_
      refine tg_X10_22 (pc := 23) rfl dX10_price_23 ?_
      refine J_iload_n (pc := 26) dX10_price_26 rfl rfl ?_
      refine T_iaload (pc := 27) (by decide) rfl dX10_price_27 (fun h7 => ?_)
      refine T_vlI (pc := 28) (fun x8 ex8 => ?_)
      refine J_istore_n (pc := 28) (L' := [some (.ref 67), some (.int (iI p0)), some (.int (iI p1)), some (.int (iI x8))]) dX10_price_28 rfl (by decide) rfl rfl ?_
      refine J_aload_n (pc := 29) dX10_price_29 rfl rfl rfl ?_
      refine tg_X10_22 (pc := 30) rfl dX10_price_30 ?_
      refine J_iload_n (pc := 33) dX10_price_33 rfl rfl ?_
      refine J_iload_n (pc := 34) dX10_price_34 rfl rfl ?_
      refine T_iastore (pc := 35) (by decide) rfl dX10_price_35 (fun h9 => ?_)
      refine T_vm (fun m10 em10 => ?_)
      refine J_iload_n (pc := 36) dX10_price_36 rfl rfl ?_
      exact T_retI (pc := 37) rfl dX10_price_37
    · refine J_iconst (pc := 20) dX10_price_20 ?_
      exact T_retI (pc := 21) rfl dX10_price_21
def f_X10_hold (m0 : Mem) (p0 : Int) : Option (Int × Mem) := bd (f_X10_isSet m0 p0) fun r2 m1 => if w32 r2 = 0 then (some ((-1), m1)) else (if w32 (m1 67 0) = 0 then (some ((-4), m1)) else (if w32 (m1 67 8) = w32 60 then (some ((-2), m1)) else (bd (f_X10_remember m1) fun _u m6 => bd (f_X10_goHour m6 p0) fun r8 m7 => vm (wr m7 67 10 (m7 67 35)) fun m9 => some (r8, m9))))
set_option maxRecDepth 40000 in
theorem m_X10_hold {l : Launch} {G : qG} (m0 : Mem) (p0 : Int) : qM l G 5 yX10_hold cX10_hold 3 (some .int) [.ref 67, .int (iI p0)] (lay m0) (lf eI (f_X10_hold m0 p0)) := by
  refine qM_of (L := [some (.ref 67), some (.int (iI p0)), none]) (by decide +kernel) (Nat.le_of_ble_eq_true rfl) rfl ?_
  unfold f_X10_hold
  refine J_aload_n (pc := 0) dX10_hold_0 rfl rfl rfl ?_
  refine J_iload_n (pc := 1) dX10_hold_1 rfl rfl ?_
  refine T_callVI (pc := 2) (As := [.int (iI p0)]) (k := 67) (st := []) ok_yX10_isSet lm_X10_218 dX10_hold_2 (by decide) rfl rfl (by decide) (Nat.le_of_ble_eq_true rfl) (m_X10_isSet m0 p0) (fun r2 m1 em1 => ?_)
  refine T_if_ne (pc := 5) (tgt := 10) dX10_hold_5 (by decide) (fun h3 => ?_) (fun h3 => ?_)
  · refine J_aload_n (pc := 10) dX10_hold_10 rfl rfl rfl ?_
    refine tg_X10_104 (pc := 11) rfl dX10_hold_11 ?_
    refine T_if_ne (pc := 14) (tgt := 20) dX10_hold_14 (by decide) (fun h4 => ?_) (fun h4 => ?_)
    · refine J_aload_n (pc := 20) dX10_hold_20 rfl rfl rfl ?_
      refine tg_X10_156 (pc := 21) rfl dX10_hold_21 ?_
      refine J_bipush (pc := 24) dX10_hold_24 (by decide) (by decide) ?_
      refine T_icmp_ne (pc := 26) (tgt := 32) dX10_hold_26 (by decide) (fun h5 => ?_) (fun h5 => ?_)
      · refine J_aload_n (pc := 32) dX10_hold_32 rfl rfl rfl ?_
        refine T_callVU (pc := 33) (As := []) (k := 67) (st := []) ok_yX10_remember lm_X10_221 dX10_hold_33 (by decide) rfl rfl (by decide) (Nat.le_of_ble_eq_true rfl) (m_X10_remember m1) (fun _u m6 em6 => ?_)
        refine J_aload_n (pc := 36) dX10_hold_36 rfl rfl rfl ?_
        refine J_iload_n (pc := 37) dX10_hold_37 rfl rfl ?_
        refine T_callVI (pc := 38) (As := [.int (iI p0)]) (k := 67) (st := []) ok_yX10_goHour lm_X10_224 dX10_hold_38 (by decide) rfl rfl (by decide) (Nat.le_of_ble_eq_true rfl) (m_X10_goHour m6 p0) (fun r8 m7 em7 => ?_)
        refine J_istore_n (pc := 41) (L' := [some (.ref 67), some (.int (iI p0)), some (.int (iI r8))]) dX10_hold_41 rfl (by decide) rfl rfl ?_
        refine J_aload_n (pc := 42) dX10_hold_42 rfl rfl rfl ?_
        refine J_aload_n (pc := 43) dX10_hold_43 rfl rfl rfl ?_
        refine tg_X10_173 (pc := 44) rfl dX10_hold_44 ?_
        refine tp_X10_118 (pc := 47) rfl dX10_hold_47 ?_
        refine T_vm (fun m9 em9 => ?_)
        refine J_iload_n (pc := 50) dX10_hold_50 rfl rfl ?_
        exact T_retI (pc := 51) rfl dX10_hold_51
      · refine J_bipush (pc := 29) dX10_hold_29 (by decide) (by decide) ?_
        exact T_retI (pc := 31) rfl dX10_hold_31
    · refine J_bipush (pc := 17) dX10_hold_17 (by decide) (by decide) ?_
      exact T_retI (pc := 19) rfl dX10_hold_19
  · refine J_iconst (pc := 8) dX10_hold_8 ?_
    exact T_retI (pc := 9) rfl dX10_hold_9
def f_X10_rope (m0 : Mem) (p0 : Int) (p1 : Int) : Option (Int × Mem) := bd (f_X10_isCape m0 p0) fun r2 m1 => if w32 r2 = 0 then (some ((-1), m1)) else (bd (f_X10_in m1 (w32 p1) 1 9) fun r5 m4 => if w32 r5 = 0 then (some ((-1), m4)) else (if w32 (m4 67 8) = w32 60 then (some ((-2), m4)) else (bd (f_X10_remember m4) fun _u m8 => ck (2 + p0) 16 (vl (m8 73 (w32 (2 + p0)).toNat) fun x10 => ck (2 + p0) 16 (vm (wr m8 73 (w32 (2 + p0)).toNat p1) fun m12 => some (x10, m12))))))
set_option maxRecDepth 40000 in
theorem m_X10_rope {l : Launch} {G : qG} (m0 : Mem) (p0 : Int) (p1 : Int) : qM l G 3 yX10_rope cX10_rope 4 (some .int) [.ref 67, .int (iI p0), .int (iI p1)] (lay m0) (lf eI (f_X10_rope m0 p0 p1)) := by
  refine qM_of (L := [some (.ref 67), some (.int (iI p0)), some (.int (iI p1)), none]) (by decide +kernel) (Nat.le_of_ble_eq_true rfl) rfl ?_
  unfold f_X10_rope
  refine J_aload_n (pc := 0) dX10_rope_0 rfl rfl rfl ?_
  refine J_iload_n (pc := 1) dX10_rope_1 rfl rfl ?_
  refine T_callVI (pc := 2) (As := [.int (iI p0)]) (k := 67) (st := []) ok_yX10_isCape lm_X10_198 dX10_rope_2 (by decide) rfl rfl (by decide) (Nat.le_of_ble_eq_true rfl) (m_X10_isCape m0 p0) (fun r2 m1 em1 => ?_)
  refine T_if_eq (pc := 5) (tgt := 20) dX10_rope_5 (by decide) (fun h3 => ?_) (fun h3 => ?_)
  · refine J_iconst (pc := 20) dX10_rope_20 ?_
    exact T_retI (pc := 21) rfl dX10_rope_21
  · refine J_iload_n (pc := 8) dX10_rope_8 rfl rfl ?_
    refine J_i2l (pc := 9) dX10_rope_9 ?_
    refine J_lconst (pc := 10) (z := 1) dX10_rope_10 (by decide) ?_
    refine J_ldc2 (pc := 11) (z := 9) dX10_rope_11 lk_X10_216 (by decide) ?_
    refine T_callSI (pc := 14) (As := [.long (iL (w32 p1)), .long (iL 1), .long (iL 9)]) (st := []) ok_yX10_in lm_X10_98 dX10_rope_14 (by decide) (Nat.le_of_ble_eq_true rfl) (m_X10_in m1 (w32 p1) 1 9) (fun r5 m4 em4 => ?_)
    refine T_if_ne (pc := 17) (tgt := 22) dX10_rope_17 (by decide) (fun h6 => ?_) (fun h6 => ?_)
    · refine J_aload_n (pc := 22) dX10_rope_22 rfl rfl rfl ?_
      refine tg_X10_156 (pc := 23) rfl dX10_rope_23 ?_
      refine J_bipush (pc := 26) dX10_rope_26 (by decide) (by decide) ?_
      refine T_icmp_ne (pc := 28) (tgt := 34) dX10_rope_28 (by decide) (fun h7 => ?_) (fun h7 => ?_)
      · refine J_aload_n (pc := 34) dX10_rope_34 rfl rfl rfl ?_
        refine T_callVU (pc := 35) (As := []) (k := 67) (st := []) ok_yX10_remember lm_X10_221 dX10_rope_35 (by decide) rfl rfl (by decide) (Nat.le_of_ble_eq_true rfl) (m_X10_remember m4) (fun _u m8 em8 => ?_)
        refine J_aload_n (pc := 38) dX10_rope_38 rfl rfl rfl ?_
        refine tg_X10_25 (pc := 39) rfl dX10_rope_39 ?_
        refine J_iconst (pc := 42) dX10_rope_42 ?_
        refine J_iload_n (pc := 43) dX10_rope_43 rfl rfl ?_
        refine J_iadd (pc := 44) dX10_rope_44 ?_
        refine T_iaload (pc := 45) (by decide) rfl dX10_rope_45 (fun h9 => ?_)
        refine T_vlI (pc := 46) (fun x10 ex10 => ?_)
        refine J_istore_n (pc := 46) (L' := [some (.ref 67), some (.int (iI p0)), some (.int (iI p1)), some (.int (iI x10))]) dX10_rope_46 rfl (by decide) rfl rfl ?_
        refine J_aload_n (pc := 47) dX10_rope_47 rfl rfl rfl ?_
        refine tg_X10_25 (pc := 48) rfl dX10_rope_48 ?_
        refine J_iconst (pc := 51) dX10_rope_51 ?_
        refine J_iload_n (pc := 52) dX10_rope_52 rfl rfl ?_
        refine J_iadd (pc := 53) dX10_rope_53 ?_
        refine J_iload_n (pc := 54) dX10_rope_54 rfl rfl ?_
        refine T_iastore (pc := 55) (by decide) rfl dX10_rope_55 (fun h11 => ?_)
        refine T_vm (fun m12 em12 => ?_)
        refine J_iload_n (pc := 56) dX10_rope_56 rfl rfl ?_
        exact T_retI (pc := 57) rfl dX10_rope_57
      · refine J_bipush (pc := 31) dX10_rope_31 (by decide) (by decide) ?_
        exact T_retI (pc := 33) rfl dX10_rope_33
    · refine J_iconst (pc := 20) dX10_rope_20 ?_
      exact T_retI (pc := 21) rfl dX10_rope_21
def f_X10_rise (m0 : Mem) : Option (Int × Mem) := if w32 (m0 67 0) = 0 then (some ((-4), m0)) else (bd (f_X10_isDown m0) fun r3 m2 => if w32 r3 = 0 then (some ((-4), m2)) else (if w32 (m2 67 8) = w32 60 then (some ((-2), m2)) else (bd (f_X10_remember m2) fun _u m6 => ck 1 16 (ckz 6 (jn (κ := Int → Mem → Option (Int × Mem)) (fun s10 m9 => ck 1 16 (ck 1 16 (vm (wr m9 73 (w32 1).toNat ((m9 73 (w32 1).toNat) - (6 * s10))) fun m13 => ck 0 16 (vm (wr m13 73 (w32 0).toNat (6 * s10)) fun m15 => ck 0 16 (some (m15 73 (w32 0).toNat, m15)))))) fun k8 => if w32 7 < w32 (zdiv (m6 73 (w32 1).toNat) 6) then (k8 7 m6) else (ck 1 16 (ckz 6 (k8 (zdiv (m6 73 (w32 1).toNat) 6) m6))))))))
set_option maxRecDepth 40000 in
theorem m_X10_rise {l : Launch} {G : qG} (m0 : Mem) : qM l G 2 yX10_rise cX10_rise 2 (some .int) [.ref 67] (lay m0) (lf eI (f_X10_rise m0)) := by
  refine qM_of (L := [some (.ref 67), none]) (by decide +kernel) (Nat.le_of_ble_eq_true rfl) rfl ?_
  unfold f_X10_rise
  refine J_aload_n (pc := 0) dX10_rise_0 rfl rfl rfl ?_
  refine tg_X10_104 (pc := 1) rfl dX10_rise_1 ?_
  refine T_if_eq (pc := 4) (tgt := 14) dX10_rise_4 (by decide) (fun h1 => ?_) (fun h1 => ?_)
  · refine J_bipush (pc := 14) dX10_rise_14 (by decide) (by decide) ?_
    exact T_retI (pc := 16) rfl dX10_rise_16
  · refine J_aload_n (pc := 7) dX10_rise_7 rfl rfl rfl ?_
    refine T_callVI (pc := 8) (As := []) (k := 67) (st := []) ok_yX10_isDown lm_X10_163 dX10_rise_8 (by decide) rfl rfl (by decide) (Nat.le_of_ble_eq_true rfl) (m_X10_isDown m0) (fun r3 m2 em2 => ?_)
    refine T_if_ne (pc := 11) (tgt := 17) dX10_rise_11 (by decide) (fun h4 => ?_) (fun h4 => ?_)
    · refine J_aload_n (pc := 17) dX10_rise_17 rfl rfl rfl ?_
      refine tg_X10_156 (pc := 18) rfl dX10_rise_18 ?_
      refine J_bipush (pc := 21) dX10_rise_21 (by decide) (by decide) ?_
      refine T_icmp_ne (pc := 23) (tgt := 29) dX10_rise_23 (by decide) (fun h5 => ?_) (fun h5 => ?_)
      · refine J_aload_n (pc := 29) dX10_rise_29 rfl rfl rfl ?_
        refine T_callVU (pc := 30) (As := []) (k := 67) (st := []) ok_yX10_remember lm_X10_221 dX10_rise_30 (by decide) rfl rfl (by decide) (Nat.le_of_ble_eq_true rfl) (m_X10_remember m2) (fun _u m6 em6 => ?_)
        refine J_aload_n (pc := 33) dX10_rise_33 rfl rfl rfl ?_
        refine tg_X10_25 (pc := 34) rfl dX10_rise_34 ?_
        refine J_iconst (pc := 37) dX10_rise_37 ?_
        refine T_iaload (pc := 38) (by decide) rfl dX10_rise_38 (fun h7 => ?_)
        refine J_bipush (pc := 39) dX10_rise_39 (by decide) (by decide) ?_
        refine T_idiv (pc := 41) dX10_rise_41 ?_
        refine J_bipush (pc := 42) dX10_rise_42 (by decide) (by decide) ?_
        refine T_jn (κ := Int → Mem → Option (Int × Mem)) (fun k => ∀ (s10 : Int) (m9 : Mem), qJ l G yX10_rise cX10_rise 2 (some .int) 2 61 [some (.ref 67), none] [.int (iI s10)] (lay m9) (lf eI (k s10 m9))) ?_ (fun k8 hk8 => ?_)
        · intro s10 m9
          refine J_istore_n (pc := 61) (L' := [some (.ref 67), some (.int (iI s10))]) dX10_rise_61 rfl (by decide) rfl rfl ?_
          refine J_aload_n (pc := 62) dX10_rise_62 rfl rfl rfl ?_
          refine tg_X10_25 (pc := 63) rfl dX10_rise_63 ?_
          refine J_iconst (pc := 66) dX10_rise_66 ?_
          refine J_dup2 (pc := 67) dX10_rise_67 rfl rfl ?_
          refine T_iaload (pc := 68) (by decide) rfl dX10_rise_68 (fun h11 => ?_)
          refine J_bipush (pc := 69) dX10_rise_69 (by decide) (by decide) ?_
          refine J_iload_n (pc := 71) dX10_rise_71 rfl rfl ?_
          refine J_imul (pc := 72) dX10_rise_72 ?_
          refine J_isub (pc := 73) dX10_rise_73 ?_
          refine T_iastore (pc := 74) (by decide) rfl dX10_rise_74 (fun h12 => ?_)
          refine T_vm (fun m13 em13 => ?_)
          refine J_aload_n (pc := 75) dX10_rise_75 rfl rfl rfl ?_
          refine tg_X10_25 (pc := 76) rfl dX10_rise_76 ?_
          refine J_iconst (pc := 79) dX10_rise_79 ?_
          refine J_bipush (pc := 80) dX10_rise_80 (by decide) (by decide) ?_
          refine J_iload_n (pc := 82) dX10_rise_82 rfl rfl ?_
          refine J_imul (pc := 83) dX10_rise_83 ?_
          refine T_iastore (pc := 84) (by decide) rfl dX10_rise_84 (fun h14 => ?_)
          refine T_vm (fun m15 em15 => ?_)
          refine J_aload_n (pc := 85) dX10_rise_85 rfl rfl rfl ?_
          refine tg_X10_25 (pc := 86) rfl dX10_rise_86 ?_
          refine J_iconst (pc := 89) dX10_rise_89 ?_
          refine T_iaload (pc := 90) (by decide) rfl dX10_rise_90 (fun h16 => ?_)
          exact T_retI (pc := 91) rfl dX10_rise_91
        · refine T_icmp_le (pc := 44) (tgt := 52) dX10_rise_44 (by decide) (fun h17 => ?_) (fun h17 => ?_)
          · refine J_aload_n (pc := 52) dX10_rise_52 rfl rfl rfl ?_
            refine tg_X10_25 (pc := 53) rfl dX10_rise_53 ?_
            refine J_iconst (pc := 56) dX10_rise_56 ?_
            refine T_iaload (pc := 57) (by decide) rfl dX10_rise_57 (fun h18 => ?_)
            refine J_bipush (pc := 58) dX10_rise_58 (by decide) (by decide) ?_
            refine T_idiv (pc := 60) dX10_rise_60 ?_
            exact hk8 (zdiv (m6 73 (w32 1).toNat) 6) m6
          · refine J_bipush (pc := 47) dX10_rise_47 (by decide) (by decide) ?_
            refine J_goto (pc := 49) (tgt := 61) dX10_rise_49 (by decide) ?_
            exact hk8 7 m6
      · refine J_bipush (pc := 26) dX10_rise_26 (by decide) (by decide) ?_
        exact T_retI (pc := 28) rfl dX10_rise_28
    · refine J_bipush (pc := 14) dX10_rise_14 (by decide) (by decide) ?_
      exact T_retI (pc := 16) rfl dX10_rise_16
def f_X10_undo_L34 (p0 : Int) (x4 : Int) : Nat → Int → Mem → Option (Int × Mem)
  | 0, _, _ => none
  | u + 1, i3, mu34 => if w32 i3 < w32 16 then (ck ((16 * p0) + i3) 960 (ck i3 16 (vm (wr mu34 73 (w32 i3).toNat (mu34 74 (w32 ((16 * p0) + i3)).toNat)) fun m10 => f_X10_undo_L34 p0 x4 u (i3 + 1) m10))) else (some (x4, mu34))
set_option maxRecDepth 40000 in
theorem j_X10_undo_L34 {l : Launch} {G : qG} {p0 : Int} {x4 : Int} : ∀ (u : Nat) (i3 : Int) (mu34 : Mem), qJ l G yX10_undo cX10_undo 4 (some .int) 2 34 [some (.ref 67), some (.int (iI p0)), some (.int (iI x4)), some (.int (iI i3))] [] (lay mu34) (lf eI (f_X10_undo_L34 p0 x4 u i3 mu34)) := by
  intro u
  induction u with
  | zero => intro _ mu34; exact T_none
  | succ u ih =>
    intro i3 mu34
    rw [f_X10_undo_L34]
    refine J_iload_n (pc := 34) dX10_undo_34 rfl rfl ?_
    refine J_bipush (pc := 35) dX10_undo_35 (by decide) (by decide) ?_
    refine T_icmp_ge (pc := 37) (tgt := 63) dX10_undo_37 (by decide) (fun h7 => ?_) (fun h7 => ?_)
    · refine J_iload_n (pc := 63) dX10_undo_63 rfl rfl ?_
      exact T_retI (pc := 64) rfl dX10_undo_64
    · refine J_aload_n (pc := 40) dX10_undo_40 rfl rfl rfl ?_
      refine tg_X10_25 (pc := 41) rfl dX10_undo_41 ?_
      refine J_iload_n (pc := 44) dX10_undo_44 rfl rfl ?_
      refine J_aload_n (pc := 45) dX10_undo_45 rfl rfl rfl ?_
      refine tg_X10_28 (pc := 46) rfl dX10_undo_46 ?_
      refine J_bipush (pc := 49) dX10_undo_49 (by decide) (by decide) ?_
      refine J_iload_n (pc := 51) dX10_undo_51 rfl rfl ?_
      refine J_imul (pc := 52) dX10_undo_52 ?_
      refine J_iload_n (pc := 53) dX10_undo_53 rfl rfl ?_
      refine J_iadd (pc := 54) dX10_undo_54 ?_
      refine T_iaload (pc := 55) (by decide) rfl dX10_undo_55 (fun h8 => ?_)
      refine T_iastore (pc := 56) (by decide) rfl dX10_undo_56 (fun h9 => ?_)
      refine T_vm (fun m10 em10 => ?_)
      refine J_iinc (pc := 57) (L' := [some (.ref 67), some (.int (iI p0)), some (.int (iI x4)), some (.int (iI (i3 + 1)))]) dX10_undo_57 rfl (by decide) rfl rfl ?_
      refine J_goto (pc := 60) (tgt := 34) dX10_undo_60 (by decide) ?_
      exact ih (i3 + 1) m10
def f_X10_undo (m0 : Mem) (p0 : Int) : Option (Int × Mem) := bd (f_X10_in m0 (w32 p0) 0 (w32 (m0 67 8))) fun r2 m1 => if w32 r2 = 0 then (some ((-1), m1)) else (vl ((m1 67 8) - p0) fun x4 => if 0 < w32 x4 then (vm (wr m1 67 8 p0) fun m6 => f_X10_undo_L34 p0 x4 100000 0 m6) else (some (x4, m1)))
set_option maxRecDepth 40000 in
theorem m_X10_undo {l : Launch} {G : qG} (m0 : Mem) (p0 : Int) : qM l G 2 yX10_undo cX10_undo 4 (some .int) [.ref 67, .int (iI p0)] (lay m0) (lf eI (f_X10_undo m0 p0)) := by
  refine qM_of (L := [some (.ref 67), some (.int (iI p0)), none, none]) (by decide +kernel) (Nat.le_of_ble_eq_true rfl) rfl ?_
  unfold f_X10_undo
  refine J_iload_n (pc := 0) dX10_undo_0 rfl rfl ?_
  refine J_i2l (pc := 1) dX10_undo_1 ?_
  refine J_lconst (pc := 2) (z := 0) dX10_undo_2 (by decide) ?_
  refine J_aload_n (pc := 3) dX10_undo_3 rfl rfl rfl ?_
  refine tg_X10_156 (pc := 4) rfl dX10_undo_4 ?_
  refine J_i2l (pc := 7) dX10_undo_7 ?_
  refine T_callSI (pc := 8) (As := [.long (iL (w32 p0)), .long (iL 0), .long (iL (w32 (m0 67 8)))]) (st := []) ok_yX10_in lm_X10_98 dX10_undo_8 (by decide) (Nat.le_of_ble_eq_true rfl) (m_X10_in m0 (w32 p0) 0 (w32 (m0 67 8))) (fun r2 m1 em1 => ?_)
  refine T_if_ne (pc := 11) (tgt := 16) dX10_undo_11 (by decide) (fun h3 => ?_) (fun h3 => ?_)
  · refine J_aload_n (pc := 16) dX10_undo_16 rfl rfl rfl ?_
    refine tg_X10_156 (pc := 17) rfl dX10_undo_17 ?_
    refine J_iload_n (pc := 20) dX10_undo_20 rfl rfl ?_
    refine J_isub (pc := 21) dX10_undo_21 ?_
    refine T_vlI (pc := 22) (fun x4 ex4 => ?_)
    refine J_istore_n (pc := 22) (L' := [some (.ref 67), some (.int (iI p0)), some (.int (iI x4)), none]) dX10_undo_22 rfl (by decide) rfl rfl ?_
    refine J_iload_n (pc := 23) dX10_undo_23 rfl rfl ?_
    refine T_if_le (pc := 24) (tgt := 63) dX10_undo_24 (by decide) (fun h5 => ?_) (fun h5 => ?_)
    · refine J_iload_n (pc := 63) dX10_undo_63 rfl rfl ?_
      exact T_retI (pc := 64) rfl dX10_undo_64
    · refine J_aload_n (pc := 27) dX10_undo_27 rfl rfl rfl ?_
      refine J_iload_n (pc := 28) dX10_undo_28 rfl rfl ?_
      refine tp_X10_156 (pc := 29) rfl dX10_undo_29 ?_
      refine T_vm (fun m6 em6 => ?_)
      refine J_iconst (pc := 32) dX10_undo_32 ?_
      refine J_istore_n (pc := 33) (L' := [some (.ref 67), some (.int (iI p0)), some (.int (iI x4)), some (.int (iI 0))]) dX10_undo_33 rfl (by decide) rfl rfl ?_
      refine j_X10_undo_L34 100000 0 m6
  · refine J_iconst (pc := 14) dX10_undo_14 ?_
    exact T_retI (pc := 15) rfl dX10_undo_15
def f_X10_sun (m0 : Mem) : Option (Int × Mem) := if w32 (m0 67 0) = 0 then (some ((-4), m0)) else (ck 1 16 (vm (wr m0 67 10 (m0 73 (w32 1).toNat)) fun m3 => ck 0 16 (some (m3 73 (w32 0).toNat, m3))))
set_option maxRecDepth 40000 in
theorem m_X10_sun {l : Launch} {G : qG} (m0 : Mem) : qM l G 1 yX10_sun cX10_sun 1 (some .int) [.ref 67] (lay m0) (lf eI (f_X10_sun m0)) := by
  refine qM_of (L := [some (.ref 67)]) (by decide +kernel) (Nat.le_of_ble_eq_true rfl) rfl ?_
  unfold f_X10_sun
  refine J_aload_n (pc := 0) dX10_sun_0 rfl rfl rfl ?_
  refine tg_X10_104 (pc := 1) rfl dX10_sun_1 ?_
  refine T_if_ne (pc := 4) (tgt := 10) dX10_sun_4 (by decide) (fun h1 => ?_) (fun h1 => ?_)
  · refine J_aload_n (pc := 10) dX10_sun_10 rfl rfl rfl ?_
    refine J_aload_n (pc := 11) dX10_sun_11 rfl rfl rfl ?_
    refine tg_X10_25 (pc := 12) rfl dX10_sun_12 ?_
    refine J_iconst (pc := 15) dX10_sun_15 ?_
    refine T_iaload (pc := 16) (by decide) rfl dX10_sun_16 (fun h2 => ?_)
    refine tp_X10_118 (pc := 17) rfl dX10_sun_17 ?_
    refine T_vm (fun m3 em3 => ?_)
    refine J_aload_n (pc := 20) dX10_sun_20 rfl rfl rfl ?_
    refine tg_X10_25 (pc := 21) rfl dX10_sun_21 ?_
    refine J_iconst (pc := 24) dX10_sun_24 ?_
    refine T_iaload (pc := 25) (by decide) rfl dX10_sun_25 (fun h4 => ?_)
    exact T_retI (pc := 26) rfl dX10_sun_26
  · refine J_bipush (pc := 7) dX10_sun_7 (by decide) (by decide) ?_
    exact T_retI (pc := 9) rfl dX10_sun_9
def f_X10_gained_L7 : Nat → Int → Int → Int → Mem → Option (Int × Mem)
  | 0, _, _, _, _ => none
  | u + 1, i1, i2, i3, mu7 => if w32 i3 < w32 (mu7 67 1) then (jn (κ := Int → Mem → Option (Int × Mem)) (fun s5 m4 => ck (12 + i3) 16 (vl (i2 + (m4 73 (w32 (12 + i3)).toNat)) fun x7 => f_X10_gained_L7 u s5 x7 (i3 + 1) m4)) fun k3 => jn (κ := Mem → Option (Int × Mem)) (fun m9 => k3 i3 m9) fun k8 => if w32 i1 < 0 then (k8 mu7) else (ck (12 + i3) 16 (ck (12 + i1) 16 (if w32 (mu7 73 (w32 (12 + i1)).toNat) < w32 (mu7 73 (w32 (12 + i3)).toNat) then (k8 mu7) else (k3 i1 mu7))))) else (vm (wr mu7 67 10 i1) fun m2 => some (i2, m2))
set_option maxRecDepth 40000 in
theorem j_X10_gained_L7 {l : Launch} {G : qG} : ∀ (u : Nat) (i1 : Int) (i2 : Int) (i3 : Int) (mu7 : Mem), qJ l G yX10_gained cX10_gained 4 (some .int) 1 7 [some (.ref 67), some (.int (iI i1)), some (.int (iI i2)), some (.int (iI i3))] [] (lay mu7) (lf eI (f_X10_gained_L7 u i1 i2 i3 mu7)) := by
  intro u
  induction u with
  | zero => intro _ _ _ mu7; exact T_none
  | succ u ih =>
    intro i1 i2 i3 mu7
    rw [f_X10_gained_L7]
    refine J_iload_n (pc := 7) dX10_gained_7 rfl rfl ?_
    refine J_aload_n (pc := 8) dX10_gained_8 rfl rfl rfl ?_
    refine tg_X10_107 (pc := 9) rfl dX10_gained_9 ?_
    refine T_icmp_ge (pc := 12) (tgt := 64) dX10_gained_12 (by decide) (fun h1 => ?_) (fun h1 => ?_)
    · refine J_aload_n (pc := 64) dX10_gained_64 rfl rfl rfl ?_
      refine J_iload_n (pc := 65) dX10_gained_65 rfl rfl ?_
      refine tp_X10_118 (pc := 66) rfl dX10_gained_66 ?_
      refine T_vm (fun m2 em2 => ?_)
      refine J_iload_n (pc := 69) dX10_gained_69 rfl rfl ?_
      exact T_retI (pc := 70) rfl dX10_gained_70
    · refine J_iload_n (pc := 15) dX10_gained_15 rfl rfl ?_
      refine T_jn (κ := Int → Mem → Option (Int × Mem)) (fun k => ∀ (s5 : Int) (m4 : Mem), qJ l G yX10_gained cX10_gained 4 (some .int) 1 45 [some (.ref 67), none, some (.int (iI i2)), some (.int (iI i3))] [.int (iI s5)] (lay m4) (lf eI (k s5 m4))) ?_ (fun k3 hk3 => ?_)
      · intro s5 m4
        refine J_istore_n (pc := 45) (L' := [some (.ref 67), some (.int (iI s5)), some (.int (iI i2)), some (.int (iI i3))]) dX10_gained_45 rfl (by decide) rfl rfl ?_
        refine J_iload_n (pc := 46) dX10_gained_46 rfl rfl ?_
        refine J_aload_n (pc := 47) dX10_gained_47 rfl rfl rfl ?_
        refine tg_X10_25 (pc := 48) rfl dX10_gained_48 ?_
        refine J_bipush (pc := 51) dX10_gained_51 (by decide) (by decide) ?_
        refine J_iload_n (pc := 53) dX10_gained_53 rfl rfl ?_
        refine J_iadd (pc := 54) dX10_gained_54 ?_
        refine T_iaload (pc := 55) (by decide) rfl dX10_gained_55 (fun h6 => ?_)
        refine J_iadd (pc := 56) dX10_gained_56 ?_
        refine T_vlI (pc := 57) (fun x7 ex7 => ?_)
        refine J_istore_n (pc := 57) (L' := [some (.ref 67), some (.int (iI s5)), some (.int (iI x7)), some (.int (iI i3))]) dX10_gained_57 rfl (by decide) rfl rfl ?_
        refine J_iinc (pc := 58) (L' := [some (.ref 67), some (.int (iI s5)), some (.int (iI x7)), some (.int (iI (i3 + 1)))]) dX10_gained_58 rfl (by decide) rfl rfl ?_
        refine J_goto (pc := 61) (tgt := 7) dX10_gained_61 (by decide) ?_
        exact ih s5 x7 (i3 + 1) m4
      · refine T_jn (κ := Mem → Option (Int × Mem)) (fun k => ∀ (m9 : Mem), qJ l G yX10_gained cX10_gained 4 (some .int) 1 40 [some (.ref 67), none, some (.int (iI i2)), some (.int (iI i3))] [] (lay m9) (lf eI (k m9))) ?_ (fun k8 hk8 => ?_)
        · intro m9
          refine J_iload_n (pc := 40) dX10_gained_40 rfl rfl ?_
          refine J_goto (pc := 41) (tgt := 45) dX10_gained_41 (by decide) ?_
          exact hk3 i3 m9
        · refine T_if_lt (pc := 16) (tgt := 40) dX10_gained_16 (by decide) (fun h10 => ?_) (fun h10 => ?_)
          · refine J_dropf (pc := 40) (L' := [some (.ref 67), none, some (.int (iI i2)), some (.int (iI i3))]) [true, false, true, true] rfl ?_
            exact hk8  mu7
          · refine J_aload_n (pc := 19) dX10_gained_19 rfl rfl rfl ?_
            refine tg_X10_25 (pc := 20) rfl dX10_gained_20 ?_
            refine J_bipush (pc := 23) dX10_gained_23 (by decide) (by decide) ?_
            refine J_iload_n (pc := 25) dX10_gained_25 rfl rfl ?_
            refine J_iadd (pc := 26) dX10_gained_26 ?_
            refine T_iaload (pc := 27) (by decide) rfl dX10_gained_27 (fun h11 => ?_)
            refine J_aload_n (pc := 28) dX10_gained_28 rfl rfl rfl ?_
            refine tg_X10_25 (pc := 29) rfl dX10_gained_29 ?_
            refine J_bipush (pc := 32) dX10_gained_32 (by decide) (by decide) ?_
            refine J_iload_n (pc := 34) dX10_gained_34 rfl rfl ?_
            refine J_iadd (pc := 35) dX10_gained_35 ?_
            refine T_iaload (pc := 36) (by decide) rfl dX10_gained_36 (fun h12 => ?_)
            refine T_icmp_le (pc := 37) (tgt := 44) dX10_gained_37 (by decide) (fun h13 => ?_) (fun h13 => ?_)
            · refine J_iload_n (pc := 44) dX10_gained_44 rfl rfl ?_
              refine J_dropf (pc := 45) (L' := [some (.ref 67), none, some (.int (iI i2)), some (.int (iI i3))]) [true, false, true, true] rfl ?_
              exact hk3 i1 mu7
            · refine J_dropf (pc := 40) (L' := [some (.ref 67), none, some (.int (iI i2)), some (.int (iI i3))]) [true, false, true, true] rfl ?_
              exact hk8  mu7
def f_X10_gained (m0 : Mem) : Option (Int × Mem) := f_X10_gained_L7 100000 (-9) 0 0 m0
set_option maxRecDepth 40000 in
theorem m_X10_gained {l : Launch} {G : qG} (m0 : Mem) : qM l G 1 yX10_gained cX10_gained 4 (some .int) [.ref 67] (lay m0) (lf eI (f_X10_gained m0)) := by
  refine qM_of (L := [some (.ref 67), none, none, none]) (by decide +kernel) (Nat.le_of_ble_eq_true rfl) rfl ?_
  unfold f_X10_gained
  refine J_bipush (pc := 0) dX10_gained_0 (by decide) (by decide) ?_
  refine J_istore_n (pc := 2) (L' := [some (.ref 67), some (.int (iI (-9))), none, none]) dX10_gained_2 rfl (by decide) rfl rfl ?_
  refine J_iconst (pc := 3) dX10_gained_3 ?_
  refine J_istore_n (pc := 4) (L' := [some (.ref 67), some (.int (iI (-9))), some (.int (iI 0)), none]) dX10_gained_4 rfl (by decide) rfl rfl ?_
  refine J_iconst (pc := 5) dX10_gained_5 ?_
  refine J_istore_n (pc := 6) (L' := [some (.ref 67), some (.int (iI (-9))), some (.int (iI 0)), some (.int (iI 0))]) dX10_gained_6 rfl (by decide) rfl rfl ?_
  refine j_X10_gained_L7 100000 (-9) 0 0 m0
def f_X10_keep_L36 (K : Mem → Option (Int × Mem)) (p0 : Int) : Nat → Int → Mem → Option (Int × Mem)
  | 0, _, _ => none
  | u + 1, i2, mu36 => if w32 i2 < w32 16 then (ck i2 16 (ck ((16 * p0) + i2) 48 (vm (wr mu36 81 (w32 ((16 * p0) + i2)).toNat (mu36 73 (w32 i2).toNat)) fun m10 => f_X10_keep_L36 K p0 u (i2 + 1) m10))) else (K mu36)
set_option maxRecDepth 40000 in
theorem j_X10_keep_L36 {l : Launch} {G : qG} {K : Mem → Option (Int × Mem)} {p0 : Int} (hK : ∀ (m : Mem), qJ l G yX10_keep cX10_keep 3 (some .int) 2 65 [some (.ref 67), some (.int (iI p0)), none] [] (lay m) (lf eI (K m))) : ∀ (u : Nat) (i2 : Int) (mu36 : Mem), qJ l G yX10_keep cX10_keep 3 (some .int) 2 36 [some (.ref 67), some (.int (iI p0)), some (.int (iI i2))] [] (lay mu36) (lf eI (f_X10_keep_L36 K p0 u i2 mu36)) := by
  intro u
  induction u with
  | zero => intro _ mu36; exact T_none
  | succ u ih =>
    intro i2 mu36
    rw [f_X10_keep_L36]
    refine J_iload_n (pc := 36) dX10_keep_36 rfl rfl ?_
    refine J_bipush (pc := 37) dX10_keep_37 (by decide) (by decide) ?_
    refine T_icmp_ge (pc := 39) (tgt := 65) dX10_keep_39 (by decide) (fun h7 => ?_) (fun h7 => ?_)
    · refine J_dropf (pc := 65) (L' := [some (.ref 67), some (.int (iI p0)), none]) [true, true, false] rfl ?_
      exact hK  mu36
    · refine J_aload_n (pc := 42) dX10_keep_42 rfl rfl rfl ?_
      refine tg_X10_53 (pc := 43) rfl dX10_keep_43 ?_
      refine J_bipush (pc := 46) dX10_keep_46 (by decide) (by decide) ?_
      refine J_iload_n (pc := 48) dX10_keep_48 rfl rfl ?_
      refine J_imul (pc := 49) dX10_keep_49 ?_
      refine J_iload_n (pc := 50) dX10_keep_50 rfl rfl ?_
      refine J_iadd (pc := 51) dX10_keep_51 ?_
      refine J_aload_n (pc := 52) dX10_keep_52 rfl rfl rfl ?_
      refine tg_X10_25 (pc := 53) rfl dX10_keep_53 ?_
      refine J_iload_n (pc := 56) dX10_keep_56 rfl rfl ?_
      refine T_iaload (pc := 57) (by decide) rfl dX10_keep_57 (fun h8 => ?_)
      refine T_iastore (pc := 58) (by decide) rfl dX10_keep_58 (fun h9 => ?_)
      refine T_vm (fun m10 em10 => ?_)
      refine J_iinc (pc := 59) (L' := [some (.ref 67), some (.int (iI p0)), some (.int (iI (i2 + 1)))]) dX10_keep_59 rfl (by decide) rfl rfl ?_
      refine J_goto (pc := 62) (tgt := 36) dX10_keep_62 (by decide) ?_
      exact ih (i2 + 1) m10
def f_X10_keep_L67 (K : Mem → Option (Int × Mem)) (p0 : Int) : Nat → Int → Mem → Option (Int × Mem)
  | 0, _, _ => none
  | u + 1, i2, mu67 => if w32 i2 < w32 960 then (ck i2 960 (ck ((960 * p0) + i2) 2880 (vm (wr mu67 82 (w32 ((960 * p0) + i2)).toNat (mu67 74 (w32 i2).toNat)) fun m15 => f_X10_keep_L67 K p0 u (i2 + 1) m15))) else (K mu67)
set_option maxRecDepth 40000 in
theorem j_X10_keep_L67 {l : Launch} {G : qG} {K : Mem → Option (Int × Mem)} {p0 : Int} (hK : ∀ (m : Mem), qJ l G yX10_keep cX10_keep 3 (some .int) 2 98 [some (.ref 67), some (.int (iI p0)), none] [] (lay m) (lf eI (K m))) : ∀ (u : Nat) (i2 : Int) (mu67 : Mem), qJ l G yX10_keep cX10_keep 3 (some .int) 2 67 [some (.ref 67), some (.int (iI p0)), some (.int (iI i2))] [] (lay mu67) (lf eI (f_X10_keep_L67 K p0 u i2 mu67)) := by
  intro u
  induction u with
  | zero => intro _ mu67; exact T_none
  | succ u ih =>
    intro i2 mu67
    rw [f_X10_keep_L67]
    refine J_iload_n (pc := 67) dX10_keep_67 rfl rfl ?_
    refine J_sipush (pc := 68) dX10_keep_68 (by decide) (by decide) ?_
    refine T_icmp_ge (pc := 71) (tgt := 98) dX10_keep_71 (by decide) (fun h12 => ?_) (fun h12 => ?_)
    · refine J_dropf (pc := 98) (L' := [some (.ref 67), some (.int (iI p0)), none]) [true, true, false] rfl ?_
      exact hK  mu67
    · refine J_aload_n (pc := 74) dX10_keep_74 rfl rfl rfl ?_
      refine tg_X10_56 (pc := 75) rfl dX10_keep_75 ?_
      refine J_sipush (pc := 78) dX10_keep_78 (by decide) (by decide) ?_
      refine J_iload_n (pc := 81) dX10_keep_81 rfl rfl ?_
      refine J_imul (pc := 82) dX10_keep_82 ?_
      refine J_iload_n (pc := 83) dX10_keep_83 rfl rfl ?_
      refine J_iadd (pc := 84) dX10_keep_84 ?_
      refine J_aload_n (pc := 85) dX10_keep_85 rfl rfl rfl ?_
      refine tg_X10_28 (pc := 86) rfl dX10_keep_86 ?_
      refine J_iload_n (pc := 89) dX10_keep_89 rfl rfl ?_
      refine T_iaload (pc := 90) (by decide) rfl dX10_keep_90 (fun h13 => ?_)
      refine T_iastore (pc := 91) (by decide) rfl dX10_keep_91 (fun h14 => ?_)
      refine T_vm (fun m15 em15 => ?_)
      refine J_iinc (pc := 92) (L' := [some (.ref 67), some (.int (iI p0)), some (.int (iI (i2 + 1)))]) dX10_keep_92 rfl (by decide) rfl rfl ?_
      refine J_goto (pc := 95) (tgt := 67) dX10_keep_95 (by decide) ?_
      exact ih (i2 + 1) m15
def f_X10_keep_L100 (p0 : Int) : Nat → Int → Mem → Option (Int × Mem)
  | 0, _, _ => none
  | u + 1, i2, mu100 => if w32 i2 < w32 4 then (ck i2 4 (ck ((4 * p0) + i2) 12 (vm (wr mu100 83 (w32 ((4 * p0) + i2)).toNat (mu100 72 (w32 i2).toNat)) fun m20 => f_X10_keep_L100 p0 u (i2 + 1) m20))) else (some (mu100 67 8, mu100))
set_option maxRecDepth 40000 in
theorem j_X10_keep_L100 {l : Launch} {G : qG} {p0 : Int} : ∀ (u : Nat) (i2 : Int) (mu100 : Mem), qJ l G yX10_keep cX10_keep 3 (some .int) 2 100 [some (.ref 67), some (.int (iI p0)), some (.int (iI i2))] [] (lay mu100) (lf eI (f_X10_keep_L100 p0 u i2 mu100)) := by
  intro u
  induction u with
  | zero => intro _ mu100; exact T_none
  | succ u ih =>
    intro i2 mu100
    rw [f_X10_keep_L100]
    refine J_iload_n (pc := 100) dX10_keep_100 rfl rfl ?_
    refine J_iconst (pc := 101) dX10_keep_101 ?_
    refine T_icmp_ge (pc := 102) (tgt := 127) dX10_keep_102 (by decide) (fun h17 => ?_) (fun h17 => ?_)
    · refine J_aload_n (pc := 127) dX10_keep_127 rfl rfl rfl ?_
      refine tg_X10_156 (pc := 128) rfl dX10_keep_128 ?_
      exact T_retI (pc := 131) rfl dX10_keep_131
    · refine J_aload_n (pc := 105) dX10_keep_105 rfl rfl rfl ?_
      refine tg_X10_59 (pc := 106) rfl dX10_keep_106 ?_
      refine J_iconst (pc := 109) dX10_keep_109 ?_
      refine J_iload_n (pc := 110) dX10_keep_110 rfl rfl ?_
      refine J_imul (pc := 111) dX10_keep_111 ?_
      refine J_iload_n (pc := 112) dX10_keep_112 rfl rfl ?_
      refine J_iadd (pc := 113) dX10_keep_113 ?_
      refine J_aload_n (pc := 114) dX10_keep_114 rfl rfl rfl ?_
      refine tg_X10_22 (pc := 115) rfl dX10_keep_115 ?_
      refine J_iload_n (pc := 118) dX10_keep_118 rfl rfl ?_
      refine T_iaload (pc := 119) (by decide) rfl dX10_keep_119 (fun h18 => ?_)
      refine T_iastore (pc := 120) (by decide) rfl dX10_keep_120 (fun h19 => ?_)
      refine T_vm (fun m20 em20 => ?_)
      refine J_iinc (pc := 121) (L' := [some (.ref 67), some (.int (iI p0)), some (.int (iI (i2 + 1)))]) dX10_keep_121 rfl (by decide) rfl rfl ?_
      refine J_goto (pc := 124) (tgt := 100) dX10_keep_124 (by decide) ?_
      exact ih (i2 + 1) m20
def f_X10_keep (m0 : Mem) (p0 : Int) : Option (Int × Mem) := bd (f_X10_in m0 (w32 p0) 0 2) fun r2 m1 => if w32 r2 = 0 then (some ((-1), m1)) else (if w32 (m1 67 0) = 0 then (some ((-4), m1)) else (ck p0 3 (vm (wr m1 80 (w32 p0).toNat (m1 67 8)) fun m6 => f_X10_keep_L36 (fun m11 => f_X10_keep_L67 (fun m16 => f_X10_keep_L100 p0 100000 0 m16) p0 100000 0 m11) p0 100000 0 m6)))
set_option maxRecDepth 40000 in
theorem m_X10_keep {l : Launch} {G : qG} (m0 : Mem) (p0 : Int) : qM l G 2 yX10_keep cX10_keep 3 (some .int) [.ref 67, .int (iI p0)] (lay m0) (lf eI (f_X10_keep m0 p0)) := by
  refine qM_of (L := [some (.ref 67), some (.int (iI p0)), none]) (by decide +kernel) (Nat.le_of_ble_eq_true rfl) rfl ?_
  unfold f_X10_keep
  refine J_iload_n (pc := 0) dX10_keep_0 rfl rfl ?_
  refine J_i2l (pc := 1) dX10_keep_1 ?_
  refine J_lconst (pc := 2) (z := 0) dX10_keep_2 (by decide) ?_
  refine J_ldc2 (pc := 3) (z := 2) dX10_keep_3 lk_X10_227 (by decide) ?_
  refine T_callSI (pc := 6) (As := [.long (iL (w32 p0)), .long (iL 0), .long (iL 2)]) (st := []) ok_yX10_in lm_X10_98 dX10_keep_6 (by decide) (Nat.le_of_ble_eq_true rfl) (m_X10_in m0 (w32 p0) 0 2) (fun r2 m1 em1 => ?_)
  refine T_if_ne (pc := 9) (tgt := 14) dX10_keep_9 (by decide) (fun h3 => ?_) (fun h3 => ?_)
  · refine J_aload_n (pc := 14) dX10_keep_14 rfl rfl rfl ?_
    refine tg_X10_104 (pc := 15) rfl dX10_keep_15 ?_
    refine T_if_ne (pc := 18) (tgt := 24) dX10_keep_18 (by decide) (fun h4 => ?_) (fun h4 => ?_)
    · refine J_aload_n (pc := 24) dX10_keep_24 rfl rfl rfl ?_
      refine tg_X10_50 (pc := 25) rfl dX10_keep_25 ?_
      refine J_iload_n (pc := 28) dX10_keep_28 rfl rfl ?_
      refine J_aload_n (pc := 29) dX10_keep_29 rfl rfl rfl ?_
      refine tg_X10_156 (pc := 30) rfl dX10_keep_30 ?_
      refine T_iastore (pc := 33) (by decide) rfl dX10_keep_33 (fun h5 => ?_)
      refine T_vm (fun m6 em6 => ?_)
      refine J_iconst (pc := 34) dX10_keep_34 ?_
      refine J_istore_n (pc := 35) (L' := [some (.ref 67), some (.int (iI p0)), some (.int (iI 0))]) dX10_keep_35 rfl (by decide) rfl rfl ?_
      refine j_X10_keep_L36 ?_ 100000 0 m6
      · intro m11
        refine J_iconst (pc := 65) dX10_keep_65 ?_
        refine J_istore_n (pc := 66) (L' := [some (.ref 67), some (.int (iI p0)), some (.int (iI 0))]) dX10_keep_66 rfl (by decide) rfl rfl ?_
        refine j_X10_keep_L67 ?_ 100000 0 m11
        · intro m16
          refine J_iconst (pc := 98) dX10_keep_98 ?_
          refine J_istore_n (pc := 99) (L' := [some (.ref 67), some (.int (iI p0)), some (.int (iI 0))]) dX10_keep_99 rfl (by decide) rfl rfl ?_
          refine j_X10_keep_L100 100000 0 m16
    · refine J_bipush (pc := 21) dX10_keep_21 (by decide) (by decide) ?_
      exact T_retI (pc := 23) rfl dX10_keep_23
  · refine J_iconst (pc := 12) dX10_keep_12 ?_
    exact T_retI (pc := 13) rfl dX10_keep_13
