def f_X1_wearAndRest_L45 (t : Nat) (s5 : Int) (x7 : Int) : Nat → Int → Mem → Option (Unit × Mem)
  | 0, _, _ => none
  | u + 1, i4, mu45 => if w32 i4 < w32 (mu45 6 6) then (ck (2 + i4) 16 (ck (2 + i4) 16 (vm (wr mu45 (t + 1) (w32 (2 + i4)).toNat ((mu45 (t + 1) (w32 (2 + i4)).toNat) - (zand (zshr s5 i4) 1))) fun m11 => ck (7 + i4) 16 (ck (7 + i4) 16 (vm (wr m11 (t + 1) (w32 (7 + i4)).toNat ((m11 (t + 1) (w32 (7 + i4)).toNat) - (zand (zshr x7 i4) 1))) fun m14 => jn (κ := Mem → Option (Unit × Mem)) (fun m16 => f_X1_wearAndRest_L45 t s5 x7 u (i4 + 1) m16) fun k15 => if w32 (zand (zshr (m14 t 3) i4) 1) = 0 then (ck 4 6 (vl (1 + (zand (zshr (m14 8 (w32 4).toNat) i4) 1)) fun x19 => ck (7 + i4) 16 (ck (7 + i4) 16 (vm (wr m14 (t + 1) (w32 (7 + i4)).toNat (zmin 9 ((m14 (t + 1) (w32 (7 + i4)).toNat) + x19))) fun m22 => k15 m22)))) else (k15 m14)))))) else (some ((), mu45))
set_option maxRecDepth 40000 in
theorem j_X1_wearAndRest_L45 {l : Launch} {G : qG} {t : Nat} {s5 : Int} {x7 : Int} (ht : oDay t) : ∀ (u : Nat) (i4 : Int) (mu45 : Mem), qJ l G yX1_wearAndRest cX1_wearAndRest 6 none 2 45 [some (.ref t), some (.ref 6), some (.int (iI s5)), some (.int (iI x7)), some (.int (iI i4)), none] [] (lay mu45) (lf eU (f_X1_wearAndRest_L45 t s5 x7 u i4 mu45)) := by
  intro u
  induction u with
  | zero => intro _ mu45; exact T_none
  | succ u ih =>
    intro i4 mu45
    rw [f_X1_wearAndRest_L45]
    refine J_iload (pc := 45) dX1_wearAndRest_45 rfl ?_
    refine J_aload_n (pc := 47) dX1_wearAndRest_47 rfl rfl rfl ?_
    refine tg_X1_52 (pc := 48) rfl dX1_wearAndRest_48 ?_
    refine T_icmp_ge (pc := 51) (tgt := 152) dX1_wearAndRest_51 (by decide) (fun h8 => ?_) (fun h8 => ?_)
    · exact T_retV (pc := 152) rfl dX1_wearAndRest_152
    · refine J_aload_n (pc := 54) dX1_wearAndRest_54 rfl rfl rfl ?_
      refine tg_X1_9 (pc := 55) ht rfl dX1_wearAndRest_55 ?_
      refine J_iconst (pc := 58) dX1_wearAndRest_58 ?_
      refine J_iload (pc := 59) dX1_wearAndRest_59 rfl ?_
      refine J_iadd (pc := 61) dX1_wearAndRest_61 ?_
      refine J_dup2 (pc := 62) dX1_wearAndRest_62 rfl rfl ?_
      refine T_iaload (pc := 63) (oDay_l1 ht) (oDay_a1 ht) dX1_wearAndRest_63 (fun h9 => ?_)
      refine J_iload_n (pc := 64) dX1_wearAndRest_64 rfl rfl ?_
      refine J_iload (pc := 65) dX1_wearAndRest_65 rfl ?_
      refine J_ishr (pc := 67) dX1_wearAndRest_67 ?_
      refine J_iconst (pc := 68) dX1_wearAndRest_68 ?_
      refine J_iand (pc := 69) dX1_wearAndRest_69 ?_
      refine J_isub (pc := 70) dX1_wearAndRest_70 ?_
      refine T_iastore (pc := 71) (oDay_l1 ht) (oDay_a1 ht) dX1_wearAndRest_71 (fun h10 => ?_)
      refine T_vm (fun m11 em11 => ?_)
      refine J_aload_n (pc := 72) dX1_wearAndRest_72 rfl rfl rfl ?_
      refine tg_X1_9 (pc := 73) ht rfl dX1_wearAndRest_73 ?_
      refine J_bipush (pc := 76) dX1_wearAndRest_76 (by decide) (by decide) ?_
      refine J_iload (pc := 78) dX1_wearAndRest_78 rfl ?_
      refine J_iadd (pc := 80) dX1_wearAndRest_80 ?_
      refine J_dup2 (pc := 81) dX1_wearAndRest_81 rfl rfl ?_
      refine T_iaload (pc := 82) (oDay_l1 ht) (oDay_a1 ht) dX1_wearAndRest_82 (fun h12 => ?_)
      refine J_iload_n (pc := 83) dX1_wearAndRest_83 rfl rfl ?_
      refine J_iload (pc := 84) dX1_wearAndRest_84 rfl ?_
      refine J_ishr (pc := 86) dX1_wearAndRest_86 ?_
      refine J_iconst (pc := 87) dX1_wearAndRest_87 ?_
      refine J_iand (pc := 88) dX1_wearAndRest_88 ?_
      refine J_isub (pc := 89) dX1_wearAndRest_89 ?_
      refine T_iastore (pc := 90) (oDay_l1 ht) (oDay_a1 ht) dX1_wearAndRest_90 (fun h13 => ?_)
      refine T_vm (fun m14 em14 => ?_)
      refine J_aload_n (pc := 91) dX1_wearAndRest_91 rfl rfl rfl ?_
      refine tg_X1_22 (pc := 92) ht rfl dX1_wearAndRest_92 ?_
      refine J_iload (pc := 95) dX1_wearAndRest_95 rfl ?_
      refine J_ishr (pc := 97) dX1_wearAndRest_97 ?_
      refine J_iconst (pc := 98) dX1_wearAndRest_98 ?_
      refine J_iand (pc := 99) dX1_wearAndRest_99 ?_
      refine T_jn (κ := Mem → Option (Unit × Mem)) (fun k => ∀ (m16 : Mem), qJ l G yX1_wearAndRest cX1_wearAndRest 6 none 2 146 [some (.ref t), some (.ref 6), some (.int (iI s5)), some (.int (iI x7)), some (.int (iI i4)), none] [] (lay m16) (lf eU (k m16))) ?_ (fun k15 hk15 => ?_)
      · intro m16
        refine J_iinc (pc := 146) (L' := [some (.ref t), some (.ref 6), some (.int (iI s5)), some (.int (iI x7)), some (.int (iI (i4 + 1))), none]) dX1_wearAndRest_146 rfl (by decide) rfl rfl ?_
        refine J_goto (pc := 149) (tgt := 45) dX1_wearAndRest_149 (by decide) ?_
        exact ih (i4 + 1) m16
      · refine T_if_ne (pc := 100) (tgt := 146) dX1_wearAndRest_100 (by decide) (fun h17 => ?_) (fun h17 => ?_)
        · exact hk15  m14
        · refine J_iconst (pc := 103) dX1_wearAndRest_103 ?_
          refine J_aload_n (pc := 104) dX1_wearAndRest_104 rfl rfl rfl ?_
          refine tg_X1_55 (pc := 105) rfl dX1_wearAndRest_105 ?_
          refine J_iconst (pc := 108) dX1_wearAndRest_108 ?_
          refine T_iaload (pc := 109) (by decide) rfl dX1_wearAndRest_109 (fun h18 => ?_)
          refine J_iload (pc := 110) dX1_wearAndRest_110 rfl ?_
          refine J_ishr (pc := 112) dX1_wearAndRest_112 ?_
          refine J_iconst (pc := 113) dX1_wearAndRest_113 ?_
          refine J_iand (pc := 114) dX1_wearAndRest_114 ?_
          refine J_iadd (pc := 115) dX1_wearAndRest_115 ?_
          refine T_vlI (pc := 116) (fun x19 ex19 => ?_)
          refine J_istore (pc := 116) (L' := [some (.ref t), some (.ref 6), some (.int (iI s5)), some (.int (iI x7)), some (.int (iI i4)), some (.int (iI x19))]) dX1_wearAndRest_116 (by decide) rfl rfl ?_
          refine J_aload_n (pc := 118) dX1_wearAndRest_118 rfl rfl rfl ?_
          refine tg_X1_9 (pc := 119) ht rfl dX1_wearAndRest_119 ?_
          refine J_bipush (pc := 122) dX1_wearAndRest_122 (by decide) (by decide) ?_
          refine J_iload (pc := 124) dX1_wearAndRest_124 rfl ?_
          refine J_iadd (pc := 126) dX1_wearAndRest_126 ?_
          refine J_bipush (pc := 127) dX1_wearAndRest_127 (by decide) (by decide) ?_
          refine J_aload_n (pc := 129) dX1_wearAndRest_129 rfl rfl rfl ?_
          refine tg_X1_9 (pc := 130) ht rfl dX1_wearAndRest_130 ?_
          refine J_bipush (pc := 133) dX1_wearAndRest_133 (by decide) (by decide) ?_
          refine J_iload (pc := 135) dX1_wearAndRest_135 rfl ?_
          refine J_iadd (pc := 137) dX1_wearAndRest_137 ?_
          refine T_iaload (pc := 138) (oDay_l1 ht) (oDay_a1 ht) dX1_wearAndRest_138 (fun h20 => ?_)
          refine J_iload (pc := 139) dX1_wearAndRest_139 rfl ?_
          refine J_iadd (pc := 141) dX1_wearAndRest_141 ?_
          refine J_min (pc := 142) (by decide) lm_X1_90 (Nat.le_of_ble_eq_true rfl) dX1_wearAndRest_142 ?_
          refine T_iastore (pc := 145) (oDay_l1 ht) (oDay_a1 ht) dX1_wearAndRest_145 (fun h21 => ?_)
          refine T_vm (fun m22 em22 => ?_)
          refine J_dropf (pc := 146) (L' := [some (.ref t), some (.ref 6), some (.int (iI s5)), some (.int (iI x7)), some (.int (iI i4)), none]) [true, true, true, true, true, false] rfl ?_
          exact hk15  m22
def f_X1_wearAndRest (m0 : Mem) (t : Nat) : Option (Unit × Mem) := bd (f_X1_isAtEvenPlace m0 t) fun r2 m1 => jn (κ := Int → Mem → Option (Unit × Mem)) (fun s5 m4 => ck 5 6 (vl (zand (m4 t 3) (zxor (m4 8 (w32 5).toNat) (-1))) fun x7 => f_X1_wearAndRest_L45 t s5 x7 100000 0 m4)) fun k3 => if w32 r2 = 0 then (ck 1 6 (k3 (zand (m1 t 3) (zxor (m1 8 (w32 1).toNat) (-1))) m1)) else (k3 (m1 t 3) m1)
set_option maxRecDepth 40000 in
theorem m_X1_wearAndRest {l : Launch} {G : qG} (m0 : Mem) (t : Nat) (ht : oDay t) : qM l G 2 yX1_wearAndRest cX1_wearAndRest 6 none [.ref t, .ref 6] (lay m0) (lf eU (f_X1_wearAndRest m0 t)) := by
  refine qM_of (L := [some (.ref t), some (.ref 6), none, none, none, none]) (by decide +kernel) (Nat.le_of_ble_eq_true rfl) rfl ?_
  unfold f_X1_wearAndRest
  refine J_aload_n (pc := 0) dX1_wearAndRest_0 rfl rfl rfl ?_
  refine T_callVI (pc := 1) (As := []) (k := t) (st := []) ok_yX1_isAtEvenPlace lm_X1_58 dX1_wearAndRest_1 (oDay_l ht) (oDay_o ht) rfl (by decide) (Nat.le_of_ble_eq_true rfl) (m_X1_isAtEvenPlace m0 t ht) (fun r2 m1 em1 => ?_)
  refine T_jn (κ := Int → Mem → Option (Unit × Mem)) (fun k => ∀ (s5 : Int) (m4 : Mem), qJ l G yX1_wearAndRest cX1_wearAndRest 6 none 2 27 [some (.ref t), some (.ref 6), none, none, none, none] [.int (iI s5)] (lay m4) (lf eU (k s5 m4))) ?_ (fun k3 hk3 => ?_)
  · intro s5 m4
    refine J_istore_n (pc := 27) (L' := [some (.ref t), some (.ref 6), some (.int (iI s5)), none, none, none]) dX1_wearAndRest_27 rfl (by decide) rfl rfl ?_
    refine J_aload_n (pc := 28) dX1_wearAndRest_28 rfl rfl rfl ?_
    refine tg_X1_22 (pc := 29) ht rfl dX1_wearAndRest_29 ?_
    refine J_aload_n (pc := 32) dX1_wearAndRest_32 rfl rfl rfl ?_
    refine tg_X1_55 (pc := 33) rfl dX1_wearAndRest_33 ?_
    refine J_iconst (pc := 36) dX1_wearAndRest_36 ?_
    refine T_iaload (pc := 37) (by decide) rfl dX1_wearAndRest_37 (fun h6 => ?_)
    refine J_iconst (pc := 38) dX1_wearAndRest_38 ?_
    refine J_ixor (pc := 39) dX1_wearAndRest_39 ?_
    refine J_iand (pc := 40) dX1_wearAndRest_40 ?_
    refine T_vlI (pc := 41) (fun x7 ex7 => ?_)
    refine J_istore_n (pc := 41) (L' := [some (.ref t), some (.ref 6), some (.int (iI s5)), some (.int (iI x7)), none, none]) dX1_wearAndRest_41 rfl (by decide) rfl rfl ?_
    refine J_iconst (pc := 42) dX1_wearAndRest_42 ?_
    refine J_istore (pc := 43) (L' := [some (.ref t), some (.ref 6), some (.int (iI s5)), some (.int (iI x7)), some (.int (iI 0)), none]) dX1_wearAndRest_43 (by decide) rfl rfl ?_
    refine j_X1_wearAndRest_L45 ht 100000 0 m4
  · refine T_if_eq (pc := 4) (tgt := 14) dX1_wearAndRest_4 (by decide) (fun h23 => ?_) (fun h23 => ?_)
    · refine J_aload_n (pc := 14) dX1_wearAndRest_14 rfl rfl rfl ?_
      refine tg_X1_22 (pc := 15) ht rfl dX1_wearAndRest_15 ?_
      refine J_aload_n (pc := 18) dX1_wearAndRest_18 rfl rfl rfl ?_
      refine tg_X1_55 (pc := 19) rfl dX1_wearAndRest_19 ?_
      refine J_iconst (pc := 22) dX1_wearAndRest_22 ?_
      refine T_iaload (pc := 23) (by decide) rfl dX1_wearAndRest_23 (fun h24 => ?_)
      refine J_iconst (pc := 24) dX1_wearAndRest_24 ?_
      refine J_ixor (pc := 25) dX1_wearAndRest_25 ?_
      refine J_iand (pc := 26) dX1_wearAndRest_26 ?_
      exact hk3 (zand (m1 t 3) (zxor (m1 8 (w32 1).toNat) (-1))) m1
    · refine J_aload_n (pc := 7) dX1_wearAndRest_7 rfl rfl rfl ?_
      refine tg_X1_22 (pc := 8) ht rfl dX1_wearAndRest_8 ?_
      refine J_goto (pc := 11) (tgt := 27) dX1_wearAndRest_11 (by decide) ?_
      exact hk3 (m1 t 3) m1
def f_X1_goOn (m0 : Mem) (t : Nat) (p1 : Int) : Option (Int × Mem) := bd (f_X1_look m0 t) fun _u m1 => bd (f_X1_minuteBehind m1 t p1) fun r3 m2 => ck 0 16 (vl (r3 - (m2 (t + 1) (w32 0).toNat)) fun x5 => vm (wr m2 t 3 (zand p1 (m2 t 1))) fun m6 => vm (wr m6 t 4 (zand (m6 t 3) (m6 t 2))) fun m7 => ck 1 16 (bd (f_X8_pullOf m7 (m7 t 3)) fun r10 m9 => ck 1 16 (vm (wr m9 (t + 1) (w32 1).toNat ((m7 (t + 1) (w32 1).toNat) + (zmin r10 5))) fun m12 => bd (f_X1_wearAndRest m12 t) fun _u m13 => ck 0 16 (ck 0 16 (vm (wr m13 (t + 1) (w32 0).toNat ((m13 (t + 1) (w32 0).toNat) + x5)) fun m16 => some (x5, m16))))))
set_option maxRecDepth 40000 in
theorem m_X1_goOn {l : Launch} {G : qG} (m0 : Mem) (t : Nat) (p1 : Int) (ht : oDay t) : qM l G 4 yX1_goOn cX1_goOn 4 (some .int) [.ref t, .ref 6, .int (iI p1)] (lay m0) (lf eI (f_X1_goOn m0 t p1)) := by
  refine qM_of (L := [some (.ref t), some (.ref 6), some (.int (iI p1)), none]) (by decide +kernel) (Nat.le_of_ble_eq_true rfl) rfl ?_
  unfold f_X1_goOn
  refine J_aload_n (pc := 0) dX1_goOn_0 rfl rfl rfl ?_
  refine J_aload_n (pc := 1) dX1_goOn_1 rfl rfl rfl ?_
  refine T_callVU (pc := 2) (As := [.ref 6]) (k := t) (st := []) ok_yX1_look lm_X1_82 dX1_goOn_2 (oDay_l ht) (oDay_o ht) rfl (by decide) (Nat.le_of_ble_eq_true rfl) (m_X1_look m0 t ht) (fun _u m1 em1 => ?_)
  refine J_aload_n (pc := 5) dX1_goOn_5 rfl rfl rfl ?_
  refine J_aload_n (pc := 6) dX1_goOn_6 rfl rfl rfl ?_
  refine J_iload_n (pc := 7) dX1_goOn_7 rfl rfl ?_
  refine T_callVI (pc := 8) (As := [.ref 6, .int (iI p1)]) (k := t) (st := []) ok_yX1_minuteBehind lm_X1_86 dX1_goOn_8 (oDay_l ht) (oDay_o ht) rfl (by decide) (Nat.le_of_ble_eq_true rfl) (m_X1_minuteBehind m1 t p1 ht) (fun r3 m2 em2 => ?_)
  refine J_aload_n (pc := 11) dX1_goOn_11 rfl rfl rfl ?_
  refine tg_X1_9 (pc := 12) ht rfl dX1_goOn_12 ?_
  refine J_iconst (pc := 15) dX1_goOn_15 ?_
  refine T_iaload (pc := 16) (oDay_l1 ht) (oDay_a1 ht) dX1_goOn_16 (fun h4 => ?_)
  refine J_isub (pc := 17) dX1_goOn_17 ?_
  refine T_vlI (pc := 18) (fun x5 ex5 => ?_)
  refine J_istore_n (pc := 18) (L' := [some (.ref t), some (.ref 6), some (.int (iI p1)), some (.int (iI x5))]) dX1_goOn_18 rfl (by decide) rfl rfl ?_
  refine J_aload_n (pc := 19) dX1_goOn_19 rfl rfl rfl ?_
  refine J_iload_n (pc := 20) dX1_goOn_20 rfl rfl ?_
  refine J_aload_n (pc := 21) dX1_goOn_21 rfl rfl rfl ?_
  refine tg_X1_15 (pc := 22) ht rfl dX1_goOn_22 ?_
  refine J_iand (pc := 25) dX1_goOn_25 ?_
  refine tp_X1_22 (pc := 26) ht rfl dX1_goOn_26 ?_
  refine T_vm (fun m6 em6 => ?_)
  refine J_aload_n (pc := 29) dX1_goOn_29 rfl rfl rfl ?_
  refine J_aload_n (pc := 30) dX1_goOn_30 rfl rfl rfl ?_
  refine tg_X1_22 (pc := 31) ht rfl dX1_goOn_31 ?_
  refine J_aload_n (pc := 34) dX1_goOn_34 rfl rfl rfl ?_
  refine tg_X1_19 (pc := 35) ht rfl dX1_goOn_35 ?_
  refine J_iand (pc := 38) dX1_goOn_38 ?_
  refine tp_X1_25 (pc := 39) ht rfl dX1_goOn_39 ?_
  refine T_vm (fun m7 em7 => ?_)
  refine J_aload_n (pc := 42) dX1_goOn_42 rfl rfl rfl ?_
  refine tg_X1_9 (pc := 43) ht rfl dX1_goOn_43 ?_
  refine J_iconst (pc := 46) dX1_goOn_46 ?_
  refine J_dup2 (pc := 47) dX1_goOn_47 rfl rfl ?_
  refine T_iaload (pc := 48) (oDay_l1 ht) (oDay_a1 ht) dX1_goOn_48 (fun h8 => ?_)
  refine J_aload_n (pc := 49) dX1_goOn_49 rfl rfl rfl ?_
  refine J_aload_n (pc := 50) dX1_goOn_50 rfl rfl rfl ?_
  refine tg_X1_22 (pc := 51) ht rfl dX1_goOn_51 ?_
  refine T_callVI (pc := 54) (As := [.int (iI (m7 t 3))]) (k := 6) (st := [.int (iI (m7 (t + 1) (w32 1).toNat)), .int (iI 1), .ref (t + 1)]) ok_yX8_pullOf lm_X1_67 dX1_goOn_54 (by decide) rfl rfl (by decide) (Nat.le_of_ble_eq_true rfl) (m_X8_pullOf m7 (m7 t 3)) (fun r10 m9 em9 => ?_)
  refine J_iconst (pc := 57) dX1_goOn_57 ?_
  refine J_min (pc := 58) (by decide) lm_X1_90 (Nat.le_of_ble_eq_true rfl) dX1_goOn_58 ?_
  refine J_iadd (pc := 61) dX1_goOn_61 ?_
  refine T_iastore (pc := 62) (oDay_l1 ht) (oDay_a1 ht) dX1_goOn_62 (fun h11 => ?_)
  refine T_vm (fun m12 em12 => ?_)
  refine J_aload_n (pc := 63) dX1_goOn_63 rfl rfl rfl ?_
  refine J_aload_n (pc := 64) dX1_goOn_64 rfl rfl rfl ?_
  refine T_callVU (pc := 65) (As := [.ref 6]) (k := t) (st := []) ok_yX1_wearAndRest lm_X1_93 dX1_goOn_65 (oDay_l ht) (oDay_o ht) rfl (by decide) (Nat.le_of_ble_eq_true rfl) (m_X1_wearAndRest m12 t ht) (fun _u m13 em13 => ?_)
  refine J_aload_n (pc := 68) dX1_goOn_68 rfl rfl rfl ?_
  refine tg_X1_9 (pc := 69) ht rfl dX1_goOn_69 ?_
  refine J_iconst (pc := 72) dX1_goOn_72 ?_
  refine J_dup2 (pc := 73) dX1_goOn_73 rfl rfl ?_
  refine T_iaload (pc := 74) (oDay_l1 ht) (oDay_a1 ht) dX1_goOn_74 (fun h14 => ?_)
  refine J_iload_n (pc := 75) dX1_goOn_75 rfl rfl ?_
  refine J_iadd (pc := 76) dX1_goOn_76 ?_
  refine T_iastore (pc := 77) (oDay_l1 ht) (oDay_a1 ht) dX1_goOn_77 (fun h15 => ?_)
  refine T_vm (fun m16 em16 => ?_)
  refine J_iload_n (pc := 78) dX1_goOn_78 rfl rfl ?_
  exact T_retI (pc := 79) rfl dX1_goOn_79
def f_X9_trueHour (m0 : Mem) (p0 : Int) : Option (Int × Mem) := bd (f_X2_write m0 15) fun _u m1 => bd (f_X1_collect m1 13) fun _u m2 => bd (f_X1_goOn m2 13 p0) fun r4 m3 => some (r4, m3)
set_option maxRecDepth 40000 in
theorem m_X9_trueHour {l : Launch} {G : qG} (m0 : Mem) (p0 : Int) : qM l G 5 yX9_trueHour cX9_trueHour 2 (some .int) [.ref 0, .int (iI p0)] (lay m0) (lf eI (f_X9_trueHour m0 p0)) := by
  refine qM_of (L := [some (.ref 0), some (.int (iI p0))]) (by decide +kernel) (Nat.le_of_ble_eq_true rfl) rfl ?_
  unfold f_X9_trueHour
  refine J_aload_n (pc := 0) dX9_trueHour_0 rfl rfl rfl ?_
  refine tg_X9_45 (pc := 1) rfl dX9_trueHour_1 ?_
  refine J_aload_n (pc := 4) dX9_trueHour_4 rfl rfl rfl ?_
  refine tg_X9_38 (pc := 5) rfl dX9_trueHour_5 ?_
  refine T_callVU (pc := 8) (As := [.ref 13]) (k := 15) (st := []) ok_yX2_write lm_X9_189 dX9_trueHour_8 (oDiary_l (by unfold oDiary; decide)) (oDiary_o (by unfold oDiary; decide)) rfl (by decide) (Nat.le_of_ble_eq_true rfl) (m_X2_write m0 15 (by unfold oDiary; decide)) (fun _u m1 em1 => ?_)
  refine J_aload_n (pc := 11) dX9_trueHour_11 rfl rfl rfl ?_
  refine tg_X9_38 (pc := 12) rfl dX9_trueHour_12 ?_
  refine J_aload_n (pc := 15) dX9_trueHour_15 rfl rfl rfl ?_
  refine tg_X9_31 (pc := 16) rfl dX9_trueHour_16 ?_
  refine T_callVU (pc := 19) (As := [.ref 6]) (k := 13) (st := []) ok_yX1_collect lm_X9_325 dX9_trueHour_19 (oDay_l (by unfold oDay; decide)) (oDay_o (by unfold oDay; decide)) rfl (by decide) (Nat.le_of_ble_eq_true rfl) (m_X1_collect m1 13 (by unfold oDay; decide)) (fun _u m2 em2 => ?_)
  refine J_aload_n (pc := 22) dX9_trueHour_22 rfl rfl rfl ?_
  refine tg_X9_38 (pc := 23) rfl dX9_trueHour_23 ?_
  refine J_aload_n (pc := 26) dX9_trueHour_26 rfl rfl rfl ?_
  refine tg_X9_31 (pc := 27) rfl dX9_trueHour_27 ?_
  refine J_iload_n (pc := 30) dX9_trueHour_30 rfl rfl ?_
  refine T_callVI (pc := 31) (As := [.ref 6, .int (iI p0)]) (k := 13) (st := []) ok_yX1_goOn lm_X9_329 dX9_trueHour_31 (oDay_l (by unfold oDay; decide)) (oDay_o (by unfold oDay; decide)) rfl (by decide) (Nat.le_of_ble_eq_true rfl) (m_X1_goOn m2 13 p0 (by unfold oDay; decide)) (fun r4 m3 em3 => ?_)
  exact T_retI (pc := 34) rfl dX9_trueHour_34
def f_X9_hold (m0 : Mem) (p0 : Int) : Option (Int × Mem) := bd (f_X8_hasSet m0 p0) fun r2 m1 => if w32 r2 = 0 then (some ((-1), m1)) else (if w32 (m1 6 6) = 0 then (some ((-4), m1)) else (if w32 (m1 15 2) < w32 60 then (bd (f_X9_trueHour m1 p0) fun r7 m6 => vm (wr m6 0 13 (m6 13 3)) fun m8 => some (r7, m8)) else (some ((-2), m1))))
set_option maxRecDepth 40000 in
theorem m_X9_hold {l : Launch} {G : qG} (m0 : Mem) (p0 : Int) : qM l G 6 yX9_hold cX9_hold 3 (some .int) [.ref 0, .int (iI p0)] (lay m0) (lf eI (f_X9_hold m0 p0)) := by
  refine qM_of (L := [some (.ref 0), some (.int (iI p0)), none]) (by decide +kernel) (Nat.le_of_ble_eq_true rfl) rfl ?_
  unfold f_X9_hold
  refine J_aload_n (pc := 0) dX9_hold_0 rfl rfl rfl ?_
  refine tg_X9_31 (pc := 1) rfl dX9_hold_1 ?_
  refine J_iload_n (pc := 4) dX9_hold_4 rfl rfl ?_
  refine T_callVI (pc := 5) (As := [.int (iI p0)]) (k := 6) (st := []) ok_yX8_hasSet lm_X9_180 dX9_hold_5 (by decide) rfl rfl (by decide) (Nat.le_of_ble_eq_true rfl) (m_X8_hasSet m0 p0) (fun r2 m1 em1 => ?_)
  refine T_if_ne (pc := 8) (tgt := 13) dX9_hold_8 (by decide) (fun h3 => ?_) (fun h3 => ?_)
  · refine J_aload_n (pc := 13) dX9_hold_13 rfl rfl rfl ?_
    refine tg_X9_31 (pc := 14) rfl dX9_hold_14 ?_
    refine tg_X9_156 (pc := 17) rfl dX9_hold_17 ?_
    refine T_if_ne (pc := 20) (tgt := 26) dX9_hold_20 (by decide) (fun h4 => ?_) (fun h4 => ?_)
    · refine J_aload_n (pc := 26) dX9_hold_26 rfl rfl rfl ?_
      refine tg_X9_45 (pc := 27) rfl dX9_hold_27 ?_
      refine tg_X9_97 (pc := 30) (by unfold oDiary; decide) rfl dX9_hold_30 ?_
      refine J_bipush (pc := 33) dX9_hold_33 (by decide) (by decide) ?_
      refine T_icmp_lt (pc := 35) (tgt := 41) dX9_hold_35 (by decide) (fun h5 => ?_) (fun h5 => ?_)
      · refine J_aload_n (pc := 41) dX9_hold_41 rfl rfl rfl ?_
        refine J_iload_n (pc := 42) dX9_hold_42 rfl rfl ?_
        refine T_callVI (pc := 43) (As := [.int (iI p0)]) (k := 0) (st := []) ok_yX9_trueHour lm_X9_183 dX9_hold_43 (by decide) rfl rfl (by decide) (Nat.le_of_ble_eq_true rfl) (m_X9_trueHour m1 p0) (fun r7 m6 em6 => ?_)
        refine J_istore_n (pc := 46) (L' := [some (.ref 0), some (.int (iI p0)), some (.int (iI r7))]) dX9_hold_46 rfl (by decide) rfl rfl ?_
        refine J_aload_n (pc := 47) dX9_hold_47 rfl rfl rfl ?_
        refine J_aload_n (pc := 48) dX9_hold_48 rfl rfl rfl ?_
        refine tg_X9_38 (pc := 49) rfl dX9_hold_49 ?_
        refine tg_X9_186 (pc := 52) (by unfold oDay; decide) rfl dX9_hold_52 ?_
        refine tp_X9_85 (pc := 55) rfl dX9_hold_55 ?_
        refine T_vm (fun m8 em8 => ?_)
        refine J_iload_n (pc := 58) dX9_hold_58 rfl rfl ?_
        exact T_retI (pc := 59) rfl dX9_hold_59
      · refine J_bipush (pc := 38) dX9_hold_38 (by decide) (by decide) ?_
        exact T_retI (pc := 40) rfl dX9_hold_40
    · refine J_bipush (pc := 23) dX9_hold_23 (by decide) (by decide) ?_
      exact T_retI (pc := 25) rfl dX9_hold_25
  · refine J_iconst (pc := 11) dX9_hold_11 ?_
    exact T_retI (pc := 12) rfl dX9_hold_12
def f_X9_rope (m0 : Mem) (p0 : Int) (p1 : Int) : Option (Int × Mem) := bd (f_X8_hasCape m0 p0) fun r2 m1 => if w32 r2 = 0 then (some ((-1), m1)) else (if w32 p1 < w32 1 then (some ((-1), m1)) else (if w32 9 < w32 p1 then (some ((-1), m1)) else (if w32 (m1 15 2) < w32 60 then (bd (f_X2_write m1 15) fun _u m7 => ck (2 + p0) 16 (vl (m7 (13 + 1) (w32 (2 + p0)).toNat) fun x9 => ck (2 + p0) 16 (vm (wr m7 (13 + 1) (w32 (2 + p0)).toNat p1) fun m11 => some (x9, m11)))) else (some ((-2), m1)))))
set_option maxRecDepth 40000 in
theorem m_X9_rope {l : Launch} {G : qG} (m0 : Mem) (p0 : Int) (p1 : Int) : qM l G 3 yX9_rope cX9_rope 4 (some .int) [.ref 0, .int (iI p0), .int (iI p1)] (lay m0) (lf eI (f_X9_rope m0 p0 p1)) := by
  refine qM_of (L := [some (.ref 0), some (.int (iI p0)), some (.int (iI p1)), none]) (by decide +kernel) (Nat.le_of_ble_eq_true rfl) rfl ?_
  unfold f_X9_rope
  refine J_aload_n (pc := 0) dX9_rope_0 rfl rfl rfl ?_
  refine tg_X9_31 (pc := 1) rfl dX9_rope_1 ?_
  refine J_iload_n (pc := 4) dX9_rope_4 rfl rfl ?_
  refine T_callVI (pc := 5) (As := [.int (iI p0)]) (k := 6) (st := []) ok_yX8_hasCape lm_X9_159 dX9_rope_5 (by decide) rfl rfl (by decide) (Nat.le_of_ble_eq_true rfl) (m_X8_hasCape m0 p0) (fun r2 m1 em1 => ?_)
  refine T_if_eq (pc := 8) (tgt := 22) dX9_rope_8 (by decide) (fun h3 => ?_) (fun h3 => ?_)
  · refine J_iconst (pc := 22) dX9_rope_22 ?_
    exact T_retI (pc := 23) rfl dX9_rope_23
  · refine J_iload_n (pc := 11) dX9_rope_11 rfl rfl ?_
    refine J_iconst (pc := 12) dX9_rope_12 ?_
    refine T_icmp_lt (pc := 13) (tgt := 22) dX9_rope_13 (by decide) (fun h4 => ?_) (fun h4 => ?_)
    · refine J_iconst (pc := 22) dX9_rope_22 ?_
      exact T_retI (pc := 23) rfl dX9_rope_23
    · refine J_iload_n (pc := 16) dX9_rope_16 rfl rfl ?_
      refine J_bipush (pc := 17) dX9_rope_17 (by decide) (by decide) ?_
      refine T_icmp_le (pc := 19) (tgt := 24) dX9_rope_19 (by decide) (fun h5 => ?_) (fun h5 => ?_)
      · refine J_aload_n (pc := 24) dX9_rope_24 rfl rfl rfl ?_
        refine tg_X9_45 (pc := 25) rfl dX9_rope_25 ?_
        refine tg_X9_97 (pc := 28) (by unfold oDiary; decide) rfl dX9_rope_28 ?_
        refine J_bipush (pc := 31) dX9_rope_31 (by decide) (by decide) ?_
        refine T_icmp_lt (pc := 33) (tgt := 39) dX9_rope_33 (by decide) (fun h6 => ?_) (fun h6 => ?_)
        · refine J_aload_n (pc := 39) dX9_rope_39 rfl rfl rfl ?_
          refine tg_X9_45 (pc := 40) rfl dX9_rope_40 ?_
          refine J_aload_n (pc := 43) dX9_rope_43 rfl rfl rfl ?_
          refine tg_X9_38 (pc := 44) rfl dX9_rope_44 ?_
          refine T_callVU (pc := 47) (As := [.ref 13]) (k := 15) (st := []) ok_yX2_write lm_X9_189 dX9_rope_47 (oDiary_l (by unfold oDiary; decide)) (oDiary_o (by unfold oDiary; decide)) rfl (by decide) (Nat.le_of_ble_eq_true rfl) (m_X2_write m1 15 (by unfold oDiary; decide)) (fun _u m7 em7 => ?_)
          refine J_aload_n (pc := 50) dX9_rope_50 rfl rfl rfl ?_
          refine tg_X9_38 (pc := 51) rfl dX9_rope_51 ?_
          refine tg_X9_193 (pc := 54) (by unfold oDay; decide) rfl dX9_rope_54 ?_
          refine J_iconst (pc := 57) dX9_rope_57 ?_
          refine J_iload_n (pc := 58) dX9_rope_58 rfl rfl ?_
          refine J_iadd (pc := 59) dX9_rope_59 ?_
          refine T_iaload (pc := 60) (oDay_l1 (by unfold oDay; decide)) (oDay_a1 (by unfold oDay; decide)) dX9_rope_60 (fun h8 => ?_)
          refine T_vlI (pc := 61) (fun x9 ex9 => ?_)
          refine J_istore_n (pc := 61) (L' := [some (.ref 0), some (.int (iI p0)), some (.int (iI p1)), some (.int (iI x9))]) dX9_rope_61 rfl (by decide) rfl rfl ?_
          refine J_aload_n (pc := 62) dX9_rope_62 rfl rfl rfl ?_
          refine tg_X9_38 (pc := 63) rfl dX9_rope_63 ?_
          refine tg_X9_193 (pc := 66) (by unfold oDay; decide) rfl dX9_rope_66 ?_
          refine J_iconst (pc := 69) dX9_rope_69 ?_
          refine J_iload_n (pc := 70) dX9_rope_70 rfl rfl ?_
          refine J_iadd (pc := 71) dX9_rope_71 ?_
          refine J_iload_n (pc := 72) dX9_rope_72 rfl rfl ?_
          refine T_iastore (pc := 73) (oDay_l1 (by unfold oDay; decide)) (oDay_a1 (by unfold oDay; decide)) dX9_rope_73 (fun h10 => ?_)
          refine T_vm (fun m11 em11 => ?_)
          refine J_iload_n (pc := 74) dX9_rope_74 rfl rfl ?_
          exact T_retI (pc := 75) rfl dX9_rope_75
        · refine J_bipush (pc := 36) dX9_rope_36 (by decide) (by decide) ?_
          exact T_retI (pc := 38) rfl dX9_rope_38
      · refine J_iconst (pc := 22) dX9_rope_22 ?_
        exact T_retI (pc := 23) rfl dX9_rope_23
def f_X9_rise (m0 : Mem) : Option (Int × Mem) := if w32 (m0 6 6) = 0 then (some ((-4), m0)) else (bd (f_X1_isDown m0 13) fun r3 m2 => if w32 r3 = 0 then (some ((-4), m2)) else (if w32 (m2 15 2) < w32 60 then (bd (f_X2_write m2 15) fun _u m6 => ck 1 16 (ckz 6 (vl (6 * (zmin (zdiv (m6 (13 + 1) (w32 1).toNat) 6) 7)) fun x8 => ck 1 16 (ck 1 16 (vm (wr m6 (13 + 1) (w32 1).toNat ((m6 (13 + 1) (w32 1).toNat) - x8)) fun m11 => ck 0 16 (vm (wr m11 (13 + 1) (w32 0).toNat x8) fun m13 => some (x8, m13))))))) else (some ((-2), m2))))
set_option maxRecDepth 40000 in
theorem m_X9_rise {l : Launch} {G : qG} (m0 : Mem) : qM l G 3 yX9_rise cX9_rise 2 (some .int) [.ref 0] (lay m0) (lf eI (f_X9_rise m0)) := by
  refine qM_of (L := [some (.ref 0), none]) (by decide +kernel) (Nat.le_of_ble_eq_true rfl) rfl ?_
  unfold f_X9_rise
  refine J_aload_n (pc := 0) dX9_rise_0 rfl rfl rfl ?_
  refine tg_X9_31 (pc := 1) rfl dX9_rise_1 ?_
  refine tg_X9_156 (pc := 4) rfl dX9_rise_4 ?_
  refine T_if_eq (pc := 7) (tgt := 20) dX9_rise_7 (by decide) (fun h1 => ?_) (fun h1 => ?_)
  · refine J_bipush (pc := 20) dX9_rise_20 (by decide) (by decide) ?_
    exact T_retI (pc := 22) rfl dX9_rise_22
  · refine J_aload_n (pc := 10) dX9_rise_10 rfl rfl rfl ?_
    refine tg_X9_38 (pc := 11) rfl dX9_rise_11 ?_
    refine T_callVI (pc := 14) (As := []) (k := 13) (st := []) ok_yX1_isDown lm_X9_196 dX9_rise_14 (oDay_l (by unfold oDay; decide)) (oDay_o (by unfold oDay; decide)) rfl (by decide) (Nat.le_of_ble_eq_true rfl) (m_X1_isDown m0 13 (by unfold oDay; decide)) (fun r3 m2 em2 => ?_)
    refine T_if_ne (pc := 17) (tgt := 23) dX9_rise_17 (by decide) (fun h4 => ?_) (fun h4 => ?_)
    · refine J_aload_n (pc := 23) dX9_rise_23 rfl rfl rfl ?_
      refine tg_X9_45 (pc := 24) rfl dX9_rise_24 ?_
      refine tg_X9_97 (pc := 27) (by unfold oDiary; decide) rfl dX9_rise_27 ?_
      refine J_bipush (pc := 30) dX9_rise_30 (by decide) (by decide) ?_
      refine T_icmp_lt (pc := 32) (tgt := 38) dX9_rise_32 (by decide) (fun h5 => ?_) (fun h5 => ?_)
      · refine J_aload_n (pc := 38) dX9_rise_38 rfl rfl rfl ?_
        refine tg_X9_45 (pc := 39) rfl dX9_rise_39 ?_
        refine J_aload_n (pc := 42) dX9_rise_42 rfl rfl rfl ?_
        refine tg_X9_38 (pc := 43) rfl dX9_rise_43 ?_
        refine T_callVU (pc := 46) (As := [.ref 13]) (k := 15) (st := []) ok_yX2_write lm_X9_189 dX9_rise_46 (oDiary_l (by unfold oDiary; decide)) (oDiary_o (by unfold oDiary; decide)) rfl (by decide) (Nat.le_of_ble_eq_true rfl) (m_X2_write m2 15 (by unfold oDiary; decide)) (fun _u m6 em6 => ?_)
        refine J_bipush (pc := 49) dX9_rise_49 (by decide) (by decide) ?_
        refine J_aload_n (pc := 51) dX9_rise_51 rfl rfl rfl ?_
        refine tg_X9_38 (pc := 52) rfl dX9_rise_52 ?_
        refine tg_X9_193 (pc := 55) (by unfold oDay; decide) rfl dX9_rise_55 ?_
        refine J_iconst (pc := 58) dX9_rise_58 ?_
        refine T_iaload (pc := 59) (oDay_l1 (by unfold oDay; decide)) (oDay_a1 (by unfold oDay; decide)) dX9_rise_59 (fun h7 => ?_)
        refine J_bipush (pc := 60) dX9_rise_60 (by decide) (by decide) ?_
        refine T_idiv (pc := 62) dX9_rise_62 ?_
        refine J_bipush (pc := 63) dX9_rise_63 (by decide) (by decide) ?_
        refine J_min (pc := 65) (by decide) lm_X9_199 (Nat.le_of_ble_eq_true rfl) dX9_rise_65 ?_
        refine J_imul (pc := 68) dX9_rise_68 ?_
        refine T_vlI (pc := 69) (fun x8 ex8 => ?_)
        refine J_istore_n (pc := 69) (L' := [some (.ref 0), some (.int (iI x8))]) dX9_rise_69 rfl (by decide) rfl rfl ?_
        refine J_aload_n (pc := 70) dX9_rise_70 rfl rfl rfl ?_
        refine tg_X9_38 (pc := 71) rfl dX9_rise_71 ?_
        refine tg_X9_193 (pc := 74) (by unfold oDay; decide) rfl dX9_rise_74 ?_
        refine J_iconst (pc := 77) dX9_rise_77 ?_
        refine J_dup2 (pc := 78) dX9_rise_78 rfl rfl ?_
        refine T_iaload (pc := 79) (oDay_l1 (by unfold oDay; decide)) (oDay_a1 (by unfold oDay; decide)) dX9_rise_79 (fun h9 => ?_)
        refine J_iload_n (pc := 80) dX9_rise_80 rfl rfl ?_
        refine J_isub (pc := 81) dX9_rise_81 ?_
        refine T_iastore (pc := 82) (oDay_l1 (by unfold oDay; decide)) (oDay_a1 (by unfold oDay; decide)) dX9_rise_82 (fun h10 => ?_)
        refine T_vm (fun m11 em11 => ?_)
        refine J_aload_n (pc := 83) dX9_rise_83 rfl rfl rfl ?_
        refine tg_X9_38 (pc := 84) rfl dX9_rise_84 ?_
        refine tg_X9_193 (pc := 87) (by unfold oDay; decide) rfl dX9_rise_87 ?_
        refine J_iconst (pc := 90) dX9_rise_90 ?_
        refine J_iload_n (pc := 91) dX9_rise_91 rfl rfl ?_
        refine T_iastore (pc := 92) (oDay_l1 (by unfold oDay; decide)) (oDay_a1 (by unfold oDay; decide)) dX9_rise_92 (fun h12 => ?_)
        refine T_vm (fun m13 em13 => ?_)
        refine J_iload_n (pc := 93) dX9_rise_93 rfl rfl ?_
        exact T_retI (pc := 94) rfl dX9_rise_94
      · refine J_bipush (pc := 35) dX9_rise_35 (by decide) (by decide) ?_
        exact T_retI (pc := 37) rfl dX9_rise_37
    · refine J_bipush (pc := 20) dX9_rise_20 (by decide) (by decide) ?_
      exact T_retI (pc := 22) rfl dX9_rise_22
def f_X2_goBack (m0 : Mem) (t : Nat) (p0 : Int) : Option (Unit × Mem) := if w32 p0 < 0 then (some ((), m0)) else (if w32 60 < w32 p0 then (some ((), m0)) else (ckc (p0 * 16) 0 16 976 16 (vm (cpy m0 (t + 1) (13 + 1) (w32 (p0 * 16)).toNat (w32 0).toNat (w32 16).toNat) fun m3 => vm (wr m3 t 2 p0) fun m4 => some ((), m4))))
set_option maxRecDepth 40000 in
theorem m_X2_goBack {l : Launch} {G : qG} (m0 : Mem) (t : Nat) (p0 : Int) (ht : oDiary t) : qM l G 1 yX2_goBack cX2_goBack 3 none [.ref t, .int (iI p0), .ref 13] (lay m0) (lf eU (f_X2_goBack m0 t p0)) := by
  refine qM_of (L := [some (.ref t), some (.int (iI p0)), some (.ref 13)]) (by decide +kernel) (Nat.le_of_ble_eq_true rfl) rfl ?_
  unfold f_X2_goBack
  refine J_iload_n (pc := 0) dX2_goBack_0 rfl rfl ?_
  refine T_if_lt (pc := 1) (tgt := 33) dX2_goBack_1 (by decide) (fun h1 => ?_) (fun h1 => ?_)
  · exact T_retV (pc := 33) rfl dX2_goBack_33
  · refine J_iload_n (pc := 4) dX2_goBack_4 rfl rfl ?_
    refine J_bipush (pc := 5) dX2_goBack_5 (by decide) (by decide) ?_
    refine T_icmp_gt (pc := 7) (tgt := 33) dX2_goBack_7 (by decide) (fun h2 => ?_) (fun h2 => ?_)
    · exact T_retV (pc := 33) rfl dX2_goBack_33
    · refine J_aload_n (pc := 10) dX2_goBack_10 rfl rfl rfl ?_
      refine tg_X2_9 (pc := 11) ht rfl dX2_goBack_11 ?_
      refine J_iload_n (pc := 14) dX2_goBack_14 rfl rfl ?_
      refine J_bipush (pc := 15) dX2_goBack_15 (by decide) (by decide) ?_
      refine J_imul (pc := 17) dX2_goBack_17 ?_
      refine J_aload_n (pc := 18) dX2_goBack_18 rfl rfl rfl ?_
      refine tg_X2_22 (pc := 19) (by unfold oDay; decide) rfl dX2_goBack_19 ?_
      refine J_iconst (pc := 22) dX2_goBack_22 ?_
      refine J_bipush (pc := 23) dX2_goBack_23 (by decide) (by decide) ?_
      refine T_copy (pc := 25) (by decide) lm_X2_27 (Nat.le_of_ble_eq_true rfl) (oDiary_l1 ht) (oDiary_a1 ht) (oDay_l1 (by unfold oDay; decide)) (oDay_a1 (by unfold oDay; decide)) dX2_goBack_25 ?_
      refine T_vm (fun m3 em3 => ?_)
      refine J_aload_n (pc := 28) dX2_goBack_28 rfl rfl rfl ?_
      refine J_iload_n (pc := 29) dX2_goBack_29 rfl rfl ?_
      refine tp_X2_18 (pc := 30) ht rfl dX2_goBack_30 ?_
      refine T_vm (fun m4 em4 => ?_)
      exact T_retV (pc := 33) rfl dX2_goBack_33
def f_X9_undo (m0 : Mem) (p0 : Int) : Option (Int × Mem) := if w32 p0 < 0 then (some ((-1), m0)) else (if w32 (m0 15 2) < w32 p0 then (some ((-1), m0)) else (vl ((m0 15 2) - p0) fun x3 => if 0 < w32 x3 then (bd (f_X2_goBack m0 15 p0) fun _u m5 => some (x3, m5)) else (some (x3, m0))))
set_option maxRecDepth 40000 in
theorem m_X9_undo {l : Launch} {G : qG} (m0 : Mem) (p0 : Int) : qM l G 2 yX9_undo cX9_undo 3 (some .int) [.ref 0, .int (iI p0)] (lay m0) (lf eI (f_X9_undo m0 p0)) := by
  refine qM_of (L := [some (.ref 0), some (.int (iI p0)), none]) (by decide +kernel) (Nat.le_of_ble_eq_true rfl) rfl ?_
  unfold f_X9_undo
  refine J_iload_n (pc := 0) dX9_undo_0 rfl rfl ?_
  refine T_if_lt (pc := 1) (tgt := 15) dX9_undo_1 (by decide) (fun h1 => ?_) (fun h1 => ?_)
  · refine J_iconst (pc := 15) dX9_undo_15 ?_
    exact T_retI (pc := 16) rfl dX9_undo_16
  · refine J_iload_n (pc := 4) dX9_undo_4 rfl rfl ?_
    refine J_aload_n (pc := 5) dX9_undo_5 rfl rfl rfl ?_
    refine tg_X9_45 (pc := 6) rfl dX9_undo_6 ?_
    refine tg_X9_97 (pc := 9) (by unfold oDiary; decide) rfl dX9_undo_9 ?_
    refine T_icmp_le (pc := 12) (tgt := 17) dX9_undo_12 (by decide) (fun h2 => ?_) (fun h2 => ?_)
    · refine J_aload_n (pc := 17) dX9_undo_17 rfl rfl rfl ?_
      refine tg_X9_45 (pc := 18) rfl dX9_undo_18 ?_
      refine tg_X9_97 (pc := 21) (by unfold oDiary; decide) rfl dX9_undo_21 ?_
      refine J_iload_n (pc := 24) dX9_undo_24 rfl rfl ?_
      refine J_isub (pc := 25) dX9_undo_25 ?_
      refine T_vlI (pc := 26) (fun x3 ex3 => ?_)
      refine J_istore_n (pc := 26) (L' := [some (.ref 0), some (.int (iI p0)), some (.int (iI x3))]) dX9_undo_26 rfl (by decide) rfl rfl ?_
      refine J_iload_n (pc := 27) dX9_undo_27 rfl rfl ?_
      refine T_if_le (pc := 28) (tgt := 43) dX9_undo_28 (by decide) (fun h4 => ?_) (fun h4 => ?_)
      · refine J_iload_n (pc := 43) dX9_undo_43 rfl rfl ?_
        exact T_retI (pc := 44) rfl dX9_undo_44
      · refine J_aload_n (pc := 31) dX9_undo_31 rfl rfl rfl ?_
        refine tg_X9_45 (pc := 32) rfl dX9_undo_32 ?_
        refine J_iload_n (pc := 35) dX9_undo_35 rfl rfl ?_
        refine J_aload_n (pc := 36) dX9_undo_36 rfl rfl rfl ?_
        refine tg_X9_38 (pc := 37) rfl dX9_undo_37 ?_
        refine T_callVU (pc := 40) (As := [.int (iI p0), .ref 13]) (k := 15) (st := []) ok_yX2_goBack lm_X9_204 dX9_undo_40 (oDiary_l (by unfold oDiary; decide)) (oDiary_o (by unfold oDiary; decide)) rfl (by decide) (Nat.le_of_ble_eq_true rfl) (m_X2_goBack m0 15 p0 (by unfold oDiary; decide)) (fun _u m5 em5 => ?_)
        refine J_iload_n (pc := 43) dX9_undo_43 rfl rfl ?_
        exact T_retI (pc := 44) rfl dX9_undo_44
    · refine J_iconst (pc := 15) dX9_undo_15 ?_
      exact T_retI (pc := 16) rfl dX9_undo_16
def f_X9_sun (m0 : Mem) : Option (Int × Mem) := if w32 (m0 6 6) = 0 then (some ((-4), m0)) else (ck 1 16 (vm (wr m0 0 13 (m0 (13 + 1) (w32 1).toNat)) fun m3 => ck 0 16 (some (m3 (13 + 1) (w32 0).toNat, m3))))
set_option maxRecDepth 40000 in
theorem m_X9_sun {l : Launch} {G : qG} (m0 : Mem) : qM l G 1 yX9_sun cX9_sun 1 (some .int) [.ref 0] (lay m0) (lf eI (f_X9_sun m0)) := by
  refine qM_of (L := [some (.ref 0)]) (by decide +kernel) (Nat.le_of_ble_eq_true rfl) rfl ?_
  unfold f_X9_sun
  refine J_aload_n (pc := 0) dX9_sun_0 rfl rfl rfl ?_
  refine tg_X9_31 (pc := 1) rfl dX9_sun_1 ?_
  refine tg_X9_156 (pc := 4) rfl dX9_sun_4 ?_
  refine T_if_ne (pc := 7) (tgt := 13) dX9_sun_7 (by decide) (fun h1 => ?_) (fun h1 => ?_)
  · refine J_aload_n (pc := 13) dX9_sun_13 rfl rfl rfl ?_
    refine J_aload_n (pc := 14) dX9_sun_14 rfl rfl rfl ?_
    refine tg_X9_38 (pc := 15) rfl dX9_sun_15 ?_
    refine tg_X9_193 (pc := 18) (by unfold oDay; decide) rfl dX9_sun_18 ?_
    refine J_iconst (pc := 21) dX9_sun_21 ?_
    refine T_iaload (pc := 22) (oDay_l1 (by unfold oDay; decide)) (oDay_a1 (by unfold oDay; decide)) dX9_sun_22 (fun h2 => ?_)
    refine tp_X9_85 (pc := 23) rfl dX9_sun_23 ?_
    refine T_vm (fun m3 em3 => ?_)
    refine J_aload_n (pc := 26) dX9_sun_26 rfl rfl rfl ?_
    refine tg_X9_38 (pc := 27) rfl dX9_sun_27 ?_
    refine tg_X9_193 (pc := 30) (by unfold oDay; decide) rfl dX9_sun_30 ?_
    refine J_iconst (pc := 33) dX9_sun_33 ?_
    refine T_iaload (pc := 34) (oDay_l1 (by unfold oDay; decide)) (oDay_a1 (by unfold oDay; decide)) dX9_sun_34 (fun h4 => ?_)
    exact T_retI (pc := 35) rfl dX9_sun_35
  · refine J_bipush (pc := 10) dX9_sun_10 (by decide) (by decide) ?_
    exact T_retI (pc := 12) rfl dX9_sun_12
def f_X9_gained_L10 : Nat → Int → Int → Int → Int → Mem → Option (Int × Mem)
  | 0, _, _, _, _, _ => none
  | u + 1, i1, i2, i3, i4, mu10 => if w32 i4 < w32 (mu10 6 7) then (ck (12 + i4) 16 (vl (mu10 (13 + 1) (w32 (12 + i4)).toNat) fun x4 => vl (i1 + x4) fun x5 => jn (κ := Int → Int → Mem → Option (Int × Mem)) (fun x8 x9 m7 => f_X9_gained_L10 u x5 x8 x9 (i4 + 1) m7) fun k6 => if w32 i3 < w32 x4 then (k6 i4 x4 mu10) else (k6 i2 i3 mu10))) else (vm (wr mu10 0 13 i2) fun m2 => some (i1, m2))
set_option maxRecDepth 40000 in
theorem j_X9_gained_L10 {l : Launch} {G : qG} : ∀ (u : Nat) (i1 : Int) (i2 : Int) (i3 : Int) (i4 : Int) (mu10 : Mem), qJ l G yX9_gained cX9_gained 6 (some .int) 1 10 [some (.ref 0), some (.int (iI i1)), some (.int (iI i2)), some (.int (iI i3)), some (.int (iI i4)), none] [] (lay mu10) (lf eI (f_X9_gained_L10 u i1 i2 i3 i4 mu10)) := by
  intro u
  induction u with
  | zero => intro _ _ _ _ mu10; exact T_none
  | succ u ih =>
    intro i1 i2 i3 i4 mu10
    rw [f_X9_gained_L10]
    refine J_iload (pc := 10) dX9_gained_10 rfl ?_
    refine J_aload_n (pc := 12) dX9_gained_12 rfl rfl rfl ?_
    refine tg_X9_31 (pc := 13) rfl dX9_gained_13 ?_
    refine tg_X9_208 (pc := 16) rfl dX9_gained_16 ?_
    refine T_icmp_ge (pc := 19) (tgt := 60) dX9_gained_19 (by decide) (fun h1 => ?_) (fun h1 => ?_)
    · refine J_aload_n (pc := 60) dX9_gained_60 rfl rfl rfl ?_
      refine J_iload_n (pc := 61) dX9_gained_61 rfl rfl ?_
      refine tp_X9_85 (pc := 62) rfl dX9_gained_62 ?_
      refine T_vm (fun m2 em2 => ?_)
      refine J_iload_n (pc := 65) dX9_gained_65 rfl rfl ?_
      exact T_retI (pc := 66) rfl dX9_gained_66
    · refine J_aload_n (pc := 22) dX9_gained_22 rfl rfl rfl ?_
      refine tg_X9_38 (pc := 23) rfl dX9_gained_23 ?_
      refine tg_X9_193 (pc := 26) (by unfold oDay; decide) rfl dX9_gained_26 ?_
      refine J_bipush (pc := 29) dX9_gained_29 (by decide) (by decide) ?_
      refine J_iload (pc := 31) dX9_gained_31 rfl ?_
      refine J_iadd (pc := 33) dX9_gained_33 ?_
      refine T_iaload (pc := 34) (oDay_l1 (by unfold oDay; decide)) (oDay_a1 (by unfold oDay; decide)) dX9_gained_34 (fun h3 => ?_)
      refine T_vlI (pc := 35) (fun x4 ex4 => ?_)
      refine J_istore (pc := 35) (L' := [some (.ref 0), some (.int (iI i1)), some (.int (iI i2)), some (.int (iI i3)), some (.int (iI i4)), some (.int (iI x4))]) dX9_gained_35 (by decide) rfl rfl ?_
      refine J_iload_n (pc := 37) dX9_gained_37 rfl rfl ?_
      refine J_iload (pc := 38) dX9_gained_38 rfl ?_
      refine J_iadd (pc := 40) dX9_gained_40 ?_
      refine T_vlI (pc := 41) (fun x5 ex5 => ?_)
      refine J_istore_n (pc := 41) (L' := [some (.ref 0), some (.int (iI x5)), some (.int (iI i2)), some (.int (iI i3)), some (.int (iI i4)), some (.int (iI x4))]) dX9_gained_41 rfl (by decide) rfl rfl ?_
      refine J_iload (pc := 42) dX9_gained_42 rfl ?_
      refine J_iload_n (pc := 44) dX9_gained_44 rfl rfl ?_
      refine T_jn (κ := Int → Int → Mem → Option (Int × Mem)) (fun k => ∀ (x8 : Int) (x9 : Int) (m7 : Mem), qJ l G yX9_gained cX9_gained 6 (some .int) 1 54 [some (.ref 0), some (.int (iI x5)), some (.int (iI x8)), some (.int (iI x9)), some (.int (iI i4)), none] [] (lay m7) (lf eI (k x8 x9 m7))) ?_ (fun k6 hk6 => ?_)
      · intro x8 x9 m7
        refine J_iinc (pc := 54) (L' := [some (.ref 0), some (.int (iI x5)), some (.int (iI x8)), some (.int (iI x9)), some (.int (iI (i4 + 1))), none]) dX9_gained_54 rfl (by decide) rfl rfl ?_
        refine J_goto (pc := 57) (tgt := 10) dX9_gained_57 (by decide) ?_
        exact ih x5 x8 x9 (i4 + 1) m7
      · refine T_icmp_le (pc := 45) (tgt := 54) dX9_gained_45 (by decide) (fun h10 => ?_) (fun h10 => ?_)
        · refine J_dropf (pc := 54) (L' := [some (.ref 0), some (.int (iI x5)), some (.int (iI i2)), some (.int (iI i3)), some (.int (iI i4)), none]) [true, true, true, true, true, false] rfl ?_
          exact hk6 i2 i3 mu10
        · refine J_iload (pc := 48) dX9_gained_48 rfl ?_
          refine J_istore_n (pc := 50) (L' := [some (.ref 0), some (.int (iI x5)), some (.int (iI i2)), some (.int (iI x4)), some (.int (iI i4)), some (.int (iI x4))]) dX9_gained_50 rfl (by decide) rfl rfl ?_
          refine J_iload (pc := 51) dX9_gained_51 rfl ?_
          refine J_istore_n (pc := 53) (L' := [some (.ref 0), some (.int (iI x5)), some (.int (iI i4)), some (.int (iI x4)), some (.int (iI i4)), some (.int (iI x4))]) dX9_gained_53 rfl (by decide) rfl rfl ?_
          refine J_dropf (pc := 54) (L' := [some (.ref 0), some (.int (iI x5)), some (.int (iI i4)), some (.int (iI x4)), some (.int (iI i4)), none]) [true, true, true, true, true, false] rfl ?_
          exact hk6 i4 x4 mu10
def f_X9_gained (m0 : Mem) : Option (Int × Mem) := f_X9_gained_L10 100000 0 (-9) (-1) 0 m0
set_option maxRecDepth 40000 in
theorem m_X9_gained {l : Launch} {G : qG} (m0 : Mem) : qM l G 1 yX9_gained cX9_gained 6 (some .int) [.ref 0] (lay m0) (lf eI (f_X9_gained m0)) := by
  refine qM_of (L := [some (.ref 0), none, none, none, none, none]) (by decide +kernel) (Nat.le_of_ble_eq_true rfl) rfl ?_
  unfold f_X9_gained
  refine J_iconst (pc := 0) dX9_gained_0 ?_
  refine J_istore_n (pc := 1) (L' := [some (.ref 0), some (.int (iI 0)), none, none, none, none]) dX9_gained_1 rfl (by decide) rfl rfl ?_
  refine J_bipush (pc := 2) dX9_gained_2 (by decide) (by decide) ?_
  refine J_istore_n (pc := 4) (L' := [some (.ref 0), some (.int (iI 0)), some (.int (iI (-9))), none, none, none]) dX9_gained_4 rfl (by decide) rfl rfl ?_
  refine J_iconst (pc := 5) dX9_gained_5 ?_
  refine J_istore_n (pc := 6) (L' := [some (.ref 0), some (.int (iI 0)), some (.int (iI (-9))), some (.int (iI (-1))), none, none]) dX9_gained_6 rfl (by decide) rfl rfl ?_
  refine J_iconst (pc := 7) dX9_gained_7 ?_
  refine J_istore (pc := 8) (L' := [some (.ref 0), some (.int (iI 0)), some (.int (iI (-9))), some (.int (iI (-1))), some (.int (iI 0)), none]) dX9_gained_8 (by decide) rfl rfl ?_
  refine j_X9_gained_L10 100000 0 (-9) (-1) 0 m0
def f_X9_isKeptPlace (m0 : Mem) (p0 : Int) : Option (Int × Mem) := vl (if w32 p0 < 0 then 0 else (if w32 p0 < w32 3 then 1 else 0)) fun v1 => some (v1, m0)
set_option maxRecDepth 40000 in
theorem m_X9_isKeptPlace {l : Launch} {G : qG} (m0 : Mem) (p0 : Int) : qM l G 1 yX9_isKeptPlace cX9_isKeptPlace 1 (some .boolean) [.int (iI p0)] (lay m0) (lf eI (f_X9_isKeptPlace m0 p0)) := by
  refine qM_of (L := [some (.int (iI p0))]) (by decide +kernel) (Nat.le_of_ble_eq_true rfl) rfl ?_
  unfold f_X9_isKeptPlace
  refine J_iload_n (pc := 0) dX9_isKeptPlace_0 rfl rfl ?_
  refine T_vl (fun v1 ev1 => ?_)
  refine T_dia (j := 14) (v := v1) (LT := [some (.int (iI p0))]) (sT := []) ?_ (fun hj2 => ?_)
  · exact T_retZ (pc := 14) rfl (by rw [ev1]; repeat' (first | exact Or.inl rfl | exact Or.inr rfl | split)) dX9_isKeptPlace_14
  · refine T_if_lt_same (pc := 1) (tgt := 13) dX9_isKeptPlace_1 (by decide) (fun h3 => ?_) (fun h3 => ?_)
    · refine J_iconst (pc := 13) dX9_isKeptPlace_13 ?_
      exact T_top (by rw [ev1, if_pos h3]) hj2
    · refine J_iload_n (pc := 4) dX9_isKeptPlace_4 rfl rfl ?_
      refine J_iconst (pc := 5) dX9_isKeptPlace_5 ?_
      refine T_icmp_ge_same (pc := 6) (tgt := 13) dX9_isKeptPlace_6 (by decide) (fun h4 => ?_) (fun h4 => ?_)
      · refine J_iconst (pc := 13) dX9_isKeptPlace_13 ?_
        exact T_top (by rw [ev1, if_neg h3, if_neg h4]) hj2
      · refine J_iconst (pc := 9) dX9_isKeptPlace_9 ?_
        refine J_goto (pc := 10) (tgt := 14) dX9_isKeptPlace_10 (by decide) ?_
        exact T_top (by rw [ev1, if_neg h3, if_pos h4]) hj2
def f_X2_take (m0 : Mem) (t : Nat) (q0 : Nat) : Option (Unit × Mem) := if w32 (m0 q0 2) < 0 then (some ((), m0)) else (if w32 60 < w32 (m0 q0 2) then (some ((), m0)) else (ckc 0 0 (((m0 q0 2) + 1) * 16) 976 976 (vm (cpy m0 (q0 + 1) (t + 1) (w32 0).toNat (w32 0).toNat (w32 (((m0 q0 2) + 1) * 16)).toNat) fun m3 => vm (wr m3 t 2 (m3 q0 2)) fun m4 => some ((), m4))))
set_option maxRecDepth 40000 in
theorem m_X2_take {l : Launch} {G : qG} (m0 : Mem) (t : Nat) (q0 : Nat) (ht : oDiary t) (hq0 : oDiary q0) : qM l G 1 yX2_take cX2_take 2 none [.ref t, .ref q0] (lay m0) (lf eU (f_X2_take m0 t q0)) := by
  refine qM_of (L := [some (.ref t), some (.ref q0)]) (by decide +kernel) (Nat.le_of_ble_eq_true rfl) rfl ?_
  unfold f_X2_take
  refine J_aload_n (pc := 0) dX2_take_0 rfl rfl rfl ?_
  refine tg_X2_18 (pc := 1) hq0 rfl dX2_take_1 ?_
  refine T_if_lt (pc := 4) (tgt := 46) dX2_take_4 (by decide) (fun h1 => ?_) (fun h1 => ?_)
  · exact T_retV (pc := 46) rfl dX2_take_46
  · refine J_aload_n (pc := 7) dX2_take_7 rfl rfl rfl ?_
    refine tg_X2_18 (pc := 8) hq0 rfl dX2_take_8 ?_
    refine J_bipush (pc := 11) dX2_take_11 (by decide) (by decide) ?_
    refine T_icmp_gt (pc := 13) (tgt := 46) dX2_take_13 (by decide) (fun h2 => ?_) (fun h2 => ?_)
    · exact T_retV (pc := 46) rfl dX2_take_46
    · refine J_aload_n (pc := 16) dX2_take_16 rfl rfl rfl ?_
      refine tg_X2_9 (pc := 17) hq0 rfl dX2_take_17 ?_
      refine J_iconst (pc := 20) dX2_take_20 ?_
      refine J_aload_n (pc := 21) dX2_take_21 rfl rfl rfl ?_
      refine tg_X2_9 (pc := 22) ht rfl dX2_take_22 ?_
      refine J_iconst (pc := 25) dX2_take_25 ?_
      refine J_aload_n (pc := 26) dX2_take_26 rfl rfl rfl ?_
      refine tg_X2_18 (pc := 27) hq0 rfl dX2_take_27 ?_
      refine J_iconst (pc := 30) dX2_take_30 ?_
      refine J_iadd (pc := 31) dX2_take_31 ?_
      refine J_bipush (pc := 32) dX2_take_32 (by decide) (by decide) ?_
      refine J_imul (pc := 34) dX2_take_34 ?_
      refine T_copy (pc := 35) (by decide) lm_X2_27 (Nat.le_of_ble_eq_true rfl) (oDiary_l1 hq0) (oDiary_a1 hq0) (oDiary_l1 ht) (oDiary_a1 ht) dX2_take_35 ?_
      refine T_vm (fun m3 em3 => ?_)
      refine J_aload_n (pc := 38) dX2_take_38 rfl rfl rfl ?_
      refine J_aload_n (pc := 39) dX2_take_39 rfl rfl rfl ?_
      refine tg_X2_18 (pc := 40) hq0 rfl dX2_take_40 ?_
      refine tp_X2_18 (pc := 43) ht rfl dX2_take_43 ?_
      refine T_vm (fun m4 em4 => ?_)
      exact T_retV (pc := 46) rfl dX2_take_46
def f_X9_keep (m0 : Mem) (p0 : Int) : Option (Int × Mem) := bd (f_X9_isKeptPlace m0 p0) fun r2 m1 => if w32 r2 = 0 then (some ((-1), m1)) else (if w32 (m1 6 6) = 0 then (some ((-4), m1)) else (bd (f_X2_writeLast m1 15) fun _u m5 => ck p0 3 (bd (f_X2_take m5 (58 + 3 * (w32 p0).toNat) 15) fun _u m7 => ck p0 3 (ckc 0 0 4 4 4 (vm (cpy m7 12 ((58 + 3 * (w32 p0).toNat) + 2) (w32 0).toNat (w32 0).toNat (w32 4).toNat) fun m9 => some (m9 15 2, m9))))))
set_option maxRecDepth 40000 in
theorem m_X9_keep {l : Launch} {G : qG} (m0 : Mem) (p0 : Int) : qM l G 2 yX9_keep cX9_keep 2 (some .int) [.ref 0, .int (iI p0)] (lay m0) (lf eI (f_X9_keep m0 p0)) := by
  refine qM_of (L := [some (.ref 0), some (.int (iI p0))]) (by decide +kernel) (Nat.le_of_ble_eq_true rfl) rfl ?_
  unfold f_X9_keep
  refine J_iload_n (pc := 0) dX9_keep_0 rfl rfl ?_
  refine T_callSI (pc := 1) (As := [.int (iI p0)]) (st := []) ok_yX9_isKeptPlace lm_X9_211 dX9_keep_1 (by decide) (Nat.le_of_ble_eq_true rfl) (m_X9_isKeptPlace m0 p0) (fun r2 m1 em1 => ?_)
  refine T_if_ne (pc := 4) (tgt := 9) dX9_keep_4 (by decide) (fun h3 => ?_) (fun h3 => ?_)
  · refine J_aload_n (pc := 9) dX9_keep_9 rfl rfl rfl ?_
    refine tg_X9_31 (pc := 10) rfl dX9_keep_10 ?_
    refine tg_X9_156 (pc := 13) rfl dX9_keep_13 ?_
    refine T_if_ne (pc := 16) (tgt := 22) dX9_keep_16 (by decide) (fun h4 => ?_) (fun h4 => ?_)
    · refine J_aload_n (pc := 22) dX9_keep_22 rfl rfl rfl ?_
      refine tg_X9_45 (pc := 23) rfl dX9_keep_23 ?_
      refine J_aload_n (pc := 26) dX9_keep_26 rfl rfl rfl ?_
      refine tg_X9_38 (pc := 27) rfl dX9_keep_27 ?_
      refine T_callVU (pc := 30) (As := [.ref 13]) (k := 15) (st := []) ok_yX2_writeLast lm_X9_214 dX9_keep_30 (oDiary_l (by unfold oDiary; decide)) (oDiary_o (by unfold oDiary; decide)) rfl (by decide) (Nat.le_of_ble_eq_true rfl) (m_X2_writeLast m1 15 (by unfold oDiary; decide)) (fun _u m5 em5 => ?_)
      refine J_aload_n (pc := 33) dX9_keep_33 rfl rfl rfl ?_
      refine tg_X9_49 (pc := 34) rfl dX9_keep_34 ?_
      refine J_iload_n (pc := 37) dX9_keep_37 rfl rfl ?_
      refine T_aaload (pc := 38) (by decide) rfl rfl dX9_keep_38 (fun h6 => ?_)
      refine J_aload_n (pc := 39) dX9_keep_39 rfl rfl rfl ?_
      refine tg_X9_45 (pc := 40) rfl dX9_keep_40 ?_
      refine T_callVU (pc := 43) (As := [.ref 15]) (k := (58 + 3 * (w32 p0).toNat)) (st := []) ok_yX2_take lm_X9_217 dX9_keep_43 (oDiary_l (oDiary_e h6)) (oDiary_o (oDiary_e h6)) rfl (by decide) (Nat.le_of_ble_eq_true rfl) (m_X2_take m5 (58 + 3 * (w32 p0).toNat) 15 (oDiary_e h6) (by unfold oDiary; decide)) (fun _u m7 em7 => ?_)
      refine J_aload_n (pc := 46) dX9_keep_46 rfl rfl rfl ?_
      refine tg_X9_31 (pc := 47) rfl dX9_keep_47 ?_
      refine tg_X9_177 (pc := 50) rfl dX9_keep_50 ?_
      refine J_iconst (pc := 53) dX9_keep_53 ?_
      refine J_aload_n (pc := 54) dX9_keep_54 rfl rfl rfl ?_
      refine tg_X9_49 (pc := 55) rfl dX9_keep_55 ?_
      refine J_iload_n (pc := 58) dX9_keep_58 rfl rfl ?_
      refine T_aaload (pc := 59) (by decide) rfl rfl dX9_keep_59 (fun h8 => ?_)
      refine tg_X9_221 (pc := 60) (oDiary_e h8) rfl dX9_keep_60 ?_
      refine J_iconst (pc := 63) dX9_keep_63 ?_
      refine J_iconst (pc := 64) dX9_keep_64 ?_
      refine T_copy (pc := 65) (by decide) lm_X9_128 (Nat.le_of_ble_eq_true rfl) (by decide) rfl (oDiary_l2 (oDiary_e h8)) (oDiary_a2 (oDiary_e h8)) dX9_keep_65 ?_
      refine T_vm (fun m9 em9 => ?_)
      refine J_aload_n (pc := 68) dX9_keep_68 rfl rfl rfl ?_
      refine tg_X9_45 (pc := 69) rfl dX9_keep_69 ?_
      refine tg_X9_97 (pc := 72) (by unfold oDiary; decide) rfl dX9_keep_72 ?_
      exact T_retI (pc := 75) rfl dX9_keep_75
    · refine J_bipush (pc := 19) dX9_keep_19 (by decide) (by decide) ?_
      exact T_retI (pc := 21) rfl dX9_keep_21
  · refine J_iconst (pc := 7) dX9_keep_7 ?_
    exact T_retI (pc := 8) rfl dX9_keep_8
def f_X9_on (m0 : Mem) (p0 : Int) : Option (Int × Mem) := bd (f_X9_isKeptPlace m0 p0) fun r2 m1 => if w32 r2 = 0 then (some ((-1), m1)) else (ck p0 3 (if w32 (m1 (58 + 3 * (w32 p0).toNat) 2) = w32 (-1) then (bd (f_X9_found m1 1) fun r12 m11 => some (r12, m11)) else (ck p0 3 (bd (f_X2_take m1 15 (58 + 3 * (w32 p0).toNat)) fun _u m7 => bd (f_X2_goBack m7 15 (m7 15 2)) fun _u m8 => ck p0 3 (ckc 0 0 4 4 4 (vm (cpy m8 ((58 + 3 * (w32 p0).toNat) + 2) 12 (w32 0).toNat (w32 0).toNat (w32 4).toNat) fun m10 => some (m10 15 2, m10)))))))
set_option maxRecDepth 40000 in
theorem m_X9_on {l : Launch} {G : qG} (m0 : Mem) (p0 : Int) : qM l G 2 yX9_on cX9_on 2 (some .int) [.ref 0, .int (iI p0)] (lay m0) (lf eI (f_X9_on m0 p0)) := by
  refine qM_of (L := [some (.ref 0), some (.int (iI p0))]) (by decide +kernel) (Nat.le_of_ble_eq_true rfl) rfl ?_
  unfold f_X9_on
  refine J_iload_n (pc := 0) dX9_on_0 rfl rfl ?_
  refine T_callSI (pc := 1) (As := [.int (iI p0)]) (st := []) ok_yX9_isKeptPlace lm_X9_211 dX9_on_1 (by decide) (Nat.le_of_ble_eq_true rfl) (m_X9_isKeptPlace m0 p0) (fun r2 m1 em1 => ?_)
  refine T_if_ne (pc := 4) (tgt := 9) dX9_on_4 (by decide) (fun h3 => ?_) (fun h3 => ?_)
  · refine J_aload_n (pc := 9) dX9_on_9 rfl rfl rfl ?_
    refine tg_X9_49 (pc := 10) rfl dX9_on_10 ?_
    refine J_iload_n (pc := 13) dX9_on_13 rfl rfl ?_
    refine T_aaload (pc := 14) (by decide) rfl rfl dX9_on_14 (fun h4 => ?_)
    refine tg_X9_97 (pc := 15) (oDiary_e h4) rfl dX9_on_15 ?_
    refine J_iconst (pc := 18) dX9_on_18 ?_
    refine T_icmp_ne (pc := 19) (tgt := 28) dX9_on_19 (by decide) (fun h5 => ?_) (fun h5 => ?_)
    · refine J_aload_n (pc := 28) dX9_on_28 rfl rfl rfl ?_
      refine tg_X9_45 (pc := 29) rfl dX9_on_29 ?_
      refine J_aload_n (pc := 32) dX9_on_32 rfl rfl rfl ?_
      refine tg_X9_49 (pc := 33) rfl dX9_on_33 ?_
      refine J_iload_n (pc := 36) dX9_on_36 rfl rfl ?_
      refine T_aaload (pc := 37) (by decide) rfl rfl dX9_on_37 (fun h6 => ?_)
      refine T_callVU (pc := 38) (As := [.ref (58 + 3 * (w32 p0).toNat)]) (k := 15) (st := []) ok_yX2_take lm_X9_217 dX9_on_38 (oDiary_l (by unfold oDiary; decide)) (oDiary_o (by unfold oDiary; decide)) rfl (by decide) (Nat.le_of_ble_eq_true rfl) (m_X2_take m1 15 (58 + 3 * (w32 p0).toNat) (by unfold oDiary; decide) (oDiary_e h6)) (fun _u m7 em7 => ?_)
      refine J_aload_n (pc := 41) dX9_on_41 rfl rfl rfl ?_
      refine tg_X9_45 (pc := 42) rfl dX9_on_42 ?_
      refine J_aload_n (pc := 45) dX9_on_45 rfl rfl rfl ?_
      refine tg_X9_45 (pc := 46) rfl dX9_on_46 ?_
      refine tg_X9_97 (pc := 49) (by unfold oDiary; decide) rfl dX9_on_49 ?_
      refine J_aload_n (pc := 52) dX9_on_52 rfl rfl rfl ?_
      refine tg_X9_38 (pc := 53) rfl dX9_on_53 ?_
      refine T_callVU (pc := 56) (As := [.int (iI (m7 15 2)), .ref 13]) (k := 15) (st := []) ok_yX2_goBack lm_X9_204 dX9_on_56 (oDiary_l (by unfold oDiary; decide)) (oDiary_o (by unfold oDiary; decide)) rfl (by decide) (Nat.le_of_ble_eq_true rfl) (m_X2_goBack m7 15 (m7 15 2) (by unfold oDiary; decide)) (fun _u m8 em8 => ?_)
      refine J_aload_n (pc := 59) dX9_on_59 rfl rfl rfl ?_
      refine tg_X9_49 (pc := 60) rfl dX9_on_60 ?_
      refine J_iload_n (pc := 63) dX9_on_63 rfl rfl ?_
      refine T_aaload (pc := 64) (by decide) rfl rfl dX9_on_64 (fun h9 => ?_)
      refine tg_X9_221 (pc := 65) (oDiary_e h9) rfl dX9_on_65 ?_
      refine J_iconst (pc := 68) dX9_on_68 ?_
      refine J_aload_n (pc := 69) dX9_on_69 rfl rfl rfl ?_
      refine tg_X9_31 (pc := 70) rfl dX9_on_70 ?_
      refine tg_X9_177 (pc := 73) rfl dX9_on_73 ?_
      refine J_iconst (pc := 76) dX9_on_76 ?_
      refine J_iconst (pc := 77) dX9_on_77 ?_
      refine T_copy (pc := 78) (by decide) lm_X9_128 (Nat.le_of_ble_eq_true rfl) (oDiary_l2 (oDiary_e h9)) (oDiary_a2 (oDiary_e h9)) (by decide) rfl dX9_on_78 ?_
      refine T_vm (fun m10 em10 => ?_)
      refine J_aload_n (pc := 81) dX9_on_81 rfl rfl rfl ?_
      refine tg_X9_45 (pc := 82) rfl dX9_on_82 ?_
      refine tg_X9_97 (pc := 85) (by unfold oDiary; decide) rfl dX9_on_85 ?_
      exact T_retI (pc := 88) rfl dX9_on_88
    · refine J_aload_n (pc := 22) dX9_on_22 rfl rfl rfl ?_
      refine J_iconst (pc := 23) dX9_on_23 ?_
      refine T_callVI (pc := 24) (As := [.int (iI 1)]) (k := 0) (st := []) ok_yX9_found lm_X9_104 dX9_on_24 (by decide) rfl rfl (by decide) (Nat.le_of_ble_eq_true rfl) (m_X9_found m1 1) (fun r12 m11 em11 => ?_)
      exact T_retI (pc := 27) rfl dX9_on_27
  · refine J_iconst (pc := 7) dX9_on_7 ?_
    exact T_retI (pc := 8) rfl dX9_on_8
def f_X9_rowRefusal (m0 : Mem) (p0 : Int) : Option (Int × Mem) := bd (f_X9_isRow m0 p0) fun r2 m1 => if w32 r2 = 0 then (some ((-1), m1)) else (if w32 (m1 6 6) = 0 then (some ((-4), m1)) else (ck p0 6 (bd (f_X5_isThere m1 (38 + 2 * (w32 p0).toNat)) fun r7 m6 => if w32 r7 = 0 then (bd (f_X9_found m6 1) fun r10 m9 => some (r10, m9)) else (some (0, m6)))))
set_option maxRecDepth 40000 in
theorem m_X9_rowRefusal {l : Launch} {G : qG} (m0 : Mem) (p0 : Int) : qM l G 2 yX9_rowRefusal cX9_rowRefusal 2 (some .int) [.ref 0, .int (iI p0)] (lay m0) (lf eI (f_X9_rowRefusal m0 p0)) := by
  refine qM_of (L := [some (.ref 0), some (.int (iI p0))]) (by decide +kernel) (Nat.le_of_ble_eq_true rfl) rfl ?_
  unfold f_X9_rowRefusal
  refine J_iload_n (pc := 0) dX9_rowRefusal_0 rfl rfl ?_
  refine T_callSI (pc := 1) (As := [.int (iI p0)]) (st := []) ok_yX9_isRow lm_X9_100 dX9_rowRefusal_1 (by decide) (Nat.le_of_ble_eq_true rfl) (m_X9_isRow m0 p0) (fun r2 m1 em1 => ?_)
  refine T_if_ne (pc := 4) (tgt := 9) dX9_rowRefusal_4 (by decide) (fun h3 => ?_) (fun h3 => ?_)
  · refine J_aload_n (pc := 9) dX9_rowRefusal_9 rfl rfl rfl ?_
    refine tg_X9_31 (pc := 10) rfl dX9_rowRefusal_10 ?_
    refine tg_X9_156 (pc := 13) rfl dX9_rowRefusal_13 ?_
    refine T_if_ne (pc := 16) (tgt := 22) dX9_rowRefusal_16 (by decide) (fun h4 => ?_) (fun h4 => ?_)
    · refine J_aload_n (pc := 22) dX9_rowRefusal_22 rfl rfl rfl ?_
      refine tg_X9_11 (pc := 23) rfl dX9_rowRefusal_23 ?_
      refine J_iload_n (pc := 26) dX9_rowRefusal_26 rfl rfl ?_
      refine T_aaload (pc := 27) (by decide) rfl rfl dX9_rowRefusal_27 (fun h5 => ?_)
      refine T_callVI (pc := 28) (As := []) (k := (38 + 2 * (w32 p0).toNat)) (st := []) ok_yX5_isThere lm_X9_119 dX9_rowRefusal_28 (oRow_l (oRow_e h5)) (oRow_o (oRow_e h5)) rfl (by decide) (Nat.le_of_ble_eq_true rfl) (m_X5_isThere m1 (38 + 2 * (w32 p0).toNat) (oRow_e h5)) (fun r7 m6 em6 => ?_)
      refine T_if_ne (pc := 31) (tgt := 40) dX9_rowRefusal_31 (by decide) (fun h8 => ?_) (fun h8 => ?_)
      · refine J_iconst (pc := 40) dX9_rowRefusal_40 ?_
        exact T_retI (pc := 41) rfl dX9_rowRefusal_41
      · refine J_aload_n (pc := 34) dX9_rowRefusal_34 rfl rfl rfl ?_
        refine J_iconst (pc := 35) dX9_rowRefusal_35 ?_
        refine T_callVI (pc := 36) (As := [.int (iI 1)]) (k := 0) (st := []) ok_yX9_found lm_X9_104 dX9_rowRefusal_36 (by decide) rfl rfl (by decide) (Nat.le_of_ble_eq_true rfl) (m_X9_found m6 1) (fun r10 m9 em9 => ?_)
        exact T_retI (pc := 39) rfl dX9_rowRefusal_39
    · refine J_bipush (pc := 19) dX9_rowRefusal_19 (by decide) (by decide) ?_
      exact T_retI (pc := 21) rfl dX9_rowRefusal_21
  · refine J_iconst (pc := 7) dX9_rowRefusal_7 ?_
    exact T_retI (pc := 8) rfl dX9_rowRefusal_8
def f_X9_planRefusal_L37 (p0 : Int) : Nat → Int → Mem → Option (Int × Mem)
  | 0, _, _ => none
  | u + 1, i4, mu37 => if w32 i4 < w32 (mu37 (38 + 2 * (w32 p0).toNat) 1) then (ck i4 40 (bd (f_X8_hasSet mu37 (mu37 ((38 + 2 * (w32 p0).toNat) + 1) (w32 i4).toNat)) fun r9 m8 => if w32 r9 = 0 then (bd (f_X9_found m8 3) fun r12 m11 => some (r12, m11)) else (f_X9_planRefusal_L37 p0 u (i4 + 1) m8))) else (some (0, mu37))
set_option maxRecDepth 40000 in
theorem j_X9_planRefusal_L37 {l : Launch} {G : qG} {p0 : Int} (h4 : 0 ≤ w32 p0 ∧ w32 p0 < 6) : ∀ (u : Nat) (i4 : Int) (mu37 : Mem), qJ l G yX9_planRefusal cX9_planRefusal 5 (some .int) 3 37 [some (.ref 0), none, none, some (.ref (38 + 2 * (w32 p0).toNat)), some (.int (iI i4))] [] (lay mu37) (lf eI (f_X9_planRefusal_L37 p0 u i4 mu37)) := by
  intro u
  induction u with
  | zero => intro _ mu37; exact T_none
  | succ u ih =>
    intro i4 mu37
    rw [f_X9_planRefusal_L37]
    refine J_iload (pc := 37) dX9_planRefusal_37 rfl ?_
    refine J_aload_n (pc := 39) dX9_planRefusal_39 rfl rfl rfl ?_
    refine tg_X9_123 (pc := 40) (oRow_e h4) rfl dX9_planRefusal_40 ?_
    refine T_icmp_ge (pc := 43) (tgt := 75) dX9_planRefusal_43 (by decide) (fun h6 => ?_) (fun h6 => ?_)
    · refine J_iconst (pc := 75) dX9_planRefusal_75 ?_
      exact T_retI (pc := 76) rfl dX9_planRefusal_76
    · refine J_aload_n (pc := 46) dX9_planRefusal_46 rfl rfl rfl ?_
      refine tg_X9_31 (pc := 47) rfl dX9_planRefusal_47 ?_
      refine J_aload_n (pc := 50) dX9_planRefusal_50 rfl rfl rfl ?_
      refine tg_X9_116 (pc := 51) (oRow_e h4) rfl dX9_planRefusal_51 ?_
      refine J_iload (pc := 54) dX9_planRefusal_54 rfl ?_
      refine T_iaload (pc := 56) (oRow_l1 (oRow_e h4)) (oRow_a1 (oRow_e h4)) dX9_planRefusal_56 (fun h7 => ?_)
      refine T_callVI (pc := 57) (As := [.int (iI (mu37 ((38 + 2 * (w32 p0).toNat) + 1) (w32 i4).toNat))]) (k := 6) (st := []) ok_yX8_hasSet lm_X9_180 dX9_planRefusal_57 (by decide) rfl rfl (by decide) (Nat.le_of_ble_eq_true rfl) (m_X8_hasSet mu37 (mu37 ((38 + 2 * (w32 p0).toNat) + 1) (w32 i4).toNat)) (fun r9 m8 em8 => ?_)
      refine T_if_ne (pc := 60) (tgt := 69) dX9_planRefusal_60 (by decide) (fun h10 => ?_) (fun h10 => ?_)
      · refine J_iinc (pc := 69) (L' := [some (.ref 0), none, none, some (.ref (38 + 2 * (w32 p0).toNat)), some (.int (iI (i4 + 1)))]) dX9_planRefusal_69 rfl (by decide) rfl rfl ?_
        refine J_goto (pc := 72) (tgt := 37) dX9_planRefusal_72 (by decide) ?_
        exact ih (i4 + 1) m8
      · refine J_aload_n (pc := 63) dX9_planRefusal_63 rfl rfl rfl ?_
        refine J_iconst (pc := 64) dX9_planRefusal_64 ?_
        refine T_callVI (pc := 65) (As := [.int (iI 3)]) (k := 0) (st := []) ok_yX9_found lm_X9_104 dX9_planRefusal_65 (by decide) rfl rfl (by decide) (Nat.le_of_ble_eq_true rfl) (m_X9_found m8 3) (fun r12 m11 em11 => ?_)
        exact T_retI (pc := 68) rfl dX9_planRefusal_68
def f_X9_planRefusal (m0 : Mem) (p0 : Int) : Option (Int × Mem) := bd (f_X9_rowRefusal m0 p0) fun r2 m1 => if w32 r2 = 0 then (ck p0 6 (if w32 12 < w32 (m1 (38 + 2 * (w32 p0).toNat) 1) then (bd (f_X9_found m1 5) fun r14 m13 => some (r14, m13)) else (f_X9_planRefusal_L37 p0 100000 0 m1))) else (some (r2, m1))
set_option maxRecDepth 40000 in
theorem m_X9_planRefusal {l : Launch} {G : qG} (m0 : Mem) (p0 : Int) : qM l G 3 yX9_planRefusal cX9_planRefusal 5 (some .int) [.ref 0, .int (iI p0)] (lay m0) (lf eI (f_X9_planRefusal m0 p0)) := by
  refine qM_of (L := [some (.ref 0), some (.int (iI p0)), none, none, none]) (by decide +kernel) (Nat.le_of_ble_eq_true rfl) rfl ?_
  unfold f_X9_planRefusal
  refine J_aload_n (pc := 0) dX9_planRefusal_0 rfl rfl rfl ?_
  refine J_iload_n (pc := 1) dX9_planRefusal_1 rfl rfl ?_
  refine T_callVI (pc := 2) (As := [.int (iI p0)]) (k := 0) (st := []) ok_yX9_rowRefusal lm_X9_282 dX9_planRefusal_2 (by decide) rfl rfl (by decide) (Nat.le_of_ble_eq_true rfl) (m_X9_rowRefusal m0 p0) (fun r2 m1 em1 => ?_)
  refine J_istore_n (pc := 5) (L' := [some (.ref 0), some (.int (iI p0)), some (.int (iI r2)), none, none]) dX9_planRefusal_5 rfl (by decide) rfl rfl ?_
  refine J_iload_n (pc := 6) dX9_planRefusal_6 rfl rfl ?_
  refine T_if_eq (pc := 7) (tgt := 12) dX9_planRefusal_7 (by decide) (fun h3 => ?_) (fun h3 => ?_)
  · refine J_aload_n (pc := 12) dX9_planRefusal_12 rfl rfl rfl ?_
    refine tg_X9_11 (pc := 13) rfl dX9_planRefusal_13 ?_
    refine J_iload_n (pc := 16) dX9_planRefusal_16 rfl rfl ?_
    refine T_aaload (pc := 17) (by decide) rfl rfl dX9_planRefusal_17 (fun h4 => ?_)
    refine J_astore_n (pc := 18) (L' := [some (.ref 0), some (.int (iI p0)), some (.int (iI r2)), some (.ref (38 + 2 * (w32 p0).toNat)), none]) dX9_planRefusal_18 rfl (by decide) rfl rfl ?_
    refine J_aload_n (pc := 19) dX9_planRefusal_19 rfl rfl rfl ?_
    refine tg_X9_123 (pc := 20) (oRow_e h4) rfl dX9_planRefusal_20 ?_
    refine J_bipush (pc := 23) dX9_planRefusal_23 (by decide) (by decide) ?_
    refine T_icmp_le (pc := 25) (tgt := 34) dX9_planRefusal_25 (by decide) (fun h5 => ?_) (fun h5 => ?_)
    · refine J_iconst (pc := 34) dX9_planRefusal_34 ?_
      refine J_istore (pc := 35) (L' := [some (.ref 0), some (.int (iI p0)), some (.int (iI r2)), some (.ref (38 + 2 * (w32 p0).toNat)), some (.int (iI 0))]) dX9_planRefusal_35 (by decide) rfl rfl ?_
      refine J_dropf (pc := 37) (L' := [some (.ref 0), none, none, some (.ref (38 + 2 * (w32 p0).toNat)), some (.int (iI 0))]) [true, false, false, true, true] rfl ?_
      refine j_X9_planRefusal_L37 h4 100000 0 m1
    · refine J_aload_n (pc := 28) dX9_planRefusal_28 rfl rfl rfl ?_
      refine J_iconst (pc := 29) dX9_planRefusal_29 ?_
      refine T_callVI (pc := 30) (As := [.int (iI 5)]) (k := 0) (st := []) ok_yX9_found lm_X9_104 dX9_planRefusal_30 (by decide) rfl rfl (by decide) (Nat.le_of_ble_eq_true rfl) (m_X9_found m1 5) (fun r14 m13 em13 => ?_)
      exact T_retI (pc := 33) rfl dX9_planRefusal_33
  · refine J_iload_n (pc := 10) dX9_planRefusal_10 rfl rfl ?_
    exact T_retI (pc := 11) rfl dX9_planRefusal_11
def f_X1_take (m0 : Mem) (t : Nat) (q0 : Nat) : Option (Unit × Mem) := ckc 0 0 16 16 16 (vm (cpy m0 (q0 + 1) (t + 1) (w32 0).toNat (w32 0).toNat (w32 16).toNat) fun m1 => some ((), m1))
set_option maxRecDepth 40000 in
theorem m_X1_take {l : Launch} {G : qG} (m0 : Mem) (t : Nat) (q0 : Nat) (ht : oDay t) (hq0 : oDay q0) : qM l G 1 yX1_take cX1_take 2 none [.ref t, .ref q0] (lay m0) (lf eU (f_X1_take m0 t q0)) := by
  refine qM_of (L := [some (.ref t), some (.ref q0)]) (by decide +kernel) (Nat.le_of_ble_eq_true rfl) rfl ?_
  unfold f_X1_take
  refine J_aload_n (pc := 0) dX1_take_0 rfl rfl rfl ?_
  refine tg_X1_9 (pc := 1) hq0 rfl dX1_take_1 ?_
  refine J_iconst (pc := 4) dX1_take_4 ?_
  refine J_aload_n (pc := 5) dX1_take_5 rfl rfl rfl ?_
  refine tg_X1_9 (pc := 6) ht rfl dX1_take_6 ?_
  refine J_iconst (pc := 9) dX1_take_9 ?_
  refine J_bipush (pc := 10) dX1_take_10 (by decide) (by decide) ?_
  refine T_copy (pc := 12) (by decide) lm_X1_42 (Nat.le_of_ble_eq_true rfl) (oDay_l1 hq0) (oDay_a1 hq0) (oDay_l1 ht) (oDay_a1 ht) dX1_take_12 ?_
  refine T_vm (fun m1 em1 => ?_)
  exact T_retV (pc := 15) rfl dX1_take_15
def f_X8_gainOfAll_L4 (p0 : Int) : Nat → Int → Int → Mem → Option (Int × Mem)
  | 0, _, _, _ => none
  | u + 1, i2, i3, mu4 => if w32 i3 < w32 (mu4 6 7) then (bd (f_X8_gainOf mu4 i3 p0) fun r3 m2 => vl (i2 + r3) fun x4 => f_X8_gainOfAll_L4 p0 u x4 (i3 + 1) m2) else (some (i2, mu4))
set_option maxRecDepth 40000 in
theorem j_X8_gainOfAll_L4 {l : Launch} {G : qG} {p0 : Int} : ∀ (u : Nat) (i2 : Int) (i3 : Int) (mu4 : Mem), qJ l G yX8_gainOfAll cX8_gainOfAll 4 (some .int) 2 4 [some (.ref 6), some (.int (iI p0)), some (.int (iI i2)), some (.int (iI i3))] [] (lay mu4) (lf eI (f_X8_gainOfAll_L4 p0 u i2 i3 mu4)) := by
  intro u
  induction u with
  | zero => intro _ _ mu4; exact T_none
  | succ u ih =>
    intro i2 i3 mu4
    rw [f_X8_gainOfAll_L4]
    refine J_iload_n (pc := 4) dX8_gainOfAll_4 rfl rfl ?_
    refine J_aload_n (pc := 5) dX8_gainOfAll_5 rfl rfl rfl ?_
    refine tg_X8_34 (pc := 6) rfl dX8_gainOfAll_6 ?_
    refine T_icmp_ge (pc := 9) (tgt := 27) dX8_gainOfAll_9 (by decide) (fun h1 => ?_) (fun h1 => ?_)
    · refine J_iload_n (pc := 27) dX8_gainOfAll_27 rfl rfl ?_
      exact T_retI (pc := 28) rfl dX8_gainOfAll_28
    · refine J_iload_n (pc := 12) dX8_gainOfAll_12 rfl rfl ?_
      refine J_aload_n (pc := 13) dX8_gainOfAll_13 rfl rfl rfl ?_
      refine J_iload_n (pc := 14) dX8_gainOfAll_14 rfl rfl ?_
      refine J_iload_n (pc := 15) dX8_gainOfAll_15 rfl rfl ?_
      refine T_callVI (pc := 16) (As := [.int (iI i3), .int (iI p0)]) (k := 6) (st := [.int (iI i2)]) ok_yX8_gainOf lm_X8_66 dX8_gainOfAll_16 (by decide) rfl rfl (by decide) (Nat.le_of_ble_eq_true rfl) (m_X8_gainOf mu4 i3 p0) (fun r3 m2 em2 => ?_)
      refine J_iadd (pc := 19) dX8_gainOfAll_19 ?_
      refine T_vlI (pc := 20) (fun x4 ex4 => ?_)
      refine J_istore_n (pc := 20) (L' := [some (.ref 6), some (.int (iI p0)), some (.int (iI x4)), some (.int (iI i3))]) dX8_gainOfAll_20 rfl (by decide) rfl rfl ?_
      refine J_iinc (pc := 21) (L' := [some (.ref 6), some (.int (iI p0)), some (.int (iI x4)), some (.int (iI (i3 + 1)))]) dX8_gainOfAll_21 rfl (by decide) rfl rfl ?_
      refine J_goto (pc := 24) (tgt := 4) dX8_gainOfAll_24 (by decide) ?_
      exact ih x4 (i3 + 1) m2
def f_X8_gainOfAll (m0 : Mem) (p0 : Int) : Option (Int × Mem) := f_X8_gainOfAll_L4 p0 100000 0 0 m0
set_option maxRecDepth 40000 in
theorem m_X8_gainOfAll {l : Launch} {G : qG} (m0 : Mem) (p0 : Int) : qM l G 2 yX8_gainOfAll cX8_gainOfAll 4 (some .int) [.ref 6, .int (iI p0)] (lay m0) (lf eI (f_X8_gainOfAll m0 p0)) := by
  refine qM_of (L := [some (.ref 6), some (.int (iI p0)), none, none]) (by decide +kernel) (Nat.le_of_ble_eq_true rfl) rfl ?_
  unfold f_X8_gainOfAll
  refine J_iconst (pc := 0) dX8_gainOfAll_0 ?_
  refine J_istore_n (pc := 1) (L' := [some (.ref 6), some (.int (iI p0)), some (.int (iI 0)), none]) dX8_gainOfAll_1 rfl (by decide) rfl rfl ?_
  refine J_iconst (pc := 2) dX8_gainOfAll_2 ?_
  refine J_istore_n (pc := 3) (L' := [some (.ref 6), some (.int (iI p0)), some (.int (iI 0)), some (.int (iI 0))]) dX8_gainOfAll_3 rfl (by decide) rfl rfl ?_
  refine j_X8_gainOfAll_L4 100000 0 0 m0
def f_X3_gainOf_L14 (K : Int → Mem → Option (Int × Mem)) (q2 : Nat) : Nat → Int → Int → Mem → Option (Int × Mem)
  | 0, _, _, _ => none
  | u + 1, i4, i5, mu14 => if w32 i5 < w32 (mu14 q2 1) then (ck 0 16 (bd (f_X8_gainOfAll mu14 (mu14 (20 + 1) (w32 0).toNat)) fun r5 m4 => vl (i4 + r5) fun x6 => ck i5 40 (bd (f_X1_goOn m4 20 (m4 (q2 + 1) (w32 i5).toNat)) fun r9 m8 => f_X3_gainOf_L14 K q2 u x6 (i5 + 1) m8))) else (K i4 mu14)
set_option maxRecDepth 40000 in
theorem j_X3_gainOf_L14 {l : Launch} {G : qG} {K : Int → Mem → Option (Int × Mem)} {q2 : Nat} (hq2 : oRow q2) (hK : ∀ (x4 : Int) (m : Mem), qJ l G yX3_gainOf cX3_gainOf 6 (some .int) 5 63 [some (.ref 19), none, none, none, some (.int (iI x4)), none] [] (lay m) (lf eI (K x4 m))) : ∀ (u : Nat) (i4 : Int) (i5 : Int) (mu14 : Mem), qJ l G yX3_gainOf cX3_gainOf 6 (some .int) 5 14 [some (.ref 19), some (.ref 6), none, some (.ref q2), some (.int (iI i4)), some (.int (iI i5))] [] (lay mu14) (lf eI (f_X3_gainOf_L14 K q2 u i4 i5 mu14)) := by
  intro u
  induction u with
  | zero => intro _ _ mu14; exact T_none
  | succ u ih =>
    intro i4 i5 mu14
    rw [f_X3_gainOf_L14]
    refine J_iload (pc := 14) dX3_gainOf_14 rfl ?_
    refine J_aload_n (pc := 16) dX3_gainOf_16 rfl rfl rfl ?_
    refine tg_X3_26 (pc := 17) hq2 rfl dX3_gainOf_17 ?_
    refine T_icmp_ge (pc := 20) (tgt := 63) dX3_gainOf_20 (by decide) (fun h2 => ?_) (fun h2 => ?_)
    · refine J_dropf (pc := 63) (L' := [some (.ref 19), none, none, none, some (.int (iI i4)), none]) [true, false, false, false, true, false] rfl ?_
      exact hK i4 mu14
    · refine J_iload (pc := 23) dX3_gainOf_23 rfl ?_
      refine J_aload_n (pc := 25) dX3_gainOf_25 rfl rfl rfl ?_
      refine J_aload_n (pc := 26) dX3_gainOf_26 rfl rfl rfl ?_
      refine tg_X3_12 (pc := 27) rfl dX3_gainOf_27 ?_
      refine tg_X3_31 (pc := 30) (by unfold oDay; decide) rfl dX3_gainOf_30 ?_
      refine J_iconst (pc := 33) dX3_gainOf_33 ?_
      refine T_iaload (pc := 34) (oDay_l1 (by unfold oDay; decide)) (oDay_a1 (by unfold oDay; decide)) dX3_gainOf_34 (fun h3 => ?_)
      refine T_callVI (pc := 35) (As := [.int (iI (mu14 (20 + 1) (w32 0).toNat))]) (k := 6) (st := [.int (iI i4)]) ok_yX8_gainOfAll lm_X3_35 dX3_gainOf_35 (by decide) rfl rfl (by decide) (Nat.le_of_ble_eq_true rfl) (m_X8_gainOfAll mu14 (mu14 (20 + 1) (w32 0).toNat)) (fun r5 m4 em4 => ?_)
      refine J_iadd (pc := 38) dX3_gainOf_38 ?_
      refine T_vlI (pc := 39) (fun x6 ex6 => ?_)
      refine J_istore (pc := 39) (L' := [some (.ref 19), some (.ref 6), none, some (.ref q2), some (.int (iI x6)), some (.int (iI i5))]) dX3_gainOf_39 (by decide) rfl rfl ?_
      refine J_aload_n (pc := 41) dX3_gainOf_41 rfl rfl rfl ?_
      refine tg_X3_12 (pc := 42) rfl dX3_gainOf_42 ?_
      refine J_aload_n (pc := 45) dX3_gainOf_45 rfl rfl rfl ?_
      refine J_aload_n (pc := 46) dX3_gainOf_46 rfl rfl rfl ?_
      refine tg_X3_41 (pc := 47) hq2 rfl dX3_gainOf_47 ?_
      refine J_iload (pc := 50) dX3_gainOf_50 rfl ?_
      refine T_iaload (pc := 52) (oRow_l1 hq2) (oRow_a1 hq2) dX3_gainOf_52 (fun h7 => ?_)
      refine T_callVI (pc := 53) (As := [.ref 6, .int (iI (m4 (q2 + 1) (w32 i5).toNat))]) (k := 20) (st := []) ok_yX1_goOn lm_X3_44 dX3_gainOf_53 (oDay_l (by unfold oDay; decide)) (oDay_o (by unfold oDay; decide)) rfl (by decide) (Nat.le_of_ble_eq_true rfl) (m_X1_goOn m4 20 (m4 (q2 + 1) (w32 i5).toNat) (by unfold oDay; decide)) (fun r9 m8 em8 => ?_)
      refine J_pop (pc := 56) dX3_gainOf_56 rfl ?_
      refine J_iinc (pc := 57) (L' := [some (.ref 19), some (.ref 6), none, some (.ref q2), some (.int (iI x6)), some (.int (iI (i5 + 1)))]) dX3_gainOf_57 rfl (by decide) rfl rfl ?_
      refine J_goto (pc := 60) (tgt := 14) dX3_gainOf_60 (by decide) ?_
      exact ih x6 (i5 + 1) m8
def f_X3_gainOf (m0 : Mem) (q2 : Nat) : Option (Int × Mem) := bd (f_X1_take m0 20 13) fun _u m1 => f_X3_gainOf_L14 (fun x10 m11 => ck 0 16 (vm (wr m11 19 1 (m11 (20 + 1) (w32 0).toNat)) fun m13 => some (x10, m13))) q2 100000 0 0 m1
set_option maxRecDepth 40000 in
theorem m_X3_gainOf {l : Launch} {G : qG} (m0 : Mem) (q2 : Nat) (hq2 : oRow q2) : qM l G 5 yX3_gainOf cX3_gainOf 6 (some .int) [.ref 19, .ref 6, .ref 13, .ref q2] (lay m0) (lf eI (f_X3_gainOf m0 q2)) := by
  refine qM_of (L := [some (.ref 19), some (.ref 6), some (.ref 13), some (.ref q2), none, none]) (by decide +kernel) (Nat.le_of_ble_eq_true rfl) rfl ?_
  unfold f_X3_gainOf
  refine J_aload_n (pc := 0) dX3_gainOf_0 rfl rfl rfl ?_
  refine tg_X3_12 (pc := 1) rfl dX3_gainOf_1 ?_
  refine J_aload_n (pc := 4) dX3_gainOf_4 rfl rfl rfl ?_
  refine T_callVU (pc := 5) (As := [.ref 13]) (k := 20) (st := []) ok_yX1_take lm_X3_22 dX3_gainOf_5 (oDay_l (by unfold oDay; decide)) (oDay_o (by unfold oDay; decide)) rfl (by decide) (Nat.le_of_ble_eq_true rfl) (m_X1_take m0 20 13 (by unfold oDay; decide) (by unfold oDay; decide)) (fun _u m1 em1 => ?_)
  refine J_iconst (pc := 8) dX3_gainOf_8 ?_
  refine J_istore (pc := 9) (L' := [some (.ref 19), some (.ref 6), some (.ref 13), some (.ref q2), some (.int (iI 0)), none]) dX3_gainOf_9 (by decide) rfl rfl ?_
  refine J_iconst (pc := 11) dX3_gainOf_11 ?_
  refine J_istore (pc := 12) (L' := [some (.ref 19), some (.ref 6), some (.ref 13), some (.ref q2), some (.int (iI 0)), some (.int (iI 0))]) dX3_gainOf_12 (by decide) rfl rfl ?_
  refine J_dropf (pc := 14) (L' := [some (.ref 19), some (.ref 6), none, some (.ref q2), some (.int (iI 0)), some (.int (iI 0))]) [true, true, false, true, true, true] rfl ?_
  refine j_X3_gainOf_L14 hq2 ?_ 100000 0 0 m1
  · intro x10 m11
    refine J_aload_n (pc := 63) dX3_gainOf_63 rfl rfl rfl ?_
    refine J_aload_n (pc := 64) dX3_gainOf_64 rfl rfl rfl ?_
    refine tg_X3_12 (pc := 65) rfl dX3_gainOf_65 ?_
    refine tg_X3_31 (pc := 68) (by unfold oDay; decide) rfl dX3_gainOf_68 ?_
    refine J_iconst (pc := 71) dX3_gainOf_71 ?_
    refine T_iaload (pc := 72) (oDay_l1 (by unfold oDay; decide)) (oDay_a1 (by unfold oDay; decide)) dX3_gainOf_72 (fun h12 => ?_)
    refine tp_X3_18 (pc := 73) rfl dX3_gainOf_73 ?_
    refine T_vm (fun m13 em13 => ?_)
    refine J_iload (pc := 76) dX3_gainOf_76 rfl ?_
    exact T_retI (pc := 78) rfl dX3_gainOf_78
def f_X9_run (m0 : Mem) (p0 : Int) : Option (Int × Mem) := bd (f_X9_planRefusal m0 p0) fun r2 m1 => if w32 r2 = 0 then (ck p0 6 (bd (f_X3_gainOf m1 (38 + 2 * (w32 p0).toNat)) fun r6 m5 => vm (wr m5 0 13 (m5 19 1)) fun m7 => some (r6, m7))) else (some (r2, m1))
set_option maxRecDepth 40000 in
theorem m_X9_run {l : Launch} {G : qG} (m0 : Mem) (p0 : Int) : qM l G 6 yX9_run cX9_run 4 (some .int) [.ref 0, .int (iI p0)] (lay m0) (lf eI (f_X9_run m0 p0)) := by
  refine qM_of (L := [some (.ref 0), some (.int (iI p0)), none, none]) (by decide +kernel) (Nat.le_of_ble_eq_true rfl) rfl ?_
  unfold f_X9_run
  refine J_aload_n (pc := 0) dX9_run_0 rfl rfl rfl ?_
  refine J_iload_n (pc := 1) dX9_run_1 rfl rfl ?_
  refine T_callVI (pc := 2) (As := [.int (iI p0)]) (k := 0) (st := []) ok_yX9_planRefusal lm_X9_222 dX9_run_2 (by decide) rfl rfl (by decide) (Nat.le_of_ble_eq_true rfl) (m_X9_planRefusal m0 p0) (fun r2 m1 em1 => ?_)
  refine J_istore_n (pc := 5) (L' := [some (.ref 0), some (.int (iI p0)), some (.int (iI r2)), none]) dX9_run_5 rfl (by decide) rfl rfl ?_
  refine J_iload_n (pc := 6) dX9_run_6 rfl rfl ?_
  refine T_if_eq (pc := 7) (tgt := 12) dX9_run_7 (by decide) (fun h3 => ?_) (fun h3 => ?_)
  · refine J_aload_n (pc := 12) dX9_run_12 rfl rfl rfl ?_
    refine tg_X9_56 (pc := 13) rfl dX9_run_13 ?_
    refine J_aload_n (pc := 16) dX9_run_16 rfl rfl rfl ?_
    refine tg_X9_31 (pc := 17) rfl dX9_run_17 ?_
    refine J_aload_n (pc := 20) dX9_run_20 rfl rfl rfl ?_
    refine tg_X9_38 (pc := 21) rfl dX9_run_21 ?_
    refine J_aload_n (pc := 24) dX9_run_24 rfl rfl rfl ?_
    refine tg_X9_11 (pc := 25) rfl dX9_run_25 ?_
    refine J_iload_n (pc := 28) dX9_run_28 rfl rfl ?_
    refine T_aaload (pc := 29) (by decide) rfl rfl dX9_run_29 (fun h4 => ?_)
    refine T_callVI (pc := 30) (As := [.ref 6, .ref 13, .ref (38 + 2 * (w32 p0).toNat)]) (k := 19) (st := []) ok_yX3_gainOf lm_X9_225 dX9_run_30 (by decide) rfl rfl (by decide) (Nat.le_of_ble_eq_true rfl) (m_X3_gainOf m1 (38 + 2 * (w32 p0).toNat) (oRow_e h4)) (fun r6 m5 em5 => ?_)
    refine J_istore_n (pc := 33) (L' := [some (.ref 0), some (.int (iI p0)), some (.int (iI r2)), some (.int (iI r6))]) dX9_run_33 rfl (by decide) rfl rfl ?_
    refine J_aload_n (pc := 34) dX9_run_34 rfl rfl rfl ?_
    refine J_aload_n (pc := 35) dX9_run_35 rfl rfl rfl ?_
    refine tg_X9_56 (pc := 36) rfl dX9_run_36 ?_
    refine tg_X9_229 (pc := 39) rfl dX9_run_39 ?_
    refine tp_X9_85 (pc := 42) rfl dX9_run_42 ?_
    refine T_vm (fun m7 em7 => ?_)
    refine J_iload_n (pc := 45) dX9_run_45 rfl rfl ?_
    exact T_retI (pc := 46) rfl dX9_run_46
  · refine J_iload_n (pc := 10) dX9_run_10 rfl rfl ?_
    exact T_retI (pc := 11) rfl dX9_run_11
def f_X3_firstLurch_L11 (K : Mem → Option (Int × Mem)) (p3 : Int) : Nat → Int → Mem → Option (Int × Mem)
  | 0, _, _ => none
  | u + 1, i5, mu11 => if w32 i5 < w32 (mu11 6 6) then (jn (κ := Mem → Option (Int × Mem)) (fun m4 => f_X3_firstLurch_L11 K p3 u (i5 + 1) m4) fun k3 => if w32 (zand (zshr p3 i5) 1) = 0 then (k3 mu11) else (ck (2 + i5) 16 (vm (wr mu11 (20 + 1) (w32 (2 + i5)).toNat 9) fun m7 => k3 m7))) else (K mu11)
set_option maxRecDepth 40000 in
theorem j_X3_firstLurch_L11 {l : Launch} {G : qG} {K : Mem → Option (Int × Mem)} {p3 : Int} {q2 : Nat} (hq2 : oRow q2) (hK : ∀ (m : Mem), qJ l G yX3_firstLurch cX3_firstLurch 6 (some .int) 5 50 [some (.ref 19), some (.ref 6), none, some (.ref q2), none, none] [] (lay m) (lf eI (K m))) : ∀ (u : Nat) (i5 : Int) (mu11 : Mem), qJ l G yX3_firstLurch cX3_firstLurch 6 (some .int) 5 11 [some (.ref 19), some (.ref 6), none, some (.ref q2), some (.int (iI p3)), some (.int (iI i5))] [] (lay mu11) (lf eI (f_X3_firstLurch_L11 K p3 u i5 mu11)) := by
  intro u
  induction u with
  | zero => intro _ mu11; exact T_none
  | succ u ih =>
    intro i5 mu11
    rw [f_X3_firstLurch_L11]
    refine J_iload (pc := 11) dX3_firstLurch_11 rfl ?_
    refine J_aload_n (pc := 13) dX3_firstLurch_13 rfl rfl rfl ?_
    refine tg_X3_48 (pc := 14) rfl dX3_firstLurch_14 ?_
    refine T_icmp_ge (pc := 17) (tgt := 50) dX3_firstLurch_17 (by decide) (fun h2 => ?_) (fun h2 => ?_)
    · refine J_dropf (pc := 50) (L' := [some (.ref 19), some (.ref 6), none, some (.ref q2), none, none]) [true, true, false, true, false, false] rfl ?_
      exact hK  mu11
    · refine J_iload (pc := 20) dX3_firstLurch_20 rfl ?_
      refine J_iload (pc := 22) dX3_firstLurch_22 rfl ?_
      refine J_ishr (pc := 24) dX3_firstLurch_24 ?_
      refine J_iconst (pc := 25) dX3_firstLurch_25 ?_
      refine J_iand (pc := 26) dX3_firstLurch_26 ?_
      refine T_jn (κ := Mem → Option (Int × Mem)) (fun k => ∀ (m4 : Mem), qJ l G yX3_firstLurch cX3_firstLurch 6 (some .int) 5 44 [some (.ref 19), some (.ref 6), none, some (.ref q2), some (.int (iI p3)), some (.int (iI i5))] [] (lay m4) (lf eI (k m4))) ?_ (fun k3 hk3 => ?_)
      · intro m4
        refine J_iinc (pc := 44) (L' := [some (.ref 19), some (.ref 6), none, some (.ref q2), some (.int (iI p3)), some (.int (iI (i5 + 1)))]) dX3_firstLurch_44 rfl (by decide) rfl rfl ?_
        refine J_goto (pc := 47) (tgt := 11) dX3_firstLurch_47 (by decide) ?_
        exact ih (i5 + 1) m4
      · refine T_if_eq (pc := 27) (tgt := 44) dX3_firstLurch_27 (by decide) (fun h5 => ?_) (fun h5 => ?_)
        · exact hk3  mu11
        · refine J_aload_n (pc := 30) dX3_firstLurch_30 rfl rfl rfl ?_
          refine tg_X3_12 (pc := 31) rfl dX3_firstLurch_31 ?_
          refine tg_X3_31 (pc := 34) (by unfold oDay; decide) rfl dX3_firstLurch_34 ?_
          refine J_iconst (pc := 37) dX3_firstLurch_37 ?_
          refine J_iload (pc := 38) dX3_firstLurch_38 rfl ?_
          refine J_iadd (pc := 40) dX3_firstLurch_40 ?_
          refine J_bipush (pc := 41) dX3_firstLurch_41 (by decide) (by decide) ?_
          refine T_iastore (pc := 43) (oDay_l1 (by unfold oDay; decide)) (oDay_a1 (by unfold oDay; decide)) dX3_firstLurch_43 (fun h6 => ?_)
          refine T_vm (fun m7 em7 => ?_)
          exact hk3  m7
def f_X3_firstLurch_L53 (q2 : Nat) : Nat → Int → Mem → Option (Int × Mem)
  | 0, _, _ => none
  | u + 1, i5, mu53 => if w32 i5 < w32 (mu53 q2 1) then (ck i5 40 (bd (f_X1_goOn mu53 20 (mu53 (q2 + 1) (w32 i5).toNat)) fun r12 m11 => if w32 (m11 20 4) = 0 then (f_X3_firstLurch_L53 q2 u (i5 + 1) m11) else (vm (wr m11 19 1 (m11 20 4)) fun m14 => some (i5, m14)))) else (some ((-9), mu53))
set_option maxRecDepth 40000 in
theorem j_X3_firstLurch_L53 {l : Launch} {G : qG} {q2 : Nat} (hq2 : oRow q2) : ∀ (u : Nat) (i5 : Int) (mu53 : Mem), qJ l G yX3_firstLurch cX3_firstLurch 6 (some .int) 5 53 [some (.ref 19), some (.ref 6), none, some (.ref q2), none, some (.int (iI i5))] [] (lay mu53) (lf eI (f_X3_firstLurch_L53 q2 u i5 mu53)) := by
  intro u
  induction u with
  | zero => intro _ mu53; exact T_none
  | succ u ih =>
    intro i5 mu53
    rw [f_X3_firstLurch_L53]
    refine J_iload (pc := 53) dX3_firstLurch_53 rfl ?_
    refine J_aload_n (pc := 55) dX3_firstLurch_55 rfl rfl rfl ?_
    refine tg_X3_26 (pc := 56) hq2 rfl dX3_firstLurch_56 ?_
    refine T_icmp_ge (pc := 59) (tgt := 108) dX3_firstLurch_59 (by decide) (fun h9 => ?_) (fun h9 => ?_)
    · refine J_bipush (pc := 108) dX3_firstLurch_108 (by decide) (by decide) ?_
      exact T_retI (pc := 110) rfl dX3_firstLurch_110
    · refine J_aload_n (pc := 62) dX3_firstLurch_62 rfl rfl rfl ?_
      refine tg_X3_12 (pc := 63) rfl dX3_firstLurch_63 ?_
      refine J_aload_n (pc := 66) dX3_firstLurch_66 rfl rfl rfl ?_
      refine J_aload_n (pc := 67) dX3_firstLurch_67 rfl rfl rfl ?_
      refine tg_X3_41 (pc := 68) hq2 rfl dX3_firstLurch_68 ?_
      refine J_iload (pc := 71) dX3_firstLurch_71 rfl ?_
      refine T_iaload (pc := 73) (oRow_l1 hq2) (oRow_a1 hq2) dX3_firstLurch_73 (fun h10 => ?_)
      refine T_callVI (pc := 74) (As := [.ref 6, .int (iI (mu53 (q2 + 1) (w32 i5).toNat))]) (k := 20) (st := []) ok_yX1_goOn lm_X3_44 dX3_firstLurch_74 (oDay_l (by unfold oDay; decide)) (oDay_o (by unfold oDay; decide)) rfl (by decide) (Nat.le_of_ble_eq_true rfl) (m_X1_goOn mu53 20 (mu53 (q2 + 1) (w32 i5).toNat) (by unfold oDay; decide)) (fun r12 m11 em11 => ?_)
      refine J_pop (pc := 77) dX3_firstLurch_77 rfl ?_
      refine J_aload_n (pc := 78) dX3_firstLurch_78 rfl rfl rfl ?_
      refine tg_X3_12 (pc := 79) rfl dX3_firstLurch_79 ?_
      refine tg_X3_51 (pc := 82) (by unfold oDay; decide) rfl dX3_firstLurch_82 ?_
      refine T_if_eq (pc := 85) (tgt := 102) dX3_firstLurch_85 (by decide) (fun h13 => ?_) (fun h13 => ?_)
      · refine J_iinc (pc := 102) (L' := [some (.ref 19), some (.ref 6), none, some (.ref q2), none, some (.int (iI (i5 + 1)))]) dX3_firstLurch_102 rfl (by decide) rfl rfl ?_
        refine J_goto (pc := 105) (tgt := 53) dX3_firstLurch_105 (by decide) ?_
        exact ih (i5 + 1) m11
      · refine J_aload_n (pc := 88) dX3_firstLurch_88 rfl rfl rfl ?_
        refine J_aload_n (pc := 89) dX3_firstLurch_89 rfl rfl rfl ?_
        refine tg_X3_12 (pc := 90) rfl dX3_firstLurch_90 ?_
        refine tg_X3_51 (pc := 93) (by unfold oDay; decide) rfl dX3_firstLurch_93 ?_
        refine tp_X3_18 (pc := 96) rfl dX3_firstLurch_96 ?_
        refine T_vm (fun m14 em14 => ?_)
        refine J_iload (pc := 99) dX3_firstLurch_99 rfl ?_
        exact T_retI (pc := 101) rfl dX3_firstLurch_101
def f_X3_firstLurch (m0 : Mem) (q2 : Nat) (p3 : Int) : Option (Int × Mem) := bd (f_X1_take m0 20 13) fun _u m1 => f_X3_firstLurch_L11 (fun m8 => f_X3_firstLurch_L53 q2 100000 0 m8) p3 100000 0 m1
set_option maxRecDepth 40000 in
theorem m_X3_firstLurch {l : Launch} {G : qG} (m0 : Mem) (q2 : Nat) (p3 : Int) (hq2 : oRow q2) : qM l G 5 yX3_firstLurch cX3_firstLurch 6 (some .int) [.ref 19, .ref 6, .ref 13, .ref q2, .int (iI p3)] (lay m0) (lf eI (f_X3_firstLurch m0 q2 p3)) := by
  refine qM_of (L := [some (.ref 19), some (.ref 6), some (.ref 13), some (.ref q2), some (.int (iI p3)), none]) (by decide +kernel) (Nat.le_of_ble_eq_true rfl) rfl ?_
  unfold f_X3_firstLurch
  refine J_aload_n (pc := 0) dX3_firstLurch_0 rfl rfl rfl ?_
  refine tg_X3_12 (pc := 1) rfl dX3_firstLurch_1 ?_
  refine J_aload_n (pc := 4) dX3_firstLurch_4 rfl rfl rfl ?_
  refine T_callVU (pc := 5) (As := [.ref 13]) (k := 20) (st := []) ok_yX1_take lm_X3_22 dX3_firstLurch_5 (oDay_l (by unfold oDay; decide)) (oDay_o (by unfold oDay; decide)) rfl (by decide) (Nat.le_of_ble_eq_true rfl) (m_X1_take m0 20 13 (by unfold oDay; decide) (by unfold oDay; decide)) (fun _u m1 em1 => ?_)
  refine J_iconst (pc := 8) dX3_firstLurch_8 ?_
  refine J_istore (pc := 9) (L' := [some (.ref 19), some (.ref 6), some (.ref 13), some (.ref q2), some (.int (iI p3)), some (.int (iI 0))]) dX3_firstLurch_9 (by decide) rfl rfl ?_
  refine J_dropf (pc := 11) (L' := [some (.ref 19), some (.ref 6), none, some (.ref q2), some (.int (iI p3)), some (.int (iI 0))]) [true, true, false, true, true, true] rfl ?_
  refine j_X3_firstLurch_L11 hq2 ?_ 100000 0 m1
  · intro m8
    refine J_iconst (pc := 50) dX3_firstLurch_50 ?_
    refine J_istore (pc := 51) (L' := [some (.ref 19), some (.ref 6), none, some (.ref q2), none, some (.int (iI 0))]) dX3_firstLurch_51 (by decide) rfl rfl ?_
    refine j_X3_firstLurch_L53 hq2 100000 0 m8
def f_X9_burns (m0 : Mem) (p0 : Int) : Option (Int × Mem) := bd (f_X9_planRefusal m0 p0) fun r2 m1 => if w32 r2 = 0 then (ck p0 6 (bd (f_X3_firstLurch m1 (38 + 2 * (w32 p0).toNat) 0) fun r6 m5 => if w32 r6 = w32 (-9) then (some (r6, m5)) else (vm (wr m5 0 13 (m5 19 1)) fun m8 => some (r6, m8)))) else (some (r2, m1))
set_option maxRecDepth 40000 in
theorem m_X9_burns {l : Launch} {G : qG} (m0 : Mem) (p0 : Int) : qM l G 6 yX9_burns cX9_burns 4 (some .int) [.ref 0, .int (iI p0)] (lay m0) (lf eI (f_X9_burns m0 p0)) := by
  refine qM_of (L := [some (.ref 0), some (.int (iI p0)), none, none]) (by decide +kernel) (Nat.le_of_ble_eq_true rfl) rfl ?_
  unfold f_X9_burns
  refine J_aload_n (pc := 0) dX9_burns_0 rfl rfl rfl ?_
  refine J_iload_n (pc := 1) dX9_burns_1 rfl rfl ?_
  refine T_callVI (pc := 2) (As := [.int (iI p0)]) (k := 0) (st := []) ok_yX9_planRefusal lm_X9_222 dX9_burns_2 (by decide) rfl rfl (by decide) (Nat.le_of_ble_eq_true rfl) (m_X9_planRefusal m0 p0) (fun r2 m1 em1 => ?_)
  refine J_istore_n (pc := 5) (L' := [some (.ref 0), some (.int (iI p0)), some (.int (iI r2)), none]) dX9_burns_5 rfl (by decide) rfl rfl ?_
  refine J_iload_n (pc := 6) dX9_burns_6 rfl rfl ?_
  refine T_if_eq (pc := 7) (tgt := 12) dX9_burns_7 (by decide) (fun h3 => ?_) (fun h3 => ?_)
  · refine J_aload_n (pc := 12) dX9_burns_12 rfl rfl rfl ?_
    refine tg_X9_56 (pc := 13) rfl dX9_burns_13 ?_
    refine J_aload_n (pc := 16) dX9_burns_16 rfl rfl rfl ?_
    refine tg_X9_31 (pc := 17) rfl dX9_burns_17 ?_
    refine J_aload_n (pc := 20) dX9_burns_20 rfl rfl rfl ?_
    refine tg_X9_38 (pc := 21) rfl dX9_burns_21 ?_
    refine J_aload_n (pc := 24) dX9_burns_24 rfl rfl rfl ?_
    refine tg_X9_11 (pc := 25) rfl dX9_burns_25 ?_
    refine J_iload_n (pc := 28) dX9_burns_28 rfl rfl ?_
    refine T_aaload (pc := 29) (by decide) rfl rfl dX9_burns_29 (fun h4 => ?_)
    refine J_iconst (pc := 30) dX9_burns_30 ?_
    refine T_callVI (pc := 31) (As := [.ref 6, .ref 13, .ref (38 + 2 * (w32 p0).toNat), .int (iI 0)]) (k := 19) (st := []) ok_yX3_firstLurch lm_X9_232 dX9_burns_31 (by decide) rfl rfl (by decide) (Nat.le_of_ble_eq_true rfl) (m_X3_firstLurch m1 (38 + 2 * (w32 p0).toNat) 0 (oRow_e h4)) (fun r6 m5 em5 => ?_)
    refine J_istore_n (pc := 34) (L' := [some (.ref 0), some (.int (iI p0)), some (.int (iI r2)), some (.int (iI r6))]) dX9_burns_34 rfl (by decide) rfl rfl ?_
    refine J_iload_n (pc := 35) dX9_burns_35 rfl rfl ?_
    refine J_bipush (pc := 36) dX9_burns_36 (by decide) (by decide) ?_
    refine T_icmp_eq (pc := 38) (tgt := 52) dX9_burns_38 (by decide) (fun h7 => ?_) (fun h7 => ?_)
    · refine J_iload_n (pc := 52) dX9_burns_52 rfl rfl ?_
      exact T_retI (pc := 53) rfl dX9_burns_53
    · refine J_aload_n (pc := 41) dX9_burns_41 rfl rfl rfl ?_
      refine J_aload_n (pc := 42) dX9_burns_42 rfl rfl rfl ?_
      refine tg_X9_56 (pc := 43) rfl dX9_burns_43 ?_
      refine tg_X9_229 (pc := 46) rfl dX9_burns_46 ?_
      refine tp_X9_85 (pc := 49) rfl dX9_burns_49 ?_
      refine T_vm (fun m8 em8 => ?_)
      refine J_iload_n (pc := 52) dX9_burns_52 rfl rfl ?_
      exact T_retI (pc := 53) rfl dX9_burns_53
  · refine J_iload_n (pc := 10) dX9_burns_10 rfl rfl ?_
    exact T_retI (pc := 11) rfl dX9_burns_11
def f_X6_begin (m0 : Mem) (p1 : Int) : Option (Unit × Mem) := vm (wr m0 22 3 p1) fun m1 => ck 0 3 (bd (f_X1_take m1 (26 + 2 * (w32 0).toNat) 13) fun _u m3 => some ((), m3))
set_option maxRecDepth 40000 in
theorem m_X6_begin {l : Launch} {G : qG} (m0 : Mem) (p1 : Int) : qM l G 2 yX6_begin cX6_begin 3 none [.ref 22, .ref 13, .int (iI p1)] (lay m0) (lf eU (f_X6_begin m0 p1)) := by
  refine qM_of (L := [some (.ref 22), some (.ref 13), some (.int (iI p1))]) (by decide +kernel) (Nat.le_of_ble_eq_true rfl) rfl ?_
  unfold f_X6_begin
  refine J_aload_n (pc := 0) dX6_begin_0 rfl rfl rfl ?_
  refine J_iload_n (pc := 1) dX6_begin_1 rfl rfl ?_
  refine tp_X6_24 (pc := 2) rfl dX6_begin_2 ?_
  refine T_vm (fun m1 em1 => ?_)
  refine J_aload_n (pc := 5) dX6_begin_5 rfl rfl rfl ?_
  refine tg_X6_11 (pc := 6) rfl dX6_begin_6 ?_
  refine J_iconst (pc := 9) dX6_begin_9 ?_
  refine T_aaload (pc := 10) (by decide) rfl rfl dX6_begin_10 (fun h2 => ?_)
  refine J_aload_n (pc := 11) dX6_begin_11 rfl rfl rfl ?_
  refine T_callVU (pc := 12) (As := [.ref 13]) (k := (26 + 2 * (w32 0).toNat)) (st := []) ok_yX1_take lm_X6_98 dX6_begin_12 (oDay_l (oDay_e h2)) (oDay_o (oDay_e h2)) rfl (by decide) (Nat.le_of_ble_eq_true rfl) (m_X1_take m1 (26 + 2 * (w32 0).toNat) 13 (oDay_e h2) (by unfold oDay; decide)) (fun _u m3 em3 => ?_)
  exact T_retV (pc := 15) rfl dX6_begin_15
