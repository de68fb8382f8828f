def f_X9_fault (m0 : Mem) (p0 : Int) : Option (Int × Mem) := bd (f_X9_isText m0 p0) fun r2 m1 => if w32 r2 = 0 then (some ((-1), m1)) else (ck p0 4 (bd (f_X7_isThere m1 (50 + 2 * (w32 p0).toNat)) fun r6 m5 => if w32 r6 = 0 then (bd (f_X9_found m5 1) fun r12 m11 => some (r12, m11)) else (ck p0 4 (bd (f_X4_faultIn m5 (50 + 2 * (w32 p0).toNat)) fun r10 m9 => some (r10, m9)))))
set_option maxRecDepth 40000 in
theorem m_X9_fault {l : Launch} {G : qG} (m0 : Mem) (p0 : Int) : qM l G 4 yX9_fault cX9_fault 2 (some .int) [.ref 0, .int (iI p0)] (lay m0) (lf eI (f_X9_fault m0 p0)) := by
  refine qM_of (L := [some (.ref 0), some (.int (iI p0))]) (by decide +kernel) (Nat.le_of_ble_eq_true rfl) rfl ?_
  unfold f_X9_fault
  refine J_iload_n (pc := 0) dX9_fault_0 rfl rfl ?_
  refine T_callSI (pc := 1) (As := [.int (iI p0)]) (st := []) ok_yX9_isText lm_X9_138 dX9_fault_1 (by decide) (Nat.le_of_ble_eq_true rfl) (m_X9_isText m0 p0) (fun r2 m1 em1 => ?_)
  refine T_if_ne (pc := 4) (tgt := 9) dX9_fault_4 (by decide) (fun h3 => ?_) (fun h3 => ?_)
  · refine J_aload_n (pc := 9) dX9_fault_9 rfl rfl rfl ?_
    refine tg_X9_17 (pc := 10) rfl dX9_fault_10 ?_
    refine J_iload_n (pc := 13) dX9_fault_13 rfl rfl ?_
    refine T_aaload (pc := 14) (by decide) rfl rfl dX9_fault_14 (fun h4 => ?_)
    refine T_callVI (pc := 15) (As := []) (k := (50 + 2 * (w32 p0).toNat)) (st := []) ok_yX7_isThere lm_X9_142 dX9_fault_15 (oText_l (oText_e h4)) (oText_o (oText_e h4)) rfl (by decide) (Nat.le_of_ble_eq_true rfl) (m_X7_isThere m1 (50 + 2 * (w32 p0).toNat) (oText_e h4)) (fun r6 m5 em5 => ?_)
    refine T_if_ne (pc := 18) (tgt := 27) dX9_fault_18 (by decide) (fun h7 => ?_) (fun h7 => ?_)
    · refine J_aload_n (pc := 27) dX9_fault_27 rfl rfl rfl ?_
      refine tg_X9_24 (pc := 28) rfl dX9_fault_28 ?_
      refine J_aload_n (pc := 31) dX9_fault_31 rfl rfl rfl ?_
      refine tg_X9_17 (pc := 32) rfl dX9_fault_32 ?_
      refine J_iload_n (pc := 35) dX9_fault_35 rfl rfl ?_
      refine T_aaload (pc := 36) (by decide) rfl rfl dX9_fault_36 (fun h8 => ?_)
      refine T_callVI (pc := 37) (As := [.ref (50 + 2 * (w32 p0).toNat)]) (k := 3) (st := []) ok_yX4_faultIn lm_X9_148 dX9_fault_37 (by decide) rfl rfl (by decide) (Nat.le_of_ble_eq_true rfl) (m_X4_faultIn m5 (50 + 2 * (w32 p0).toNat) (oText_e h8)) (fun r10 m9 em9 => ?_)
      exact T_retI (pc := 40) rfl dX9_fault_40
    · refine J_aload_n (pc := 21) dX9_fault_21 rfl rfl rfl ?_
      refine J_iconst (pc := 22) dX9_fault_22 ?_
      refine T_callVI (pc := 23) (As := [.int (iI 1)]) (k := 0) (st := []) ok_yX9_found lm_X9_104 dX9_fault_23 (by decide) rfl rfl (by decide) (Nat.le_of_ble_eq_true rfl) (m_X9_found m5 1) (fun r12 m11 em11 => ?_)
      exact T_retI (pc := 26) rfl dX9_fault_26
  · refine J_iconst (pc := 7) dX9_fault_7 ?_
    exact T_retI (pc := 8) rfl dX9_fault_8
def f_X8_begin_L26 (K : Mem → Option (Unit × Mem)) : Nat → Int → Mem → Option (Unit × Mem)
  | 0, _, _ => none
  | u + 1, i2, mu26 => if w32 i2 < w32 (mu26 6 6) then (ck (i2 * 3) 15 (vl (mu26 4 (w32 (i2 * 3)).toNat) fun x6 => ck i2 5 (vm (wr mu26 7 (w32 i2).toNat x6) fun m8 => ck 0 6 (ck 0 6 (vm (wr m8 8 (w32 0).toNat (zor (m8 8 (w32 0).toNat) (zshl 1 i2))) fun m11 => ck x6 6 (ck (abvZ (w32 x6).toNat) 6 (ck (abvZ (w32 x6).toNat) 6 (vm (wr m11 8 (w32 (abvZ (w32 x6).toNat)).toNat (zor (m11 8 (w32 (abvZ (w32 x6).toNat)).toNat) (zshl 1 i2))) fun m15 => ck x6 6 (ck x6 6 (vm (wr m15 8 (w32 x6).toNat (zor (m15 8 (w32 x6).toNat) (zshl 1 i2))) fun m18 => f_X8_begin_L26 K u (i2 + 1) m18)))))))))) else (K mu26)
set_option maxRecDepth 40000 in
theorem j_X8_begin_L26 {l : Launch} {G : qG} {K : Mem → Option (Unit × Mem)} (hK : ∀ (m : Mem), qJ l G yX8_begin cX8_begin 4 none 2 96 [some (.ref 6), some (.ref 3), none, none] [] (lay m) (lf eU (K m))) : ∀ (u : Nat) (i2 : Int) (mu26 : Mem), qJ l G yX8_begin cX8_begin 4 none 2 26 [some (.ref 6), some (.ref 3), some (.int (iI i2)), none] [] (lay mu26) (lf eU (f_X8_begin_L26 K u i2 mu26)) := by
  intro u
  induction u with
  | zero => intro _ mu26; exact T_none
  | succ u ih =>
    intro i2 mu26
    rw [f_X8_begin_L26]
    refine J_iload_n (pc := 26) dX8_begin_26 rfl rfl ?_
    refine J_aload_n (pc := 27) dX8_begin_27 rfl rfl rfl ?_
    refine tg_X8_30 (pc := 28) rfl dX8_begin_28 ?_
    refine T_icmp_ge (pc := 31) (tgt := 96) dX8_begin_31 (by decide) (fun h4 => ?_) (fun h4 => ?_)
    · refine J_dropf (pc := 96) (L' := [some (.ref 6), some (.ref 3), none, none]) [true, true, false, false] rfl ?_
      exact hK  mu26
    · refine J_aload_n (pc := 34) dX8_begin_34 rfl rfl rfl ?_
      refine tg_X8_47 (pc := 35) rfl dX8_begin_35 ?_
      refine J_iload_n (pc := 38) dX8_begin_38 rfl rfl ?_
      refine J_iconst (pc := 39) dX8_begin_39 ?_
      refine J_imul (pc := 40) dX8_begin_40 ?_
      refine T_iaload (pc := 41) (by decide) rfl dX8_begin_41 (fun h5 => ?_)
      refine T_vlI (pc := 42) (fun x6 ex6 => ?_)
      refine J_istore_n (pc := 42) (L' := [some (.ref 6), some (.ref 3), some (.int (iI i2)), some (.int (iI x6))]) dX8_begin_42 rfl (by decide) rfl rfl ?_
      refine J_aload_n (pc := 43) dX8_begin_43 rfl rfl rfl ?_
      refine tg_X8_9 (pc := 44) rfl dX8_begin_44 ?_
      refine J_iload_n (pc := 47) dX8_begin_47 rfl rfl ?_
      refine J_iload_n (pc := 48) dX8_begin_48 rfl rfl ?_
      refine T_iastore (pc := 49) (by decide) rfl dX8_begin_49 (fun h7 => ?_)
      refine T_vm (fun m8 em8 => ?_)
      refine J_aload_n (pc := 50) dX8_begin_50 rfl rfl rfl ?_
      refine tg_X8_15 (pc := 51) rfl dX8_begin_51 ?_
      refine J_iconst (pc := 54) dX8_begin_54 ?_
      refine J_dup2 (pc := 55) dX8_begin_55 rfl rfl ?_
      refine T_iaload (pc := 56) (by decide) rfl dX8_begin_56 (fun h9 => ?_)
      refine J_iconst (pc := 57) dX8_begin_57 ?_
      refine J_iload_n (pc := 58) dX8_begin_58 rfl rfl ?_
      refine J_ishl (pc := 59) dX8_begin_59 ?_
      refine J_ior (pc := 60) dX8_begin_60 ?_
      refine T_iastore (pc := 61) (by decide) rfl dX8_begin_61 (fun h10 => ?_)
      refine T_vm (fun m11 em11 => ?_)
      refine J_aload_n (pc := 62) dX8_begin_62 rfl rfl rfl ?_
      refine tg_X8_15 (pc := 63) rfl dX8_begin_63 ?_
      refine J_getstatic (pc := 66) (j := 2) (n := "KIND_ABOVE") dX8_begin_66 (by simp) (by simp [qnw, yX8_begin, RX8]) ?_
      refine J_iload_n (pc := 69) dX8_begin_69 rfl rfl ?_
      refine T_above (pc := 70) dX8_begin_70 (fun h12 => ?_)
      refine J_dup2 (pc := 71) dX8_begin_71 rfl rfl ?_
      refine T_iaload (pc := 72) (by decide) rfl dX8_begin_72 (fun h13 => ?_)
      refine J_iconst (pc := 73) dX8_begin_73 ?_
      refine J_iload_n (pc := 74) dX8_begin_74 rfl rfl ?_
      refine J_ishl (pc := 75) dX8_begin_75 ?_
      refine J_ior (pc := 76) dX8_begin_76 ?_
      refine T_iastore (pc := 77) (by decide) rfl dX8_begin_77 (fun h14 => ?_)
      refine T_vm (fun m15 em15 => ?_)
      refine J_aload_n (pc := 78) dX8_begin_78 rfl rfl rfl ?_
      refine tg_X8_15 (pc := 79) rfl dX8_begin_79 ?_
      refine J_iload_n (pc := 82) dX8_begin_82 rfl rfl ?_
      refine J_dup2 (pc := 83) dX8_begin_83 rfl rfl ?_
      refine T_iaload (pc := 84) (by decide) rfl dX8_begin_84 (fun h16 => ?_)
      refine J_iconst (pc := 85) dX8_begin_85 ?_
      refine J_iload_n (pc := 86) dX8_begin_86 rfl rfl ?_
      refine J_ishl (pc := 87) dX8_begin_87 ?_
      refine J_ior (pc := 88) dX8_begin_88 ?_
      refine T_iastore (pc := 89) (by decide) rfl dX8_begin_89 (fun h17 => ?_)
      refine T_vm (fun m18 em18 => ?_)
      refine J_iinc (pc := 90) (L' := [some (.ref 6), some (.ref 3), some (.int (iI (i2 + 1))), some (.int (iI x6))]) dX8_begin_90 rfl (by decide) rfl rfl ?_
      refine J_goto (pc := 93) (tgt := 26) dX8_begin_93 (by decide) ?_
      refine J_dropf (pc := 26) (L' := [some (.ref 6), some (.ref 3), some (.int (iI (i2 + 1))), none]) [true, true, true, false] rfl ?_
      exact ih (i2 + 1) m18
def f_X8_begin_L98 : Nat → Int → Mem → Option (Unit × Mem)
  | 0, _, _ => none
  | u + 1, i2, mu98 => if w32 i2 < w32 (mu98 6 7) then (vl (i2 * 4) fun x21 => ck x21 16 (ck i2 4 (vm (wr mu98 9 (w32 i2).toNat (mu98 5 (w32 x21).toNat)) fun m24 => ck (x21 + 1) 16 (ck i2 4 (vm (wr m24 10 (w32 i2).toNat (m24 5 (w32 (x21 + 1)).toNat)) fun m27 => ck (x21 + 2) 16 (ck i2 4 (vm (wr m27 11 (w32 i2).toNat (m27 5 (w32 (x21 + 2)).toNat)) fun m30 => ck (x21 + 3) 16 (ck i2 4 (vm (wr m30 12 (w32 i2).toNat (m30 5 (w32 (x21 + 3)).toNat)) fun m33 => f_X8_begin_L98 u (i2 + 1) m33))))))))) else (some ((), mu98))
set_option maxRecDepth 40000 in
theorem j_X8_begin_L98 {l : Launch} {G : qG} : ∀ (u : Nat) (i2 : Int) (mu98 : Mem), qJ l G yX8_begin cX8_begin 4 none 2 98 [some (.ref 6), some (.ref 3), some (.int (iI i2)), none] [] (lay mu98) (lf eU (f_X8_begin_L98 u i2 mu98)) := by
  intro u
  induction u with
  | zero => intro _ mu98; exact T_none
  | succ u ih =>
    intro i2 mu98
    rw [f_X8_begin_L98]
    refine J_iload_n (pc := 98) dX8_begin_98 rfl rfl ?_
    refine J_aload_n (pc := 99) dX8_begin_99 rfl rfl rfl ?_
    refine tg_X8_34 (pc := 100) rfl dX8_begin_100 ?_
    refine T_icmp_ge (pc := 103) (tgt := 170) dX8_begin_103 (by decide) (fun h20 => ?_) (fun h20 => ?_)
    · exact T_retV (pc := 170) rfl dX8_begin_170
    · refine J_iload_n (pc := 106) dX8_begin_106 rfl rfl ?_
      refine J_iconst (pc := 107) dX8_begin_107 ?_
      refine J_imul (pc := 108) dX8_begin_108 ?_
      refine T_vlI (pc := 109) (fun x21 ex21 => ?_)
      refine J_istore_n (pc := 109) (L' := [some (.ref 6), some (.ref 3), some (.int (iI i2)), some (.int (iI x21))]) dX8_begin_109 rfl (by decide) rfl rfl ?_
      refine J_aload_n (pc := 110) dX8_begin_110 rfl rfl rfl ?_
      refine tg_X8_18 (pc := 111) rfl dX8_begin_111 ?_
      refine J_iload_n (pc := 114) dX8_begin_114 rfl rfl ?_
      refine J_aload_n (pc := 115) dX8_begin_115 rfl rfl rfl ?_
      refine tg_X8_53 (pc := 116) rfl dX8_begin_116 ?_
      refine J_iload_n (pc := 119) dX8_begin_119 rfl rfl ?_
      refine T_iaload (pc := 120) (by decide) rfl dX8_begin_120 (fun h22 => ?_)
      refine T_iastore (pc := 121) (by decide) rfl dX8_begin_121 (fun h23 => ?_)
      refine T_vm (fun m24 em24 => ?_)
      refine J_aload_n (pc := 122) dX8_begin_122 rfl rfl rfl ?_
      refine tg_X8_21 (pc := 123) rfl dX8_begin_123 ?_
      refine J_iload_n (pc := 126) dX8_begin_126 rfl rfl ?_
      refine J_aload_n (pc := 127) dX8_begin_127 rfl rfl rfl ?_
      refine tg_X8_53 (pc := 128) rfl dX8_begin_128 ?_
      refine J_iload_n (pc := 131) dX8_begin_131 rfl rfl ?_
      refine J_iconst (pc := 132) dX8_begin_132 ?_
      refine J_iadd (pc := 133) dX8_begin_133 ?_
      refine T_iaload (pc := 134) (by decide) rfl dX8_begin_134 (fun h25 => ?_)
      refine T_iastore (pc := 135) (by decide) rfl dX8_begin_135 (fun h26 => ?_)
      refine T_vm (fun m27 em27 => ?_)
      refine J_aload_n (pc := 136) dX8_begin_136 rfl rfl rfl ?_
      refine tg_X8_24 (pc := 137) rfl dX8_begin_137 ?_
      refine J_iload_n (pc := 140) dX8_begin_140 rfl rfl ?_
      refine J_aload_n (pc := 141) dX8_begin_141 rfl rfl rfl ?_
      refine tg_X8_53 (pc := 142) rfl dX8_begin_142 ?_
      refine J_iload_n (pc := 145) dX8_begin_145 rfl rfl ?_
      refine J_iconst (pc := 146) dX8_begin_146 ?_
      refine J_iadd (pc := 147) dX8_begin_147 ?_
      refine T_iaload (pc := 148) (by decide) rfl dX8_begin_148 (fun h28 => ?_)
      refine T_iastore (pc := 149) (by decide) rfl dX8_begin_149 (fun h29 => ?_)
      refine T_vm (fun m30 em30 => ?_)
      refine J_aload_n (pc := 150) dX8_begin_150 rfl rfl rfl ?_
      refine tg_X8_27 (pc := 151) rfl dX8_begin_151 ?_
      refine J_iload_n (pc := 154) dX8_begin_154 rfl rfl ?_
      refine J_aload_n (pc := 155) dX8_begin_155 rfl rfl rfl ?_
      refine tg_X8_53 (pc := 156) rfl dX8_begin_156 ?_
      refine J_iload_n (pc := 159) dX8_begin_159 rfl rfl ?_
      refine J_iconst (pc := 160) dX8_begin_160 ?_
      refine J_iadd (pc := 161) dX8_begin_161 ?_
      refine T_iaload (pc := 162) (by decide) rfl dX8_begin_162 (fun h31 => ?_)
      refine T_iastore (pc := 163) (by decide) rfl dX8_begin_163 (fun h32 => ?_)
      refine T_vm (fun m33 em33 => ?_)
      refine J_iinc (pc := 164) (L' := [some (.ref 6), some (.ref 3), some (.int (iI (i2 + 1))), some (.int (iI x21))]) dX8_begin_164 rfl (by decide) rfl rfl ?_
      refine J_goto (pc := 167) (tgt := 98) dX8_begin_167 (by decide) ?_
      refine J_dropf (pc := 98) (L' := [some (.ref 6), some (.ref 3), some (.int (iI (i2 + 1))), none]) [true, true, true, false] rfl ?_
      exact ih (i2 + 1) m33
def f_X8_begin (m0 : Mem) : Option (Unit × Mem) := vm (wr m0 6 6 (m0 3 2)) fun m1 => vm (wr m1 6 7 (m1 3 3)) fun m2 => bd (f_J7_fill_53178 m2 8 6 0) fun _u m3 => f_X8_begin_L26 (fun m19 => f_X8_begin_L98 100000 0 m19) 100000 0 m3
set_option maxRecDepth 40000 in
theorem m_X8_begin {l : Launch} {G : qG} (m0 : Mem) : qM l G 2 yX8_begin cX8_begin 4 none [.ref 6, .ref 3] (lay m0) (lf eU (f_X8_begin m0)) := by
  refine qM_of (L := [some (.ref 6), some (.ref 3), none, none]) (by decide +kernel) (Nat.le_of_ble_eq_true rfl) rfl ?_
  unfold f_X8_begin
  refine J_aload_n (pc := 0) dX8_begin_0 rfl rfl rfl ?_
  refine J_aload_n (pc := 1) dX8_begin_1 rfl rfl rfl ?_
  refine tg_X8_37 (pc := 2) rfl dX8_begin_2 ?_
  refine tp_X8_30 (pc := 5) rfl dX8_begin_5 ?_
  refine T_vm (fun m1 em1 => ?_)
  refine J_aload_n (pc := 8) dX8_begin_8 rfl rfl rfl ?_
  refine J_aload_n (pc := 9) dX8_begin_9 rfl rfl rfl ?_
  refine tg_X8_40 (pc := 10) rfl dX8_begin_10 ?_
  refine tp_X8_34 (pc := 13) rfl dX8_begin_13 ?_
  refine T_vm (fun m2 em2 => ?_)
  refine J_aload_n (pc := 16) dX8_begin_16 rfl rfl rfl ?_
  refine tg_X8_15 (pc := 17) rfl dX8_begin_17 ?_
  refine J_iconst (pc := 20) dX8_begin_20 ?_
  refine T_callSU (pc := 21) (As := [.ref 8, .int (iI 0)]) (st := []) ok_yJ7_fill_53178 lm_X8_41 dX8_begin_21 (by decide) (Nat.le_of_ble_eq_true rfl) (m_J7_fill_53178 m2 8 6 0 (by decide) rfl) (fun _u m3 em3 => ?_)
  refine J_iconst (pc := 24) dX8_begin_24 ?_
  refine J_istore_n (pc := 25) (L' := [some (.ref 6), some (.ref 3), some (.int (iI 0)), none]) dX8_begin_25 rfl (by decide) rfl rfl ?_
  refine j_X8_begin_L26 ?_ 100000 0 m3
  · intro m19
    refine J_iconst (pc := 96) dX8_begin_96 ?_
    refine J_istore_n (pc := 97) (L' := [some (.ref 6), some (.ref 3), some (.int (iI 0)), none]) dX8_begin_97 rfl (by decide) rfl rfl ?_
    refine j_X8_begin_L98 100000 0 m19
def f_X1_begin_L10 (t : Nat) : Nat → Int → Mem → Option (Unit × Mem)
  | 0, _, _ => none
  | u + 1, i2, mu10 => if w32 i2 < w32 (mu10 3 2) then (ck ((i2 * 3) + 1) 15 (ck (2 + i2) 16 (vm (wr mu10 (t + 1) (w32 (2 + i2)).toNat (mu10 4 (w32 ((i2 * 3) + 1)).toNat)) fun m5 => ck ((i2 * 3) + 2) 15 (ck (7 + i2) 16 (vm (wr m5 (t + 1) (w32 (7 + i2)).toNat (m5 4 (w32 ((i2 * 3) + 2)).toNat)) fun m8 => f_X1_begin_L10 t u (i2 + 1) m8))))) else (some ((), mu10))
set_option maxRecDepth 40000 in
theorem j_X1_begin_L10 {l : Launch} {G : qG} {t : Nat} (ht : oDay t) : ∀ (u : Nat) (i2 : Int) (mu10 : Mem), qJ l G yX1_begin cX1_begin 3 none 2 10 [some (.ref t), some (.ref 3), some (.int (iI i2))] [] (lay mu10) (lf eU (f_X1_begin_L10 t u i2 mu10)) := by
  intro u
  induction u with
  | zero => intro _ mu10; exact T_none
  | succ u ih =>
    intro i2 mu10
    rw [f_X1_begin_L10]
    refine J_iload_n (pc := 10) dX1_begin_10 rfl rfl ?_
    refine J_aload_n (pc := 11) dX1_begin_11 rfl rfl rfl ?_
    refine tg_X1_34 (pc := 12) rfl dX1_begin_12 ?_
    refine T_icmp_ge (pc := 15) (tgt := 61) dX1_begin_15 (by decide) (fun h2 => ?_) (fun h2 => ?_)
    · exact T_retV (pc := 61) rfl dX1_begin_61
    · refine J_aload_n (pc := 18) dX1_begin_18 rfl rfl rfl ?_
      refine tg_X1_9 (pc := 19) ht rfl dX1_begin_19 ?_
      refine J_iconst (pc := 22) dX1_begin_22 ?_
      refine J_iload_n (pc := 23) dX1_begin_23 rfl rfl ?_
      refine J_iadd (pc := 24) dX1_begin_24 ?_
      refine J_aload_n (pc := 25) dX1_begin_25 rfl rfl rfl ?_
      refine tg_X1_39 (pc := 26) rfl dX1_begin_26 ?_
      refine J_iload_n (pc := 29) dX1_begin_29 rfl rfl ?_
      refine J_iconst (pc := 30) dX1_begin_30 ?_
      refine J_imul (pc := 31) dX1_begin_31 ?_
      refine J_iconst (pc := 32) dX1_begin_32 ?_
      refine J_iadd (pc := 33) dX1_begin_33 ?_
      refine T_iaload (pc := 34) (by decide) rfl dX1_begin_34 (fun h3 => ?_)
      refine T_iastore (pc := 35) (oDay_l1 ht) (oDay_a1 ht) dX1_begin_35 (fun h4 => ?_)
      refine T_vm (fun m5 em5 => ?_)
      refine J_aload_n (pc := 36) dX1_begin_36 rfl rfl rfl ?_
      refine tg_X1_9 (pc := 37) ht rfl dX1_begin_37 ?_
      refine J_bipush (pc := 40) dX1_begin_40 (by decide) (by decide) ?_
      refine J_iload_n (pc := 42) dX1_begin_42 rfl rfl ?_
      refine J_iadd (pc := 43) dX1_begin_43 ?_
      refine J_aload_n (pc := 44) dX1_begin_44 rfl rfl rfl ?_
      refine tg_X1_39 (pc := 45) rfl dX1_begin_45 ?_
      refine J_iload_n (pc := 48) dX1_begin_48 rfl rfl ?_
      refine J_iconst (pc := 49) dX1_begin_49 ?_
      refine J_imul (pc := 50) dX1_begin_50 ?_
      refine J_iconst (pc := 51) dX1_begin_51 ?_
      refine J_iadd (pc := 52) dX1_begin_52 ?_
      refine T_iaload (pc := 53) (by decide) rfl dX1_begin_53 (fun h6 => ?_)
      refine T_iastore (pc := 54) (oDay_l1 ht) (oDay_a1 ht) dX1_begin_54 (fun h7 => ?_)
      refine T_vm (fun m8 em8 => ?_)
      refine J_iinc (pc := 55) (L' := [some (.ref t), some (.ref 3), some (.int (iI (i2 + 1)))]) dX1_begin_55 rfl (by decide) rfl rfl ?_
      refine J_goto (pc := 58) (tgt := 10) dX1_begin_58 (by decide) ?_
      exact ih (i2 + 1) m8
def f_X1_begin (m0 : Mem) (t : Nat) : Option (Unit × Mem) := bd (f_J7_fill_53178 m0 (t + 1) 16 0) fun _u m1 => f_X1_begin_L10 t 100000 0 m1
set_option maxRecDepth 40000 in
theorem m_X1_begin {l : Launch} {G : qG} (m0 : Mem) (t : Nat) (ht : oDay t) : qM l G 2 yX1_begin cX1_begin 3 none [.ref t, .ref 3] (lay m0) (lf eU (f_X1_begin m0 t)) := by
  refine qM_of (L := [some (.ref t), some (.ref 3), none]) (by decide +kernel) (Nat.le_of_ble_eq_true rfl) rfl ?_
  unfold f_X1_begin
  refine J_aload_n (pc := 0) dX1_begin_0 rfl rfl rfl ?_
  refine tg_X1_9 (pc := 1) ht rfl dX1_begin_1 ?_
  refine J_iconst (pc := 4) dX1_begin_4 ?_
  refine T_callSU (pc := 5) (As := [.ref (t + 1), .int (iI 0)]) (st := []) ok_yJ7_fill_53178 lm_X1_28 dX1_begin_5 (by decide) (Nat.le_of_ble_eq_true rfl) (m_J7_fill_53178 m0 (t + 1) 16 0 (oDay_l1 ht) (oDay_a1 ht)) (fun _u m1 em1 => ?_)
  refine J_iconst (pc := 8) dX1_begin_8 ?_
  refine J_istore_n (pc := 9) (L' := [some (.ref t), some (.ref 3), some (.int (iI 0))]) dX1_begin_9 rfl (by decide) rfl rfl ?_
  refine j_X1_begin_L10 ht 100000 0 m1
def f_X9_year_L80 : Nat → Int → Mem → Option (Int × Mem)
  | 0, _, _ => none
  | u + 1, i2, mu80 => if w32 i2 < w32 3 then (ck i2 3 (vm (wr mu80 (58 + 3 * (w32 i2).toNat) 2 (-1)) fun m17 => f_X9_year_L80 u (i2 + 1) m17)) else (some (mu80 6 6, mu80))
set_option maxRecDepth 40000 in
theorem j_X9_year_L80 {l : Launch} {G : qG} : ∀ (u : Nat) (i2 : Int) (mu80 : Mem), qJ l G yX9_year cX9_year 3 (some .int) 4 80 [some (.ref 0), none, some (.int (iI i2))] [] (lay mu80) (lf eI (f_X9_year_L80 u i2 mu80)) := by
  intro u
  induction u with
  | zero => intro _ mu80; exact T_none
  | succ u ih =>
    intro i2 mu80
    rw [f_X9_year_L80]
    refine J_iload_n (pc := 80) dX9_year_80 rfl rfl ?_
    refine J_iconst (pc := 81) dX9_year_81 ?_
    refine T_icmp_ge (pc := 82) (tgt := 101) dX9_year_82 (by decide) (fun h15 => ?_) (fun h15 => ?_)
    · refine J_aload_n (pc := 101) dX9_year_101 rfl rfl rfl ?_
      refine tg_X9_31 (pc := 102) rfl dX9_year_102 ?_
      refine tg_X9_156 (pc := 105) rfl dX9_year_105 ?_
      exact T_retI (pc := 108) rfl dX9_year_108
    · refine J_aload_n (pc := 85) dX9_year_85 rfl rfl rfl ?_
      refine tg_X9_49 (pc := 86) rfl dX9_year_86 ?_
      refine J_iload_n (pc := 89) dX9_year_89 rfl rfl ?_
      refine T_aaload (pc := 90) (by decide) rfl rfl dX9_year_90 (fun h16 => ?_)
      refine J_iconst (pc := 91) dX9_year_91 ?_
      refine tp_X9_97 (pc := 92) (oDiary_e h16) rfl dX9_year_92 ?_
      refine T_vm (fun m17 em17 => ?_)
      refine J_iinc (pc := 95) (L' := [some (.ref 0), none, some (.int (iI (i2 + 1)))]) dX9_year_95 rfl (by decide) rfl rfl ?_
      refine J_goto (pc := 98) (tgt := 80) dX9_year_98 (by decide) ?_
      exact ih (i2 + 1) m17
def f_X9_year (m0 : Mem) (p0 : Int) : Option (Int × Mem) := bd (f_X9_isText m0 p0) fun r2 m1 => if w32 r2 = 0 then (some ((-1), m1)) else (ck p0 4 (bd (f_X7_isThere m1 (50 + 2 * (w32 p0).toNat)) fun r6 m5 => if w32 r6 = 0 then (bd (f_X9_found m5 1) fun r19 m18 => some (r19, m18)) else (ck p0 4 (bd (f_X4_faultIn m5 (50 + 2 * (w32 p0).toNat)) fun r10 m9 => if w32 r10 = w32 (-9) then (bd (f_X8_begin m9) fun _u m12 => bd (f_X1_begin m12 13) fun _u m13 => vm (wr m13 15 2 0) fun m14 => f_X9_year_L80 100000 0 m14) else (some ((-4), m9))))))
set_option maxRecDepth 40000 in
theorem m_X9_year {l : Launch} {G : qG} (m0 : Mem) (p0 : Int) : qM l G 4 yX9_year cX9_year 3 (some .int) [.ref 0, .int (iI p0)] (lay m0) (lf eI (f_X9_year m0 p0)) := by
  refine qM_of (L := [some (.ref 0), some (.int (iI p0)), none]) (by decide +kernel) (Nat.le_of_ble_eq_true rfl) rfl ?_
  unfold f_X9_year
  refine J_iload_n (pc := 0) dX9_year_0 rfl rfl ?_
  refine T_callSI (pc := 1) (As := [.int (iI p0)]) (st := []) ok_yX9_isText lm_X9_138 dX9_year_1 (by decide) (Nat.le_of_ble_eq_true rfl) (m_X9_isText m0 p0) (fun r2 m1 em1 => ?_)
  refine T_if_ne (pc := 4) (tgt := 9) dX9_year_4 (by decide) (fun h3 => ?_) (fun h3 => ?_)
  · refine J_aload_n (pc := 9) dX9_year_9 rfl rfl rfl ?_
    refine tg_X9_17 (pc := 10) rfl dX9_year_10 ?_
    refine J_iload_n (pc := 13) dX9_year_13 rfl rfl ?_
    refine T_aaload (pc := 14) (by decide) rfl rfl dX9_year_14 (fun h4 => ?_)
    refine T_callVI (pc := 15) (As := []) (k := (50 + 2 * (w32 p0).toNat)) (st := []) ok_yX7_isThere lm_X9_142 dX9_year_15 (oText_l (oText_e h4)) (oText_o (oText_e h4)) rfl (by decide) (Nat.le_of_ble_eq_true rfl) (m_X7_isThere m1 (50 + 2 * (w32 p0).toNat) (oText_e h4)) (fun r6 m5 em5 => ?_)
    refine T_if_ne (pc := 18) (tgt := 27) dX9_year_18 (by decide) (fun h7 => ?_) (fun h7 => ?_)
    · refine J_aload_n (pc := 27) dX9_year_27 rfl rfl rfl ?_
      refine tg_X9_24 (pc := 28) rfl dX9_year_28 ?_
      refine J_aload_n (pc := 31) dX9_year_31 rfl rfl rfl ?_
      refine tg_X9_17 (pc := 32) rfl dX9_year_32 ?_
      refine J_iload_n (pc := 35) dX9_year_35 rfl rfl ?_
      refine T_aaload (pc := 36) (by decide) rfl rfl dX9_year_36 (fun h8 => ?_)
      refine T_callVI (pc := 37) (As := [.ref (50 + 2 * (w32 p0).toNat)]) (k := 3) (st := []) ok_yX4_faultIn lm_X9_148 dX9_year_37 (by decide) rfl rfl (by decide) (Nat.le_of_ble_eq_true rfl) (m_X4_faultIn m5 (50 + 2 * (w32 p0).toNat) (oText_e h8)) (fun r10 m9 em9 => ?_)
      refine J_bipush (pc := 40) dX9_year_40 (by decide) (by decide) ?_
      refine T_icmp_eq (pc := 42) (tgt := 48) dX9_year_42 (by decide) (fun h11 => ?_) (fun h11 => ?_)
      · refine J_aload_n (pc := 48) dX9_year_48 rfl rfl rfl ?_
        refine tg_X9_31 (pc := 49) rfl dX9_year_49 ?_
        refine J_aload_n (pc := 52) dX9_year_52 rfl rfl rfl ?_
        refine tg_X9_24 (pc := 53) rfl dX9_year_53 ?_
        refine T_callVU (pc := 56) (As := [.ref 3]) (k := 6) (st := []) ok_yX8_begin lm_X9_152 dX9_year_56 (by decide) rfl rfl (by decide) (Nat.le_of_ble_eq_true rfl) (m_X8_begin m9) (fun _u m12 em12 => ?_)
        refine J_aload_n (pc := 59) dX9_year_59 rfl rfl rfl ?_
        refine tg_X9_38 (pc := 60) rfl dX9_year_60 ?_
        refine J_aload_n (pc := 63) dX9_year_63 rfl rfl rfl ?_
        refine tg_X9_24 (pc := 64) rfl dX9_year_64 ?_
        refine T_callVU (pc := 67) (As := [.ref 3]) (k := 13) (st := []) ok_yX1_begin lm_X9_155 dX9_year_67 (oDay_l (by unfold oDay; decide)) (oDay_o (by unfold oDay; decide)) rfl (by decide) (Nat.le_of_ble_eq_true rfl) (m_X1_begin m12 13 (by unfold oDay; decide)) (fun _u m13 em13 => ?_)
        refine J_aload_n (pc := 70) dX9_year_70 rfl rfl rfl ?_
        refine tg_X9_45 (pc := 71) rfl dX9_year_71 ?_
        refine J_iconst (pc := 74) dX9_year_74 ?_
        refine tp_X9_97 (pc := 75) (by unfold oDiary; decide) rfl dX9_year_75 ?_
        refine T_vm (fun m14 em14 => ?_)
        refine J_iconst (pc := 78) dX9_year_78 ?_
        refine J_istore_n (pc := 79) (L' := [some (.ref 0), some (.int (iI p0)), some (.int (iI 0))]) dX9_year_79 rfl (by decide) rfl rfl ?_
        refine J_dropf (pc := 80) (L' := [some (.ref 0), none, some (.int (iI 0))]) [true, false, true] rfl ?_
        refine j_X9_year_L80 100000 0 m14
      · refine J_bipush (pc := 45) dX9_year_45 (by decide) (by decide) ?_
        exact T_retI (pc := 47) rfl dX9_year_47
    · refine J_aload_n (pc := 21) dX9_year_21 rfl rfl rfl ?_
      refine J_iconst (pc := 22) dX9_year_22 ?_
      refine T_callVI (pc := 23) (As := [.int (iI 1)]) (k := 0) (st := []) ok_yX9_found lm_X9_104 dX9_year_23 (by decide) rfl rfl (by decide) (Nat.le_of_ble_eq_true rfl) (m_X9_found m5 1) (fun r19 m18 em18 => ?_)
      exact T_retI (pc := 26) rfl dX9_year_26
  · refine J_iconst (pc := 7) dX9_year_7 ?_
    exact T_retI (pc := 8) rfl dX9_year_8
def f_X8_hasCape (m0 : Mem) (p0 : Int) : Option (Int × Mem) := vl (if w32 p0 < 0 then 0 else (if w32 p0 < w32 (m0 6 6) then 1 else 0)) fun v1 => some (v1, m0)
set_option maxRecDepth 40000 in
theorem m_X8_hasCape {l : Launch} {G : qG} (m0 : Mem) (p0 : Int) : qM l G 1 yX8_hasCape cX8_hasCape 2 (some .boolean) [.ref 6, .int (iI p0)] (lay m0) (lf eI (f_X8_hasCape m0 p0)) := by
  refine qM_of (L := [some (.ref 6), some (.int (iI p0))]) (by decide +kernel) (Nat.le_of_ble_eq_true rfl) rfl ?_
  unfold f_X8_hasCape
  refine J_iload_n (pc := 0) dX8_hasCape_0 rfl rfl ?_
  refine T_vl (fun v1 ev1 => ?_)
  refine T_dia (j := 17) (v := v1) (LT := [some (.ref 6), some (.int (iI p0))]) (sT := []) ?_ (fun hj2 => ?_)
  · exact T_retZ (pc := 17) rfl (by rw [ev1]; repeat' (first | exact Or.inl rfl | exact Or.inr rfl | split)) dX8_hasCape_17
  · refine T_if_lt_same (pc := 1) (tgt := 16) dX8_hasCape_1 (by decide) (fun h3 => ?_) (fun h3 => ?_)
    · refine J_iconst (pc := 16) dX8_hasCape_16 ?_
      exact T_top (by rw [ev1, if_pos h3]) hj2
    · refine J_iload_n (pc := 4) dX8_hasCape_4 rfl rfl ?_
      refine J_aload_n (pc := 5) dX8_hasCape_5 rfl rfl rfl ?_
      refine tg_X8_30 (pc := 6) rfl dX8_hasCape_6 ?_
      refine T_icmp_ge_same (pc := 9) (tgt := 16) dX8_hasCape_9 (by decide) (fun h4 => ?_) (fun h4 => ?_)
      · refine J_iconst (pc := 16) dX8_hasCape_16 ?_
        exact T_top (by rw [ev1, if_neg h3, if_neg h4]) hj2
      · refine J_iconst (pc := 12) dX8_hasCape_12 ?_
        refine J_goto (pc := 13) (tgt := 17) dX8_hasCape_13 (by decide) ?_
        exact T_top (by rw [ev1, if_neg h3, if_pos h4]) hj2
def f_X1_isDown (m0 : Mem) (t : Nat) : Option (Int × Mem) := ck 0 16 (vl (if w32 (m0 (t + 1) (w32 0).toNat) < w32 48 then 0 else 1) fun v2 => some (v2, m0))
set_option maxRecDepth 40000 in
theorem m_X1_isDown {l : Launch} {G : qG} (m0 : Mem) (t : Nat) (ht : oDay t) : qM l G 1 yX1_isDown cX1_isDown 1 (some .boolean) [.ref t] (lay m0) (lf eI (f_X1_isDown m0 t)) := by
  refine qM_of (L := [some (.ref t)]) (by decide +kernel) (Nat.le_of_ble_eq_true rfl) rfl ?_
  unfold f_X1_isDown
  refine J_aload_n (pc := 0) dX1_isDown_0 rfl rfl rfl ?_
  refine tg_X1_9 (pc := 1) ht rfl dX1_isDown_1 ?_
  refine J_iconst (pc := 4) dX1_isDown_4 ?_
  refine T_iaload (pc := 5) (oDay_l1 ht) (oDay_a1 ht) dX1_isDown_5 (fun h1 => ?_)
  refine J_bipush (pc := 6) dX1_isDown_6 (by decide) (by decide) ?_
  refine T_vl (fun v2 ev2 => ?_)
  refine T_dia (j := 16) (v := v2) (LT := [some (.ref t)]) (sT := []) ?_ (fun hj3 => ?_)
  · exact T_retZ (pc := 16) rfl (by rw [ev2]; repeat' (first | exact Or.inl rfl | exact Or.inr rfl | split)) dX1_isDown_16
  · refine T_icmp_lt_same (pc := 8) (tgt := 15) dX1_isDown_8 (by decide) (fun h4 => ?_) (fun h4 => ?_)
    · refine J_iconst (pc := 15) dX1_isDown_15 ?_
      exact T_top (by rw [ev2, if_pos h4]) hj3
    · refine J_iconst (pc := 11) dX1_isDown_11 ?_
      refine J_goto (pc := 12) (tgt := 16) dX1_isDown_12 (by decide) ?_
      exact T_top (by rw [ev2, if_neg h4]) hj3
def f_X1_isAtEvenPlace (m0 : Mem) (t : Nat) : Option (Int × Mem) := ck 0 16 (ckz 6 (ckz 2 (vl (if w32 (zrem (zdiv (m0 (t + 1) (w32 0).toNat) 6) 2) = 0 then 1 else 0) fun v2 => some (v2, m0))))
set_option maxRecDepth 40000 in
theorem m_X1_isAtEvenPlace {l : Launch} {G : qG} (m0 : Mem) (t : Nat) (ht : oDay t) : qM l G 1 yX1_isAtEvenPlace cX1_isAtEvenPlace 1 (some .boolean) [.ref t] (lay m0) (lf eI (f_X1_isAtEvenPlace m0 t)) := by
  refine qM_of (L := [some (.ref t)]) (by decide +kernel) (Nat.le_of_ble_eq_true rfl) rfl ?_
  unfold f_X1_isAtEvenPlace
  refine J_aload_n (pc := 0) dX1_isAtEvenPlace_0 rfl rfl rfl ?_
  refine tg_X1_9 (pc := 1) ht rfl dX1_isAtEvenPlace_1 ?_
  refine J_iconst (pc := 4) dX1_isAtEvenPlace_4 ?_
  refine T_iaload (pc := 5) (oDay_l1 ht) (oDay_a1 ht) dX1_isAtEvenPlace_5 (fun h1 => ?_)
  refine J_bipush (pc := 6) dX1_isAtEvenPlace_6 (by decide) (by decide) ?_
  refine T_idiv (pc := 8) dX1_isAtEvenPlace_8 ?_
  refine J_iconst (pc := 9) dX1_isAtEvenPlace_9 ?_
  refine T_irem (pc := 10) dX1_isAtEvenPlace_10 ?_
  refine T_vl (fun v2 ev2 => ?_)
  refine T_dia (j := 19) (v := v2) (LT := [some (.ref t)]) (sT := []) ?_ (fun hj3 => ?_)
  · exact T_retZ (pc := 19) rfl (by rw [ev2]; repeat' (first | exact Or.inl rfl | exact Or.inr rfl | split)) dX1_isAtEvenPlace_19
  · refine T_if_ne_same (pc := 11) (tgt := 18) dX1_isAtEvenPlace_11 (by decide) (fun h4 => ?_) (fun h4 => ?_)
    · refine J_iconst (pc := 18) dX1_isAtEvenPlace_18 ?_
      exact T_top (by rw [ev2, if_neg h4]) hj3
    · refine J_iconst (pc := 14) dX1_isAtEvenPlace_14 ?_
      refine J_goto (pc := 15) (tgt := 19) dX1_isAtEvenPlace_15 (by decide) ?_
      exact T_top (by rw [ev2, if_pos h4]) hj3
def f_X1_look_L20 (K : Mem → Option (Unit × Mem)) (t : Nat) : Nat → Int → Mem → Option (Unit × Mem)
  | 0, _, _ => none
  | u + 1, i2, mu20 => if w32 i2 < w32 (mu20 6 6) then (ck (2 + i2) 16 (vl (mu20 (t + 1) (w32 (2 + i2)).toNat) fun x8 => jn (κ := Mem → Option (Unit × Mem)) (fun m10 => jn (κ := Mem → Option (Unit × Mem)) (fun m12 => f_X1_look_L20 K t u (i2 + 1) m12) fun k11 => if w32 x8 = w32 1 then (vm (wr m10 t 2 (zor (m10 t 2) (zshl 1 i2))) fun m14 => k11 m14) else (k11 m10)) fun k9 => if w32 x8 < w32 1 then (k9 mu20) else (ck (7 + i2) 16 (if w32 (mu20 (t + 1) (w32 (7 + i2)).toNat) < w32 1 then (k9 mu20) else (vm (wr mu20 t 1 (zor (mu20 t 1) (zshl 1 i2))) fun m18 => k9 m18))))) else (K mu20)
set_option maxRecDepth 40000 in
theorem j_X1_look_L20 {l : Launch} {G : qG} {K : Mem → Option (Unit × Mem)} {t : Nat} (ht : oDay t) (hK : ∀ (m : Mem), qJ l G yX1_look cX1_look 4 none 2 90 [some (.ref t), some (.ref 6), none, none] [] (lay m) (lf eU (K m))) : ∀ (u : Nat) (i2 : Int) (mu20 : Mem), qJ l G yX1_look cX1_look 4 none 2 20 [some (.ref t), some (.ref 6), some (.int (iI i2)), none] [] (lay mu20) (lf eU (f_X1_look_L20 K t u i2 mu20)) := by
  intro u
  induction u with
  | zero => intro _ mu20; exact T_none
  | succ u ih =>
    intro i2 mu20
    rw [f_X1_look_L20]
    refine J_iload_n (pc := 20) dX1_look_20 rfl rfl ?_
    refine J_aload_n (pc := 21) dX1_look_21 rfl rfl rfl ?_
    refine tg_X1_52 (pc := 22) rfl dX1_look_22 ?_
    refine T_icmp_ge (pc := 25) (tgt := 90) dX1_look_25 (by decide) (fun h6 => ?_) (fun h6 => ?_)
    · refine J_dropf (pc := 90) (L' := [some (.ref t), some (.ref 6), none, none]) [true, true, false, false] rfl ?_
      exact hK  mu20
    · refine J_aload_n (pc := 28) dX1_look_28 rfl rfl rfl ?_
      refine tg_X1_9 (pc := 29) ht rfl dX1_look_29 ?_
      refine J_iconst (pc := 32) dX1_look_32 ?_
      refine J_iload_n (pc := 33) dX1_look_33 rfl rfl ?_
      refine J_iadd (pc := 34) dX1_look_34 ?_
      refine T_iaload (pc := 35) (oDay_l1 ht) (oDay_a1 ht) dX1_look_35 (fun h7 => ?_)
      refine T_vlI (pc := 36) (fun x8 ex8 => ?_)
      refine J_istore_n (pc := 36) (L' := [some (.ref t), some (.ref 6), some (.int (iI i2)), some (.int (iI x8))]) dX1_look_36 rfl (by decide) rfl rfl ?_
      refine J_iload_n (pc := 37) dX1_look_37 rfl rfl ?_
      refine J_iconst (pc := 38) dX1_look_38 ?_
      refine T_jn (κ := Mem → Option (Unit × Mem)) (fun k => ∀ (m10 : Mem), qJ l G yX1_look cX1_look 4 none 2 67 [some (.ref t), some (.ref 6), some (.int (iI i2)), some (.int (iI x8))] [] (lay m10) (lf eU (k m10))) ?_ (fun k9 hk9 => ?_)
      · intro m10
        refine J_iload_n (pc := 67) dX1_look_67 rfl rfl ?_
        refine J_iconst (pc := 68) dX1_look_68 ?_
        refine T_jn (κ := Mem → Option (Unit × Mem)) (fun k => ∀ (m12 : Mem), qJ l G yX1_look cX1_look 4 none 2 84 [some (.ref t), some (.ref 6), some (.int (iI i2)), none] [] (lay m12) (lf eU (k m12))) ?_ (fun k11 hk11 => ?_)
        · intro m12
          refine J_iinc (pc := 84) (L' := [some (.ref t), some (.ref 6), some (.int (iI (i2 + 1))), none]) dX1_look_84 rfl (by decide) rfl rfl ?_
          refine J_goto (pc := 87) (tgt := 20) dX1_look_87 (by decide) ?_
          exact ih (i2 + 1) m12
        · refine T_icmp_ne (pc := 69) (tgt := 84) dX1_look_69 (by decide) (fun h13 => ?_) (fun h13 => ?_)
          · refine J_dropf (pc := 84) (L' := [some (.ref t), some (.ref 6), some (.int (iI i2)), none]) [true, true, true, false] rfl ?_
            exact hk11  m10
          · refine J_aload_n (pc := 72) dX1_look_72 rfl rfl rfl ?_
            refine J_dup (pc := 73) dX1_look_73 rfl ?_
            refine tg_X1_19 (pc := 74) ht rfl dX1_look_74 ?_
            refine J_iconst (pc := 77) dX1_look_77 ?_
            refine J_iload_n (pc := 78) dX1_look_78 rfl rfl ?_
            refine J_ishl (pc := 79) dX1_look_79 ?_
            refine J_ior (pc := 80) dX1_look_80 ?_
            refine tp_X1_19 (pc := 81) ht rfl dX1_look_81 ?_
            refine T_vm (fun m14 em14 => ?_)
            refine J_dropf (pc := 84) (L' := [some (.ref t), some (.ref 6), some (.int (iI i2)), none]) [true, true, true, false] rfl ?_
            exact hk11  m14
      · refine T_icmp_lt (pc := 39) (tgt := 67) dX1_look_39 (by decide) (fun h15 => ?_) (fun h15 => ?_)
        · exact hk9  mu20
        · refine J_aload_n (pc := 42) dX1_look_42 rfl rfl rfl ?_
          refine tg_X1_9 (pc := 43) ht rfl dX1_look_43 ?_
          refine J_bipush (pc := 46) dX1_look_46 (by decide) (by decide) ?_
          refine J_iload_n (pc := 48) dX1_look_48 rfl rfl ?_
          refine J_iadd (pc := 49) dX1_look_49 ?_
          refine T_iaload (pc := 50) (oDay_l1 ht) (oDay_a1 ht) dX1_look_50 (fun h16 => ?_)
          refine J_iconst (pc := 51) dX1_look_51 ?_
          refine T_icmp_lt (pc := 52) (tgt := 67) dX1_look_52 (by decide) (fun h17 => ?_) (fun h17 => ?_)
          · exact hk9  mu20
          · refine J_aload_n (pc := 55) dX1_look_55 rfl rfl rfl ?_
            refine J_dup (pc := 56) dX1_look_56 rfl ?_
            refine tg_X1_15 (pc := 57) ht rfl dX1_look_57 ?_
            refine J_iconst (pc := 60) dX1_look_60 ?_
            refine J_iload_n (pc := 61) dX1_look_61 rfl rfl ?_
            refine J_ishl (pc := 62) dX1_look_62 ?_
            refine J_ior (pc := 63) dX1_look_63 ?_
            refine tp_X1_15 (pc := 64) ht rfl dX1_look_64 ?_
            refine T_vm (fun m18 em18 => ?_)
            exact hk9  m18
def f_X1_look (m0 : Mem) (t : Nat) : Option (Unit × Mem) := vm (wr m0 t 1 0) fun m1 => vm (wr m1 t 2 0) fun m2 => bd (f_X1_isDown m2 t) fun r4 m3 => if w32 r4 = 0 then (f_X1_look_L20 (fun m19 => ck 0 16 (jn (κ := Mem → Option (Unit × Mem)) (fun m22 => bd (f_X1_isAtEvenPlace m22 t) fun r24 m23 => if w32 r24 = 0 then (ck 1 6 (vm (wr m23 t 2 (zand (m23 t 2) (zxor (m23 8 (w32 1).toNat) (-1)))) fun m27 => some ((), m27))) else (some ((), m23))) fun k21 => if w32 (m19 (t + 1) (w32 0).toNat) < w32 24 then (k21 m19) else (ck 3 6 (vm (wr m19 t 1 (zand (m19 t 1) (zxor (m19 8 (w32 3).toNat) (-1)))) fun m30 => k21 m30)))) t 100000 0 m3) else (some ((), m3))
set_option maxRecDepth 40000 in
theorem m_X1_look {l : Launch} {G : qG} (m0 : Mem) (t : Nat) (ht : oDay t) : qM l G 2 yX1_look cX1_look 4 none [.ref t, .ref 6] (lay m0) (lf eU (f_X1_look m0 t)) := by
  refine qM_of (L := [some (.ref t), some (.ref 6), none, none]) (by decide +kernel) (Nat.le_of_ble_eq_true rfl) rfl ?_
  unfold f_X1_look
  refine J_aload_n (pc := 0) dX1_look_0 rfl rfl rfl ?_
  refine J_iconst (pc := 1) dX1_look_1 ?_
  refine tp_X1_15 (pc := 2) ht rfl dX1_look_2 ?_
  refine T_vm (fun m1 em1 => ?_)
  refine J_aload_n (pc := 5) dX1_look_5 rfl rfl rfl ?_
  refine J_iconst (pc := 6) dX1_look_6 ?_
  refine tp_X1_19 (pc := 7) ht rfl dX1_look_7 ?_
  refine T_vm (fun m2 em2 => ?_)
  refine J_aload_n (pc := 10) dX1_look_10 rfl rfl rfl ?_
  refine T_callVI (pc := 11) (As := []) (k := t) (st := []) ok_yX1_isDown lm_X1_48 dX1_look_11 (oDay_l ht) (oDay_o ht) rfl (by decide) (Nat.le_of_ble_eq_true rfl) (m_X1_isDown m2 t ht) (fun r4 m3 em3 => ?_)
  refine T_if_eq (pc := 14) (tgt := 18) dX1_look_14 (by decide) (fun h5 => ?_) (fun h5 => ?_)
  · refine J_iconst (pc := 18) dX1_look_18 ?_
    refine J_istore_n (pc := 19) (L' := [some (.ref t), some (.ref 6), some (.int (iI 0)), none]) dX1_look_19 rfl (by decide) rfl rfl ?_
    refine j_X1_look_L20 ht ?_ 100000 0 m3
    · intro m19
      refine J_aload_n (pc := 90) dX1_look_90 rfl rfl rfl ?_
      refine tg_X1_9 (pc := 91) ht rfl dX1_look_91 ?_
      refine J_iconst (pc := 94) dX1_look_94 ?_
      refine T_iaload (pc := 95) (oDay_l1 ht) (oDay_a1 ht) dX1_look_95 (fun h20 => ?_)
      refine J_bipush (pc := 96) dX1_look_96 (by decide) (by decide) ?_
      refine T_jn (κ := Mem → Option (Unit × Mem)) (fun k => ∀ (m22 : Mem), qJ l G yX1_look cX1_look 4 none 2 118 [some (.ref t), some (.ref 6), none, none] [] (lay m22) (lf eU (k m22))) ?_ (fun k21 hk21 => ?_)
      · intro m22
        refine J_aload_n (pc := 118) dX1_look_118 rfl rfl rfl ?_
        refine T_callVI (pc := 119) (As := []) (k := t) (st := []) ok_yX1_isAtEvenPlace lm_X1_58 dX1_look_119 (oDay_l ht) (oDay_o ht) rfl (by decide) (Nat.le_of_ble_eq_true rfl) (m_X1_isAtEvenPlace m22 t ht) (fun r24 m23 em23 => ?_)
        refine T_if_ne (pc := 122) (tgt := 142) dX1_look_122 (by decide) (fun h25 => ?_) (fun h25 => ?_)
        · exact T_retV (pc := 142) rfl dX1_look_142
        · refine J_aload_n (pc := 125) dX1_look_125 rfl rfl rfl ?_
          refine J_dup (pc := 126) dX1_look_126 rfl ?_
          refine tg_X1_19 (pc := 127) ht rfl dX1_look_127 ?_
          refine J_aload_n (pc := 130) dX1_look_130 rfl rfl rfl ?_
          refine tg_X1_55 (pc := 131) rfl dX1_look_131 ?_
          refine J_iconst (pc := 134) dX1_look_134 ?_
          refine T_iaload (pc := 135) (by decide) rfl dX1_look_135 (fun h26 => ?_)
          refine J_iconst (pc := 136) dX1_look_136 ?_
          refine J_ixor (pc := 137) dX1_look_137 ?_
          refine J_iand (pc := 138) dX1_look_138 ?_
          refine tp_X1_19 (pc := 139) ht rfl dX1_look_139 ?_
          refine T_vm (fun m27 em27 => ?_)
          exact T_retV (pc := 142) rfl dX1_look_142
      · refine T_icmp_lt (pc := 98) (tgt := 118) dX1_look_98 (by decide) (fun h28 => ?_) (fun h28 => ?_)
        · exact hk21  m19
        · refine J_aload_n (pc := 101) dX1_look_101 rfl rfl rfl ?_
          refine J_dup (pc := 102) dX1_look_102 rfl ?_
          refine tg_X1_15 (pc := 103) ht rfl dX1_look_103 ?_
          refine J_aload_n (pc := 106) dX1_look_106 rfl rfl rfl ?_
          refine tg_X1_55 (pc := 107) rfl dX1_look_107 ?_
          refine J_iconst (pc := 110) dX1_look_110 ?_
          refine T_iaload (pc := 111) (by decide) rfl dX1_look_111 (fun h29 => ?_)
          refine J_iconst (pc := 112) dX1_look_112 ?_
          refine J_ixor (pc := 113) dX1_look_113 ?_
          refine J_iand (pc := 114) dX1_look_114 ?_
          refine tp_X1_15 (pc := 115) ht rfl dX1_look_115 ?_
          refine T_vm (fun m30 em30 => ?_)
          exact hk21  m30
  · exact T_retV (pc := 17) rfl dX1_look_17
def f_J6_bitCount_0f7a4 (m0 : Mem) (p0 : Int) : Option (Int × Mem) := vl (p0 - (zand (zushr p0 1) 1431655765)) fun x1 => vl ((zand x1 858993459) + (zand (zushr x1 2) 858993459)) fun x2 => vl (zand (x2 + (zushr x2 4)) 252645135) fun x3 => vl (x3 + (zushr x3 8)) fun x4 => vl (x4 + (zushr x4 16)) fun x5 => some (zand x5 63, m0)
set_option maxRecDepth 40000 in
theorem m_J6_bitCount_0f7a4 {l : Launch} {G : qG} (m0 : Mem) (p0 : Int) : qM l G 1 yJ6_bitCount_0f7a4 cJ6_bitCount_0f7a4 1 (some .int) [.int (iI p0)] (lay m0) (lf eI (f_J6_bitCount_0f7a4 m0 p0)) := by
  refine qM_of (L := [some (.int (iI p0))]) (by decide +kernel) (Nat.le_of_ble_eq_true rfl) rfl ?_
  unfold f_J6_bitCount_0f7a4
  refine J_iload_n (pc := 0) dJ6_bitCount_0f7a4_0 rfl rfl ?_
  refine J_iload_n (pc := 1) dJ6_bitCount_0f7a4_1 rfl rfl ?_
  refine J_iconst (pc := 2) dJ6_bitCount_0f7a4_2 ?_
  refine J_iushr (pc := 3) dJ6_bitCount_0f7a4_3 ?_
  refine J_ldcw (pc := 4) (z := 1431655765) dJ6_bitCount_0f7a4_4 lk_J6_265 (by decide) ?_
  refine J_iand (pc := 7) dJ6_bitCount_0f7a4_7 ?_
  refine J_isub (pc := 8) dJ6_bitCount_0f7a4_8 ?_
  refine T_vlI (pc := 9) (fun x1 ex1 => ?_)
  refine J_istore_n (pc := 9) (L' := [some (.int (iI x1))]) dJ6_bitCount_0f7a4_9 rfl (by decide) rfl rfl ?_
  refine J_iload_n (pc := 10) dJ6_bitCount_0f7a4_10 rfl rfl ?_
  refine J_ldcw (pc := 11) (z := 858993459) dJ6_bitCount_0f7a4_11 lk_J6_266 (by decide) ?_
  refine J_iand (pc := 14) dJ6_bitCount_0f7a4_14 ?_
  refine J_iload_n (pc := 15) dJ6_bitCount_0f7a4_15 rfl rfl ?_
  refine J_iconst (pc := 16) dJ6_bitCount_0f7a4_16 ?_
  refine J_iushr (pc := 17) dJ6_bitCount_0f7a4_17 ?_
  refine J_ldcw (pc := 18) (z := 858993459) dJ6_bitCount_0f7a4_18 lk_J6_266 (by decide) ?_
  refine J_iand (pc := 21) dJ6_bitCount_0f7a4_21 ?_
  refine J_iadd (pc := 22) dJ6_bitCount_0f7a4_22 ?_
  refine T_vlI (pc := 23) (fun x2 ex2 => ?_)
  refine J_istore_n (pc := 23) (L' := [some (.int (iI x2))]) dJ6_bitCount_0f7a4_23 rfl (by decide) rfl rfl ?_
  refine J_iload_n (pc := 24) dJ6_bitCount_0f7a4_24 rfl rfl ?_
  refine J_iload_n (pc := 25) dJ6_bitCount_0f7a4_25 rfl rfl ?_
  refine J_iconst (pc := 26) dJ6_bitCount_0f7a4_26 ?_
  refine J_iushr (pc := 27) dJ6_bitCount_0f7a4_27 ?_
  refine J_iadd (pc := 28) dJ6_bitCount_0f7a4_28 ?_
  refine J_ldcw (pc := 29) (z := 252645135) dJ6_bitCount_0f7a4_29 lk_J6_267 (by decide) ?_
  refine J_iand (pc := 32) dJ6_bitCount_0f7a4_32 ?_
  refine T_vlI (pc := 33) (fun x3 ex3 => ?_)
  refine J_istore_n (pc := 33) (L' := [some (.int (iI x3))]) dJ6_bitCount_0f7a4_33 rfl (by decide) rfl rfl ?_
  refine J_iload_n (pc := 34) dJ6_bitCount_0f7a4_34 rfl rfl ?_
  refine J_iload_n (pc := 35) dJ6_bitCount_0f7a4_35 rfl rfl ?_
  refine J_bipush (pc := 36) dJ6_bitCount_0f7a4_36 (by decide) (by decide) ?_
  refine J_iushr (pc := 38) dJ6_bitCount_0f7a4_38 ?_
  refine J_iadd (pc := 39) dJ6_bitCount_0f7a4_39 ?_
  refine T_vlI (pc := 40) (fun x4 ex4 => ?_)
  refine J_istore_n (pc := 40) (L' := [some (.int (iI x4))]) dJ6_bitCount_0f7a4_40 rfl (by decide) rfl rfl ?_
  refine J_iload_n (pc := 41) dJ6_bitCount_0f7a4_41 rfl rfl ?_
  refine J_iload_n (pc := 42) dJ6_bitCount_0f7a4_42 rfl rfl ?_
  refine J_bipush (pc := 43) dJ6_bitCount_0f7a4_43 (by decide) (by decide) ?_
  refine J_iushr (pc := 45) dJ6_bitCount_0f7a4_45 ?_
  refine J_iadd (pc := 46) dJ6_bitCount_0f7a4_46 ?_
  refine T_vlI (pc := 47) (fun x5 ex5 => ?_)
  refine J_istore_n (pc := 47) (L' := [some (.int (iI x5))]) dJ6_bitCount_0f7a4_47 rfl (by decide) rfl rfl ?_
  refine J_iload_n (pc := 48) dJ6_bitCount_0f7a4_48 rfl rfl ?_
  refine J_bipush (pc := 49) dJ6_bitCount_0f7a4_49 (by decide) (by decide) ?_
  refine J_iand (pc := 51) dJ6_bitCount_0f7a4_51 ?_
  exact T_retI (pc := 52) rfl dJ6_bitCount_0f7a4_52
def f_X8_pullOf (m0 : Mem) (p0 : Int) : Option (Int × Mem) := bd (f_J6_bitCount_0f7a4 m0 p0) fun r2 m1 => ck 2 6 (bd (f_J6_bitCount_0f7a4 m1 (zand p0 (m1 8 (w32 2).toNat))) fun r5 m4 => some (r2 + r5, m4))
set_option maxRecDepth 40000 in
theorem m_X8_pullOf {l : Launch} {G : qG} (m0 : Mem) (p0 : Int) : qM l G 2 yX8_pullOf cX8_pullOf 2 (some .int) [.ref 6, .int (iI p0)] (lay m0) (lf eI (f_X8_pullOf m0 p0)) := by
  refine qM_of (L := [some (.ref 6), some (.int (iI p0))]) (by decide +kernel) (Nat.le_of_ble_eq_true rfl) rfl ?_
  unfold f_X8_pullOf
  refine J_iload_n (pc := 0) dX8_pullOf_0 rfl rfl ?_
  refine T_callSI (pc := 1) (As := [.int (iI p0)]) (st := []) ok_yJ6_bitCount_0f7a4 lm_X8_60 dX8_pullOf_1 (by decide) (Nat.le_of_ble_eq_true rfl) (m_J6_bitCount_0f7a4 m0 p0) (fun r2 m1 em1 => ?_)
  refine J_iload_n (pc := 4) dX8_pullOf_4 rfl rfl ?_
  refine J_aload_n (pc := 5) dX8_pullOf_5 rfl rfl rfl ?_
  refine tg_X8_15 (pc := 6) rfl dX8_pullOf_6 ?_
  refine J_iconst (pc := 9) dX8_pullOf_9 ?_
  refine T_iaload (pc := 10) (by decide) rfl dX8_pullOf_10 (fun h3 => ?_)
  refine J_iand (pc := 11) dX8_pullOf_11 ?_
  refine T_callSI (pc := 12) (As := [.int (iI (zand p0 (m1 8 (w32 2).toNat)))]) (st := [.int (iI r2)]) ok_yJ6_bitCount_0f7a4 lm_X8_60 dX8_pullOf_12 (by decide) (Nat.le_of_ble_eq_true rfl) (m_J6_bitCount_0f7a4 m1 (zand p0 (m1 8 (w32 2).toNat))) (fun r5 m4 em4 => ?_)
  refine J_iadd (pc := 15) dX8_pullOf_15 ?_
  exact T_retI (pc := 16) rfl dX8_pullOf_16
def f_X9_factOfCape (m0 : Mem) (p0 : Int) (p1 : Int) : Option (Int × Mem) := if w32 p1 = 0 then (ck p0 5 (some (m0 7 (w32 p0).toNat, m0))) else (if w32 p1 = 1 then (ck (2 + p0) 16 (some (m0 (13 + 1) (w32 (2 + p0)).toNat, m0))) else (if w32 p1 = 2 then (ck (7 + p0) 16 (some (m0 (13 + 1) (w32 (7 + p0)).toNat, m0))) else (bd (f_X1_look m0 13) fun _u m7 => bd (f_X8_pullOf m7 (zand (m7 13 1) (zshl 1 p0))) fun r9 m8 => some (r9, m8))))
set_option maxRecDepth 40000 in
theorem m_X9_factOfCape {l : Launch} {G : qG} (m0 : Mem) (p0 : Int) (p1 : Int) : qM l G 3 yX9_factOfCape cX9_factOfCape 3 (some .int) [.ref 0, .int (iI p0), .int (iI p1)] (lay m0) (lf eI (f_X9_factOfCape m0 p0 p1)) := by
  refine qM_of (L := [some (.ref 0), some (.int (iI p0)), some (.int (iI p1))]) (by decide +kernel) (Nat.le_of_ble_eq_true rfl) rfl ?_
  unfold f_X9_factOfCape
  refine J_iload_n (pc := 0) dX9_factOfCape_0 rfl rfl ?_
  by_cases h1 : w32 p1 = 0
  · rw [if_pos h1]
    refine J_swIn (pc := 1) (j := 0) (tgt := 28) dX9_factOfCape_1 h1 (by decide) (by decide) rfl (by decide) ?_
    refine J_aload_n (pc := 28) dX9_factOfCape_28 rfl rfl rfl ?_
    refine tg_X9_31 (pc := 29) rfl dX9_factOfCape_29 ?_
    refine tg_X9_333 (pc := 32) rfl dX9_factOfCape_32 ?_
    refine J_iload_n (pc := 35) dX9_factOfCape_35 rfl rfl ?_
    refine T_iaload (pc := 36) (by decide) rfl dX9_factOfCape_36 (fun h2 => ?_)
    exact T_retI (pc := 37) rfl dX9_factOfCape_37
  rw [if_neg h1]
  by_cases h3 : w32 p1 = 1
  · rw [if_pos h3]
    refine J_swIn (pc := 1) (j := 1) (tgt := 38) dX9_factOfCape_1 h3 (by decide) (by decide) rfl (by decide) ?_
    refine J_aload_n (pc := 38) dX9_factOfCape_38 rfl rfl rfl ?_
    refine tg_X9_38 (pc := 39) rfl dX9_factOfCape_39 ?_
    refine tg_X9_193 (pc := 42) (by unfold oDay; decide) rfl dX9_factOfCape_42 ?_
    refine J_iconst (pc := 45) dX9_factOfCape_45 ?_
    refine J_iload_n (pc := 46) dX9_factOfCape_46 rfl rfl ?_
    refine J_iadd (pc := 47) dX9_factOfCape_47 ?_
    refine T_iaload (pc := 48) (oDay_l1 (by unfold oDay; decide)) (oDay_a1 (by unfold oDay; decide)) dX9_factOfCape_48 (fun h4 => ?_)
    exact T_retI (pc := 49) rfl dX9_factOfCape_49
  rw [if_neg h3]
  by_cases h5 : w32 p1 = 2
  · rw [if_pos h5]
    refine J_swIn (pc := 1) (j := 2) (tgt := 50) dX9_factOfCape_1 h5 (by decide) (by decide) rfl (by decide) ?_
    refine J_aload_n (pc := 50) dX9_factOfCape_50 rfl rfl rfl ?_
    refine tg_X9_38 (pc := 51) rfl dX9_factOfCape_51 ?_
    refine tg_X9_193 (pc := 54) (by unfold oDay; decide) rfl dX9_factOfCape_54 ?_
    refine J_bipush (pc := 57) dX9_factOfCape_57 (by decide) (by decide) ?_
    refine J_iload_n (pc := 59) dX9_factOfCape_59 rfl rfl ?_
    refine J_iadd (pc := 60) dX9_factOfCape_60 ?_
    refine T_iaload (pc := 61) (oDay_l1 (by unfold oDay; decide)) (oDay_a1 (by unfold oDay; decide)) dX9_factOfCape_61 (fun h6 => ?_)
    exact T_retI (pc := 62) rfl dX9_factOfCape_62
  rw [if_neg h5]
  refine J_swOut (pc := 1) (tgt := 63) dX9_factOfCape_1 (by omega) (by decide) ?_
  refine J_aload_n (pc := 63) dX9_factOfCape_63 rfl rfl rfl ?_
  refine tg_X9_38 (pc := 64) rfl dX9_factOfCape_64 ?_
  refine J_aload_n (pc := 67) dX9_factOfCape_67 rfl rfl rfl ?_
  refine tg_X9_31 (pc := 68) rfl dX9_factOfCape_68 ?_
  refine T_callVU (pc := 71) (As := [.ref 6]) (k := 13) (st := []) ok_yX1_look lm_X9_336 dX9_factOfCape_71 (oDay_l (by unfold oDay; decide)) (oDay_o (by unfold oDay; decide)) rfl (by decide) (Nat.le_of_ble_eq_true rfl) (m_X1_look m0 13 (by unfold oDay; decide)) (fun _u m7 em7 => ?_)
  refine J_aload_n (pc := 74) dX9_factOfCape_74 rfl rfl rfl ?_
  refine tg_X9_31 (pc := 75) rfl dX9_factOfCape_75 ?_
  refine J_aload_n (pc := 78) dX9_factOfCape_78 rfl rfl rfl ?_
  refine tg_X9_38 (pc := 79) rfl dX9_factOfCape_79 ?_
  refine tg_X9_339 (pc := 82) (by unfold oDay; decide) rfl dX9_factOfCape_82 ?_
  refine J_iconst (pc := 85) dX9_factOfCape_85 ?_
  refine J_iload_n (pc := 86) dX9_factOfCape_86 rfl rfl ?_
  refine J_ishl (pc := 87) dX9_factOfCape_87 ?_
  refine J_iand (pc := 88) dX9_factOfCape_88 ?_
  refine T_callVI (pc := 89) (As := [.int (iI (zand (m7 13 1) (zshl 1 p0)))]) (k := 6) (st := []) ok_yX8_pullOf lm_X9_262 dX9_factOfCape_89 (by decide) rfl rfl (by decide) (Nat.le_of_ble_eq_true rfl) (m_X8_pullOf m7 (zand (m7 13 1) (zshl 1 p0))) (fun r9 m8 em8 => ?_)
  exact T_retI (pc := 92) rfl dX9_factOfCape_92
def f_X9_cape (m0 : Mem) (p0 : Int) (p1 : Int) : Option (Int × Mem) := bd (f_X8_hasCape m0 p0) fun r2 m1 => if w32 r2 = 0 then (some ((-1), m1)) else (if w32 p1 < 0 then (some ((-1), m1)) else (if w32 3 < w32 p1 then (some ((-1), m1)) else (bd (f_X9_factOfCape m1 p0 p1) fun r7 m6 => vm (wr m6 0 13 r7) fun m8 => some (1, m8))))
set_option maxRecDepth 40000 in
theorem m_X9_cape {l : Launch} {G : qG} (m0 : Mem) (p0 : Int) (p1 : Int) : qM l G 4 yX9_cape cX9_cape 3 (some .int) [.ref 0, .int (iI p0), .int (iI p1)] (lay m0) (lf eI (f_X9_cape m0 p0 p1)) := by
  refine qM_of (L := [some (.ref 0), some (.int (iI p0)), some (.int (iI p1))]) (by decide +kernel) (Nat.le_of_ble_eq_true rfl) rfl ?_
  unfold f_X9_cape
  refine J_aload_n (pc := 0) dX9_cape_0 rfl rfl rfl ?_
  refine tg_X9_31 (pc := 1) rfl dX9_cape_1 ?_
  refine J_iload_n (pc := 4) dX9_cape_4 rfl rfl ?_
  refine T_callVI (pc := 5) (As := [.int (iI p0)]) (k := 6) (st := []) ok_yX8_hasCape lm_X9_159 dX9_cape_5 (by decide) rfl rfl (by decide) (Nat.le_of_ble_eq_true rfl) (m_X8_hasCape m0 p0) (fun r2 m1 em1 => ?_)
  refine T_if_eq (pc := 8) (tgt := 20) dX9_cape_8 (by decide) (fun h3 => ?_) (fun h3 => ?_)
  · refine J_iconst (pc := 20) dX9_cape_20 ?_
    exact T_retI (pc := 21) rfl dX9_cape_21
  · refine J_iload_n (pc := 11) dX9_cape_11 rfl rfl ?_
    refine T_if_lt (pc := 12) (tgt := 20) dX9_cape_12 (by decide) (fun h4 => ?_) (fun h4 => ?_)
    · refine J_iconst (pc := 20) dX9_cape_20 ?_
      exact T_retI (pc := 21) rfl dX9_cape_21
    · refine J_iload_n (pc := 15) dX9_cape_15 rfl rfl ?_
      refine J_iconst (pc := 16) dX9_cape_16 ?_
      refine T_icmp_le (pc := 17) (tgt := 22) dX9_cape_17 (by decide) (fun h5 => ?_) (fun h5 => ?_)
      · refine J_aload_n (pc := 22) dX9_cape_22 rfl rfl rfl ?_
        refine J_aload_n (pc := 23) dX9_cape_23 rfl rfl rfl ?_
        refine J_iload_n (pc := 24) dX9_cape_24 rfl rfl ?_
        refine J_iload_n (pc := 25) dX9_cape_25 rfl rfl ?_
        refine T_callVI (pc := 26) (As := [.int (iI p0), .int (iI p1)]) (k := 0) (st := [.ref 0]) ok_yX9_factOfCape lm_X9_162 dX9_cape_26 (by decide) rfl rfl (by decide) (Nat.le_of_ble_eq_true rfl) (m_X9_factOfCape m1 p0 p1) (fun r7 m6 em6 => ?_)
        refine tp_X9_85 (pc := 29) rfl dX9_cape_29 ?_
        refine T_vm (fun m8 em8 => ?_)
        refine J_iconst (pc := 32) dX9_cape_32 ?_
        exact T_retI (pc := 33) rfl dX9_cape_33
      · refine J_iconst (pc := 20) dX9_cape_20 ?_
        exact T_retI (pc := 21) rfl dX9_cape_21
def f_X8_hasValley (m0 : Mem) (p0 : Int) : Option (Int × Mem) := vl (if w32 p0 < 0 then 0 else (if w32 p0 < w32 (m0 6 7) then 1 else 0)) fun v1 => some (v1, m0)
set_option maxRecDepth 40000 in
theorem m_X8_hasValley {l : Launch} {G : qG} (m0 : Mem) (p0 : Int) : qM l G 1 yX8_hasValley cX8_hasValley 2 (some .boolean) [.ref 6, .int (iI p0)] (lay m0) (lf eI (f_X8_hasValley m0 p0)) := by
  refine qM_of (L := [some (.ref 6), some (.int (iI p0))]) (by decide +kernel) (Nat.le_of_ble_eq_true rfl) rfl ?_
  unfold f_X8_hasValley
  refine J_iload_n (pc := 0) dX8_hasValley_0 rfl rfl ?_
  refine T_vl (fun v1 ev1 => ?_)
  refine T_dia (j := 17) (v := v1) (LT := [some (.ref 6), some (.int (iI p0))]) (sT := []) ?_ (fun hj2 => ?_)
  · exact T_retZ (pc := 17) rfl (by rw [ev1]; repeat' (first | exact Or.inl rfl | exact Or.inr rfl | split)) dX8_hasValley_17
  · refine T_if_lt_same (pc := 1) (tgt := 16) dX8_hasValley_1 (by decide) (fun h3 => ?_) (fun h3 => ?_)
    · refine J_iconst (pc := 16) dX8_hasValley_16 ?_
      exact T_top (by rw [ev1, if_pos h3]) hj2
    · refine J_iload_n (pc := 4) dX8_hasValley_4 rfl rfl ?_
      refine J_aload_n (pc := 5) dX8_hasValley_5 rfl rfl rfl ?_
      refine tg_X8_34 (pc := 6) rfl dX8_hasValley_6 ?_
      refine T_icmp_ge_same (pc := 9) (tgt := 16) dX8_hasValley_9 (by decide) (fun h4 => ?_) (fun h4 => ?_)
      · refine J_iconst (pc := 16) dX8_hasValley_16 ?_
        exact T_top (by rw [ev1, if_neg h3, if_neg h4]) hj2
      · refine J_iconst (pc := 12) dX8_hasValley_12 ?_
        refine J_goto (pc := 13) (tgt := 17) dX8_hasValley_13 (by decide) ?_
        exact T_top (by rw [ev1, if_neg h3, if_pos h4]) hj2
def f_X9_factOfValley (m0 : Mem) (p0 : Int) (p1 : Int) : Option (Int × Mem) := if w32 p1 = 0 then (ck p0 4 (some (m0 9 (w32 p0).toNat, m0))) else (if w32 p1 = 1 then (ck p0 4 (some (m0 10 (w32 p0).toNat, m0))) else (if w32 p1 = 2 then (ck p0 4 (some (m0 11 (w32 p0).toNat, m0))) else (if w32 p1 = 3 then (ck p0 4 (some (m0 12 (w32 p0).toNat, m0))) else (ck (12 + p0) 16 (some (m0 (13 + 1) (w32 (12 + p0)).toNat, m0))))))
set_option maxRecDepth 40000 in
theorem m_X9_factOfValley {l : Launch} {G : qG} (m0 : Mem) (p0 : Int) (p1 : Int) : qM l G 1 yX9_factOfValley cX9_factOfValley 3 (some .int) [.ref 0, .int (iI p0), .int (iI p1)] (lay m0) (lf eI (f_X9_factOfValley m0 p0 p1)) := by
  refine qM_of (L := [some (.ref 0), some (.int (iI p0)), some (.int (iI p1))]) (by decide +kernel) (Nat.le_of_ble_eq_true rfl) rfl ?_
  unfold f_X9_factOfValley
  refine J_iload_n (pc := 0) dX9_factOfValley_0 rfl rfl ?_
  by_cases h1 : w32 p1 = 0
  · rw [if_pos h1]
    refine J_swIn (pc := 1) (j := 0) (tgt := 32) dX9_factOfValley_1 h1 (by decide) (by decide) rfl (by decide) ?_
    refine J_aload_n (pc := 32) dX9_factOfValley_32 rfl rfl rfl ?_
    refine tg_X9_31 (pc := 33) rfl dX9_factOfValley_33 ?_
    refine tg_X9_342 (pc := 36) rfl dX9_factOfValley_36 ?_
    refine J_iload_n (pc := 39) dX9_factOfValley_39 rfl rfl ?_
    refine T_iaload (pc := 40) (by decide) rfl dX9_factOfValley_40 (fun h2 => ?_)
    exact T_retI (pc := 41) rfl dX9_factOfValley_41
  rw [if_neg h1]
  by_cases h3 : w32 p1 = 1
  · rw [if_pos h3]
    refine J_swIn (pc := 1) (j := 1) (tgt := 42) dX9_factOfValley_1 h3 (by decide) (by decide) rfl (by decide) ?_
    refine J_aload_n (pc := 42) dX9_factOfValley_42 rfl rfl rfl ?_
    refine tg_X9_31 (pc := 43) rfl dX9_factOfValley_43 ?_
    refine tg_X9_345 (pc := 46) rfl dX9_factOfValley_46 ?_
    refine J_iload_n (pc := 49) dX9_factOfValley_49 rfl rfl ?_
    refine T_iaload (pc := 50) (by decide) rfl dX9_factOfValley_50 (fun h4 => ?_)
    exact T_retI (pc := 51) rfl dX9_factOfValley_51
  rw [if_neg h3]
  by_cases h5 : w32 p1 = 2
  · rw [if_pos h5]
    refine J_swIn (pc := 1) (j := 2) (tgt := 52) dX9_factOfValley_1 h5 (by decide) (by decide) rfl (by decide) ?_
    refine J_aload_n (pc := 52) dX9_factOfValley_52 rfl rfl rfl ?_
    refine tg_X9_31 (pc := 53) rfl dX9_factOfValley_53 ?_
    refine tg_X9_348 (pc := 56) rfl dX9_factOfValley_56 ?_
    refine J_iload_n (pc := 59) dX9_factOfValley_59 rfl rfl ?_
    refine T_iaload (pc := 60) (by decide) rfl dX9_factOfValley_60 (fun h6 => ?_)
    exact T_retI (pc := 61) rfl dX9_factOfValley_61
  rw [if_neg h5]
  by_cases h7 : w32 p1 = 3
  · rw [if_pos h7]
    refine J_swIn (pc := 1) (j := 3) (tgt := 62) dX9_factOfValley_1 h7 (by decide) (by decide) rfl (by decide) ?_
    refine J_aload_n (pc := 62) dX9_factOfValley_62 rfl rfl rfl ?_
    refine tg_X9_31 (pc := 63) rfl dX9_factOfValley_63 ?_
    refine tg_X9_177 (pc := 66) rfl dX9_factOfValley_66 ?_
    refine J_iload_n (pc := 69) dX9_factOfValley_69 rfl rfl ?_
    refine T_iaload (pc := 70) (by decide) rfl dX9_factOfValley_70 (fun h8 => ?_)
    exact T_retI (pc := 71) rfl dX9_factOfValley_71
  rw [if_neg h7]
  refine J_swOut (pc := 1) (tgt := 72) dX9_factOfValley_1 (by omega) (by decide) ?_
  refine J_aload_n (pc := 72) dX9_factOfValley_72 rfl rfl rfl ?_
  refine tg_X9_38 (pc := 73) rfl dX9_factOfValley_73 ?_
  refine tg_X9_193 (pc := 76) (by unfold oDay; decide) rfl dX9_factOfValley_76 ?_
  refine J_bipush (pc := 79) dX9_factOfValley_79 (by decide) (by decide) ?_
  refine J_iload_n (pc := 81) dX9_factOfValley_81 rfl rfl ?_
  refine J_iadd (pc := 82) dX9_factOfValley_82 ?_
  refine T_iaload (pc := 83) (oDay_l1 (by unfold oDay; decide)) (oDay_a1 (by unfold oDay; decide)) dX9_factOfValley_83 (fun h9 => ?_)
  exact T_retI (pc := 84) rfl dX9_factOfValley_84
def f_X9_valley (m0 : Mem) (p0 : Int) (p1 : Int) : Option (Int × Mem) := bd (f_X8_hasValley m0 p0) fun r2 m1 => if w32 r2 = 0 then (some ((-1), m1)) else (if w32 p1 < 0 then (some ((-1), m1)) else (if w32 4 < w32 p1 then (some ((-1), m1)) else (bd (f_X9_factOfValley m1 p0 p1) fun r7 m6 => vm (wr m6 0 13 r7) fun m8 => some (1, m8))))
set_option maxRecDepth 40000 in
theorem m_X9_valley {l : Launch} {G : qG} (m0 : Mem) (p0 : Int) (p1 : Int) : qM l G 2 yX9_valley cX9_valley 3 (some .int) [.ref 0, .int (iI p0), .int (iI p1)] (lay m0) (lf eI (f_X9_valley m0 p0 p1)) := by
  refine qM_of (L := [some (.ref 0), some (.int (iI p0)), some (.int (iI p1))]) (by decide +kernel) (Nat.le_of_ble_eq_true rfl) rfl ?_
  unfold f_X9_valley
  refine J_aload_n (pc := 0) dX9_valley_0 rfl rfl rfl ?_
  refine tg_X9_31 (pc := 1) rfl dX9_valley_1 ?_
  refine J_iload_n (pc := 4) dX9_valley_4 rfl rfl ?_
  refine T_callVI (pc := 5) (As := [.int (iI p0)]) (k := 6) (st := []) ok_yX8_hasValley lm_X9_165 dX9_valley_5 (by decide) rfl rfl (by decide) (Nat.le_of_ble_eq_true rfl) (m_X8_hasValley m0 p0) (fun r2 m1 em1 => ?_)
  refine T_if_eq (pc := 8) (tgt := 20) dX9_valley_8 (by decide) (fun h3 => ?_) (fun h3 => ?_)
  · refine J_iconst (pc := 20) dX9_valley_20 ?_
    exact T_retI (pc := 21) rfl dX9_valley_21
  · refine J_iload_n (pc := 11) dX9_valley_11 rfl rfl ?_
    refine T_if_lt (pc := 12) (tgt := 20) dX9_valley_12 (by decide) (fun h4 => ?_) (fun h4 => ?_)
    · refine J_iconst (pc := 20) dX9_valley_20 ?_
      exact T_retI (pc := 21) rfl dX9_valley_21
    · refine J_iload_n (pc := 15) dX9_valley_15 rfl rfl ?_
      refine J_iconst (pc := 16) dX9_valley_16 ?_
      refine T_icmp_le (pc := 17) (tgt := 22) dX9_valley_17 (by decide) (fun h5 => ?_) (fun h5 => ?_)
      · refine J_aload_n (pc := 22) dX9_valley_22 rfl rfl rfl ?_
        refine J_aload_n (pc := 23) dX9_valley_23 rfl rfl rfl ?_
        refine J_iload_n (pc := 24) dX9_valley_24 rfl rfl ?_
        refine J_iload_n (pc := 25) dX9_valley_25 rfl rfl ?_
        refine T_callVI (pc := 26) (As := [.int (iI p0), .int (iI p1)]) (k := 0) (st := [.ref 0]) ok_yX9_factOfValley lm_X9_168 dX9_valley_26 (by decide) rfl rfl (by decide) (Nat.le_of_ble_eq_true rfl) (m_X9_factOfValley m1 p0 p1) (fun r7 m6 em6 => ?_)
        refine tp_X9_85 (pc := 29) rfl dX9_valley_29 ?_
        refine T_vm (fun m8 em8 => ?_)
        refine J_iconst (pc := 32) dX9_valley_32 ?_
        exact T_retI (pc := 33) rfl dX9_valley_33
      · refine J_iconst (pc := 20) dX9_valley_20 ?_
        exact T_retI (pc := 21) rfl dX9_valley_21
def f_X9_markOf (m0 : Mem) (p0 : Int) (p1 : Int) : Option (Int × Mem) := if w32 p1 = 1 then (bd (f_X1_isDown m0 13) fun r3 m2 => if w32 r3 = 0 then (bd (f_X1_isAtEvenPlace m2 13) fun r6 m5 => vl (if w32 r6 = 0 then 0 else 1) fun v7 => some (v7, m5)) else (some (0, m2))) else (if w32 p1 = 2 then (ck 2 6 (bd (f_J6_bitCount_0f7a4 m0 (m0 8 (w32 2).toNat)) fun r13 m12 => some ((m0 6 6) - r13, m12))) else (if w32 p1 = 3 then (ck 0 16 (some (zmax 0 (24 - (m0 (13 + 1) (w32 0).toNat)), m0))) else (if w32 p1 = 4 then (ck (7 + p0) 16 (ckz 2 (some (zdiv ((9 - (m0 (13 + 1) (w32 (7 + p0)).toNat)) + 1) 2, m0)))) else (ck (7 + p0) 16 (if w32 (m0 (13 + 1) (w32 (7 + p0)).toNat) < w32 1 then (some (0, m0)) else (ck (2 + p0) 16 (some (m0 (13 + 1) (w32 (2 + p0)).toNat, m0))))))))
set_option maxRecDepth 40000 in
theorem m_X9_markOf {l : Launch} {G : qG} (m0 : Mem) (p0 : Int) (p1 : Int) : qM l G 2 yX9_markOf cX9_markOf 3 (some .int) [.ref 0, .int (iI p0), .int (iI p1)] (lay m0) (lf eI (f_X9_markOf m0 p0 p1)) := by
  refine qM_of (L := [some (.ref 0), some (.int (iI p0)), some (.int (iI p1))]) (by decide +kernel) (Nat.le_of_ble_eq_true rfl) rfl ?_
  unfold f_X9_markOf
  refine J_iload_n (pc := 0) dX9_markOf_0 rfl rfl ?_
  by_cases h1 : w32 p1 = 1
  · rw [if_pos h1]
    refine J_swIn (pc := 1) (j := 1) (tgt := 32) dX9_markOf_1 h1 (by decide) (by decide) rfl (by decide) ?_
    refine J_aload_n (pc := 32) dX9_markOf_32 rfl rfl rfl ?_
    refine tg_X9_38 (pc := 33) rfl dX9_markOf_33 ?_
    refine T_callVI (pc := 36) (As := []) (k := 13) (st := []) ok_yX1_isDown lm_X9_196 dX9_markOf_36 (oDay_l (by unfold oDay; decide)) (oDay_o (by unfold oDay; decide)) rfl (by decide) (Nat.le_of_ble_eq_true rfl) (m_X1_isDown m0 13 (by unfold oDay; decide)) (fun r3 m2 em2 => ?_)
    refine T_if_ne (pc := 39) (tgt := 56) dX9_markOf_39 (by decide) (fun h4 => ?_) (fun h4 => ?_)
    · refine J_iconst (pc := 56) dX9_markOf_56 ?_
      exact T_retI (pc := 57) rfl dX9_markOf_57
    · refine J_aload_n (pc := 42) dX9_markOf_42 rfl rfl rfl ?_
      refine tg_X9_38 (pc := 43) rfl dX9_markOf_43 ?_
      refine T_callVI (pc := 46) (As := []) (k := 13) (st := []) ok_yX1_isAtEvenPlace lm_X9_351 dX9_markOf_46 (oDay_l (by unfold oDay; decide)) (oDay_o (by unfold oDay; decide)) rfl (by decide) (Nat.le_of_ble_eq_true rfl) (m_X1_isAtEvenPlace m2 13 (by unfold oDay; decide)) (fun r6 m5 em5 => ?_)
      refine T_vl (fun v7 ev7 => ?_)
      refine T_dia (j := 57) (v := v7) (LT := [some (.ref 0), some (.int (iI p0)), some (.int (iI p1))]) (sT := []) ?_ (fun hj8 => ?_)
      · exact T_retI (pc := 57) rfl dX9_markOf_57
      · refine T_if_eq_same (pc := 49) (tgt := 56) dX9_markOf_49 (by decide) (fun h9 => ?_) (fun h9 => ?_)
        · refine J_iconst (pc := 56) dX9_markOf_56 ?_
          exact T_top (by rw [ev7, if_pos h9]) hj8
        · refine J_iconst (pc := 52) dX9_markOf_52 ?_
          refine J_goto (pc := 53) (tgt := 57) dX9_markOf_53 (by decide) ?_
          exact T_top (by rw [ev7, if_neg h9]) hj8
  rw [if_neg h1]
  by_cases h10 : w32 p1 = 2
  · rw [if_pos h10]
    refine J_swIn (pc := 1) (j := 2) (tgt := 58) dX9_markOf_1 h10 (by decide) (by decide) rfl (by decide) ?_
    refine J_aload_n (pc := 58) dX9_markOf_58 rfl rfl rfl ?_
    refine tg_X9_31 (pc := 59) rfl dX9_markOf_59 ?_
    refine tg_X9_156 (pc := 62) rfl dX9_markOf_62 ?_
    refine J_aload_n (pc := 65) dX9_markOf_65 rfl rfl rfl ?_
    refine tg_X9_31 (pc := 66) rfl dX9_markOf_66 ?_
    refine tg_X9_171 (pc := 69) rfl dX9_markOf_69 ?_
    refine J_iconst (pc := 72) dX9_markOf_72 ?_
    refine T_iaload (pc := 73) (by decide) rfl dX9_markOf_73 (fun h11 => ?_)
    refine T_callSI (pc := 74) (As := [.int (iI (m0 8 (w32 2).toNat))]) (st := [.int (iI (m0 6 6))]) ok_yJ6_bitCount_0f7a4 lm_X9_273 dX9_markOf_74 (by decide) (Nat.le_of_ble_eq_true rfl) (m_J6_bitCount_0f7a4 m0 (m0 8 (w32 2).toNat)) (fun r13 m12 em12 => ?_)
    refine J_isub (pc := 77) dX9_markOf_77 ?_
    exact T_retI (pc := 78) rfl dX9_markOf_78
  rw [if_neg h10]
  by_cases h14 : w32 p1 = 3
  · rw [if_pos h14]
    refine J_swIn (pc := 1) (j := 3) (tgt := 79) dX9_markOf_1 h14 (by decide) (by decide) rfl (by decide) ?_
    refine J_iconst (pc := 79) dX9_markOf_79 ?_
    refine J_bipush (pc := 80) dX9_markOf_80 (by decide) (by decide) ?_
    refine J_aload_n (pc := 82) dX9_markOf_82 rfl rfl rfl ?_
    refine tg_X9_38 (pc := 83) rfl dX9_markOf_83 ?_
    refine tg_X9_193 (pc := 86) (by unfold oDay; decide) rfl dX9_markOf_86 ?_
    refine J_iconst (pc := 89) dX9_markOf_89 ?_
    refine T_iaload (pc := 90) (oDay_l1 (by unfold oDay; decide)) (oDay_a1 (by unfold oDay; decide)) dX9_markOf_90 (fun h15 => ?_)
    refine J_isub (pc := 91) dX9_markOf_91 ?_
    refine J_max (pc := 92) (by decide) lm_X9_354 (Nat.le_of_ble_eq_true rfl) dX9_markOf_92 ?_
    exact T_retI (pc := 95) rfl dX9_markOf_95
  rw [if_neg h14]
  by_cases h16 : w32 p1 = 4
  · rw [if_pos h16]
    refine J_swIn (pc := 1) (j := 4) (tgt := 96) dX9_markOf_1 h16 (by decide) (by decide) rfl (by decide) ?_
    refine J_bipush (pc := 96) dX9_markOf_96 (by decide) (by decide) ?_
    refine J_aload_n (pc := 98) dX9_markOf_98 rfl rfl rfl ?_
    refine tg_X9_38 (pc := 99) rfl dX9_markOf_99 ?_
    refine tg_X9_193 (pc := 102) (by unfold oDay; decide) rfl dX9_markOf_102 ?_
    refine J_bipush (pc := 105) dX9_markOf_105 (by decide) (by decide) ?_
    refine J_iload_n (pc := 107) dX9_markOf_107 rfl rfl ?_
    refine J_iadd (pc := 108) dX9_markOf_108 ?_
    refine T_iaload (pc := 109) (oDay_l1 (by unfold oDay; decide)) (oDay_a1 (by unfold oDay; decide)) dX9_markOf_109 (fun h17 => ?_)
    refine J_isub (pc := 110) dX9_markOf_110 ?_
    refine J_iconst (pc := 111) dX9_markOf_111 ?_
    refine J_iadd (pc := 112) dX9_markOf_112 ?_
    refine J_iconst (pc := 113) dX9_markOf_113 ?_
    refine T_idiv (pc := 114) dX9_markOf_114 ?_
    exact T_retI (pc := 115) rfl dX9_markOf_115
  rw [if_neg h16]
  refine J_swOut (pc := 1) (tgt := 116) dX9_markOf_1 (by omega) (by decide) ?_
  refine J_aload_n (pc := 116) dX9_markOf_116 rfl rfl rfl ?_
  refine tg_X9_38 (pc := 117) rfl dX9_markOf_117 ?_
  refine tg_X9_193 (pc := 120) (by unfold oDay; decide) rfl dX9_markOf_120 ?_
  refine J_bipush (pc := 123) dX9_markOf_123 (by decide) (by decide) ?_
  refine J_iload_n (pc := 125) dX9_markOf_125 rfl rfl ?_
  refine J_iadd (pc := 126) dX9_markOf_126 ?_
  refine T_iaload (pc := 127) (oDay_l1 (by unfold oDay; decide)) (oDay_a1 (by unfold oDay; decide)) dX9_markOf_127 (fun h18 => ?_)
  refine J_iconst (pc := 128) dX9_markOf_128 ?_
  refine T_icmp_lt (pc := 129) (tgt := 146) dX9_markOf_129 (by decide) (fun h19 => ?_) (fun h19 => ?_)
  · refine J_iconst (pc := 146) dX9_markOf_146 ?_
    exact T_retI (pc := 147) rfl dX9_markOf_147
  · refine J_aload_n (pc := 132) dX9_markOf_132 rfl rfl rfl ?_
    refine tg_X9_38 (pc := 133) rfl dX9_markOf_133 ?_
    refine tg_X9_193 (pc := 136) (by unfold oDay; decide) rfl dX9_markOf_136 ?_
    refine J_iconst (pc := 139) dX9_markOf_139 ?_
    refine J_iload_n (pc := 140) dX9_markOf_140 rfl rfl ?_
    refine J_iadd (pc := 141) dX9_markOf_141 ?_
    refine T_iaload (pc := 142) (oDay_l1 (by unfold oDay; decide)) (oDay_a1 (by unfold oDay; decide)) dX9_markOf_142 (fun h20 => ?_)
    refine J_goto (pc := 143) (tgt := 147) dX9_markOf_143 (by decide) ?_
    exact T_retI (pc := 147) rfl dX9_markOf_147
def f_X9_mark (m0 : Mem) (p0 : Int) (p1 : Int) : Option (Int × Mem) := bd (f_X8_hasCape m0 p0) fun r2 m1 => if w32 r2 = 0 then (some ((-1), m1)) else (if 0 < w32 p1 then (if w32 p1 < w32 6 then (ck p1 6 (if w32 (zand (zshr (m1 8 (w32 p1).toNat) p0) 1) = 0 then (bd (f_X9_found m1 3) fun r11 m10 => some (r11, m10)) else (bd (f_X9_markOf m1 p0 p1) fun r9 m8 => some (r9, m8)))) else (some ((-1), m1))) else (some ((-1), m1)))
set_option maxRecDepth 40000 in
theorem m_X9_mark {l : Launch} {G : qG} (m0 : Mem) (p0 : Int) (p1 : Int) : qM l G 3 yX9_mark cX9_mark 3 (some .int) [.ref 0, .int (iI p0), .int (iI p1)] (lay m0) (lf eI (f_X9_mark m0 p0 p1)) := by
  refine qM_of (L := [some (.ref 0), some (.int (iI p0)), some (.int (iI p1))]) (by decide +kernel) (Nat.le_of_ble_eq_true rfl) rfl ?_
  unfold f_X9_mark
  refine J_aload_n (pc := 0) dX9_mark_0 rfl rfl rfl ?_
  refine tg_X9_31 (pc := 1) rfl dX9_mark_1 ?_
  refine J_iload_n (pc := 4) dX9_mark_4 rfl rfl ?_
  refine T_callVI (pc := 5) (As := [.int (iI p0)]) (k := 6) (st := []) ok_yX8_hasCape lm_X9_159 dX9_mark_5 (by decide) rfl rfl (by decide) (Nat.le_of_ble_eq_true rfl) (m_X8_hasCape m0 p0) (fun r2 m1 em1 => ?_)
  refine T_if_eq (pc := 8) (tgt := 21) dX9_mark_8 (by decide) (fun h3 => ?_) (fun h3 => ?_)
  · refine J_iconst (pc := 21) dX9_mark_21 ?_
    exact T_retI (pc := 22) rfl dX9_mark_22
  · refine J_iload_n (pc := 11) dX9_mark_11 rfl rfl ?_
    refine T_if_le (pc := 12) (tgt := 21) dX9_mark_12 (by decide) (fun h4 => ?_) (fun h4 => ?_)
    · refine J_iconst (pc := 21) dX9_mark_21 ?_
      exact T_retI (pc := 22) rfl dX9_mark_22
    · refine J_iload_n (pc := 15) dX9_mark_15 rfl rfl ?_
      refine J_bipush (pc := 16) dX9_mark_16 (by decide) (by decide) ?_
      refine T_icmp_lt (pc := 18) (tgt := 23) dX9_mark_18 (by decide) (fun h5 => ?_) (fun h5 => ?_)
      · refine J_aload_n (pc := 23) dX9_mark_23 rfl rfl rfl ?_
        refine tg_X9_31 (pc := 24) rfl dX9_mark_24 ?_
        refine tg_X9_171 (pc := 27) rfl dX9_mark_27 ?_
        refine J_iload_n (pc := 30) dX9_mark_30 rfl rfl ?_
        refine T_iaload (pc := 31) (by decide) rfl dX9_mark_31 (fun h6 => ?_)
        refine J_iload_n (pc := 32) dX9_mark_32 rfl rfl ?_
        refine J_ishr (pc := 33) dX9_mark_33 ?_
        refine J_iconst (pc := 34) dX9_mark_34 ?_
        refine J_iand (pc := 35) dX9_mark_35 ?_
        refine T_if_ne (pc := 36) (tgt := 45) dX9_mark_36 (by decide) (fun h7 => ?_) (fun h7 => ?_)
        · refine J_aload_n (pc := 45) dX9_mark_45 rfl rfl rfl ?_
          refine J_iload_n (pc := 46) dX9_mark_46 rfl rfl ?_
          refine J_iload_n (pc := 47) dX9_mark_47 rfl rfl ?_
          refine T_callVI (pc := 48) (As := [.int (iI p0), .int (iI p1)]) (k := 0) (st := []) ok_yX9_markOf lm_X9_174 dX9_mark_48 (by decide) rfl rfl (by decide) (Nat.le_of_ble_eq_true rfl) (m_X9_markOf m1 p0 p1) (fun r9 m8 em8 => ?_)
          exact T_retI (pc := 51) rfl dX9_mark_51
        · refine J_aload_n (pc := 39) dX9_mark_39 rfl rfl rfl ?_
          refine J_iconst (pc := 40) dX9_mark_40 ?_
          refine T_callVI (pc := 41) (As := [.int (iI 3)]) (k := 0) (st := []) ok_yX9_found lm_X9_104 dX9_mark_41 (by decide) rfl rfl (by decide) (Nat.le_of_ble_eq_true rfl) (m_X9_found m1 3) (fun r11 m10 em10 => ?_)
          exact T_retI (pc := 44) rfl dX9_mark_44
      · refine J_iconst (pc := 21) dX9_mark_21 ?_
        exact T_retI (pc := 22) rfl dX9_mark_22
def f_X9_price (m0 : Mem) (p0 : Int) (p1 : Int) : Option (Int × Mem) := bd (f_X8_hasValley m0 p0) fun r2 m1 => if w32 r2 = 0 then (some ((-1), m1)) else (if w32 p1 < 0 then (some ((-1), m1)) else (if w32 9 < w32 p1 then (some ((-1), m1)) else (ck p0 4 (vl (m1 12 (w32 p0).toNat) fun x7 => ck p0 4 (vm (wr m1 12 (w32 p0).toNat p1) fun m9 => some (x7, m9))))))
set_option maxRecDepth 40000 in
theorem m_X9_price {l : Launch} {G : qG} (m0 : Mem) (p0 : Int) (p1 : Int) : qM l G 2 yX9_price cX9_price 4 (some .int) [.ref 0, .int (iI p0), .int (iI p1)] (lay m0) (lf eI (f_X9_price m0 p0 p1)) := by
  refine qM_of (L := [some (.ref 0), some (.int (iI p0)), some (.int (iI p1)), none]) (by decide +kernel) (Nat.le_of_ble_eq_true rfl) rfl ?_
  unfold f_X9_price
  refine J_aload_n (pc := 0) dX9_price_0 rfl rfl rfl ?_
  refine tg_X9_31 (pc := 1) rfl dX9_price_1 ?_
  refine J_iload_n (pc := 4) dX9_price_4 rfl rfl ?_
  refine T_callVI (pc := 5) (As := [.int (iI p0)]) (k := 6) (st := []) ok_yX8_hasValley lm_X9_165 dX9_price_5 (by decide) rfl rfl (by decide) (Nat.le_of_ble_eq_true rfl) (m_X8_hasValley m0 p0) (fun r2 m1 em1 => ?_)
  refine T_if_eq (pc := 8) (tgt := 21) dX9_price_8 (by decide) (fun h3 => ?_) (fun h3 => ?_)
  · refine J_iconst (pc := 21) dX9_price_21 ?_
    exact T_retI (pc := 22) rfl dX9_price_22
  · refine J_iload_n (pc := 11) dX9_price_11 rfl rfl ?_
    refine T_if_lt (pc := 12) (tgt := 21) dX9_price_12 (by decide) (fun h4 => ?_) (fun h4 => ?_)
    · refine J_iconst (pc := 21) dX9_price_21 ?_
      exact T_retI (pc := 22) rfl dX9_price_22
    · refine J_iload_n (pc := 15) dX9_price_15 rfl rfl ?_
      refine J_bipush (pc := 16) dX9_price_16 (by decide) (by decide) ?_
      refine T_icmp_le (pc := 18) (tgt := 23) dX9_price_18 (by decide) (fun h5 => ?_) (fun h5 => ?_)
      · refine J_aload_n (pc := 23) dX9_price_23 rfl rfl rfl ?_
        refine tg_X9_31 (pc := 24) rfl dX9_price_24 ?_
        refine tg_X9_177 (pc := 27) rfl dX9_price_27 ?_
        refine J_iload_n (pc := 30) dX9_price_30 rfl rfl ?_
        refine T_iaload (pc := 31) (by decide) rfl dX9_price_31 (fun h6 => ?_)
        refine T_vlI (pc := 32) (fun x7 ex7 => ?_)
        refine J_istore_n (pc := 32) (L' := [some (.ref 0), some (.int (iI p0)), some (.int (iI p1)), some (.int (iI x7))]) dX9_price_32 rfl (by decide) rfl rfl ?_
        refine J_aload_n (pc := 33) dX9_price_33 rfl rfl rfl ?_
        refine tg_X9_31 (pc := 34) rfl dX9_price_34 ?_
        refine tg_X9_177 (pc := 37) rfl dX9_price_37 ?_
        refine J_iload_n (pc := 40) dX9_price_40 rfl rfl ?_
        refine J_iload_n (pc := 41) dX9_price_41 rfl rfl ?_
        refine T_iastore (pc := 42) (by decide) rfl dX9_price_42 (fun h8 => ?_)
        refine T_vm (fun m9 em9 => ?_)
        refine J_iload_n (pc := 43) dX9_price_43 rfl rfl ?_
        exact T_retI (pc := 44) rfl dX9_price_44
      · refine J_iconst (pc := 21) dX9_price_21 ?_
        exact T_retI (pc := 22) rfl dX9_price_22
def f_X8_allCapes (m0 : Mem) : Option (Int × Mem) := some ((zshl 1 (m0 6 6)) - 1, m0)
set_option maxRecDepth 40000 in
theorem m_X8_allCapes {l : Launch} {G : qG} (m0 : Mem) : qM l G 1 yX8_allCapes cX8_allCapes 1 (some .int) [.ref 6] (lay m0) (lf eI (f_X8_allCapes m0)) := by
  refine qM_of (L := [some (.ref 6)]) (by decide +kernel) (Nat.le_of_ble_eq_true rfl) rfl ?_
  unfold f_X8_allCapes
  refine J_iconst (pc := 0) dX8_allCapes_0 ?_
  refine J_aload_n (pc := 1) dX8_allCapes_1 rfl rfl rfl ?_
  refine tg_X8_30 (pc := 2) rfl dX8_allCapes_2 ?_
  refine J_ishl (pc := 5) dX8_allCapes_5 ?_
  refine J_iconst (pc := 6) dX8_allCapes_6 ?_
  refine J_isub (pc := 7) dX8_allCapes_7 ?_
  exact T_retI (pc := 8) rfl dX8_allCapes_8
def f_X8_hasSet (m0 : Mem) (p0 : Int) : Option (Int × Mem) := if w32 p0 < 0 then (some (0, m0)) else (bd (f_X8_allCapes m0) fun r3 m2 => vl (if w32 r3 < w32 p0 then 0 else 1) fun v4 => some (v4, m2))
set_option maxRecDepth 40000 in
theorem m_X8_hasSet {l : Launch} {G : qG} (m0 : Mem) (p0 : Int) : qM l G 2 yX8_hasSet cX8_hasSet 2 (some .boolean) [.ref 6, .int (iI p0)] (lay m0) (lf eI (f_X8_hasSet m0 p0)) := by
  refine qM_of (L := [some (.ref 6), some (.int (iI p0))]) (by decide +kernel) (Nat.le_of_ble_eq_true rfl) rfl ?_
  unfold f_X8_hasSet
  refine J_iload_n (pc := 0) dX8_hasSet_0 rfl rfl ?_
  refine T_if_lt (pc := 1) (tgt := 16) dX8_hasSet_1 (by decide) (fun h1 => ?_) (fun h1 => ?_)
  · refine J_iconst (pc := 16) dX8_hasSet_16 ?_
    exact T_retZ (pc := 17) rfl (by decide) dX8_hasSet_17
  · refine J_iload_n (pc := 4) dX8_hasSet_4 rfl rfl ?_
    refine J_aload_n (pc := 5) dX8_hasSet_5 rfl rfl rfl ?_
    refine T_callVI (pc := 6) (As := []) (k := 6) (st := [.int (iI p0)]) ok_yX8_allCapes lm_X8_56 dX8_hasSet_6 (by decide) rfl rfl (by decide) (Nat.le_of_ble_eq_true rfl) (m_X8_allCapes m0) (fun r3 m2 em2 => ?_)
    refine T_vl (fun v4 ev4 => ?_)
    refine T_dia (j := 17) (v := v4) (LT := [some (.ref 6), some (.int (iI p0))]) (sT := []) ?_ (fun hj5 => ?_)
    · exact T_retZ (pc := 17) rfl (by rw [ev4]; repeat' (first | exact Or.inl rfl | exact Or.inr rfl | split)) dX8_hasSet_17
    · refine T_icmp_gt_same (pc := 9) (tgt := 16) dX8_hasSet_9 (by decide) (fun h6 => ?_) (fun h6 => ?_)
      · refine J_iconst (pc := 16) dX8_hasSet_16 ?_
        exact T_top (by rw [ev4, if_pos h6]) hj5
      · refine J_iconst (pc := 12) dX8_hasSet_12 ?_
        refine J_goto (pc := 13) (tgt := 17) dX8_hasSet_13 (by decide) ?_
        exact T_top (by rw [ev4, if_neg h6]) hj5
def f_X2_writeLast (m0 : Mem) (t : Nat) : Option (Unit × Mem) := if w32 (m0 t 2) < 0 then (some ((), m0)) else (if w32 60 < w32 (m0 t 2) then (some ((), m0)) else (ckc 0 ((m0 t 2) * 16) 16 16 976 (vm (cpy m0 (13 + 1) (t + 1) (w32 0).toNat (w32 ((m0 t 2) * 16)).toNat (w32 16).toNat) fun m3 => some ((), m3))))
set_option maxRecDepth 40000 in
theorem m_X2_writeLast {l : Launch} {G : qG} (m0 : Mem) (t : Nat) (ht : oDiary t) : qM l G 1 yX2_writeLast cX2_writeLast 2 none [.ref t, .ref 13] (lay m0) (lf eU (f_X2_writeLast m0 t)) := by
  refine qM_of (L := [some (.ref t), some (.ref 13)]) (by decide +kernel) (Nat.le_of_ble_eq_true rfl) rfl ?_
  unfold f_X2_writeLast
  refine J_aload_n (pc := 0) dX2_writeLast_0 rfl rfl rfl ?_
  refine tg_X2_18 (pc := 1) ht rfl dX2_writeLast_1 ?_
  refine T_if_lt (pc := 4) (tgt := 37) dX2_writeLast_4 (by decide) (fun h1 => ?_) (fun h1 => ?_)
  · exact T_retV (pc := 37) rfl dX2_writeLast_37
  · refine J_aload_n (pc := 7) dX2_writeLast_7 rfl rfl rfl ?_
    refine tg_X2_18 (pc := 8) ht rfl dX2_writeLast_8 ?_
    refine J_bipush (pc := 11) dX2_writeLast_11 (by decide) (by decide) ?_
    refine T_icmp_gt (pc := 13) (tgt := 37) dX2_writeLast_13 (by decide) (fun h2 => ?_) (fun h2 => ?_)
    · exact T_retV (pc := 37) rfl dX2_writeLast_37
    · refine J_aload_n (pc := 16) dX2_writeLast_16 rfl rfl rfl ?_
      refine tg_X2_22 (pc := 17) (by unfold oDay; decide) rfl dX2_writeLast_17 ?_
      refine J_iconst (pc := 20) dX2_writeLast_20 ?_
      refine J_aload_n (pc := 21) dX2_writeLast_21 rfl rfl rfl ?_
      refine tg_X2_9 (pc := 22) ht rfl dX2_writeLast_22 ?_
      refine J_aload_n (pc := 25) dX2_writeLast_25 rfl rfl rfl ?_
      refine tg_X2_18 (pc := 26) ht rfl dX2_writeLast_26 ?_
      refine J_bipush (pc := 29) dX2_writeLast_29 (by decide) (by decide) ?_
      refine J_imul (pc := 31) dX2_writeLast_31 ?_
      refine J_bipush (pc := 32) dX2_writeLast_32 (by decide) (by decide) ?_
      refine T_copy (pc := 34) (by decide) lm_X2_27 (Nat.le_of_ble_eq_true rfl) (oDay_l1 (by unfold oDay; decide)) (oDay_a1 (by unfold oDay; decide)) (oDiary_l1 ht) (oDiary_a1 ht) dX2_writeLast_34 ?_
      refine T_vm (fun m3 em3 => ?_)
      exact T_retV (pc := 37) rfl dX2_writeLast_37
def f_X2_write (m0 : Mem) (t : Nat) : Option (Unit × Mem) := bd (f_X2_writeLast m0 t) fun _u m1 => vm (wr m1 t 2 ((m1 t 2) + 1)) fun m2 => some ((), m2)
set_option maxRecDepth 40000 in
theorem m_X2_write {l : Launch} {G : qG} (m0 : Mem) (t : Nat) (ht : oDiary t) : qM l G 2 yX2_write cX2_write 2 none [.ref t, .ref 13] (lay m0) (lf eU (f_X2_write m0 t)) := by
  refine qM_of (L := [some (.ref t), some (.ref 13)]) (by decide +kernel) (Nat.le_of_ble_eq_true rfl) rfl ?_
  unfold f_X2_write
  refine J_aload_n (pc := 0) dX2_write_0 rfl rfl rfl ?_
  refine J_aload_n (pc := 1) dX2_write_1 rfl rfl rfl ?_
  refine T_callVU (pc := 2) (As := [.ref 13]) (k := t) (st := []) ok_yX2_writeLast lm_X2_33 dX2_write_2 (oDiary_l ht) (oDiary_o ht) rfl (by decide) (Nat.le_of_ble_eq_true rfl) (m_X2_writeLast m0 t ht) (fun _u m1 em1 => ?_)
  refine J_aload_n (pc := 5) dX2_write_5 rfl rfl rfl ?_
  refine J_dup (pc := 6) dX2_write_6 rfl ?_
  refine tg_X2_18 (pc := 7) ht rfl dX2_write_7 ?_
  refine J_iconst (pc := 10) dX2_write_10 ?_
  refine J_iadd (pc := 11) dX2_write_11 ?_
  refine tp_X2_18 (pc := 12) ht rfl dX2_write_12 ?_
  refine T_vm (fun m2 em2 => ?_)
  exact T_retV (pc := 15) rfl dX2_write_15
def f_X8_gainOf (m0 : Mem) (p0 : Int) (p1 : Int) : Option (Int × Mem) := ckz 6 (vl (zdiv p1 6) fun x1 => jn (κ := Int → Mem → Option (Int × Mem)) (fun s4 m3 => ck p0 4 (vl (if w32 (m3 9 (w32 p0).toNat) = w32 1 then 1 else 0) fun v6 => if w32 s4 = w32 v6 then (ck p0 4 (some (m3 12 (w32 p0).toNat, m3))) else (some (0, m3)))) fun k2 => jn (κ := Mem → Option (Int × Mem)) (fun m12 => k2 0 m12) fun k11 => if w32 p1 < w32 48 then (ck p0 4 (if w32 x1 < w32 (m0 10 (w32 p0).toNat) then (k11 m0) else (ck p0 4 (if w32 (m0 11 (w32 p0).toNat) < w32 x1 then (k11 m0) else (k2 1 m0))))) else (k11 m0))
set_option maxRecDepth 40000 in
theorem m_X8_gainOf {l : Launch} {G : qG} (m0 : Mem) (p0 : Int) (p1 : Int) : qM l G 1 yX8_gainOf cX8_gainOf 5 (some .int) [.ref 6, .int (iI p0), .int (iI p1)] (lay m0) (lf eI (f_X8_gainOf m0 p0 p1)) := by
  refine qM_of (L := [some (.ref 6), some (.int (iI p0)), some (.int (iI p1)), none, none]) (by decide +kernel) (Nat.le_of_ble_eq_true rfl) rfl ?_
  unfold f_X8_gainOf
  refine J_iload_n (pc := 0) dX8_gainOf_0 rfl rfl ?_
  refine J_bipush (pc := 1) dX8_gainOf_1 (by decide) (by decide) ?_
  refine T_idiv (pc := 3) dX8_gainOf_3 ?_
  refine T_vlI (pc := 4) (fun x1 ex1 => ?_)
  refine J_istore_n (pc := 4) (L' := [some (.ref 6), some (.int (iI p0)), some (.int (iI p1)), some (.int (iI x1)), none]) dX8_gainOf_4 rfl (by decide) rfl rfl ?_
  refine J_iload_n (pc := 5) dX8_gainOf_5 rfl rfl ?_
  refine J_bipush (pc := 6) dX8_gainOf_6 (by decide) (by decide) ?_
  refine T_jn (κ := Int → Mem → Option (Int × Mem)) (fun k => ∀ (s4 : Int) (m3 : Mem), qJ l G yX8_gainOf cX8_gainOf 5 (some .int) 1 36 [some (.ref 6), some (.int (iI p0)), none, none, none] [.int (iI s4)] (lay m3) (lf eI (k s4 m3))) ?_ (fun k2 hk2 => ?_)
  · intro s4 m3
    refine J_istore (pc := 36) (L' := [some (.ref 6), some (.int (iI p0)), none, none, some (.int (iI s4))]) dX8_gainOf_36 (by decide) rfl rfl ?_
    refine J_iload (pc := 38) dX8_gainOf_38 rfl ?_
    refine J_aload_n (pc := 40) dX8_gainOf_40 rfl rfl rfl ?_
    refine tg_X8_18 (pc := 41) rfl dX8_gainOf_41 ?_
    refine J_iload_n (pc := 44) dX8_gainOf_44 rfl rfl ?_
    refine T_iaload (pc := 45) (by decide) rfl dX8_gainOf_45 (fun h5 => ?_)
    refine J_iconst (pc := 46) dX8_gainOf_46 ?_
    refine T_vl (fun v6 ev6 => ?_)
    refine T_dia (j := 55) (v := v6) (LT := [some (.ref 6), some (.int (iI p0)), none, none, some (.int (iI s4))]) (sT := [.int (iI s4)]) ?_ (fun hj7 => ?_)
    · refine T_icmp_ne (pc := 55) (tgt := 67) dX8_gainOf_55 (by decide) (fun h8 => ?_) (fun h8 => ?_)
      · refine J_iconst (pc := 67) dX8_gainOf_67 ?_
        exact T_retI (pc := 68) rfl dX8_gainOf_68
      · refine J_aload_n (pc := 58) dX8_gainOf_58 rfl rfl rfl ?_
        refine tg_X8_27 (pc := 59) rfl dX8_gainOf_59 ?_
        refine J_iload_n (pc := 62) dX8_gainOf_62 rfl rfl ?_
        refine T_iaload (pc := 63) (by decide) rfl dX8_gainOf_63 (fun h9 => ?_)
        refine J_goto (pc := 64) (tgt := 68) dX8_gainOf_64 (by decide) ?_
        exact T_retI (pc := 68) rfl dX8_gainOf_68
    · refine T_icmp_ne_same (pc := 47) (tgt := 54) dX8_gainOf_47 (by decide) (fun h10 => ?_) (fun h10 => ?_)
      · refine J_iconst (pc := 54) dX8_gainOf_54 ?_
        exact T_top (by rw [ev6, if_neg h10]) hj7
      · refine J_iconst (pc := 50) dX8_gainOf_50 ?_
        refine J_goto (pc := 51) (tgt := 55) dX8_gainOf_51 (by decide) ?_
        exact T_top (by rw [ev6, if_pos h10]) hj7
  · refine T_jn (κ := Mem → Option (Int × Mem)) (fun k => ∀ (m12 : Mem), qJ l G yX8_gainOf cX8_gainOf 5 (some .int) 1 35 [some (.ref 6), some (.int (iI p0)), none, none, none] [] (lay m12) (lf eI (k m12))) ?_ (fun k11 hk11 => ?_)
    · intro m12
      refine J_iconst (pc := 35) dX8_gainOf_35 ?_
      exact hk2 0 m12
    · refine T_icmp_ge (pc := 8) (tgt := 35) dX8_gainOf_8 (by decide) (fun h13 => ?_) (fun h13 => ?_)
      · refine J_dropf (pc := 35) (L' := [some (.ref 6), some (.int (iI p0)), none, none, none]) [true, true, false, false, false] rfl ?_
        exact hk11  m0
      · refine J_iload_n (pc := 11) dX8_gainOf_11 rfl rfl ?_
        refine J_aload_n (pc := 12) dX8_gainOf_12 rfl rfl rfl ?_
        refine tg_X8_21 (pc := 13) rfl dX8_gainOf_13 ?_
        refine J_iload_n (pc := 16) dX8_gainOf_16 rfl rfl ?_
        refine T_iaload (pc := 17) (by decide) rfl dX8_gainOf_17 (fun h14 => ?_)
        refine T_icmp_lt (pc := 18) (tgt := 35) dX8_gainOf_18 (by decide) (fun h15 => ?_) (fun h15 => ?_)
        · refine J_dropf (pc := 35) (L' := [some (.ref 6), some (.int (iI p0)), none, none, none]) [true, true, false, false, false] rfl ?_
          exact hk11  m0
        · refine J_iload_n (pc := 21) dX8_gainOf_21 rfl rfl ?_
          refine J_aload_n (pc := 22) dX8_gainOf_22 rfl rfl rfl ?_
          refine tg_X8_24 (pc := 23) rfl dX8_gainOf_23 ?_
          refine J_iload_n (pc := 26) dX8_gainOf_26 rfl rfl ?_
          refine T_iaload (pc := 27) (by decide) rfl dX8_gainOf_27 (fun h16 => ?_)
          refine T_icmp_gt (pc := 28) (tgt := 35) dX8_gainOf_28 (by decide) (fun h17 => ?_) (fun h17 => ?_)
          · refine J_dropf (pc := 35) (L' := [some (.ref 6), some (.int (iI p0)), none, none, none]) [true, true, false, false, false] rfl ?_
            exact hk11  m0
          · refine J_iconst (pc := 31) dX8_gainOf_31 ?_
            refine J_goto (pc := 32) (tgt := 36) dX8_gainOf_32 (by decide) ?_
            refine J_dropf (pc := 36) (L' := [some (.ref 6), some (.int (iI p0)), none, none, none]) [true, true, false, false, false] rfl ?_
            exact hk2 1 m0
def f_X1_collect_L2 (t : Nat) : Nat → Int → Mem → Option (Unit × Mem)
  | 0, _, _ => none
  | u + 1, i2, mu2 => if w32 i2 < w32 (mu2 6 7) then (ck (12 + i2) 16 (ck 0 16 (bd (f_X8_gainOf mu2 i2 (mu2 (t + 1) (w32 0).toNat)) fun r5 m4 => ck (12 + i2) 16 (vm (wr m4 (t + 1) (w32 (12 + i2)).toNat ((mu2 (t + 1) (w32 (12 + i2)).toNat) + r5)) fun m7 => f_X1_collect_L2 t u (i2 + 1) m7)))) else (some ((), mu2))
set_option maxRecDepth 40000 in
theorem j_X1_collect_L2 {l : Launch} {G : qG} {t : Nat} (ht : oDay t) : ∀ (u : Nat) (i2 : Int) (mu2 : Mem), qJ l G yX1_collect cX1_collect 3 none 2 2 [some (.ref t), some (.ref 6), some (.int (iI i2))] [] (lay mu2) (lf eU (f_X1_collect_L2 t u i2 mu2)) := by
  intro u
  induction u with
  | zero => intro _ mu2; exact T_none
  | succ u ih =>
    intro i2 mu2
    rw [f_X1_collect_L2]
    refine J_iload_n (pc := 2) dX1_collect_2 rfl rfl ?_
    refine J_aload_n (pc := 3) dX1_collect_3 rfl rfl rfl ?_
    refine tg_X1_76 (pc := 4) rfl dX1_collect_4 ?_
    refine T_icmp_ge (pc := 7) (tgt := 39) dX1_collect_7 (by decide) (fun h1 => ?_) (fun h1 => ?_)
    · exact T_retV (pc := 39) rfl dX1_collect_39
    · refine J_aload_n (pc := 10) dX1_collect_10 rfl rfl rfl ?_
      refine tg_X1_9 (pc := 11) ht rfl dX1_collect_11 ?_
      refine J_bipush (pc := 14) dX1_collect_14 (by decide) (by decide) ?_
      refine J_iload_n (pc := 16) dX1_collect_16 rfl rfl ?_
      refine J_iadd (pc := 17) dX1_collect_17 ?_
      refine J_dup2 (pc := 18) dX1_collect_18 rfl rfl ?_
      refine T_iaload (pc := 19) (oDay_l1 ht) (oDay_a1 ht) dX1_collect_19 (fun h2 => ?_)
      refine J_aload_n (pc := 20) dX1_collect_20 rfl rfl rfl ?_
      refine J_iload_n (pc := 21) dX1_collect_21 rfl rfl ?_
      refine J_aload_n (pc := 22) dX1_collect_22 rfl rfl rfl ?_
      refine tg_X1_9 (pc := 23) ht rfl dX1_collect_23 ?_
      refine J_iconst (pc := 26) dX1_collect_26 ?_
      refine T_iaload (pc := 27) (oDay_l1 ht) (oDay_a1 ht) dX1_collect_27 (fun h3 => ?_)
      refine T_callVI (pc := 28) (As := [.int (iI i2), .int (iI (mu2 (t + 1) (w32 0).toNat))]) (k := 6) (st := [.int (iI (mu2 (t + 1) (w32 (12 + i2)).toNat)), .int (iI (12 + i2)), .ref (t + 1)]) ok_yX8_gainOf lm_X1_79 dX1_collect_28 (by decide) rfl rfl (by decide) (Nat.le_of_ble_eq_true rfl) (m_X8_gainOf mu2 i2 (mu2 (t + 1) (w32 0).toNat)) (fun r5 m4 em4 => ?_)
      refine J_iadd (pc := 31) dX1_collect_31 ?_
      refine T_iastore (pc := 32) (oDay_l1 ht) (oDay_a1 ht) dX1_collect_32 (fun h6 => ?_)
      refine T_vm (fun m7 em7 => ?_)
      refine J_iinc (pc := 33) (L' := [some (.ref t), some (.ref 6), some (.int (iI (i2 + 1)))]) dX1_collect_33 rfl (by decide) rfl rfl ?_
      refine J_goto (pc := 36) (tgt := 2) dX1_collect_36 (by decide) ?_
      exact ih (i2 + 1) m7
def f_X1_collect (m0 : Mem) (t : Nat) : Option (Unit × Mem) := f_X1_collect_L2 t 100000 0 m0
set_option maxRecDepth 40000 in
theorem m_X1_collect {l : Launch} {G : qG} (m0 : Mem) (t : Nat) (ht : oDay t) : qM l G 2 yX1_collect cX1_collect 3 none [.ref t, .ref 6] (lay m0) (lf eU (f_X1_collect m0 t)) := by
  refine qM_of (L := [some (.ref t), some (.ref 6), none]) (by decide +kernel) (Nat.le_of_ble_eq_true rfl) rfl ?_
  unfold f_X1_collect
  refine J_iconst (pc := 0) dX1_collect_0 ?_
  refine J_istore_n (pc := 1) (L' := [some (.ref t), some (.ref 6), some (.int (iI 0))]) dX1_collect_1 rfl (by decide) rfl rfl ?_
  refine j_X1_collect_L2 ht 100000 0 m0
def f_X1_minuteBehind (m0 : Mem) (t : Nat) (p1 : Int) : Option (Int × Mem) := bd (f_X1_isDown m0 t) fun r2 m1 => if w32 r2 = 0 then (vl (zand p1 (m1 t 1)) fun x4 => bd (f_J6_bitCount_0f7a4 m1 (zand x4 (m1 t 2))) fun r6 m5 => ck 0 16 (bd (f_X8_pullOf m5 x4) fun r9 m8 => some (((m5 (t + 1) (w32 0).toNat) + (zmax 1 (6 - r9))) + (2 * r6), m8))) else (ck 0 16 (some (m1 (t + 1) (w32 0).toNat, m1)))
set_option maxRecDepth 40000 in
theorem m_X1_minuteBehind {l : Launch} {G : qG} (m0 : Mem) (t : Nat) (p1 : Int) (ht : oDay t) : qM l G 3 yX1_minuteBehind cX1_minuteBehind 5 (some .int) [.ref t, .ref 6, .int (iI p1)] (lay m0) (lf eI (f_X1_minuteBehind m0 t p1)) := by
  refine qM_of (L := [some (.ref t), some (.ref 6), some (.int (iI p1)), none, none]) (by decide +kernel) (Nat.le_of_ble_eq_true rfl) rfl ?_
  unfold f_X1_minuteBehind
  refine J_aload_n (pc := 0) dX1_minuteBehind_0 rfl rfl rfl ?_
  refine T_callVI (pc := 1) (As := []) (k := t) (st := []) ok_yX1_isDown lm_X1_48 dX1_minuteBehind_1 (oDay_l ht) (oDay_o ht) rfl (by decide) (Nat.le_of_ble_eq_true rfl) (m_X1_isDown m0 t ht) (fun r2 m1 em1 => ?_)
  refine T_if_eq (pc := 4) (tgt := 14) dX1_minuteBehind_4 (by decide) (fun h3 => ?_) (fun h3 => ?_)
  · refine J_iload_n (pc := 14) dX1_minuteBehind_14 rfl rfl ?_
    refine J_aload_n (pc := 15) dX1_minuteBehind_15 rfl rfl rfl ?_
    refine tg_X1_15 (pc := 16) ht rfl dX1_minuteBehind_16 ?_
    refine J_iand (pc := 19) dX1_minuteBehind_19 ?_
    refine T_vlI (pc := 20) (fun x4 ex4 => ?_)
    refine J_istore_n (pc := 20) (L' := [some (.ref t), some (.ref 6), some (.int (iI p1)), some (.int (iI x4)), none]) dX1_minuteBehind_20 rfl (by decide) rfl rfl ?_
    refine J_iload_n (pc := 21) dX1_minuteBehind_21 rfl rfl ?_
    refine J_aload_n (pc := 22) dX1_minuteBehind_22 rfl rfl rfl ?_
    refine tg_X1_19 (pc := 23) ht rfl dX1_minuteBehind_23 ?_
    refine J_iand (pc := 26) dX1_minuteBehind_26 ?_
    refine T_callSI (pc := 27) (As := [.int (iI (zand x4 (m1 t 2)))]) (st := []) ok_yJ6_bitCount_0f7a4 lm_X1_61 dX1_minuteBehind_27 (by decide) (Nat.le_of_ble_eq_true rfl) (m_J6_bitCount_0f7a4 m1 (zand x4 (m1 t 2))) (fun r6 m5 em5 => ?_)
    refine J_istore (pc := 30) (L' := [some (.ref t), some (.ref 6), some (.int (iI p1)), some (.int (iI x4)), some (.int (iI r6))]) dX1_minuteBehind_30 (by decide) rfl rfl ?_
    refine J_aload_n (pc := 32) dX1_minuteBehind_32 rfl rfl rfl ?_
    refine tg_X1_9 (pc := 33) ht rfl dX1_minuteBehind_33 ?_
    refine J_iconst (pc := 36) dX1_minuteBehind_36 ?_
    refine T_iaload (pc := 37) (oDay_l1 ht) (oDay_a1 ht) dX1_minuteBehind_37 (fun h7 => ?_)
    refine J_iconst (pc := 38) dX1_minuteBehind_38 ?_
    refine J_bipush (pc := 39) dX1_minuteBehind_39 (by decide) (by decide) ?_
    refine J_aload_n (pc := 41) dX1_minuteBehind_41 rfl rfl rfl ?_
    refine J_iload_n (pc := 42) dX1_minuteBehind_42 rfl rfl ?_
    refine T_callVI (pc := 43) (As := [.int (iI x4)]) (k := 6) (st := [.int (iI 6), .int (iI 1), .int (iI (m5 (t + 1) (w32 0).toNat))]) ok_yX8_pullOf lm_X1_67 dX1_minuteBehind_43 (by decide) rfl rfl (by decide) (Nat.le_of_ble_eq_true rfl) (m_X8_pullOf m5 x4) (fun r9 m8 em8 => ?_)
    refine J_isub (pc := 46) dX1_minuteBehind_46 ?_
    refine J_max (pc := 47) (by decide) lm_X1_70 (Nat.le_of_ble_eq_true rfl) dX1_minuteBehind_47 ?_
    refine J_iadd (pc := 50) dX1_minuteBehind_50 ?_
    refine J_iconst (pc := 51) dX1_minuteBehind_51 ?_
    refine J_iload (pc := 52) dX1_minuteBehind_52 rfl ?_
    refine J_imul (pc := 54) dX1_minuteBehind_54 ?_
    refine J_iadd (pc := 55) dX1_minuteBehind_55 ?_
    exact T_retI (pc := 56) rfl dX1_minuteBehind_56
  · refine J_aload_n (pc := 7) dX1_minuteBehind_7 rfl rfl rfl ?_
    refine tg_X1_9 (pc := 8) ht rfl dX1_minuteBehind_8 ?_
    refine J_iconst (pc := 11) dX1_minuteBehind_11 ?_
    refine T_iaload (pc := 12) (oDay_l1 ht) (oDay_a1 ht) dX1_minuteBehind_12 (fun h10 => ?_)
    exact T_retI (pc := 13) rfl dX1_minuteBehind_13
