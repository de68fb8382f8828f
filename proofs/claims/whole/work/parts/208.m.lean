def f_X10_on_L41 (K : Mem → Option (Int × Mem)) (p0 : Int) : Nat → Int → Mem → Option (Int × Mem)
  | 0, _, _ => none
  | u + 1, i2, mu41 => if w32 i2 < w32 16 then (ck ((16 * p0) + i2) 48 (ck i2 16 (vm (wr mu41 73 (w32 i2).toNat (mu41 81 (w32 ((16 * p0) + i2)).toNat)) fun m11 => f_X10_on_L41 K p0 u (i2 + 1) m11))) else (K mu41)
set_option maxRecDepth 40000 in
theorem j_X10_on_L41 {l : Launch} {G : qG} {K : Mem → Option (Int × Mem)} {p0 : Int} (hK : ∀ (m : Mem), qJ l G yX10_on cX10_on 3 (some .int) 2 70 [some (.ref 67), some (.int (iI p0)), none] [] (lay m) (lf eI (K m))) : ∀ (u : Nat) (i2 : Int) (mu41 : Mem), qJ l G yX10_on cX10_on 3 (some .int) 2 41 [some (.ref 67), some (.int (iI p0)), some (.int (iI i2))] [] (lay mu41) (lf eI (f_X10_on_L41 K p0 u i2 mu41)) := by
  intro u
  induction u with
  | zero => intro _ mu41; exact T_none
  | succ u ih =>
    intro i2 mu41
    rw [f_X10_on_L41]
    refine J_iload_n (pc := 41) dX10_on_41 rfl rfl ?_
    refine J_bipush (pc := 42) dX10_on_42 (by decide) (by decide) ?_
    refine T_icmp_ge (pc := 44) (tgt := 70) dX10_on_44 (by decide) (fun h8 => ?_) (fun h8 => ?_)
    · refine J_dropf (pc := 70) (L' := [some (.ref 67), some (.int (iI p0)), none]) [true, true, false] rfl ?_
      exact hK  mu41
    · refine J_aload_n (pc := 47) dX10_on_47 rfl rfl rfl ?_
      refine tg_X10_25 (pc := 48) rfl dX10_on_48 ?_
      refine J_iload_n (pc := 51) dX10_on_51 rfl rfl ?_
      refine J_aload_n (pc := 52) dX10_on_52 rfl rfl rfl ?_
      refine tg_X10_53 (pc := 53) rfl dX10_on_53 ?_
      refine J_bipush (pc := 56) dX10_on_56 (by decide) (by decide) ?_
      refine J_iload_n (pc := 58) dX10_on_58 rfl rfl ?_
      refine J_imul (pc := 59) dX10_on_59 ?_
      refine J_iload_n (pc := 60) dX10_on_60 rfl rfl ?_
      refine J_iadd (pc := 61) dX10_on_61 ?_
      refine T_iaload (pc := 62) (by decide) rfl dX10_on_62 (fun h9 => ?_)
      refine T_iastore (pc := 63) (by decide) rfl dX10_on_63 (fun h10 => ?_)
      refine T_vm (fun m11 em11 => ?_)
      refine J_iinc (pc := 64) (L' := [some (.ref 67), some (.int (iI p0)), some (.int (iI (i2 + 1)))]) dX10_on_64 rfl (by decide) rfl rfl ?_
      refine J_goto (pc := 67) (tgt := 41) dX10_on_67 (by decide) ?_
      exact ih (i2 + 1) m11
def f_X10_on_L72 (K : Mem → Option (Int × Mem)) (p0 : Int) : Nat → Int → Mem → Option (Int × Mem)
  | 0, _, _ => none
  | u + 1, i2, mu72 => if w32 i2 < w32 960 then (ck ((960 * p0) + i2) 2880 (ck i2 960 (vm (wr mu72 74 (w32 i2).toNat (mu72 82 (w32 ((960 * p0) + i2)).toNat)) fun m16 => f_X10_on_L72 K p0 u (i2 + 1) m16))) else (K mu72)
set_option maxRecDepth 40000 in
theorem j_X10_on_L72 {l : Launch} {G : qG} {K : Mem → Option (Int × Mem)} {p0 : Int} (hK : ∀ (m : Mem), qJ l G yX10_on cX10_on 3 (some .int) 2 103 [some (.ref 67), some (.int (iI p0)), none] [] (lay m) (lf eI (K m))) : ∀ (u : Nat) (i2 : Int) (mu72 : Mem), qJ l G yX10_on cX10_on 3 (some .int) 2 72 [some (.ref 67), some (.int (iI p0)), some (.int (iI i2))] [] (lay mu72) (lf eI (f_X10_on_L72 K p0 u i2 mu72)) := by
  intro u
  induction u with
  | zero => intro _ mu72; exact T_none
  | succ u ih =>
    intro i2 mu72
    rw [f_X10_on_L72]
    refine J_iload_n (pc := 72) dX10_on_72 rfl rfl ?_
    refine J_sipush (pc := 73) dX10_on_73 (by decide) (by decide) ?_
    refine T_icmp_ge (pc := 76) (tgt := 103) dX10_on_76 (by decide) (fun h13 => ?_) (fun h13 => ?_)
    · refine J_dropf (pc := 103) (L' := [some (.ref 67), some (.int (iI p0)), none]) [true, true, false] rfl ?_
      exact hK  mu72
    · refine J_aload_n (pc := 79) dX10_on_79 rfl rfl rfl ?_
      refine tg_X10_28 (pc := 80) rfl dX10_on_80 ?_
      refine J_iload_n (pc := 83) dX10_on_83 rfl rfl ?_
      refine J_aload_n (pc := 84) dX10_on_84 rfl rfl rfl ?_
      refine tg_X10_56 (pc := 85) rfl dX10_on_85 ?_
      refine J_sipush (pc := 88) dX10_on_88 (by decide) (by decide) ?_
      refine J_iload_n (pc := 91) dX10_on_91 rfl rfl ?_
      refine J_imul (pc := 92) dX10_on_92 ?_
      refine J_iload_n (pc := 93) dX10_on_93 rfl rfl ?_
      refine J_iadd (pc := 94) dX10_on_94 ?_
      refine T_iaload (pc := 95) (by decide) rfl dX10_on_95 (fun h14 => ?_)
      refine T_iastore (pc := 96) (by decide) rfl dX10_on_96 (fun h15 => ?_)
      refine T_vm (fun m16 em16 => ?_)
      refine J_iinc (pc := 97) (L' := [some (.ref 67), some (.int (iI p0)), some (.int (iI (i2 + 1)))]) dX10_on_97 rfl (by decide) rfl rfl ?_
      refine J_goto (pc := 100) (tgt := 72) dX10_on_100 (by decide) ?_
      exact ih (i2 + 1) m16
def f_X10_on_L105 (p0 : Int) : Nat → Int → Mem → Option (Int × Mem)
  | 0, _, _ => none
  | u + 1, i2, mu105 => if w32 i2 < w32 4 then (ck ((4 * p0) + i2) 12 (ck i2 4 (vm (wr mu105 72 (w32 i2).toNat (mu105 83 (w32 ((4 * p0) + i2)).toNat)) fun m21 => f_X10_on_L105 p0 u (i2 + 1) m21))) else (some (mu105 67 8, mu105))
set_option maxRecDepth 40000 in
theorem j_X10_on_L105 {l : Launch} {G : qG} {p0 : Int} : ∀ (u : Nat) (i2 : Int) (mu105 : Mem), qJ l G yX10_on cX10_on 3 (some .int) 2 105 [some (.ref 67), some (.int (iI p0)), some (.int (iI i2))] [] (lay mu105) (lf eI (f_X10_on_L105 p0 u i2 mu105)) := by
  intro u
  induction u with
  | zero => intro _ mu105; exact T_none
  | succ u ih =>
    intro i2 mu105
    rw [f_X10_on_L105]
    refine J_iload_n (pc := 105) dX10_on_105 rfl rfl ?_
    refine J_iconst (pc := 106) dX10_on_106 ?_
    refine T_icmp_ge (pc := 107) (tgt := 132) dX10_on_107 (by decide) (fun h18 => ?_) (fun h18 => ?_)
    · refine J_aload_n (pc := 132) dX10_on_132 rfl rfl rfl ?_
      refine tg_X10_156 (pc := 133) rfl dX10_on_133 ?_
      exact T_retI (pc := 136) rfl dX10_on_136
    · refine J_aload_n (pc := 110) dX10_on_110 rfl rfl rfl ?_
      refine tg_X10_22 (pc := 111) rfl dX10_on_111 ?_
      refine J_iload_n (pc := 114) dX10_on_114 rfl rfl ?_
      refine J_aload_n (pc := 115) dX10_on_115 rfl rfl rfl ?_
      refine tg_X10_59 (pc := 116) rfl dX10_on_116 ?_
      refine J_iconst (pc := 119) dX10_on_119 ?_
      refine J_iload_n (pc := 120) dX10_on_120 rfl rfl ?_
      refine J_imul (pc := 121) dX10_on_121 ?_
      refine J_iload_n (pc := 122) dX10_on_122 rfl rfl ?_
      refine J_iadd (pc := 123) dX10_on_123 ?_
      refine T_iaload (pc := 124) (by decide) rfl dX10_on_124 (fun h19 => ?_)
      refine T_iastore (pc := 125) (by decide) rfl dX10_on_125 (fun h20 => ?_)
      refine T_vm (fun m21 em21 => ?_)
      refine J_iinc (pc := 126) (L' := [some (.ref 67), some (.int (iI p0)), some (.int (iI (i2 + 1)))]) dX10_on_126 rfl (by decide) rfl rfl ?_
      refine J_goto (pc := 129) (tgt := 105) dX10_on_129 (by decide) ?_
      exact ih (i2 + 1) m21
def f_X10_on (m0 : Mem) (p0 : Int) : Option (Int × Mem) := bd (f_X10_in m0 (w32 p0) 0 2) fun r2 m1 => if w32 r2 = 0 then (some ((-1), m1)) else (ck p0 3 (if w32 (m1 80 (w32 p0).toNat) < 0 then (bd (f_X10_finds m1 1) fun r23 m22 => some (r23, m22)) else (ck p0 3 (vm (wr m1 67 8 (m1 80 (w32 p0).toNat)) fun m7 => f_X10_on_L41 (fun m12 => f_X10_on_L72 (fun m17 => f_X10_on_L105 p0 100000 0 m17) p0 100000 0 m12) p0 100000 0 m7))))
set_option maxRecDepth 40000 in
theorem m_X10_on {l : Launch} {G : qG} (m0 : Mem) (p0 : Int) : qM l G 2 yX10_on cX10_on 3 (some .int) [.ref 67, .int (iI p0)] (lay m0) (lf eI (f_X10_on m0 p0)) := by
  refine qM_of (L := [some (.ref 67), some (.int (iI p0)), none]) (by decide +kernel) (Nat.le_of_ble_eq_true rfl) rfl ?_
  unfold f_X10_on
  refine J_iload_n (pc := 0) dX10_on_0 rfl rfl ?_
  refine J_i2l (pc := 1) dX10_on_1 ?_
  refine J_lconst (pc := 2) (z := 0) dX10_on_2 (by decide) ?_
  refine J_ldc2 (pc := 3) (z := 2) dX10_on_3 lk_X10_227 (by decide) ?_
  refine T_callSI (pc := 6) (As := [.long (iL (w32 p0)), .long (iL 0), .long (iL 2)]) (st := []) ok_yX10_in lm_X10_98 dX10_on_6 (by decide) (Nat.le_of_ble_eq_true rfl) (m_X10_in m0 (w32 p0) 0 2) (fun r2 m1 em1 => ?_)
  refine T_if_ne (pc := 9) (tgt := 14) dX10_on_9 (by decide) (fun h3 => ?_) (fun h3 => ?_)
  · refine J_aload_n (pc := 14) dX10_on_14 rfl rfl rfl ?_
    refine tg_X10_50 (pc := 15) rfl dX10_on_15 ?_
    refine J_iload_n (pc := 18) dX10_on_18 rfl rfl ?_
    refine T_iaload (pc := 19) (by decide) rfl dX10_on_19 (fun h4 => ?_)
    refine T_if_ge (pc := 20) (tgt := 29) dX10_on_20 (by decide) (fun h5 => ?_) (fun h5 => ?_)
    · refine J_aload_n (pc := 29) dX10_on_29 rfl rfl rfl ?_
      refine J_aload_n (pc := 30) dX10_on_30 rfl rfl rfl ?_
      refine tg_X10_50 (pc := 31) rfl dX10_on_31 ?_
      refine J_iload_n (pc := 34) dX10_on_34 rfl rfl ?_
      refine T_iaload (pc := 35) (by decide) rfl dX10_on_35 (fun h6 => ?_)
      refine tp_X10_156 (pc := 36) rfl dX10_on_36 ?_
      refine T_vm (fun m7 em7 => ?_)
      refine J_iconst (pc := 39) dX10_on_39 ?_
      refine J_istore_n (pc := 40) (L' := [some (.ref 67), some (.int (iI p0)), some (.int (iI 0))]) dX10_on_40 rfl (by decide) rfl rfl ?_
      refine j_X10_on_L41 ?_ 100000 0 m7
      · intro m12
        refine J_iconst (pc := 70) dX10_on_70 ?_
        refine J_istore_n (pc := 71) (L' := [some (.ref 67), some (.int (iI p0)), some (.int (iI 0))]) dX10_on_71 rfl (by decide) rfl rfl ?_
        refine j_X10_on_L72 ?_ 100000 0 m12
        · intro m17
          refine J_iconst (pc := 103) dX10_on_103 ?_
          refine J_istore_n (pc := 104) (L' := [some (.ref 67), some (.int (iI p0)), some (.int (iI 0))]) dX10_on_104 rfl (by decide) rfl rfl ?_
          refine j_X10_on_L105 100000 0 m17
    · refine J_aload_n (pc := 23) dX10_on_23 rfl rfl rfl ?_
      refine J_iconst (pc := 24) dX10_on_24 ?_
      refine T_callVI (pc := 25) (As := [.int (iI 1)]) (k := 67) (st := []) ok_yX10_finds lm_X10_114 dX10_on_25 (by decide) rfl rfl (by decide) (Nat.le_of_ble_eq_true rfl) (m_X10_finds m1 1) (fun r23 m22 em22 => ?_)
      exact T_retI (pc := 28) rfl dX10_on_28
  · refine J_iconst (pc := 12) dX10_on_12 ?_
    exact T_retI (pc := 13) rfl dX10_on_13
def f_X10_save_L2 : Nat → Int → Mem → Option (Unit × Mem)
  | 0, _, _ => none
  | u + 1, i1, mu2 => if w32 i1 < w32 16 then (ck i1 16 (ck i1 16 (vm (wr mu2 92 (w32 i1).toNat (mu2 73 (w32 i1).toNat)) fun m4 => f_X10_save_L2 u (i1 + 1) m4))) else (some ((), mu2))
set_option maxRecDepth 40000 in
theorem j_X10_save_L2 {l : Launch} {G : qG} : ∀ (u : Nat) (i1 : Int) (mu2 : Mem), qJ l G yX10_save cX10_save 2 none 1 2 [some (.ref 67), some (.int (iI i1))] [] (lay mu2) (lf eU (f_X10_save_L2 u i1 mu2)) := by
  intro u
  induction u with
  | zero => intro _ mu2; exact T_none
  | succ u ih =>
    intro i1 mu2
    rw [f_X10_save_L2]
    refine J_iload_n (pc := 2) dX10_save_2 rfl rfl ?_
    refine J_bipush (pc := 3) dX10_save_3 (by decide) (by decide) ?_
    refine T_icmp_ge (pc := 5) (tgt := 26) dX10_save_5 (by decide) (fun h1 => ?_) (fun h1 => ?_)
    · exact T_retV (pc := 26) rfl dX10_save_26
    · refine J_aload_n (pc := 8) dX10_save_8 rfl rfl rfl ?_
      refine tg_X10_86 (pc := 9) rfl dX10_save_9 ?_
      refine J_iload_n (pc := 12) dX10_save_12 rfl rfl ?_
      refine J_aload_n (pc := 13) dX10_save_13 rfl rfl rfl ?_
      refine tg_X10_25 (pc := 14) rfl dX10_save_14 ?_
      refine J_iload_n (pc := 17) dX10_save_17 rfl rfl ?_
      refine T_iaload (pc := 18) (by decide) rfl dX10_save_18 (fun h2 => ?_)
      refine T_iastore (pc := 19) (by decide) rfl dX10_save_19 (fun h3 => ?_)
      refine T_vm (fun m4 em4 => ?_)
      refine J_iinc (pc := 20) (L' := [some (.ref 67), some (.int (iI (i1 + 1)))]) dX10_save_20 rfl (by decide) rfl rfl ?_
      refine J_goto (pc := 23) (tgt := 2) dX10_save_23 (by decide) ?_
      exact ih (i1 + 1) m4
def f_X10_save (m0 : Mem) : Option (Unit × Mem) := f_X10_save_L2 100000 0 m0
set_option maxRecDepth 40000 in
theorem m_X10_save {l : Launch} {G : qG} (m0 : Mem) : qM l G 1 yX10_save cX10_save 2 none [.ref 67] (lay m0) (lf eU (f_X10_save m0)) := by
  refine qM_of (L := [some (.ref 67), none]) (by decide +kernel) (Nat.le_of_ble_eq_true rfl) rfl ?_
  unfold f_X10_save
  refine J_iconst (pc := 0) dX10_save_0 ?_
  refine J_istore_n (pc := 1) (L' := [some (.ref 67), some (.int (iI 0))]) dX10_save_1 rfl (by decide) rfl rfl ?_
  refine j_X10_save_L2 100000 0 m0
def f_X10_putBack_L2 : Nat → Int → Mem → Option (Unit × Mem)
  | 0, _, _ => none
  | u + 1, i1, mu2 => if w32 i1 < w32 16 then (ck i1 16 (ck i1 16 (vm (wr mu2 73 (w32 i1).toNat (mu2 92 (w32 i1).toNat)) fun m4 => f_X10_putBack_L2 u (i1 + 1) m4))) else (some ((), mu2))
set_option maxRecDepth 40000 in
theorem j_X10_putBack_L2 {l : Launch} {G : qG} : ∀ (u : Nat) (i1 : Int) (mu2 : Mem), qJ l G yX10_putBack cX10_putBack 2 none 1 2 [some (.ref 67), some (.int (iI i1))] [] (lay mu2) (lf eU (f_X10_putBack_L2 u i1 mu2)) := by
  intro u
  induction u with
  | zero => intro _ mu2; exact T_none
  | succ u ih =>
    intro i1 mu2
    rw [f_X10_putBack_L2]
    refine J_iload_n (pc := 2) dX10_putBack_2 rfl rfl ?_
    refine J_bipush (pc := 3) dX10_putBack_3 (by decide) (by decide) ?_
    refine T_icmp_ge (pc := 5) (tgt := 26) dX10_putBack_5 (by decide) (fun h1 => ?_) (fun h1 => ?_)
    · exact T_retV (pc := 26) rfl dX10_putBack_26
    · refine J_aload_n (pc := 8) dX10_putBack_8 rfl rfl rfl ?_
      refine tg_X10_25 (pc := 9) rfl dX10_putBack_9 ?_
      refine J_iload_n (pc := 12) dX10_putBack_12 rfl rfl ?_
      refine J_aload_n (pc := 13) dX10_putBack_13 rfl rfl rfl ?_
      refine tg_X10_86 (pc := 14) rfl dX10_putBack_14 ?_
      refine J_iload_n (pc := 17) dX10_putBack_17 rfl rfl ?_
      refine T_iaload (pc := 18) (by decide) rfl dX10_putBack_18 (fun h2 => ?_)
      refine T_iastore (pc := 19) (by decide) rfl dX10_putBack_19 (fun h3 => ?_)
      refine T_vm (fun m4 em4 => ?_)
      refine J_iinc (pc := 20) (L' := [some (.ref 67), some (.int (iI (i1 + 1)))]) dX10_putBack_20 rfl (by decide) rfl rfl ?_
      refine J_goto (pc := 23) (tgt := 2) dX10_putBack_23 (by decide) ?_
      exact ih (i1 + 1) m4
def f_X10_putBack (m0 : Mem) : Option (Unit × Mem) := f_X10_putBack_L2 100000 0 m0
set_option maxRecDepth 40000 in
theorem m_X10_putBack {l : Launch} {G : qG} (m0 : Mem) : qM l G 1 yX10_putBack cX10_putBack 2 none [.ref 67] (lay m0) (lf eU (f_X10_putBack m0)) := by
  refine qM_of (L := [some (.ref 67), none]) (by decide +kernel) (Nat.le_of_ble_eq_true rfl) rfl ?_
  unfold f_X10_putBack
  refine J_iconst (pc := 0) dX10_putBack_0 ?_
  refine J_istore_n (pc := 1) (L' := [some (.ref 67), some (.int (iI 0))]) dX10_putBack_1 rfl (by decide) rfl rfl ?_
  refine j_X10_putBack_L2 100000 0 m0
def f_X10_gainsNow_L4 : Nat → Int → Int → Mem → Option (Int × Mem)
  | 0, _, _, _ => none
  | u + 1, i1, i2, mu4 => if w32 i2 < w32 (mu4 67 1) then (ck (12 + i2) 16 (vl (i1 + (mu4 73 (w32 (12 + i2)).toNat)) fun x3 => f_X10_gainsNow_L4 u x3 (i2 + 1) mu4)) else (some (i1, mu4))
set_option maxRecDepth 40000 in
theorem j_X10_gainsNow_L4 {l : Launch} {G : qG} : ∀ (u : Nat) (i1 : Int) (i2 : Int) (mu4 : Mem), qJ l G yX10_gainsNow cX10_gainsNow 3 (some .int) 1 4 [some (.ref 67), some (.int (iI i1)), some (.int (iI i2))] [] (lay mu4) (lf eI (f_X10_gainsNow_L4 u i1 i2 mu4)) := by
  intro u
  induction u with
  | zero => intro _ _ mu4; exact T_none
  | succ u ih =>
    intro i1 i2 mu4
    rw [f_X10_gainsNow_L4]
    refine J_iload_n (pc := 4) dX10_gainsNow_4 rfl rfl ?_
    refine J_aload_n (pc := 5) dX10_gainsNow_5 rfl rfl rfl ?_
    refine tg_X10_107 (pc := 6) rfl dX10_gainsNow_6 ?_
    refine T_icmp_ge (pc := 9) (tgt := 30) dX10_gainsNow_9 (by decide) (fun h1 => ?_) (fun h1 => ?_)
    · refine J_iload_n (pc := 30) dX10_gainsNow_30 rfl rfl ?_
      exact T_retI (pc := 31) rfl dX10_gainsNow_31
    · refine J_iload_n (pc := 12) dX10_gainsNow_12 rfl rfl ?_
      refine J_aload_n (pc := 13) dX10_gainsNow_13 rfl rfl rfl ?_
      refine tg_X10_25 (pc := 14) rfl dX10_gainsNow_14 ?_
      refine J_bipush (pc := 17) dX10_gainsNow_17 (by decide) (by decide) ?_
      refine J_iload_n (pc := 19) dX10_gainsNow_19 rfl rfl ?_
      refine J_iadd (pc := 20) dX10_gainsNow_20 ?_
      refine T_iaload (pc := 21) (by decide) rfl dX10_gainsNow_21 (fun h2 => ?_)
      refine J_iadd (pc := 22) dX10_gainsNow_22 ?_
      refine T_vlI (pc := 23) (fun x3 ex3 => ?_)
      refine J_istore_n (pc := 23) (L' := [some (.ref 67), some (.int (iI x3)), some (.int (iI i2))]) dX10_gainsNow_23 rfl (by decide) rfl rfl ?_
      refine J_iinc (pc := 24) (L' := [some (.ref 67), some (.int (iI x3)), some (.int (iI (i2 + 1)))]) dX10_gainsNow_24 rfl (by decide) rfl rfl ?_
      refine J_goto (pc := 27) (tgt := 4) dX10_gainsNow_27 (by decide) ?_
      exact ih x3 (i2 + 1) mu4
def f_X10_gainsNow (m0 : Mem) : Option (Int × Mem) := f_X10_gainsNow_L4 100000 0 0 m0
set_option maxRecDepth 40000 in
theorem m_X10_gainsNow {l : Launch} {G : qG} (m0 : Mem) : qM l G 1 yX10_gainsNow cX10_gainsNow 3 (some .int) [.ref 67] (lay m0) (lf eI (f_X10_gainsNow m0)) := by
  refine qM_of (L := [some (.ref 67), none, none]) (by decide +kernel) (Nat.le_of_ble_eq_true rfl) rfl ?_
  unfold f_X10_gainsNow
  refine J_iconst (pc := 0) dX10_gainsNow_0 ?_
  refine J_istore_n (pc := 1) (L' := [some (.ref 67), some (.int (iI 0)), none]) dX10_gainsNow_1 rfl (by decide) rfl rfl ?_
  refine J_iconst (pc := 2) dX10_gainsNow_2 ?_
  refine J_istore_n (pc := 3) (L' := [some (.ref 67), some (.int (iI 0)), some (.int (iI 0))]) dX10_gainsNow_3 rfl (by decide) rfl rfl ?_
  refine j_X10_gainsNow_L4 100000 0 0 m0
def f_X10_planRefused_L55 (K : Int → Mem → Option (Int × Mem)) (p0 : Int) : Nat → Int → Int → Mem → Option (Int × Mem)
  | 0, _, _, _ => none
  | u + 1, i2, i3, mu55 => ck p0 6 (if w32 i3 < w32 (mu55 76 (w32 p0).toNat) then (jn (κ := Int → Mem → Option (Int × Mem)) (fun s13 m12 => f_X10_planRefused_L55 K p0 u s13 (i3 + 1) m12) fun k11 => jn (κ := Mem → Option (Int × Mem)) (fun m15 => k11 0 m15) fun k14 => if w32 i2 = 0 then (k14 mu55) else (ck ((40 * p0) + i3) 240 (bd (f_X10_isSet mu55 (mu55 77 (w32 ((40 * p0) + i3)).toNat)) fun r19 m18 => if w32 r19 = 0 then (k14 m18) else (k11 1 m18)))) else (K i2 mu55))
set_option maxRecDepth 40000 in
theorem j_X10_planRefused_L55 {l : Launch} {G : qG} {K : Int → Mem → Option (Int × Mem)} {p0 : Int} (hK : ∀ (x2 : Int) (m : Mem), qJ l G yX10_planRefused cX10_planRefused 4 (some .int) 3 99 [some (.ref 67), none, some (.int (iI x2)), none] [] (lay m) (lf eI (K x2 m))) : ∀ (u : Nat) (i2 : Int) (i3 : Int) (mu55 : Mem), qJ l G yX10_planRefused cX10_planRefused 4 (some .int) 3 55 [some (.ref 67), some (.int (iI p0)), some (.int (iI i2)), some (.int (iI i3))] [] (lay mu55) (lf eI (f_X10_planRefused_L55 K p0 u i2 i3 mu55)) := by
  intro u
  induction u with
  | zero => intro _ _ mu55; exact T_none
  | succ u ih =>
    intro i2 i3 mu55
    rw [f_X10_planRefused_L55]
    refine J_iload_n (pc := 55) dX10_planRefused_55 rfl rfl ?_
    refine J_aload_n (pc := 56) dX10_planRefused_56 rfl rfl rfl ?_
    refine tg_X10_38 (pc := 57) rfl dX10_planRefused_57 ?_
    refine J_iload_n (pc := 60) dX10_planRefused_60 rfl rfl ?_
    refine T_iaload (pc := 61) (by decide) rfl dX10_planRefused_61 (fun h9 => ?_)
    refine T_icmp_ge (pc := 62) (tgt := 99) dX10_planRefused_62 (by decide) (fun h10 => ?_) (fun h10 => ?_)
    · refine J_dropf (pc := 99) (L' := [some (.ref 67), none, some (.int (iI i2)), none]) [true, false, true, false] rfl ?_
      exact hK i2 mu55
    · refine J_iload_n (pc := 65) dX10_planRefused_65 rfl rfl ?_
      refine T_jn (κ := Int → Mem → Option (Int × Mem)) (fun k => ∀ (s13 : Int) (m12 : Mem), qJ l G yX10_planRefused cX10_planRefused 4 (some .int) 3 92 [some (.ref 67), some (.int (iI p0)), none, some (.int (iI i3))] [.int (iI s13)] (lay m12) (lf eI (k s13 m12))) ?_ (fun k11 hk11 => ?_)
      · intro s13 m12
        refine J_istore_n (pc := 92) (L' := [some (.ref 67), some (.int (iI p0)), some (.int (iI s13)), some (.int (iI i3))]) dX10_planRefused_92 rfl (by decide) rfl rfl ?_
        refine J_iinc (pc := 93) (L' := [some (.ref 67), some (.int (iI p0)), some (.int (iI s13)), some (.int (iI (i3 + 1)))]) dX10_planRefused_93 rfl (by decide) rfl rfl ?_
        refine J_goto (pc := 96) (tgt := 55) dX10_planRefused_96 (by decide) ?_
        exact ih s13 (i3 + 1) m12
      · refine T_jn (κ := Mem → Option (Int × Mem)) (fun k => ∀ (m15 : Mem), qJ l G yX10_planRefused cX10_planRefused 4 (some .int) 3 91 [some (.ref 67), some (.int (iI p0)), none, some (.int (iI i3))] [] (lay m15) (lf eI (k m15))) ?_ (fun k14 hk14 => ?_)
        · intro m15
          refine J_iconst (pc := 91) dX10_planRefused_91 ?_
          exact hk11 0 m15
        · refine T_if_eq (pc := 66) (tgt := 91) dX10_planRefused_66 (by decide) (fun h16 => ?_) (fun h16 => ?_)
          · refine J_dropf (pc := 91) (L' := [some (.ref 67), some (.int (iI p0)), none, some (.int (iI i3))]) [true, true, false, true] rfl ?_
            exact hk14  mu55
          · refine J_aload_n (pc := 69) dX10_planRefused_69 rfl rfl rfl ?_
            refine J_aload_n (pc := 70) dX10_planRefused_70 rfl rfl rfl ?_
            refine tg_X10_41 (pc := 71) rfl dX10_planRefused_71 ?_
            refine J_bipush (pc := 74) dX10_planRefused_74 (by decide) (by decide) ?_
            refine J_iload_n (pc := 76) dX10_planRefused_76 rfl rfl ?_
            refine J_imul (pc := 77) dX10_planRefused_77 ?_
            refine J_iload_n (pc := 78) dX10_planRefused_78 rfl rfl ?_
            refine J_iadd (pc := 79) dX10_planRefused_79 ?_
            refine T_iaload (pc := 80) (by decide) rfl dX10_planRefused_80 (fun h17 => ?_)
            refine T_callVI (pc := 81) (As := [.int (iI (mu55 77 (w32 ((40 * p0) + i3)).toNat))]) (k := 67) (st := []) ok_yX10_isSet lm_X10_218 dX10_planRefused_81 (by decide) rfl rfl (by decide) (Nat.le_of_ble_eq_true rfl) (m_X10_isSet mu55 (mu55 77 (w32 ((40 * p0) + i3)).toNat)) (fun r19 m18 em18 => ?_)
            refine T_if_eq (pc := 84) (tgt := 91) dX10_planRefused_84 (by decide) (fun h20 => ?_) (fun h20 => ?_)
            · refine J_dropf (pc := 91) (L' := [some (.ref 67), some (.int (iI p0)), none, some (.int (iI i3))]) [true, true, false, true] rfl ?_
              exact hk14  m18
            · refine J_iconst (pc := 87) dX10_planRefused_87 ?_
              refine J_goto (pc := 88) (tgt := 92) dX10_planRefused_88 (by decide) ?_
              refine J_dropf (pc := 92) (L' := [some (.ref 67), some (.int (iI p0)), none, some (.int (iI i3))]) [true, true, false, true] rfl ?_
              exact hk11 1 m18
def f_X10_planRefused (m0 : Mem) (p0 : Int) : Option (Int × Mem) := bd (f_X10_isRow m0 p0) fun r2 m1 => if w32 r2 = 0 then (some ((-1), m1)) else (if w32 (m1 67 0) = 0 then (some ((-4), m1)) else (ck p0 6 (if w32 (m1 76 (w32 p0).toNat) < 0 then (bd (f_X10_finds m1 1) fun r29 m28 => some (r29, m28)) else (ck p0 6 (if w32 12 < w32 (m1 76 (w32 p0).toNat) then (bd (f_X10_finds m1 5) fun r27 m26 => some (r27, m26)) else (f_X10_planRefused_L55 (fun x21 m22 => if w32 x21 = 0 then (bd (f_X10_finds m22 3) fun r25 m24 => some (r25, m24)) else (some (0, m22))) p0 100000 1 0 m1))))))
set_option maxRecDepth 40000 in
theorem m_X10_planRefused {l : Launch} {G : qG} (m0 : Mem) (p0 : Int) : qM l G 3 yX10_planRefused cX10_planRefused 4 (some .int) [.ref 67, .int (iI p0)] (lay m0) (lf eI (f_X10_planRefused m0 p0)) := by
  refine qM_of (L := [some (.ref 67), some (.int (iI p0)), none, none]) (by decide +kernel) (Nat.le_of_ble_eq_true rfl) rfl ?_
  unfold f_X10_planRefused
  refine J_iload_n (pc := 0) dX10_planRefused_0 rfl rfl ?_
  refine T_callSI (pc := 1) (As := [.int (iI p0)]) (st := []) ok_yX10_isRow lm_X10_110 dX10_planRefused_1 (by decide) (Nat.le_of_ble_eq_true rfl) (m_X10_isRow m0 p0) (fun r2 m1 em1 => ?_)
  refine T_if_ne (pc := 4) (tgt := 9) dX10_planRefused_4 (by decide) (fun h3 => ?_) (fun h3 => ?_)
  · refine J_aload_n (pc := 9) dX10_planRefused_9 rfl rfl rfl ?_
    refine tg_X10_104 (pc := 10) rfl dX10_planRefused_10 ?_
    refine T_if_ne (pc := 13) (tgt := 19) dX10_planRefused_13 (by decide) (fun h4 => ?_) (fun h4 => ?_)
    · refine J_aload_n (pc := 19) dX10_planRefused_19 rfl rfl rfl ?_
      refine tg_X10_38 (pc := 20) rfl dX10_planRefused_20 ?_
      refine J_iload_n (pc := 23) dX10_planRefused_23 rfl rfl ?_
      refine T_iaload (pc := 24) (by decide) rfl dX10_planRefused_24 (fun h5 => ?_)
      refine T_if_ge (pc := 25) (tgt := 34) dX10_planRefused_25 (by decide) (fun h6 => ?_) (fun h6 => ?_)
      · refine J_aload_n (pc := 34) dX10_planRefused_34 rfl rfl rfl ?_
        refine tg_X10_38 (pc := 35) rfl dX10_planRefused_35 ?_
        refine J_iload_n (pc := 38) dX10_planRefused_38 rfl rfl ?_
        refine T_iaload (pc := 39) (by decide) rfl dX10_planRefused_39 (fun h7 => ?_)
        refine J_bipush (pc := 40) dX10_planRefused_40 (by decide) (by decide) ?_
        refine T_icmp_le (pc := 42) (tgt := 51) dX10_planRefused_42 (by decide) (fun h8 => ?_) (fun h8 => ?_)
        · refine J_iconst (pc := 51) dX10_planRefused_51 ?_
          refine J_istore_n (pc := 52) (L' := [some (.ref 67), some (.int (iI p0)), some (.int (iI 1)), none]) dX10_planRefused_52 rfl (by decide) rfl rfl ?_
          refine J_iconst (pc := 53) dX10_planRefused_53 ?_
          refine J_istore_n (pc := 54) (L' := [some (.ref 67), some (.int (iI p0)), some (.int (iI 1)), some (.int (iI 0))]) dX10_planRefused_54 rfl (by decide) rfl rfl ?_
          refine j_X10_planRefused_L55 ?_ 100000 1 0 m1
          · intro x21 m22
            refine J_iload_n (pc := 99) dX10_planRefused_99 rfl rfl ?_
            refine T_if_eq (pc := 100) (tgt := 107) dX10_planRefused_100 (by decide) (fun h23 => ?_) (fun h23 => ?_)
            · refine J_aload_n (pc := 107) dX10_planRefused_107 rfl rfl rfl ?_
              refine J_iconst (pc := 108) dX10_planRefused_108 ?_
              refine T_callVI (pc := 109) (As := [.int (iI 3)]) (k := 67) (st := []) ok_yX10_finds lm_X10_114 dX10_planRefused_109 (by decide) rfl rfl (by decide) (Nat.le_of_ble_eq_true rfl) (m_X10_finds m22 3) (fun r25 m24 em24 => ?_)
              exact T_retI (pc := 112) rfl dX10_planRefused_112
            · refine J_iconst (pc := 103) dX10_planRefused_103 ?_
              refine J_goto (pc := 104) (tgt := 112) dX10_planRefused_104 (by decide) ?_
              exact T_retI (pc := 112) rfl dX10_planRefused_112
        · refine J_aload_n (pc := 45) dX10_planRefused_45 rfl rfl rfl ?_
          refine J_iconst (pc := 46) dX10_planRefused_46 ?_
          refine T_callVI (pc := 47) (As := [.int (iI 5)]) (k := 67) (st := []) ok_yX10_finds lm_X10_114 dX10_planRefused_47 (by decide) rfl rfl (by decide) (Nat.le_of_ble_eq_true rfl) (m_X10_finds m1 5) (fun r27 m26 em26 => ?_)
          exact T_retI (pc := 50) rfl dX10_planRefused_50
      · refine J_aload_n (pc := 28) dX10_planRefused_28 rfl rfl rfl ?_
        refine J_iconst (pc := 29) dX10_planRefused_29 ?_
        refine T_callVI (pc := 30) (As := [.int (iI 1)]) (k := 67) (st := []) ok_yX10_finds lm_X10_114 dX10_planRefused_30 (by decide) rfl rfl (by decide) (Nat.le_of_ble_eq_true rfl) (m_X10_finds m1 1) (fun r29 m28 em28 => ?_)
        exact T_retI (pc := 33) rfl dX10_planRefused_33
    · refine J_bipush (pc := 16) dX10_planRefused_16 (by decide) (by decide) ?_
      exact T_retI (pc := 18) rfl dX10_planRefused_18
  · refine J_iconst (pc := 7) dX10_planRefused_7 ?_
    exact T_retI (pc := 8) rfl dX10_planRefused_8
def f_X10_run_L25 (K : Mem → Option (Int × Mem)) (p0 : Int) : Nat → Int → Mem → Option (Int × Mem)
  | 0, _, _ => none
  | u + 1, i4, mu25 => ck p0 6 (if w32 i4 < w32 (mu25 76 (w32 p0).toNat) then (ck ((40 * p0) + i4) 240 (bd (f_X10_goHour mu25 (mu25 77 (w32 ((40 * p0) + i4)).toNat)) fun r11 m10 => f_X10_run_L25 K p0 u (i4 + 1) m10)) else (K mu25))
set_option maxRecDepth 40000 in
theorem j_X10_run_L25 {l : Launch} {G : qG} {K : Mem → Option (Int × Mem)} {p0 : Int} {r6 : Int} (hK : ∀ (m : Mem), qJ l G yX10_run cX10_run 6 (some .int) 5 60 [some (.ref 67), none, none, some (.int (iI (-r6))), none, none] [] (lay m) (lf eI (K m))) : ∀ (u : Nat) (i4 : Int) (mu25 : Mem), qJ l G yX10_run cX10_run 6 (some .int) 5 25 [some (.ref 67), some (.int (iI p0)), none, some (.int (iI (-r6))), some (.int (iI i4)), none] [] (lay mu25) (lf eI (f_X10_run_L25 K p0 u i4 mu25)) := by
  intro u
  induction u with
  | zero => intro _ mu25; exact T_none
  | succ u ih =>
    intro i4 mu25
    rw [f_X10_run_L25]
    refine J_iload (pc := 25) dX10_run_25 rfl ?_
    refine J_aload_n (pc := 27) dX10_run_27 rfl rfl rfl ?_
    refine tg_X10_38 (pc := 28) rfl dX10_run_28 ?_
    refine J_iload_n (pc := 31) dX10_run_31 rfl rfl ?_
    refine T_iaload (pc := 32) (by decide) rfl dX10_run_32 (fun h7 => ?_)
    refine T_icmp_ge (pc := 33) (tgt := 60) dX10_run_33 (by decide) (fun h8 => ?_) (fun h8 => ?_)
    · refine J_dropf (pc := 60) (L' := [some (.ref 67), none, none, some (.int (iI (-r6))), none, none]) [true, false, false, true, false, false] rfl ?_
      exact hK  mu25
    · refine J_aload_n (pc := 36) dX10_run_36 rfl rfl rfl ?_
      refine J_aload_n (pc := 37) dX10_run_37 rfl rfl rfl ?_
      refine tg_X10_41 (pc := 38) rfl dX10_run_38 ?_
      refine J_bipush (pc := 41) dX10_run_41 (by decide) (by decide) ?_
      refine J_iload_n (pc := 43) dX10_run_43 rfl rfl ?_
      refine J_imul (pc := 44) dX10_run_44 ?_
      refine J_iload (pc := 45) dX10_run_45 rfl ?_
      refine J_iadd (pc := 47) dX10_run_47 ?_
      refine T_iaload (pc := 48) (by decide) rfl dX10_run_48 (fun h9 => ?_)
      refine T_callVI (pc := 49) (As := [.int (iI (mu25 77 (w32 ((40 * p0) + i4)).toNat))]) (k := 67) (st := []) ok_yX10_goHour lm_X10_224 dX10_run_49 (by decide) rfl rfl (by decide) (Nat.le_of_ble_eq_true rfl) (m_X10_goHour mu25 (mu25 77 (w32 ((40 * p0) + i4)).toNat)) (fun r11 m10 em10 => ?_)
      refine J_istore (pc := 52) (L' := [some (.ref 67), some (.int (iI p0)), none, some (.int (iI (-r6))), some (.int (iI i4)), some (.int (iI r11))]) dX10_run_52 (by decide) rfl rfl ?_
      refine J_iinc (pc := 54) (L' := [some (.ref 67), some (.int (iI p0)), none, some (.int (iI (-r6))), some (.int (iI (i4 + 1))), some (.int (iI r11))]) dX10_run_54 rfl (by decide) rfl rfl ?_
      refine J_goto (pc := 57) (tgt := 25) dX10_run_57 (by decide) ?_
      refine J_dropf (pc := 25) (L' := [some (.ref 67), some (.int (iI p0)), none, some (.int (iI (-r6))), some (.int (iI (i4 + 1))), none]) [true, true, false, true, true, false] rfl ?_
      exact ih (i4 + 1) m10
def f_X10_run (m0 : Mem) (p0 : Int) : Option (Int × Mem) := bd (f_X10_planRefused m0 p0) fun r2 m1 => if w32 r2 = 0 then (bd (f_X10_save m1) fun _u m4 => bd (f_X10_gainsNow m4) fun r6 m5 => f_X10_run_L25 (fun m12 => bd (f_X10_gainsNow m12) fun r14 m13 => vl ((-r6) + r14) fun x15 => ck 0 16 (vm (wr m13 67 10 (m13 73 (w32 0).toNat)) fun m17 => bd (f_X10_putBack m17) fun _u m18 => some (x15, m18))) p0 100000 0 m5) else (some (r2, m1))
set_option maxRecDepth 40000 in
theorem m_X10_run {l : Launch} {G : qG} (m0 : Mem) (p0 : Int) : qM l G 5 yX10_run cX10_run 6 (some .int) [.ref 67, .int (iI p0)] (lay m0) (lf eI (f_X10_run m0 p0)) := by
  refine qM_of (L := [some (.ref 67), some (.int (iI p0)), none, none, none, none]) (by decide +kernel) (Nat.le_of_ble_eq_true rfl) rfl ?_
  unfold f_X10_run
  refine J_aload_n (pc := 0) dX10_run_0 rfl rfl rfl ?_
  refine J_iload_n (pc := 1) dX10_run_1 rfl rfl ?_
  refine T_callVI (pc := 2) (As := [.int (iI p0)]) (k := 67) (st := []) ok_yX10_planRefused lm_X10_229 dX10_run_2 (by decide) rfl rfl (by decide) (Nat.le_of_ble_eq_true rfl) (m_X10_planRefused m0 p0) (fun r2 m1 em1 => ?_)
  refine J_istore_n (pc := 5) (L' := [some (.ref 67), some (.int (iI p0)), some (.int (iI r2)), none, none, none]) dX10_run_5 rfl (by decide) rfl rfl ?_
  refine J_iload_n (pc := 6) dX10_run_6 rfl rfl ?_
  refine T_if_eq (pc := 7) (tgt := 12) dX10_run_7 (by decide) (fun h3 => ?_) (fun h3 => ?_)
  · refine J_aload_n (pc := 12) dX10_run_12 rfl rfl rfl ?_
    refine T_callVU (pc := 13) (As := []) (k := 67) (st := []) ok_yX10_save lm_X10_232 dX10_run_13 (by decide) rfl rfl (by decide) (Nat.le_of_ble_eq_true rfl) (m_X10_save m1) (fun _u m4 em4 => ?_)
    refine J_aload_n (pc := 16) dX10_run_16 rfl rfl rfl ?_
    refine T_callVI (pc := 17) (As := []) (k := 67) (st := []) ok_yX10_gainsNow lm_X10_235 dX10_run_17 (by decide) rfl rfl (by decide) (Nat.le_of_ble_eq_true rfl) (m_X10_gainsNow m4) (fun r6 m5 em5 => ?_)
    refine J_ineg (pc := 20) dX10_run_20 ?_
    refine J_istore_n (pc := 21) (L' := [some (.ref 67), some (.int (iI p0)), some (.int (iI r2)), some (.int (iI (-r6))), none, none]) dX10_run_21 rfl (by decide) rfl rfl ?_
    refine J_iconst (pc := 22) dX10_run_22 ?_
    refine J_istore (pc := 23) (L' := [some (.ref 67), some (.int (iI p0)), some (.int (iI r2)), some (.int (iI (-r6))), some (.int (iI 0)), none]) dX10_run_23 (by decide) rfl rfl ?_
    refine J_dropf (pc := 25) (L' := [some (.ref 67), some (.int (iI p0)), none, some (.int (iI (-r6))), some (.int (iI 0)), none]) [true, true, false, true, true, false] rfl ?_
    refine j_X10_run_L25 ?_ 100000 0 m5
    · intro m12
      refine J_iload_n (pc := 60) dX10_run_60 rfl rfl ?_
      refine J_aload_n (pc := 61) dX10_run_61 rfl rfl rfl ?_
      refine T_callVI (pc := 62) (As := []) (k := 67) (st := [.int (iI (-r6))]) ok_yX10_gainsNow lm_X10_235 dX10_run_62 (by decide) rfl rfl (by decide) (Nat.le_of_ble_eq_true rfl) (m_X10_gainsNow m12) (fun r14 m13 em13 => ?_)
      refine J_iadd (pc := 65) dX10_run_65 ?_
      refine T_vlI (pc := 66) (fun x15 ex15 => ?_)
      refine J_istore_n (pc := 66) (L' := [some (.ref 67), none, none, some (.int (iI x15)), none, none]) dX10_run_66 rfl (by decide) rfl rfl ?_
      refine J_aload_n (pc := 67) dX10_run_67 rfl rfl rfl ?_
      refine J_aload_n (pc := 68) dX10_run_68 rfl rfl rfl ?_
      refine tg_X10_25 (pc := 69) rfl dX10_run_69 ?_
      refine J_iconst (pc := 72) dX10_run_72 ?_
      refine T_iaload (pc := 73) (by decide) rfl dX10_run_73 (fun h16 => ?_)
      refine tp_X10_118 (pc := 74) rfl dX10_run_74 ?_
      refine T_vm (fun m17 em17 => ?_)
      refine J_aload_n (pc := 77) dX10_run_77 rfl rfl rfl ?_
      refine T_callVU (pc := 78) (As := []) (k := 67) (st := []) ok_yX10_putBack lm_X10_239 dX10_run_78 (by decide) rfl rfl (by decide) (Nat.le_of_ble_eq_true rfl) (m_X10_putBack m17) (fun _u m18 em18 => ?_)
      refine J_iload_n (pc := 81) dX10_run_81 rfl rfl ?_
      exact T_retI (pc := 82) rfl dX10_run_82
  · refine J_iload_n (pc := 10) dX10_run_10 rfl rfl ?_
    exact T_retI (pc := 11) rfl dX10_run_11
def f_X10_firstLurch_L4 (p0 : Int) : Nat → Int → Int → Mem → Option (Int × Mem)
  | 0, _, _, _ => none
  | u + 1, i2, i3, mu4 => ck p0 6 (if w32 i3 < w32 (mu4 76 (w32 p0).toNat) then (if w32 i2 < 0 then (ck ((40 * p0) + i3) 240 (bd (f_X10_goHour mu4 (mu4 77 (w32 ((40 * p0) + i3)).toNat)) fun r6 m5 => vl (if w32 (m5 67 36) = 0 then (-1) else i3) fun v7 => f_X10_firstLurch_L4 p0 u v7 (i3 + 1) m5)) else (some (i2, mu4))) else (some (i2, mu4)))
set_option maxRecDepth 40000 in
theorem j_X10_firstLurch_L4 {l : Launch} {G : qG} {p0 : Int} : ∀ (u : Nat) (i2 : Int) (i3 : Int) (mu4 : Mem), qJ l G yX10_firstLurch cX10_firstLurch 5 (some .int) 5 4 [some (.ref 67), some (.int (iI p0)), some (.int (iI i2)), some (.int (iI i3)), none] [] (lay mu4) (lf eI (f_X10_firstLurch_L4 p0 u i2 i3 mu4)) := by
  intro u
  induction u with
  | zero => intro _ _ mu4; exact T_none
  | succ u ih =>
    intro i2 i3 mu4
    rw [f_X10_firstLurch_L4]
    refine J_iload_n (pc := 4) dX10_firstLurch_4 rfl rfl ?_
    refine J_aload_n (pc := 5) dX10_firstLurch_5 rfl rfl rfl ?_
    refine tg_X10_38 (pc := 6) rfl dX10_firstLurch_6 ?_
    refine J_iload_n (pc := 9) dX10_firstLurch_9 rfl rfl ?_
    refine T_iaload (pc := 10) (by decide) rfl dX10_firstLurch_10 (fun h1 => ?_)
    refine T_icmp_ge (pc := 11) (tgt := 54) dX10_firstLurch_11 (by decide) (fun h2 => ?_) (fun h2 => ?_)
    · refine J_iload_n (pc := 54) dX10_firstLurch_54 rfl rfl ?_
      exact T_retI (pc := 55) rfl dX10_firstLurch_55
    · refine J_iload_n (pc := 14) dX10_firstLurch_14 rfl rfl ?_
      refine T_if_ge (pc := 15) (tgt := 54) dX10_firstLurch_15 (by decide) (fun h3 => ?_) (fun h3 => ?_)
      · refine J_iload_n (pc := 54) dX10_firstLurch_54 rfl rfl ?_
        exact T_retI (pc := 55) rfl dX10_firstLurch_55
      · refine J_aload_n (pc := 18) dX10_firstLurch_18 rfl rfl rfl ?_
        refine J_aload_n (pc := 19) dX10_firstLurch_19 rfl rfl rfl ?_
        refine tg_X10_41 (pc := 20) rfl dX10_firstLurch_20 ?_
        refine J_bipush (pc := 23) dX10_firstLurch_23 (by decide) (by decide) ?_
        refine J_iload_n (pc := 25) dX10_firstLurch_25 rfl rfl ?_
        refine J_imul (pc := 26) dX10_firstLurch_26 ?_
        refine J_iload_n (pc := 27) dX10_firstLurch_27 rfl rfl ?_
        refine J_iadd (pc := 28) dX10_firstLurch_28 ?_
        refine T_iaload (pc := 29) (by decide) rfl dX10_firstLurch_29 (fun h4 => ?_)
        refine T_callVI (pc := 30) (As := [.int (iI (mu4 77 (w32 ((40 * p0) + i3)).toNat))]) (k := 67) (st := []) ok_yX10_goHour lm_X10_224 dX10_firstLurch_30 (by decide) rfl rfl (by decide) (Nat.le_of_ble_eq_true rfl) (m_X10_goHour mu4 (mu4 77 (w32 ((40 * p0) + i3)).toNat)) (fun r6 m5 em5 => ?_)
        refine J_istore (pc := 33) (L' := [some (.ref 67), some (.int (iI p0)), some (.int (iI i2)), some (.int (iI i3)), some (.int (iI r6))]) dX10_firstLurch_33 (by decide) rfl rfl ?_
        refine J_aload_n (pc := 35) dX10_firstLurch_35 rfl rfl rfl ?_
        refine tg_X10_170 (pc := 36) rfl dX10_firstLurch_36 ?_
        refine T_vl (fun v7 ev7 => ?_)
        refine T_dia (j := 47) (v := v7) (LT := [some (.ref 67), some (.int (iI p0)), some (.int (iI i2)), some (.int (iI i3)), some (.int (iI r6))]) (sT := []) ?_ (fun hj8 => ?_)
        · refine J_istore_n (pc := 47) (L' := [some (.ref 67), some (.int (iI p0)), some (.int (iI v7)), some (.int (iI i3)), some (.int (iI r6))]) dX10_firstLurch_47 rfl (by decide) rfl rfl ?_
          refine J_iinc (pc := 48) (L' := [some (.ref 67), some (.int (iI p0)), some (.int (iI v7)), some (.int (iI (i3 + 1))), some (.int (iI r6))]) dX10_firstLurch_48 rfl (by decide) rfl rfl ?_
          refine J_goto (pc := 51) (tgt := 4) dX10_firstLurch_51 (by decide) ?_
          refine J_dropf (pc := 4) (L' := [some (.ref 67), some (.int (iI p0)), some (.int (iI v7)), some (.int (iI (i3 + 1))), none]) [true, true, true, true, false] rfl ?_
          exact ih v7 (i3 + 1) m5
        · refine T_if_eq_same (pc := 39) (tgt := 46) dX10_firstLurch_39 (by decide) (fun h9 => ?_) (fun h9 => ?_)
          · refine J_iconst (pc := 46) dX10_firstLurch_46 ?_
            exact T_top (by rw [ev7, if_pos h9]) hj8
          · refine J_iload_n (pc := 42) dX10_firstLurch_42 rfl rfl ?_
            refine J_goto (pc := 43) (tgt := 47) dX10_firstLurch_43 (by decide) ?_
            exact T_top (by rw [ev7, if_neg h9]) hj8
def f_X10_firstLurch (m0 : Mem) (p0 : Int) : Option (Int × Mem) := f_X10_firstLurch_L4 p0 100000 (-1) 0 m0
set_option maxRecDepth 40000 in
theorem m_X10_firstLurch {l : Launch} {G : qG} (m0 : Mem) (p0 : Int) : qM l G 5 yX10_firstLurch cX10_firstLurch 5 (some .int) [.ref 67, .int (iI p0)] (lay m0) (lf eI (f_X10_firstLurch m0 p0)) := by
  refine qM_of (L := [some (.ref 67), some (.int (iI p0)), none, none, none]) (by decide +kernel) (Nat.le_of_ble_eq_true rfl) rfl ?_
  unfold f_X10_firstLurch
  refine J_iconst (pc := 0) dX10_firstLurch_0 ?_
  refine J_istore_n (pc := 1) (L' := [some (.ref 67), some (.int (iI p0)), some (.int (iI (-1))), none, none]) dX10_firstLurch_1 rfl (by decide) rfl rfl ?_
  refine J_iconst (pc := 2) dX10_firstLurch_2 ?_
  refine J_istore_n (pc := 3) (L' := [some (.ref 67), some (.int (iI p0)), some (.int (iI (-1))), some (.int (iI 0)), none]) dX10_firstLurch_3 rfl (by decide) rfl rfl ?_
  refine j_X10_firstLurch_L4 100000 (-1) 0 m0
def f_X10_burns (m0 : Mem) (p0 : Int) : Option (Int × Mem) := bd (f_X10_planRefused m0 p0) fun r2 m1 => if w32 r2 = 0 then (bd (f_X10_save m1) fun _u m4 => bd (f_X10_firstLurch m4 p0) fun r6 m5 => bd (f_X10_putBack m5) fun _u m7 => if w32 r6 < 0 then (some ((-9), m7)) else (vm (wr m7 67 10 (m7 67 36)) fun m9 => some (r6, m9))) else (some (r2, m1))
set_option maxRecDepth 40000 in
theorem m_X10_burns {l : Launch} {G : qG} (m0 : Mem) (p0 : Int) : qM l G 6 yX10_burns cX10_burns 4 (some .int) [.ref 67, .int (iI p0)] (lay m0) (lf eI (f_X10_burns m0 p0)) := by
  refine qM_of (L := [some (.ref 67), some (.int (iI p0)), none, none]) (by decide +kernel) (Nat.le_of_ble_eq_true rfl) rfl ?_
  unfold f_X10_burns
  refine J_aload_n (pc := 0) dX10_burns_0 rfl rfl rfl ?_
  refine J_iload_n (pc := 1) dX10_burns_1 rfl rfl ?_
  refine T_callVI (pc := 2) (As := [.int (iI p0)]) (k := 67) (st := []) ok_yX10_planRefused lm_X10_229 dX10_burns_2 (by decide) rfl rfl (by decide) (Nat.le_of_ble_eq_true rfl) (m_X10_planRefused m0 p0) (fun r2 m1 em1 => ?_)
  refine J_istore_n (pc := 5) (L' := [some (.ref 67), some (.int (iI p0)), some (.int (iI r2)), none]) dX10_burns_5 rfl (by decide) rfl rfl ?_
  refine J_iload_n (pc := 6) dX10_burns_6 rfl rfl ?_
  refine T_if_eq (pc := 7) (tgt := 12) dX10_burns_7 (by decide) (fun h3 => ?_) (fun h3 => ?_)
  · refine J_aload_n (pc := 12) dX10_burns_12 rfl rfl rfl ?_
    refine T_callVU (pc := 13) (As := []) (k := 67) (st := []) ok_yX10_save lm_X10_232 dX10_burns_13 (by decide) rfl rfl (by decide) (Nat.le_of_ble_eq_true rfl) (m_X10_save m1) (fun _u m4 em4 => ?_)
    refine J_aload_n (pc := 16) dX10_burns_16 rfl rfl rfl ?_
    refine J_iload_n (pc := 17) dX10_burns_17 rfl rfl ?_
    refine T_callVI (pc := 18) (As := [.int (iI p0)]) (k := 67) (st := []) ok_yX10_firstLurch lm_X10_242 dX10_burns_18 (by decide) rfl rfl (by decide) (Nat.le_of_ble_eq_true rfl) (m_X10_firstLurch m4 p0) (fun r6 m5 em5 => ?_)
    refine J_istore_n (pc := 21) (L' := [some (.ref 67), some (.int (iI p0)), some (.int (iI r2)), some (.int (iI r6))]) dX10_burns_21 rfl (by decide) rfl rfl ?_
    refine J_aload_n (pc := 22) dX10_burns_22 rfl rfl rfl ?_
    refine T_callVU (pc := 23) (As := []) (k := 67) (st := []) ok_yX10_putBack lm_X10_239 dX10_burns_23 (by decide) rfl rfl (by decide) (Nat.le_of_ble_eq_true rfl) (m_X10_putBack m5) (fun _u m7 em7 => ?_)
    refine J_iload_n (pc := 26) dX10_burns_26 rfl rfl ?_
    refine T_if_ge (pc := 27) (tgt := 33) dX10_burns_27 (by decide) (fun h8 => ?_) (fun h8 => ?_)
    · refine J_aload_n (pc := 33) dX10_burns_33 rfl rfl rfl ?_
      refine J_aload_n (pc := 34) dX10_burns_34 rfl rfl rfl ?_
      refine tg_X10_170 (pc := 35) rfl dX10_burns_35 ?_
      refine tp_X10_118 (pc := 38) rfl dX10_burns_38 ?_
      refine T_vm (fun m9 em9 => ?_)
      refine J_iload_n (pc := 41) dX10_burns_41 rfl rfl ?_
      exact T_retI (pc := 42) rfl dX10_burns_42
    · refine J_bipush (pc := 30) dX10_burns_30 (by decide) (by decide) ?_
      exact T_retI (pc := 32) rfl dX10_burns_32
  · refine J_iload_n (pc := 10) dX10_burns_10 rfl rfl ?_
    exact T_retI (pc := 11) rfl dX10_burns_11
def f_X10_codes (m0 : Mem) (p0 : Int) : Option (Int × Mem) := some (zshl 1 ((m0 67 0) * p0), m0)
set_option maxRecDepth 40000 in
theorem m_X10_codes {l : Launch} {G : qG} (m0 : Mem) (p0 : Int) : qM l G 1 yX10_codes cX10_codes 2 (some .int) [.ref 67, .int (iI p0)] (lay m0) (lf eI (f_X10_codes m0 p0)) := by
  refine qM_of (L := [some (.ref 67), some (.int (iI p0))]) (by decide +kernel) (Nat.le_of_ble_eq_true rfl) rfl ?_
  unfold f_X10_codes
  refine J_iconst (pc := 0) dX10_codes_0 ?_
  refine J_aload_n (pc := 1) dX10_codes_1 rfl rfl rfl ?_
  refine tg_X10_104 (pc := 2) rfl dX10_codes_2 ?_
  refine J_iload_n (pc := 5) dX10_codes_5 rfl rfl ?_
  refine J_imul (pc := 6) dX10_codes_6 ?_
  refine J_ishl (pc := 7) dX10_codes_7 ?_
  exact T_retI (pc := 8) rfl dX10_codes_8
def f_X10_setOf (m0 : Mem) (p0 : Int) (p1 : Int) (p2 : Int) : Option (Int × Mem) := some (zand (zshr p0 ((m0 67 0) * ((p1 - 1) - p2))) ((zshl 1 (m0 67 0)) - 1), m0)
set_option maxRecDepth 40000 in
theorem m_X10_setOf {l : Launch} {G : qG} (m0 : Mem) (p0 : Int) (p1 : Int) (p2 : Int) : qM l G 1 yX10_setOf cX10_setOf 4 (some .int) [.ref 67, .int (iI p0), .int (iI p1), .int (iI p2)] (lay m0) (lf eI (f_X10_setOf m0 p0 p1 p2)) := by
  refine qM_of (L := [some (.ref 67), some (.int (iI p0)), some (.int (iI p1)), some (.int (iI p2))]) (by decide +kernel) (Nat.le_of_ble_eq_true rfl) rfl ?_
  unfold f_X10_setOf
  refine J_iload_n (pc := 0) dX10_setOf_0 rfl rfl ?_
  refine J_aload_n (pc := 1) dX10_setOf_1 rfl rfl rfl ?_
  refine tg_X10_104 (pc := 2) rfl dX10_setOf_2 ?_
  refine J_iload_n (pc := 5) dX10_setOf_5 rfl rfl ?_
  refine J_iconst (pc := 6) dX10_setOf_6 ?_
  refine J_isub (pc := 7) dX10_setOf_7 ?_
  refine J_iload_n (pc := 8) dX10_setOf_8 rfl rfl ?_
  refine J_isub (pc := 9) dX10_setOf_9 ?_
  refine J_imul (pc := 10) dX10_setOf_10 ?_
  refine J_ishr (pc := 11) dX10_setOf_11 ?_
  refine J_iconst (pc := 12) dX10_setOf_12 ?_
  refine J_aload_n (pc := 13) dX10_setOf_13 rfl rfl rfl ?_
  refine tg_X10_104 (pc := 14) rfl dX10_setOf_14 ?_
  refine J_ishl (pc := 17) dX10_setOf_17 ?_
  refine J_iconst (pc := 18) dX10_setOf_18 ?_
  refine J_isub (pc := 19) dX10_setOf_19 ?_
  refine J_iand (pc := 20) dX10_setOf_20 ?_
  exact T_retI (pc := 21) rfl dX10_setOf_21
def f_X10_layPlan_L11 (p0 : Int) (p1 : Int) (p2 : Int) : Nat → Int → Mem → Option (Unit × Mem)
  | 0, _, _ => none
  | u + 1, i5, mu11 => if w32 i5 < w32 p2 then (bd (f_X10_setOf mu11 p1 p2 i5) fun r5 m4 => ck ((40 * p0) + i5) 240 (vm (wr m4 77 (w32 ((40 * p0) + i5)).toNat r5) fun m7 => f_X10_layPlan_L11 p0 p1 p2 u (i5 + 1) m7)) else (some ((), mu11))
set_option maxRecDepth 40000 in
theorem j_X10_layPlan_L11 {l : Launch} {G : qG} {p0 : Int} {p1 : Int} {p2 : Int} : ∀ (u : Nat) (i5 : Int) (mu11 : Mem), qJ l G yX10_layPlan cX10_layPlan 6 none 4 11 [some (.ref 67), some (.int (iI p0)), some (.int (iI p1)), some (.int (iI p2)), none, some (.int (iI i5))] [] (lay mu11) (lf eU (f_X10_layPlan_L11 p0 p1 p2 u i5 mu11)) := by
  intro u
  induction u with
  | zero => intro _ mu11; exact T_none
  | succ u ih =>
    intro i5 mu11
    rw [f_X10_layPlan_L11]
    refine J_iload (pc := 11) dX10_layPlan_11 rfl ?_
    refine J_iload_n (pc := 13) dX10_layPlan_13 rfl rfl ?_
    refine T_icmp_ge (pc := 14) (tgt := 43) dX10_layPlan_14 (by decide) (fun h3 => ?_) (fun h3 => ?_)
    · exact T_retV (pc := 43) rfl dX10_layPlan_43
    · refine J_aload_n (pc := 17) dX10_layPlan_17 rfl rfl rfl ?_
      refine tg_X10_41 (pc := 18) rfl dX10_layPlan_18 ?_
      refine J_bipush (pc := 21) dX10_layPlan_21 (by decide) (by decide) ?_
      refine J_iload_n (pc := 23) dX10_layPlan_23 rfl rfl ?_
      refine J_imul (pc := 24) dX10_layPlan_24 ?_
      refine J_iload (pc := 25) dX10_layPlan_25 rfl ?_
      refine J_iadd (pc := 27) dX10_layPlan_27 ?_
      refine J_aload_n (pc := 28) dX10_layPlan_28 rfl rfl rfl ?_
      refine J_iload_n (pc := 29) dX10_layPlan_29 rfl rfl ?_
      refine J_iload_n (pc := 30) dX10_layPlan_30 rfl rfl ?_
      refine J_iload (pc := 31) dX10_layPlan_31 rfl ?_
      refine T_callVI (pc := 33) (As := [.int (iI p1), .int (iI p2), .int (iI i5)]) (k := 67) (st := [.int (iI ((40 * p0) + i5)), .ref 77]) ok_yX10_setOf lm_X10_248 dX10_layPlan_33 (by decide) rfl rfl (by decide) (Nat.le_of_ble_eq_true rfl) (m_X10_setOf mu11 p1 p2 i5) (fun r5 m4 em4 => ?_)
      refine T_iastore (pc := 36) (by decide) rfl dX10_layPlan_36 (fun h6 => ?_)
      refine T_vm (fun m7 em7 => ?_)
      refine J_iinc (pc := 37) (L' := [some (.ref 67), some (.int (iI p0)), some (.int (iI p1)), some (.int (iI p2)), none, some (.int (iI (i5 + 1)))]) dX10_layPlan_37 rfl (by decide) rfl rfl ?_
      refine J_goto (pc := 40) (tgt := 11) dX10_layPlan_40 (by decide) ?_
      exact ih (i5 + 1) m7
def f_X10_layPlan (m0 : Mem) (p0 : Int) (p1 : Int) (p2 : Int) : Option (Unit × Mem) := bd (f_X10_row m0 p0 p2) fun r2 m1 => f_X10_layPlan_L11 p0 p1 p2 100000 0 m1
set_option maxRecDepth 40000 in
theorem m_X10_layPlan {l : Launch} {G : qG} (m0 : Mem) (p0 : Int) (p1 : Int) (p2 : Int) : qM l G 4 yX10_layPlan cX10_layPlan 6 none [.ref 67, .int (iI p0), .int (iI p1), .int (iI p2)] (lay m0) (lf eU (f_X10_layPlan m0 p0 p1 p2)) := by
  refine qM_of (L := [some (.ref 67), some (.int (iI p0)), some (.int (iI p1)), some (.int (iI p2)), none, none]) (by decide +kernel) (Nat.le_of_ble_eq_true rfl) rfl ?_
  unfold f_X10_layPlan
  refine J_aload_n (pc := 0) dX10_layPlan_0 rfl rfl rfl ?_
  refine J_iload_n (pc := 1) dX10_layPlan_1 rfl rfl ?_
  refine J_iload_n (pc := 2) dX10_layPlan_2 rfl rfl ?_
  refine T_callVI (pc := 3) (As := [.int (iI p0), .int (iI p2)]) (k := 67) (st := []) ok_yX10_row lm_X10_245 dX10_layPlan_3 (by decide) rfl rfl (by decide) (Nat.le_of_ble_eq_true rfl) (m_X10_row m0 p0 p2) (fun r2 m1 em1 => ?_)
  refine J_istore (pc := 6) (L' := [some (.ref 67), some (.int (iI p0)), some (.int (iI p1)), some (.int (iI p2)), some (.int (iI r2)), none]) dX10_layPlan_6 (by decide) rfl rfl ?_
  refine J_iconst (pc := 8) dX10_layPlan_8 ?_
  refine J_istore (pc := 9) (L' := [some (.ref 67), some (.int (iI p0)), some (.int (iI p1)), some (.int (iI p2)), some (.int (iI r2)), some (.int (iI 0))]) dX10_layPlan_9 (by decide) rfl rfl ?_
  refine J_dropf (pc := 11) (L' := [some (.ref 67), some (.int (iI p0)), some (.int (iI p1)), some (.int (iI p2)), none, some (.int (iI 0))]) [true, true, true, true, false, true] rfl ?_
  refine j_X10_layPlan_L11 100000 0 m1
def f_X10_goPlan_L5 (p0 : Int) (p1 : Int) : Nat → Int → Int → Mem → Option (Int × Mem)
  | 0, _, _, _ => none
  | u + 1, i3, i4, mu5 => if w32 i4 < w32 p1 then (bd (f_X10_setOf mu5 p0 p1 i4) fun r3 m2 => bd (f_X10_goHour m2 r3) fun r5 m4 => vl (if w32 i3 = 0 then 0 else (if w32 (m4 67 36) = 0 then 1 else 0)) fun v6 => f_X10_goPlan_L5 p0 p1 u v6 (i4 + 1) m4) else (ckb i3 (some (i3, mu5)))
set_option maxRecDepth 40000 in
theorem j_X10_goPlan_L5 {l : Launch} {G : qG} {p0 : Int} {p1 : Int} : ∀ (u : Nat) (i3 : Int) (i4 : Int) (mu5 : Mem), qJ l G yX10_goPlan cX10_goPlan 6 (some .boolean) 5 5 [some (.ref 67), some (.int (iI p0)), some (.int (iI p1)), some (.int (iI i3)), some (.int (iI i4)), none] [] (lay mu5) (lf eI (f_X10_goPlan_L5 p0 p1 u i3 i4 mu5)) := by
  intro u
  induction u with
  | zero => intro _ _ mu5; exact T_none
  | succ u ih =>
    intro i3 i4 mu5
    rw [f_X10_goPlan_L5]
    refine J_iload (pc := 5) dX10_goPlan_5 rfl ?_
    refine J_iload_n (pc := 7) dX10_goPlan_7 rfl rfl ?_
    refine T_icmp_ge (pc := 8) (tgt := 48) dX10_goPlan_8 (by decide) (fun h1 => ?_) (fun h1 => ?_)
    · refine J_iload_n (pc := 48) dX10_goPlan_48 rfl rfl ?_
      exact T_retB (pc := 49) rfl dX10_goPlan_49
    · refine J_aload_n (pc := 11) dX10_goPlan_11 rfl rfl rfl ?_
      refine J_aload_n (pc := 12) dX10_goPlan_12 rfl rfl rfl ?_
      refine J_iload_n (pc := 13) dX10_goPlan_13 rfl rfl ?_
      refine J_iload_n (pc := 14) dX10_goPlan_14 rfl rfl ?_
      refine J_iload (pc := 15) dX10_goPlan_15 rfl ?_
      refine T_callVI (pc := 17) (As := [.int (iI p0), .int (iI p1), .int (iI i4)]) (k := 67) (st := [.ref 67]) ok_yX10_setOf lm_X10_248 dX10_goPlan_17 (by decide) rfl rfl (by decide) (Nat.le_of_ble_eq_true rfl) (m_X10_setOf mu5 p0 p1 i4) (fun r3 m2 em2 => ?_)
      refine T_callVI (pc := 20) (As := [.int (iI r3)]) (k := 67) (st := []) ok_yX10_goHour lm_X10_224 dX10_goPlan_20 (by decide) rfl rfl (by decide) (Nat.le_of_ble_eq_true rfl) (m_X10_goHour m2 r3) (fun r5 m4 em4 => ?_)
      refine J_istore (pc := 23) (L' := [some (.ref 67), some (.int (iI p0)), some (.int (iI p1)), some (.int (iI i3)), some (.int (iI i4)), some (.int (iI r5))]) dX10_goPlan_23 (by decide) rfl rfl ?_
      refine J_iload_n (pc := 25) dX10_goPlan_25 rfl rfl ?_
      refine T_vl (fun v6 ev6 => ?_)
      refine T_dia (j := 41) (v := v6) (LT := [some (.ref 67), some (.int (iI p0)), some (.int (iI p1)), some (.int (iI i3)), some (.int (iI i4)), some (.int (iI r5))]) (sT := []) ?_ (fun hj7 => ?_)
      · refine J_istore_n (pc := 41) (L' := [some (.ref 67), some (.int (iI p0)), some (.int (iI p1)), some (.int (iI v6)), some (.int (iI i4)), some (.int (iI r5))]) dX10_goPlan_41 rfl (by decide) rfl rfl ?_
        refine J_iinc (pc := 42) (L' := [some (.ref 67), some (.int (iI p0)), some (.int (iI p1)), some (.int (iI v6)), some (.int (iI (i4 + 1))), some (.int (iI r5))]) dX10_goPlan_42 rfl (by decide) rfl rfl ?_
        refine J_goto (pc := 45) (tgt := 5) dX10_goPlan_45 (by decide) ?_
        refine J_dropf (pc := 5) (L' := [some (.ref 67), some (.int (iI p0)), some (.int (iI p1)), some (.int (iI v6)), some (.int (iI (i4 + 1))), none]) [true, true, true, true, true, false] rfl ?_
        exact ih v6 (i4 + 1) m4
      · refine T_if_eq_same (pc := 26) (tgt := 40) dX10_goPlan_26 (by decide) (fun h8 => ?_) (fun h8 => ?_)
        · refine J_iconst (pc := 40) dX10_goPlan_40 ?_
          exact T_top (by rw [ev6, if_pos h8]) hj7
        · refine J_aload_n (pc := 29) dX10_goPlan_29 rfl rfl rfl ?_
          refine tg_X10_170 (pc := 30) rfl dX10_goPlan_30 ?_
          refine T_if_ne_same (pc := 33) (tgt := 40) dX10_goPlan_33 (by decide) (fun h9 => ?_) (fun h9 => ?_)
          · refine J_iconst (pc := 40) dX10_goPlan_40 ?_
            exact T_top (by rw [ev6, if_neg h8, if_neg h9]) hj7
          · refine J_iconst (pc := 36) dX10_goPlan_36 ?_
            refine J_goto (pc := 37) (tgt := 41) dX10_goPlan_37 (by decide) ?_
            exact T_top (by rw [ev6, if_neg h8, if_pos h9]) hj7
def f_X10_goPlan (m0 : Mem) (p0 : Int) (p1 : Int) : Option (Int × Mem) := f_X10_goPlan_L5 p0 p1 100000 1 0 m0
set_option maxRecDepth 40000 in
theorem m_X10_goPlan {l : Launch} {G : qG} (m0 : Mem) (p0 : Int) (p1 : Int) : qM l G 5 yX10_goPlan cX10_goPlan 6 (some .boolean) [.ref 67, .int (iI p0), .int (iI p1)] (lay m0) (lf eI (f_X10_goPlan m0 p0 p1)) := by
  refine qM_of (L := [some (.ref 67), some (.int (iI p0)), some (.int (iI p1)), none, none, none]) (by decide +kernel) (Nat.le_of_ble_eq_true rfl) rfl ?_
  unfold f_X10_goPlan
  refine J_iconst (pc := 0) dX10_goPlan_0 ?_
  refine J_istore_n (pc := 1) (L' := [some (.ref 67), some (.int (iI p0)), some (.int (iI p1)), some (.int (iI 1)), none, none]) dX10_goPlan_1 rfl (by decide) rfl rfl ?_
  refine J_iconst (pc := 2) dX10_goPlan_2 ?_
  refine J_istore (pc := 3) (L' := [some (.ref 67), some (.int (iI p0)), some (.int (iI p1)), some (.int (iI 1)), some (.int (iI 0)), none]) dX10_goPlan_3 (by decide) rfl rfl ?_
  refine j_X10_goPlan_L5 100000 1 0 m0
def f_X10_best_L49 (K : Int → Int → Mem → Option (Int × Mem)) (p0 : Int) (r10 : Int) : Nat → Int → Int → Int → Mem → Option (Int × Mem)
  | 0, _, _, _, _ => none
  | u + 1, i4, i5, i6, mu49 => bd (f_X10_codes mu49 p0) fun r12 m11 => if w32 i6 < w32 r12 then (bd (f_X10_goPlan m11 i6 p0) fun r15 m14 => bd (f_X10_gainsNow m14) fun r17 m16 => vl (r17 - r10) fun x18 => bd (f_X10_putBack m16) fun _u m19 => vl (if w32 i5 < w32 x18 then i6 else i4) fun v20 => vl (if w32 i5 < w32 x18 then x18 else i5) fun v22 => f_X10_best_L49 K p0 r10 u v20 v22 (i6 + 1) m19) else (K i4 i5 m11)
set_option maxRecDepth 40000 in
theorem j_X10_best_L49 {l : Launch} {G : qG} {K : Int → Int → Mem → Option (Int × Mem)} {p0 : Int} {r10 : Int} {p1 : Int} (hK : ∀ (x4 : Int) (x5 : Int) (m : Mem), qJ l G yX10_best cX10_best 9 (some .int) 6 118 [some (.ref 67), some (.int (iI p0)), some (.int (iI p1)), none, some (.int (iI x4)), some (.int (iI x5)), none, none, none] [] (lay m) (lf eI (K x4 x5 m))) : ∀ (u : Nat) (i4 : Int) (i5 : Int) (i6 : Int) (mu49 : Mem), qJ l G yX10_best cX10_best 9 (some .int) 6 49 [some (.ref 67), some (.int (iI p0)), some (.int (iI p1)), some (.int (iI r10)), some (.int (iI i4)), some (.int (iI i5)), some (.int (iI i6)), none, none] [] (lay mu49) (lf eI (f_X10_best_L49 K p0 r10 u i4 i5 i6 mu49)) := by
  intro u
  induction u with
  | zero => intro _ _ _ mu49; exact T_none
  | succ u ih =>
    intro i4 i5 i6 mu49
    rw [f_X10_best_L49]
    refine J_iload (pc := 49) dX10_best_49 rfl ?_
    refine J_aload_n (pc := 51) dX10_best_51 rfl rfl rfl ?_
    refine J_iload_n (pc := 52) dX10_best_52 rfl rfl ?_
    refine T_callVI (pc := 53) (As := [.int (iI p0)]) (k := 67) (st := [.int (iI i6)]) ok_yX10_codes lm_X10_251 dX10_best_53 (by decide) rfl rfl (by decide) (Nat.le_of_ble_eq_true rfl) (m_X10_codes mu49 p0) (fun r12 m11 em11 => ?_)
    refine T_icmp_ge (pc := 56) (tgt := 118) dX10_best_56 (by decide) (fun h13 => ?_) (fun h13 => ?_)
    · refine J_dropf (pc := 118) (L' := [some (.ref 67), some (.int (iI p0)), some (.int (iI p1)), none, some (.int (iI i4)), some (.int (iI i5)), none, none, none]) [true, true, true, false, true, true, false, false, false] rfl ?_
      exact hK i4 i5 m11
    · refine J_aload_n (pc := 59) dX10_best_59 rfl rfl rfl ?_
      refine J_iload (pc := 60) dX10_best_60 rfl ?_
      refine J_iload_n (pc := 62) dX10_best_62 rfl rfl ?_
      refine T_callVI (pc := 63) (As := [.int (iI i6), .int (iI p0)]) (k := 67) (st := []) ok_yX10_goPlan lm_X10_254 dX10_best_63 (by decide) rfl rfl (by decide) (Nat.le_of_ble_eq_true rfl) (m_X10_goPlan m11 i6 p0) (fun r15 m14 em14 => ?_)
      refine J_istore (pc := 66) (L' := [some (.ref 67), some (.int (iI p0)), some (.int (iI p1)), some (.int (iI r10)), some (.int (iI i4)), some (.int (iI i5)), some (.int (iI i6)), some (.int (iI r15)), none]) dX10_best_66 (by decide) rfl rfl ?_
      refine J_aload_n (pc := 68) dX10_best_68 rfl rfl rfl ?_
      refine T_callVI (pc := 69) (As := []) (k := 67) (st := []) ok_yX10_gainsNow lm_X10_235 dX10_best_69 (by decide) rfl rfl (by decide) (Nat.le_of_ble_eq_true rfl) (m_X10_gainsNow m14) (fun r17 m16 em16 => ?_)
      refine J_iload_n (pc := 72) dX10_best_72 rfl rfl ?_
      refine J_isub (pc := 73) dX10_best_73 ?_
      refine T_vlI (pc := 74) (fun x18 ex18 => ?_)
      refine J_istore (pc := 74) (L' := [some (.ref 67), some (.int (iI p0)), some (.int (iI p1)), some (.int (iI r10)), some (.int (iI i4)), some (.int (iI i5)), some (.int (iI i6)), some (.int (iI r15)), some (.int (iI x18))]) dX10_best_74 (by decide) rfl rfl ?_
      refine J_aload_n (pc := 76) dX10_best_76 rfl rfl rfl ?_
      refine T_callVU (pc := 77) (As := []) (k := 67) (st := []) ok_yX10_putBack lm_X10_239 dX10_best_77 (by decide) rfl rfl (by decide) (Nat.le_of_ble_eq_true rfl) (m_X10_putBack m16) (fun _u m19 em19 => ?_)
      refine J_iload (pc := 80) dX10_best_80 rfl ?_
      refine J_iload (pc := 82) dX10_best_82 rfl ?_
      refine T_vl (fun v20 ev20 => ?_)
      refine T_dia (j := 94) (v := v20) (LT := [some (.ref 67), some (.int (iI p0)), some (.int (iI p1)), some (.int (iI r10)), some (.int (iI i4)), some (.int (iI i5)), some (.int (iI i6)), some (.int (iI r15)), some (.int (iI x18))]) (sT := []) ?_ (fun hj21 => ?_)
      · refine J_istore (pc := 94) (L' := [some (.ref 67), some (.int (iI p0)), some (.int (iI p1)), some (.int (iI r10)), some (.int (iI v20)), some (.int (iI i5)), some (.int (iI i6)), some (.int (iI r15)), some (.int (iI x18))]) dX10_best_94 (by decide) rfl rfl ?_
        refine J_iload (pc := 96) dX10_best_96 rfl ?_
        refine J_iload (pc := 98) dX10_best_98 rfl ?_
        refine T_vl (fun v22 ev22 => ?_)
        refine T_dia (j := 110) (v := v22) (LT := [some (.ref 67), some (.int (iI p0)), some (.int (iI p1)), some (.int (iI r10)), some (.int (iI v20)), some (.int (iI i5)), some (.int (iI i6)), some (.int (iI r15)), some (.int (iI x18))]) (sT := []) ?_ (fun hj23 => ?_)
        · refine J_istore (pc := 110) (L' := [some (.ref 67), some (.int (iI p0)), some (.int (iI p1)), some (.int (iI r10)), some (.int (iI v20)), some (.int (iI v22)), some (.int (iI i6)), some (.int (iI r15)), some (.int (iI x18))]) dX10_best_110 (by decide) rfl rfl ?_
          refine J_iinc (pc := 112) (L' := [some (.ref 67), some (.int (iI p0)), some (.int (iI p1)), some (.int (iI r10)), some (.int (iI v20)), some (.int (iI v22)), some (.int (iI (i6 + 1))), some (.int (iI r15)), some (.int (iI x18))]) dX10_best_112 rfl (by decide) rfl rfl ?_
          refine J_goto (pc := 115) (tgt := 49) dX10_best_115 (by decide) ?_
          refine J_dropf (pc := 49) (L' := [some (.ref 67), some (.int (iI p0)), some (.int (iI p1)), some (.int (iI r10)), some (.int (iI v20)), some (.int (iI v22)), some (.int (iI (i6 + 1))), none, none]) [true, true, true, true, true, true, true, false, false] rfl ?_
          exact ih v20 v22 (i6 + 1) m19
        · refine T_icmp_le_same (pc := 100) (tgt := 108) dX10_best_100 (by decide) (fun h24 => ?_) (fun h24 => ?_)
          · refine J_iload (pc := 108) dX10_best_108 rfl ?_
            exact T_top (by rw [ev22, if_neg h24]) hj23
          · refine J_iload (pc := 103) dX10_best_103 rfl ?_
            refine J_goto (pc := 105) (tgt := 110) dX10_best_105 (by decide) ?_
            exact T_top (by rw [ev22, if_pos h24]) hj23
      · refine T_icmp_le_same (pc := 84) (tgt := 92) dX10_best_84 (by decide) (fun h25 => ?_) (fun h25 => ?_)
        · refine J_iload (pc := 92) dX10_best_92 rfl ?_
          exact T_top (by rw [ev20, if_neg h25]) hj21
        · refine J_iload (pc := 87) dX10_best_87 rfl ?_
          refine J_goto (pc := 89) (tgt := 94) dX10_best_89 (by decide) ?_
          exact T_top (by rw [ev20, if_pos h25]) hj21
def f_X10_best (m0 : Mem) (p0 : Int) (p1 : Int) : Option (Int × Mem) := bd (f_X10_in m0 (w32 p0) 0 3) fun r2 m1 => if w32 r2 = 0 then (some ((-1), m1)) else (bd (f_X10_isRow m1 p1) fun r5 m4 => if w32 r5 = 0 then (some ((-1), m4)) else (if w32 (m4 67 0) = 0 then (some ((-4), m4)) else (bd (f_X10_save m4) fun _u m8 => bd (f_X10_gainsNow m8) fun r10 m9 => f_X10_best_L49 (fun x26 x27 m28 => bd (f_X10_layPlan m28 p1 x26 p0) fun _u m29 => some (x27, m29)) p0 r10 100000 0 (-1) 0 m9)))
set_option maxRecDepth 40000 in
theorem m_X10_best {l : Launch} {G : qG} (m0 : Mem) (p0 : Int) (p1 : Int) : qM l G 6 yX10_best cX10_best 9 (some .int) [.ref 67, .int (iI p0), .int (iI p1)] (lay m0) (lf eI (f_X10_best m0 p0 p1)) := by
  refine qM_of (L := [some (.ref 67), some (.int (iI p0)), some (.int (iI p1)), none, none, none, none, none, none]) (by decide +kernel) (Nat.le_of_ble_eq_true rfl) rfl ?_
  unfold f_X10_best
  refine J_iload_n (pc := 0) dX10_best_0 rfl rfl ?_
  refine J_i2l (pc := 1) dX10_best_1 ?_
  refine J_lconst (pc := 2) (z := 0) dX10_best_2 (by decide) ?_
  refine J_ldc2 (pc := 3) (z := 3) dX10_best_3 lk_X10_102 (by decide) ?_
  refine T_callSI (pc := 6) (As := [.long (iL (w32 p0)), .long (iL 0), .long (iL 3)]) (st := []) ok_yX10_in lm_X10_98 dX10_best_6 (by decide) (Nat.le_of_ble_eq_true rfl) (m_X10_in m0 (w32 p0) 0 3) (fun r2 m1 em1 => ?_)
  refine T_if_eq (pc := 9) (tgt := 19) dX10_best_9 (by decide) (fun h3 => ?_) (fun h3 => ?_)
  · refine J_iconst (pc := 19) dX10_best_19 ?_
    exact T_retI (pc := 20) rfl dX10_best_20
  · refine J_iload_n (pc := 12) dX10_best_12 rfl rfl ?_
    refine T_callSI (pc := 13) (As := [.int (iI p1)]) (st := []) ok_yX10_isRow lm_X10_110 dX10_best_13 (by decide) (Nat.le_of_ble_eq_true rfl) (m_X10_isRow m1 p1) (fun r5 m4 em4 => ?_)
    refine T_if_ne (pc := 16) (tgt := 21) dX10_best_16 (by decide) (fun h6 => ?_) (fun h6 => ?_)
    · refine J_aload_n (pc := 21) dX10_best_21 rfl rfl rfl ?_
      refine tg_X10_104 (pc := 22) rfl dX10_best_22 ?_
      refine T_if_ne (pc := 25) (tgt := 31) dX10_best_25 (by decide) (fun h7 => ?_) (fun h7 => ?_)
      · refine J_aload_n (pc := 31) dX10_best_31 rfl rfl rfl ?_
        refine T_callVU (pc := 32) (As := []) (k := 67) (st := []) ok_yX10_save lm_X10_232 dX10_best_32 (by decide) rfl rfl (by decide) (Nat.le_of_ble_eq_true rfl) (m_X10_save m4) (fun _u m8 em8 => ?_)
        refine J_aload_n (pc := 35) dX10_best_35 rfl rfl rfl ?_
        refine T_callVI (pc := 36) (As := []) (k := 67) (st := []) ok_yX10_gainsNow lm_X10_235 dX10_best_36 (by decide) rfl rfl (by decide) (Nat.le_of_ble_eq_true rfl) (m_X10_gainsNow m8) (fun r10 m9 em9 => ?_)
        refine J_istore_n (pc := 39) (L' := [some (.ref 67), some (.int (iI p0)), some (.int (iI p1)), some (.int (iI r10)), none, none, none, none, none]) dX10_best_39 rfl (by decide) rfl rfl ?_
        refine J_iconst (pc := 40) dX10_best_40 ?_
        refine J_istore (pc := 41) (L' := [some (.ref 67), some (.int (iI p0)), some (.int (iI p1)), some (.int (iI r10)), some (.int (iI 0)), none, none, none, none]) dX10_best_41 (by decide) rfl rfl ?_
        refine J_iconst (pc := 43) dX10_best_43 ?_
        refine J_istore (pc := 44) (L' := [some (.ref 67), some (.int (iI p0)), some (.int (iI p1)), some (.int (iI r10)), some (.int (iI 0)), some (.int (iI (-1))), none, none, none]) dX10_best_44 (by decide) rfl rfl ?_
        refine J_iconst (pc := 46) dX10_best_46 ?_
        refine J_istore (pc := 47) (L' := [some (.ref 67), some (.int (iI p0)), some (.int (iI p1)), some (.int (iI r10)), some (.int (iI 0)), some (.int (iI (-1))), some (.int (iI 0)), none, none]) dX10_best_47 (by decide) rfl rfl ?_
        refine j_X10_best_L49 ?_ 100000 0 (-1) 0 m9
        · intro x26 x27 m28
          refine J_aload_n (pc := 118) dX10_best_118 rfl rfl rfl ?_
          refine J_iload_n (pc := 119) dX10_best_119 rfl rfl ?_
          refine J_iload (pc := 120) dX10_best_120 rfl ?_
          refine J_iload_n (pc := 122) dX10_best_122 rfl rfl ?_
          refine T_callVU (pc := 123) (As := [.int (iI p1), .int (iI x26), .int (iI p0)]) (k := 67) (st := []) ok_yX10_layPlan lm_X10_257 dX10_best_123 (by decide) rfl rfl (by decide) (Nat.le_of_ble_eq_true rfl) (m_X10_layPlan m28 p1 x26 p0) (fun _u m29 em29 => ?_)
          refine J_iload (pc := 126) dX10_best_126 rfl ?_
          exact T_retI (pc := 128) rfl dX10_best_128
      · refine J_bipush (pc := 28) dX10_best_28 (by decide) (by decide) ?_
        exact T_retI (pc := 30) rfl dX10_best_30
    · refine J_iconst (pc := 19) dX10_best_19 ?_
      exact T_retI (pc := 20) rfl dX10_best_20
def f_X10_slowest_L45 (K : Int → Int → Mem → Option (Int × Mem)) (p0 : Int) : Nat → Int → Int → Int → Mem → Option (Int × Mem)
  | 0, _, _, _, _ => none
  | u + 1, i3, i4, i5, mu45 => bd (f_X10_codes mu45 p0) fun r10 m9 => if w32 i5 < w32 r10 then (bd (f_X10_goPlan m9 i5 p0) fun r13 m12 => jn (κ := Int → Mem → Option (Int × Mem)) (fun s16 m15 => bd (f_X10_putBack m15) fun _u m17 => vl (if w32 s16 < w32 i4 then i5 else i3) fun v18 => vl (if w32 s16 < w32 i4 then s16 else i4) fun v20 => f_X10_slowest_L45 K p0 u v18 v20 (i5 + 1) m17) fun k14 => if w32 r13 = 0 then (k14 1000000 m12) else (ck 0 16 (k14 (m12 73 (w32 0).toNat) m12))) else (K i3 i4 m9)
set_option maxRecDepth 40000 in
theorem j_X10_slowest_L45 {l : Launch} {G : qG} {K : Int → Int → Mem → Option (Int × Mem)} {p0 : Int} {p1 : Int} (hK : ∀ (x3 : Int) (x4 : Int) (m : Mem), qJ l G yX10_slowest cX10_slowest 8 (some .int) 6 123 [some (.ref 67), some (.int (iI p0)), some (.int (iI p1)), some (.int (iI x3)), some (.int (iI x4)), none, none, none] [] (lay m) (lf eI (K x3 x4 m))) : ∀ (u : Nat) (i3 : Int) (i4 : Int) (i5 : Int) (mu45 : Mem), qJ l G yX10_slowest cX10_slowest 8 (some .int) 6 45 [some (.ref 67), some (.int (iI p0)), some (.int (iI p1)), some (.int (iI i3)), some (.int (iI i4)), some (.int (iI i5)), none, none] [] (lay mu45) (lf eI (f_X10_slowest_L45 K p0 u i3 i4 i5 mu45)) := by
  intro u
  induction u with
  | zero => intro _ _ _ mu45; exact T_none
  | succ u ih =>
    intro i3 i4 i5 mu45
    rw [f_X10_slowest_L45]
    refine J_iload (pc := 45) dX10_slowest_45 rfl ?_
    refine J_aload_n (pc := 47) dX10_slowest_47 rfl rfl rfl ?_
    refine J_iload_n (pc := 48) dX10_slowest_48 rfl rfl ?_
    refine T_callVI (pc := 49) (As := [.int (iI p0)]) (k := 67) (st := [.int (iI i5)]) ok_yX10_codes lm_X10_251 dX10_slowest_49 (by decide) rfl rfl (by decide) (Nat.le_of_ble_eq_true rfl) (m_X10_codes mu45 p0) (fun r10 m9 em9 => ?_)
    refine T_icmp_ge (pc := 52) (tgt := 123) dX10_slowest_52 (by decide) (fun h11 => ?_) (fun h11 => ?_)
    · refine J_dropf (pc := 123) (L' := [some (.ref 67), some (.int (iI p0)), some (.int (iI p1)), some (.int (iI i3)), some (.int (iI i4)), none, none, none]) [true, true, true, true, true, false, false, false] rfl ?_
      exact hK i3 i4 m9
    · refine J_aload_n (pc := 55) dX10_slowest_55 rfl rfl rfl ?_
      refine J_iload (pc := 56) dX10_slowest_56 rfl ?_
      refine J_iload_n (pc := 58) dX10_slowest_58 rfl rfl ?_
      refine T_callVI (pc := 59) (As := [.int (iI i5), .int (iI p0)]) (k := 67) (st := []) ok_yX10_goPlan lm_X10_254 dX10_slowest_59 (by decide) rfl rfl (by decide) (Nat.le_of_ble_eq_true rfl) (m_X10_goPlan m9 i5 p0) (fun r13 m12 em12 => ?_)
      refine J_istore (pc := 62) (L' := [some (.ref 67), some (.int (iI p0)), some (.int (iI p1)), some (.int (iI i3)), some (.int (iI i4)), some (.int (iI i5)), some (.int (iI r13)), none]) dX10_slowest_62 (by decide) rfl rfl ?_
      refine J_iload (pc := 64) dX10_slowest_64 rfl ?_
      refine T_jn (κ := Int → Mem → Option (Int × Mem)) (fun k => ∀ (s16 : Int) (m15 : Mem), qJ l G yX10_slowest cX10_slowest 8 (some .int) 6 81 [some (.ref 67), some (.int (iI p0)), some (.int (iI p1)), some (.int (iI i3)), some (.int (iI i4)), some (.int (iI i5)), none, none] [.int (iI s16)] (lay m15) (lf eI (k s16 m15))) ?_ (fun k14 hk14 => ?_)
      · intro s16 m15
        refine J_istore (pc := 81) (L' := [some (.ref 67), some (.int (iI p0)), some (.int (iI p1)), some (.int (iI i3)), some (.int (iI i4)), some (.int (iI i5)), none, some (.int (iI s16))]) dX10_slowest_81 (by decide) rfl rfl ?_
        refine J_aload_n (pc := 83) dX10_slowest_83 rfl rfl rfl ?_
        refine T_callVU (pc := 84) (As := []) (k := 67) (st := []) ok_yX10_putBack lm_X10_239 dX10_slowest_84 (by decide) rfl rfl (by decide) (Nat.le_of_ble_eq_true rfl) (m_X10_putBack m15) (fun _u m17 em17 => ?_)
        refine J_iload (pc := 87) dX10_slowest_87 rfl ?_
        refine J_iload (pc := 89) dX10_slowest_89 rfl ?_
        refine T_vl (fun v18 ev18 => ?_)
        refine T_dia (j := 100) (v := v18) (LT := [some (.ref 67), some (.int (iI p0)), some (.int (iI p1)), some (.int (iI i3)), some (.int (iI i4)), some (.int (iI i5)), none, some (.int (iI s16))]) (sT := []) ?_ (fun hj19 => ?_)
        · refine J_istore_n (pc := 100) (L' := [some (.ref 67), some (.int (iI p0)), some (.int (iI p1)), some (.int (iI v18)), some (.int (iI i4)), some (.int (iI i5)), none, some (.int (iI s16))]) dX10_slowest_100 rfl (by decide) rfl rfl ?_
          refine J_iload (pc := 101) dX10_slowest_101 rfl ?_
          refine J_iload (pc := 103) dX10_slowest_103 rfl ?_
          refine T_vl (fun v20 ev20 => ?_)
          refine T_dia (j := 115) (v := v20) (LT := [some (.ref 67), some (.int (iI p0)), some (.int (iI p1)), some (.int (iI v18)), some (.int (iI i4)), some (.int (iI i5)), none, some (.int (iI s16))]) (sT := []) ?_ (fun hj21 => ?_)
          · refine J_istore (pc := 115) (L' := [some (.ref 67), some (.int (iI p0)), some (.int (iI p1)), some (.int (iI v18)), some (.int (iI v20)), some (.int (iI i5)), none, some (.int (iI s16))]) dX10_slowest_115 (by decide) rfl rfl ?_
            refine J_iinc (pc := 117) (L' := [some (.ref 67), some (.int (iI p0)), some (.int (iI p1)), some (.int (iI v18)), some (.int (iI v20)), some (.int (iI (i5 + 1))), none, some (.int (iI s16))]) dX10_slowest_117 rfl (by decide) rfl rfl ?_
            refine J_goto (pc := 120) (tgt := 45) dX10_slowest_120 (by decide) ?_
            refine J_dropf (pc := 45) (L' := [some (.ref 67), some (.int (iI p0)), some (.int (iI p1)), some (.int (iI v18)), some (.int (iI v20)), some (.int (iI (i5 + 1))), none, none]) [true, true, true, true, true, true, false, false] rfl ?_
            exact ih v18 v20 (i5 + 1) m17
          · refine T_icmp_ge_same (pc := 105) (tgt := 113) dX10_slowest_105 (by decide) (fun h22 => ?_) (fun h22 => ?_)
            · refine J_iload (pc := 113) dX10_slowest_113 rfl ?_
              exact T_top (by rw [ev20, if_neg h22]) hj21
            · refine J_iload (pc := 108) dX10_slowest_108 rfl ?_
              refine J_goto (pc := 110) (tgt := 115) dX10_slowest_110 (by decide) ?_
              exact T_top (by rw [ev20, if_pos h22]) hj21
        · refine T_icmp_ge_same (pc := 91) (tgt := 99) dX10_slowest_91 (by decide) (fun h23 => ?_) (fun h23 => ?_)
          · refine J_iload_n (pc := 99) dX10_slowest_99 rfl rfl ?_
            exact T_top (by rw [ev18, if_neg h23]) hj19
          · refine J_iload (pc := 94) dX10_slowest_94 rfl ?_
            refine J_goto (pc := 96) (tgt := 100) dX10_slowest_96 (by decide) ?_
            exact T_top (by rw [ev18, if_pos h23]) hj19
      · refine T_if_eq (pc := 66) (tgt := 78) dX10_slowest_66 (by decide) (fun h24 => ?_) (fun h24 => ?_)
        · refine J_ldcw (pc := 78) (z := 1000000) dX10_slowest_78 lk_X10_261 (by decide) ?_
          refine J_dropf (pc := 81) (L' := [some (.ref 67), some (.int (iI p0)), some (.int (iI p1)), some (.int (iI i3)), some (.int (iI i4)), some (.int (iI i5)), none, none]) [true, true, true, true, true, true, false, false] rfl ?_
          exact hk14 1000000 m12
        · refine J_aload_n (pc := 69) dX10_slowest_69 rfl rfl rfl ?_
          refine tg_X10_25 (pc := 70) rfl dX10_slowest_70 ?_
          refine J_iconst (pc := 73) dX10_slowest_73 ?_
          refine T_iaload (pc := 74) (by decide) rfl dX10_slowest_74 (fun h25 => ?_)
          refine J_goto (pc := 75) (tgt := 81) dX10_slowest_75 (by decide) ?_
          refine J_dropf (pc := 81) (L' := [some (.ref 67), some (.int (iI p0)), some (.int (iI p1)), some (.int (iI i3)), some (.int (iI i4)), some (.int (iI i5)), none, none]) [true, true, true, true, true, true, false, false] rfl ?_
          exact hk14 (m12 73 (w32 0).toNat) m12
def f_X10_slowest (m0 : Mem) (p0 : Int) (p1 : Int) : Option (Int × Mem) := bd (f_X10_in m0 (w32 p0) 0 3) fun r2 m1 => if w32 r2 = 0 then (some ((-1), m1)) else (bd (f_X10_isRow m1 p1) fun r5 m4 => if w32 r5 = 0 then (some ((-1), m4)) else (if w32 (m4 67 0) = 0 then (some ((-4), m4)) else (bd (f_X10_save m4) fun _u m8 => f_X10_slowest_L45 (fun x26 x27 m28 => bd (f_X10_layPlan m28 p1 x26 p0) fun _u m29 => some (x27, m29)) p0 100000 0 1000000 0 m8)))
set_option maxRecDepth 40000 in
theorem m_X10_slowest {l : Launch} {G : qG} (m0 : Mem) (p0 : Int) (p1 : Int) : qM l G 6 yX10_slowest cX10_slowest 8 (some .int) [.ref 67, .int (iI p0), .int (iI p1)] (lay m0) (lf eI (f_X10_slowest m0 p0 p1)) := by
  refine qM_of (L := [some (.ref 67), some (.int (iI p0)), some (.int (iI p1)), none, none, none, none, none]) (by decide +kernel) (Nat.le_of_ble_eq_true rfl) rfl ?_
  unfold f_X10_slowest
  refine J_iload_n (pc := 0) dX10_slowest_0 rfl rfl ?_
  refine J_i2l (pc := 1) dX10_slowest_1 ?_
  refine J_lconst (pc := 2) (z := 0) dX10_slowest_2 (by decide) ?_
  refine J_ldc2 (pc := 3) (z := 3) dX10_slowest_3 lk_X10_102 (by decide) ?_
  refine T_callSI (pc := 6) (As := [.long (iL (w32 p0)), .long (iL 0), .long (iL 3)]) (st := []) ok_yX10_in lm_X10_98 dX10_slowest_6 (by decide) (Nat.le_of_ble_eq_true rfl) (m_X10_in m0 (w32 p0) 0 3) (fun r2 m1 em1 => ?_)
  refine T_if_eq (pc := 9) (tgt := 19) dX10_slowest_9 (by decide) (fun h3 => ?_) (fun h3 => ?_)
  · refine J_iconst (pc := 19) dX10_slowest_19 ?_
    exact T_retI (pc := 20) rfl dX10_slowest_20
  · refine J_iload_n (pc := 12) dX10_slowest_12 rfl rfl ?_
    refine T_callSI (pc := 13) (As := [.int (iI p1)]) (st := []) ok_yX10_isRow lm_X10_110 dX10_slowest_13 (by decide) (Nat.le_of_ble_eq_true rfl) (m_X10_isRow m1 p1) (fun r5 m4 em4 => ?_)
    refine T_if_ne (pc := 16) (tgt := 21) dX10_slowest_16 (by decide) (fun h6 => ?_) (fun h6 => ?_)
    · refine J_aload_n (pc := 21) dX10_slowest_21 rfl rfl rfl ?_
      refine tg_X10_104 (pc := 22) rfl dX10_slowest_22 ?_
      refine T_if_ne (pc := 25) (tgt := 31) dX10_slowest_25 (by decide) (fun h7 => ?_) (fun h7 => ?_)
      · refine J_aload_n (pc := 31) dX10_slowest_31 rfl rfl rfl ?_
        refine T_callVU (pc := 32) (As := []) (k := 67) (st := []) ok_yX10_save lm_X10_232 dX10_slowest_32 (by decide) rfl rfl (by decide) (Nat.le_of_ble_eq_true rfl) (m_X10_save m4) (fun _u m8 em8 => ?_)
        refine J_iconst (pc := 35) dX10_slowest_35 ?_
        refine J_istore_n (pc := 36) (L' := [some (.ref 67), some (.int (iI p0)), some (.int (iI p1)), some (.int (iI 0)), none, none, none, none]) dX10_slowest_36 rfl (by decide) rfl rfl ?_
        refine J_ldcw (pc := 37) (z := 1000000) dX10_slowest_37 lk_X10_261 (by decide) ?_
        refine J_istore (pc := 40) (L' := [some (.ref 67), some (.int (iI p0)), some (.int (iI p1)), some (.int (iI 0)), some (.int (iI 1000000)), none, none, none]) dX10_slowest_40 (by decide) rfl rfl ?_
        refine J_iconst (pc := 42) dX10_slowest_42 ?_
        refine J_istore (pc := 43) (L' := [some (.ref 67), some (.int (iI p0)), some (.int (iI p1)), some (.int (iI 0)), some (.int (iI 1000000)), some (.int (iI 0)), none, none]) dX10_slowest_43 (by decide) rfl rfl ?_
        refine j_X10_slowest_L45 ?_ 100000 0 1000000 0 m8
        · intro x26 x27 m28
          refine J_aload_n (pc := 123) dX10_slowest_123 rfl rfl rfl ?_
          refine J_iload_n (pc := 124) dX10_slowest_124 rfl rfl ?_
          refine J_iload_n (pc := 125) dX10_slowest_125 rfl rfl ?_
          refine J_iload_n (pc := 126) dX10_slowest_126 rfl rfl ?_
          refine T_callVU (pc := 127) (As := [.int (iI p1), .int (iI x26), .int (iI p0)]) (k := 67) (st := []) ok_yX10_layPlan lm_X10_257 dX10_slowest_127 (by decide) rfl rfl (by decide) (Nat.le_of_ble_eq_true rfl) (m_X10_layPlan m28 p1 x26 p0) (fun _u m29 em29 => ?_)
          refine J_iload (pc := 130) dX10_slowest_130 rfl ?_
          exact T_retI (pc := 132) rfl dX10_slowest_132
      · refine J_bipush (pc := 28) dX10_slowest_28 (by decide) (by decide) ?_
        exact T_retI (pc := 30) rfl dX10_slowest_30
    · refine J_iconst (pc := 19) dX10_slowest_19 ?_
      exact T_retI (pc := 20) rfl dX10_slowest_20
def f_X10_hoursTillDown_L6 (K : Int → Mem → Option (Int × Mem)) (p0 : Int) : Nat → Int → Mem → Option (Int × Mem)
  | 0, _, _ => none
  | u + 1, i2, mu6 => bd (f_X10_isDown mu6) fun r3 m2 => if w32 r3 = 0 then (bd (f_X10_goHour m2 p0) fun r6 m5 => f_X10_hoursTillDown_L6 K p0 u (i2 + 1) m5) else (K i2 m2)
set_option maxRecDepth 40000 in
theorem j_X10_hoursTillDown_L6 {l : Launch} {G : qG} {K : Int → Mem → Option (Int × Mem)} {p0 : Int} (hK : ∀ (x2 : Int) (m : Mem), qJ l G yX10_hoursTillDown cX10_hoursTillDown 4 (some .int) 5 25 [some (.ref 67), none, some (.int (iI x2)), none] [] (lay m) (lf eI (K x2 m))) : ∀ (u : Nat) (i2 : Int) (mu6 : Mem), qJ l G yX10_hoursTillDown cX10_hoursTillDown 4 (some .int) 5 6 [some (.ref 67), some (.int (iI p0)), some (.int (iI i2)), none] [] (lay mu6) (lf eI (f_X10_hoursTillDown_L6 K p0 u i2 mu6)) := by
  intro u
  induction u with
  | zero => intro _ mu6; exact T_none
  | succ u ih =>
    intro i2 mu6
    rw [f_X10_hoursTillDown_L6]
    refine J_aload_n (pc := 6) dX10_hoursTillDown_6 rfl rfl rfl ?_
    refine T_callVI (pc := 7) (As := []) (k := 67) (st := []) ok_yX10_isDown lm_X10_163 dX10_hoursTillDown_7 (by decide) rfl rfl (by decide) (Nat.le_of_ble_eq_true rfl) (m_X10_isDown mu6) (fun r3 m2 em2 => ?_)
    refine T_if_ne (pc := 10) (tgt := 25) dX10_hoursTillDown_10 (by decide) (fun h4 => ?_) (fun h4 => ?_)
    · refine J_dropf (pc := 25) (L' := [some (.ref 67), none, some (.int (iI i2)), none]) [true, false, true, false] rfl ?_
      exact hK i2 m2
    · refine J_aload_n (pc := 13) dX10_hoursTillDown_13 rfl rfl rfl ?_
      refine J_iload_n (pc := 14) dX10_hoursTillDown_14 rfl rfl ?_
      refine T_callVI (pc := 15) (As := [.int (iI p0)]) (k := 67) (st := []) ok_yX10_goHour lm_X10_224 dX10_hoursTillDown_15 (by decide) rfl rfl (by decide) (Nat.le_of_ble_eq_true rfl) (m_X10_goHour m2 p0) (fun r6 m5 em5 => ?_)
      refine J_istore_n (pc := 18) (L' := [some (.ref 67), some (.int (iI p0)), some (.int (iI i2)), some (.int (iI r6))]) dX10_hoursTillDown_18 rfl (by decide) rfl rfl ?_
      refine J_iinc (pc := 19) (L' := [some (.ref 67), some (.int (iI p0)), some (.int (iI (i2 + 1))), some (.int (iI r6))]) dX10_hoursTillDown_19 rfl (by decide) rfl rfl ?_
      refine J_goto (pc := 22) (tgt := 6) dX10_hoursTillDown_22 (by decide) ?_
      refine J_dropf (pc := 6) (L' := [some (.ref 67), some (.int (iI p0)), some (.int (iI (i2 + 1))), none]) [true, true, true, false] rfl ?_
      exact ih (i2 + 1) m5
def f_X10_hoursTillDown (m0 : Mem) (p0 : Int) : Option (Int × Mem) := bd (f_X10_save m0) fun _u m1 => f_X10_hoursTillDown_L6 (fun x7 m8 => bd (f_X10_putBack m8) fun _u m9 => some (x7, m9)) p0 100000 0 m1
set_option maxRecDepth 40000 in
theorem m_X10_hoursTillDown {l : Launch} {G : qG} (m0 : Mem) (p0 : Int) : qM l G 5 yX10_hoursTillDown cX10_hoursTillDown 4 (some .int) [.ref 67, .int (iI p0)] (lay m0) (lf eI (f_X10_hoursTillDown m0 p0)) := by
  refine qM_of (L := [some (.ref 67), some (.int (iI p0)), none, none]) (by decide +kernel) (Nat.le_of_ble_eq_true rfl) rfl ?_
  unfold f_X10_hoursTillDown
  refine J_aload_n (pc := 0) dX10_hoursTillDown_0 rfl rfl rfl ?_
  refine T_callVU (pc := 1) (As := []) (k := 67) (st := []) ok_yX10_save lm_X10_232 dX10_hoursTillDown_1 (by decide) rfl rfl (by decide) (Nat.le_of_ble_eq_true rfl) (m_X10_save m0) (fun _u m1 em1 => ?_)
  refine J_iconst (pc := 4) dX10_hoursTillDown_4 ?_
  refine J_istore_n (pc := 5) (L' := [some (.ref 67), some (.int (iI p0)), some (.int (iI 0)), none]) dX10_hoursTillDown_5 rfl (by decide) rfl rfl ?_
  refine j_X10_hoursTillDown_L6 ?_ 100000 0 m1
  · intro x7 m8
    refine J_aload_n (pc := 25) dX10_hoursTillDown_25 rfl rfl rfl ?_
    refine T_callVU (pc := 26) (As := []) (k := 67) (st := []) ok_yX10_putBack lm_X10_239 dX10_hoursTillDown_26 (by decide) rfl rfl (by decide) (Nat.le_of_ble_eq_true rfl) (m_X10_putBack m8) (fun _u m9 em9 => ?_)
    refine J_iload_n (pc := 29) dX10_hoursTillDown_29 rfl rfl ?_
    exact T_retI (pc := 30) rfl dX10_hoursTillDown_30
def f_X10_down (m0 : Mem) (p0 : Int) : Option (Int × Mem) := bd (f_X10_isSet m0 p0) fun r2 m1 => if w32 r2 = 0 then (some ((-1), m1)) else (if w32 (m1 67 0) = 0 then (some ((-4), m1)) else (bd (f_X10_hoursTillDown m1 p0) fun r6 m5 => some (r6, m5)))
set_option maxRecDepth 40000 in
theorem m_X10_down {l : Launch} {G : qG} (m0 : Mem) (p0 : Int) : qM l G 6 yX10_down cX10_down 2 (some .int) [.ref 67, .int (iI p0)] (lay m0) (lf eI (f_X10_down m0 p0)) := by
  refine qM_of (L := [some (.ref 67), some (.int (iI p0))]) (by decide +kernel) (Nat.le_of_ble_eq_true rfl) rfl ?_
  unfold f_X10_down
  refine J_aload_n (pc := 0) dX10_down_0 rfl rfl rfl ?_
  refine J_iload_n (pc := 1) dX10_down_1 rfl rfl ?_
  refine T_callVI (pc := 2) (As := [.int (iI p0)]) (k := 67) (st := []) ok_yX10_isSet lm_X10_218 dX10_down_2 (by decide) rfl rfl (by decide) (Nat.le_of_ble_eq_true rfl) (m_X10_isSet m0 p0) (fun r2 m1 em1 => ?_)
  refine T_if_ne (pc := 5) (tgt := 10) dX10_down_5 (by decide) (fun h3 => ?_) (fun h3 => ?_)
  · refine J_aload_n (pc := 10) dX10_down_10 rfl rfl rfl ?_
    refine tg_X10_104 (pc := 11) rfl dX10_down_11 ?_
    refine T_if_ne (pc := 14) (tgt := 22) dX10_down_14 (by decide) (fun h4 => ?_) (fun h4 => ?_)
    · refine J_aload_n (pc := 22) dX10_down_22 rfl rfl rfl ?_
      refine J_iload_n (pc := 23) dX10_down_23 rfl rfl ?_
      refine T_callVI (pc := 24) (As := [.int (iI p0)]) (k := 67) (st := []) ok_yX10_hoursTillDown lm_X10_262 dX10_down_24 (by decide) rfl rfl (by decide) (Nat.le_of_ble_eq_true rfl) (m_X10_hoursTillDown m1 p0) (fun r6 m5 em5 => ?_)
      exact T_retI (pc := 27) rfl dX10_down_27
    · refine J_bipush (pc := 17) dX10_down_17 (by decide) (by decide) ?_
      refine J_goto (pc := 19) (tgt := 27) dX10_down_19 (by decide) ?_
      exact T_retI (pc := 27) rfl dX10_down_27
  · refine J_iconst (pc := 8) dX10_down_8 ?_
    exact T_retI (pc := 9) rfl dX10_down_9
def f_X10_longest_L16 : Nat → Int → Int → Int → Mem → Option (Int × Mem)
  | 0, _, _, _, _ => none
  | u + 1, i1, i2, i3, mu16 => if w32 i3 < w32 (zshl 1 (mu16 67 0)) then (bd (f_X10_hoursTillDown mu16 i3) fun r5 m4 => vl (if w32 i2 < w32 r5 then i3 else i1) fun v6 => vl (if w32 i2 < w32 r5 then r5 else i2) fun v8 => f_X10_longest_L16 u v6 v8 (i3 + 1) m4) else (vm (wr mu16 67 10 i2) fun m3 => some (i1, m3))
set_option maxRecDepth 40000 in
theorem j_X10_longest_L16 {l : Launch} {G : qG} : ∀ (u : Nat) (i1 : Int) (i2 : Int) (i3 : Int) (mu16 : Mem), qJ l G yX10_longest cX10_longest 5 (some .int) 6 16 [some (.ref 67), some (.int (iI i1)), some (.int (iI i2)), some (.int (iI i3)), none] [] (lay mu16) (lf eI (f_X10_longest_L16 u i1 i2 i3 mu16)) := by
  intro u
  induction u with
  | zero => intro _ _ _ mu16; exact T_none
  | succ u ih =>
    intro i1 i2 i3 mu16
    rw [f_X10_longest_L16]
    refine J_iload_n (pc := 16) dX10_longest_16 rfl rfl ?_
    refine J_iconst (pc := 17) dX10_longest_17 ?_
    refine J_aload_n (pc := 18) dX10_longest_18 rfl rfl rfl ?_
    refine tg_X10_104 (pc := 19) rfl dX10_longest_19 ?_
    refine J_ishl (pc := 22) dX10_longest_22 ?_
    refine T_icmp_ge (pc := 23) (tgt := 64) dX10_longest_23 (by decide) (fun h2 => ?_) (fun h2 => ?_)
    · refine J_aload_n (pc := 64) dX10_longest_64 rfl rfl rfl ?_
      refine J_iload_n (pc := 65) dX10_longest_65 rfl rfl ?_
      refine tp_X10_118 (pc := 66) rfl dX10_longest_66 ?_
      refine T_vm (fun m3 em3 => ?_)
      refine J_iload_n (pc := 69) dX10_longest_69 rfl rfl ?_
      exact T_retI (pc := 70) rfl dX10_longest_70
    · refine J_aload_n (pc := 26) dX10_longest_26 rfl rfl rfl ?_
      refine J_iload_n (pc := 27) dX10_longest_27 rfl rfl ?_
      refine T_callVI (pc := 28) (As := [.int (iI i3)]) (k := 67) (st := []) ok_yX10_hoursTillDown lm_X10_262 dX10_longest_28 (by decide) rfl rfl (by decide) (Nat.le_of_ble_eq_true rfl) (m_X10_hoursTillDown mu16 i3) (fun r5 m4 em4 => ?_)
      refine J_istore (pc := 31) (L' := [some (.ref 67), some (.int (iI i1)), some (.int (iI i2)), some (.int (iI i3)), some (.int (iI r5))]) dX10_longest_31 (by decide) rfl rfl ?_
      refine J_iload (pc := 33) dX10_longest_33 rfl ?_
      refine J_iload_n (pc := 35) dX10_longest_35 rfl rfl ?_
      refine T_vl (fun v6 ev6 => ?_)
      refine T_dia (j := 44) (v := v6) (LT := [some (.ref 67), some (.int (iI i1)), some (.int (iI i2)), some (.int (iI i3)), some (.int (iI r5))]) (sT := []) ?_ (fun hj7 => ?_)
      · refine J_istore_n (pc := 44) (L' := [some (.ref 67), some (.int (iI v6)), some (.int (iI i2)), some (.int (iI i3)), some (.int (iI r5))]) dX10_longest_44 rfl (by decide) rfl rfl ?_
        refine J_iload (pc := 45) dX10_longest_45 rfl ?_
        refine J_iload_n (pc := 47) dX10_longest_47 rfl rfl ?_
        refine T_vl (fun v8 ev8 => ?_)
        refine T_dia (j := 57) (v := v8) (LT := [some (.ref 67), some (.int (iI v6)), some (.int (iI i2)), some (.int (iI i3)), some (.int (iI r5))]) (sT := []) ?_ (fun hj9 => ?_)
        · refine J_istore_n (pc := 57) (L' := [some (.ref 67), some (.int (iI v6)), some (.int (iI v8)), some (.int (iI i3)), some (.int (iI r5))]) dX10_longest_57 rfl (by decide) rfl rfl ?_
          refine J_iinc (pc := 58) (L' := [some (.ref 67), some (.int (iI v6)), some (.int (iI v8)), some (.int (iI (i3 + 1))), some (.int (iI r5))]) dX10_longest_58 rfl (by decide) rfl rfl ?_
          refine J_goto (pc := 61) (tgt := 16) dX10_longest_61 (by decide) ?_
          refine J_dropf (pc := 16) (L' := [some (.ref 67), some (.int (iI v6)), some (.int (iI v8)), some (.int (iI (i3 + 1))), none]) [true, true, true, true, false] rfl ?_
          exact ih v6 v8 (i3 + 1) m4
        · refine T_icmp_le_same (pc := 48) (tgt := 56) dX10_longest_48 (by decide) (fun h10 => ?_) (fun h10 => ?_)
          · refine J_iload_n (pc := 56) dX10_longest_56 rfl rfl ?_
            exact T_top (by rw [ev8, if_neg h10]) hj9
          · refine J_iload (pc := 51) dX10_longest_51 rfl ?_
            refine J_goto (pc := 53) (tgt := 57) dX10_longest_53 (by decide) ?_
            exact T_top (by rw [ev8, if_pos h10]) hj9
      · refine T_icmp_le_same (pc := 36) (tgt := 43) dX10_longest_36 (by decide) (fun h11 => ?_) (fun h11 => ?_)
        · refine J_iload_n (pc := 43) dX10_longest_43 rfl rfl ?_
          exact T_top (by rw [ev6, if_neg h11]) hj7
        · refine J_iload_n (pc := 39) dX10_longest_39 rfl rfl ?_
          refine J_goto (pc := 40) (tgt := 44) dX10_longest_40 (by decide) ?_
          exact T_top (by rw [ev6, if_pos h11]) hj7
def f_X10_longest (m0 : Mem) : Option (Int × Mem) := if w32 (m0 67 0) = 0 then (some ((-4), m0)) else (f_X10_longest_L16 100000 0 (-1) 0 m0)
set_option maxRecDepth 40000 in
theorem m_X10_longest {l : Launch} {G : qG} (m0 : Mem) : qM l G 6 yX10_longest cX10_longest 5 (some .int) [.ref 67] (lay m0) (lf eI (f_X10_longest m0)) := by
  refine qM_of (L := [some (.ref 67), none, none, none, none]) (by decide +kernel) (Nat.le_of_ble_eq_true rfl) rfl ?_
  unfold f_X10_longest
  refine J_aload_n (pc := 0) dX10_longest_0 rfl rfl rfl ?_
  refine tg_X10_104 (pc := 1) rfl dX10_longest_1 ?_
  refine T_if_ne (pc := 4) (tgt := 10) dX10_longest_4 (by decide) (fun h1 => ?_) (fun h1 => ?_)
  · refine J_iconst (pc := 10) dX10_longest_10 ?_
    refine J_istore_n (pc := 11) (L' := [some (.ref 67), some (.int (iI 0)), none, none, none]) dX10_longest_11 rfl (by decide) rfl rfl ?_
    refine J_iconst (pc := 12) dX10_longest_12 ?_
    refine J_istore_n (pc := 13) (L' := [some (.ref 67), some (.int (iI 0)), some (.int (iI (-1))), none, none]) dX10_longest_13 rfl (by decide) rfl rfl ?_
    refine J_iconst (pc := 14) dX10_longest_14 ?_
    refine J_istore_n (pc := 15) (L' := [some (.ref 67), some (.int (iI 0)), some (.int (iI (-1))), some (.int (iI 0)), none]) dX10_longest_15 rfl (by decide) rfl rfl ?_
    refine j_X10_longest_L16 100000 0 (-1) 0 m0
  · refine J_bipush (pc := 7) dX10_longest_7 (by decide) (by decide) ?_
    exact T_retI (pc := 9) rfl dX10_longest_9
def f_X10_ropes_L35 (K : Mem → Option (Int × Mem)) (i4 : Int) : Nat → Int → Mem → Option (Int × Mem)
  | 0, _, _ => none
  | u + 1, i5, mu35 => if w32 i5 < w32 (mu35 67 0) then (bd (f_X10_has mu35 i4 i5) fun r8 m7 => jn (κ := Int → Mem → Option (Int × Mem)) (fun s11 m10 => ck (2 + i5) 16 (vm (wr m10 73 (w32 (2 + i5)).toNat s11) fun m13 => f_X10_ropes_L35 K i4 u (i5 + 1) m13)) fun k9 => if w32 r8 = 0 then (ck (2 + i5) 16 (k9 (m7 73 (w32 (2 + i5)).toNat) m7)) else (k9 9 m7)) else (K mu35)
set_option maxRecDepth 40000 in
theorem j_X10_ropes_L35 {l : Launch} {G : qG} {K : Mem → Option (Int × Mem)} {i4 : Int} {p0 : Int} {i3 : Int} (hK : ∀ (m : Mem), qJ l G yX10_ropes cX10_ropes 6 (some .int) 6 83 [some (.ref 67), some (.int (iI p0)), none, some (.int (iI i3)), some (.int (iI i4)), none] [] (lay m) (lf eI (K m))) : ∀ (u : Nat) (i5 : Int) (mu35 : Mem), qJ l G yX10_ropes cX10_ropes 6 (some .int) 6 35 [some (.ref 67), some (.int (iI p0)), none, some (.int (iI i3)), some (.int (iI i4)), some (.int (iI i5))] [] (lay mu35) (lf eI (f_X10_ropes_L35 K i4 u i5 mu35)) := by
  intro u
  induction u with
  | zero => intro _ mu35; exact T_none
  | succ u ih =>
    intro i5 mu35
    rw [f_X10_ropes_L35]
    refine J_iload (pc := 35) dX10_ropes_35 rfl ?_
    refine J_aload_n (pc := 37) dX10_ropes_37 rfl rfl rfl ?_
    refine tg_X10_104 (pc := 38) rfl dX10_ropes_38 ?_
    refine T_icmp_ge (pc := 41) (tgt := 83) dX10_ropes_41 (by decide) (fun h6 => ?_) (fun h6 => ?_)
    · refine J_dropf (pc := 83) (L' := [some (.ref 67), some (.int (iI p0)), none, some (.int (iI i3)), some (.int (iI i4)), none]) [true, true, false, true, true, false] rfl ?_
      exact hK  mu35
    · refine J_aload_n (pc := 44) dX10_ropes_44 rfl rfl rfl ?_
      refine tg_X10_25 (pc := 45) rfl dX10_ropes_45 ?_
      refine J_iconst (pc := 48) dX10_ropes_48 ?_
      refine J_iload (pc := 49) dX10_ropes_49 rfl ?_
      refine J_iadd (pc := 51) dX10_ropes_51 ?_
      refine J_iload (pc := 52) dX10_ropes_52 rfl ?_
      refine J_iload (pc := 54) dX10_ropes_54 rfl ?_
      refine T_callSI (pc := 56) (As := [.int (iI i4), .int (iI i5)]) (st := [.int (iI (2 + i5)), .ref 73]) ok_yX10_has lm_X10_179 dX10_ropes_56 (by decide) (Nat.le_of_ble_eq_true rfl) (m_X10_has mu35 i4 i5) (fun r8 m7 em7 => ?_)
      refine T_jn (κ := Int → Mem → Option (Int × Mem)) (fun k => ∀ (s11 : Int) (m10 : Mem), qJ l G yX10_ropes cX10_ropes 6 (some .int) 6 76 [some (.ref 67), some (.int (iI p0)), none, some (.int (iI i3)), some (.int (iI i4)), some (.int (iI i5))] [.int (iI s11), .int (iI (2 + i5)), .ref 73] (lay m10) (lf eI (k s11 m10))) ?_ (fun k9 hk9 => ?_)
      · intro s11 m10
        refine T_iastore (pc := 76) (by decide) rfl dX10_ropes_76 (fun h12 => ?_)
        refine T_vm (fun m13 em13 => ?_)
        refine J_iinc (pc := 77) (L' := [some (.ref 67), some (.int (iI p0)), none, some (.int (iI i3)), some (.int (iI i4)), some (.int (iI (i5 + 1)))]) dX10_ropes_77 rfl (by decide) rfl rfl ?_
        refine J_goto (pc := 80) (tgt := 35) dX10_ropes_80 (by decide) ?_
        exact ih (i5 + 1) m13
      · refine T_if_eq (pc := 59) (tgt := 67) dX10_ropes_59 (by decide) (fun h14 => ?_) (fun h14 => ?_)
        · refine J_aload_n (pc := 67) dX10_ropes_67 rfl rfl rfl ?_
          refine tg_X10_25 (pc := 68) rfl dX10_ropes_68 ?_
          refine J_iconst (pc := 71) dX10_ropes_71 ?_
          refine J_iload (pc := 72) dX10_ropes_72 rfl ?_
          refine J_iadd (pc := 74) dX10_ropes_74 ?_
          refine T_iaload (pc := 75) (by decide) rfl dX10_ropes_75 (fun h15 => ?_)
          exact hk9 (m7 73 (w32 (2 + i5)).toNat) m7
        · refine J_bipush (pc := 62) dX10_ropes_62 (by decide) (by decide) ?_
          refine J_goto (pc := 64) (tgt := 76) dX10_ropes_64 (by decide) ?_
          exact hk9 9 m7
def f_X10_ropes_L21 (K : Int → Mem → Option (Int × Mem)) (p0 : Int) : Nat → Int → Int → Mem → Option (Int × Mem)
  | 0, _, _, _ => none
  | u + 1, i3, i4, mu21 => if w32 i4 < w32 (zshl 1 (mu21 67 0)) then (f_X10_ropes_L35 (fun m16 => bd (f_X10_firstLurch m16 p0) fun r18 m17 => vl (if w32 r18 < 0 then 1 else 0) fun v19 => bd (f_X10_putBack m17) fun _u m21 => jn (κ := Int → Mem → Option (Int × Mem)) (fun s24 m23 => f_X10_ropes_L21 K p0 u s24 (i4 + 1) m23) fun k22 => jn (κ := Mem → Option (Int × Mem)) (fun m26 => k22 i3 m26) fun k25 => if w32 v19 = 0 then (k25 m21) else (jn (κ := Mem → Option (Int × Mem)) (fun m29 => k22 i4 m29) fun k28 => if w32 i3 < 0 then (k28 m21) else (bd (f_X10_bits m21 i4) fun r32 m31 => bd (f_X10_bits m31 i3) fun r34 m33 => if w32 r32 < w32 r34 then (k28 m33) else (k25 m33)))) i4 100000 0 mu21) else (K i3 mu21)
set_option maxRecDepth 40000 in
theorem j_X10_ropes_L21 {l : Launch} {G : qG} {K : Int → Mem → Option (Int × Mem)} {p0 : Int} (hK : ∀ (x3 : Int) (m : Mem), qJ l G yX10_ropes cX10_ropes 6 (some .int) 6 136 [some (.ref 67), none, none, some (.int (iI x3)), none, none] [] (lay m) (lf eI (K x3 m))) : ∀ (u : Nat) (i3 : Int) (i4 : Int) (mu21 : Mem), qJ l G yX10_ropes cX10_ropes 6 (some .int) 6 21 [some (.ref 67), some (.int (iI p0)), none, some (.int (iI i3)), some (.int (iI i4)), none] [] (lay mu21) (lf eI (f_X10_ropes_L21 K p0 u i3 i4 mu21)) := by
  intro u
  induction u with
  | zero => intro _ _ mu21; exact T_none
  | succ u ih =>
    intro i3 i4 mu21
    rw [f_X10_ropes_L21]
    refine J_iload (pc := 21) dX10_ropes_21 rfl ?_
    refine J_iconst (pc := 23) dX10_ropes_23 ?_
    refine J_aload_n (pc := 24) dX10_ropes_24 rfl rfl rfl ?_
    refine tg_X10_104 (pc := 25) rfl dX10_ropes_25 ?_
    refine J_ishl (pc := 28) dX10_ropes_28 ?_
    refine T_icmp_ge (pc := 29) (tgt := 136) dX10_ropes_29 (by decide) (fun h5 => ?_) (fun h5 => ?_)
    · refine J_dropf (pc := 136) (L' := [some (.ref 67), none, none, some (.int (iI i3)), none, none]) [true, false, false, true, false, false] rfl ?_
      exact hK i3 mu21
    · refine J_iconst (pc := 32) dX10_ropes_32 ?_
      refine J_istore (pc := 33) (L' := [some (.ref 67), some (.int (iI p0)), none, some (.int (iI i3)), some (.int (iI i4)), some (.int (iI 0))]) dX10_ropes_33 (by decide) rfl rfl ?_
      refine j_X10_ropes_L35 ?_ 100000 0 mu21
      · intro m16
        refine J_aload_n (pc := 83) dX10_ropes_83 rfl rfl rfl ?_
        refine J_iload_n (pc := 84) dX10_ropes_84 rfl rfl ?_
        refine T_callVI (pc := 85) (As := [.int (iI p0)]) (k := 67) (st := []) ok_yX10_firstLurch lm_X10_242 dX10_ropes_85 (by decide) rfl rfl (by decide) (Nat.le_of_ble_eq_true rfl) (m_X10_firstLurch m16 p0) (fun r18 m17 em17 => ?_)
        refine T_vl (fun v19 ev19 => ?_)
        refine T_dia (j := 96) (v := v19) (LT := [some (.ref 67), some (.int (iI p0)), none, some (.int (iI i3)), some (.int (iI i4)), none]) (sT := []) ?_ (fun hj20 => ?_)
        · refine J_istore (pc := 96) (L' := [some (.ref 67), some (.int (iI p0)), none, some (.int (iI i3)), some (.int (iI i4)), some (.int (iI v19))]) dX10_ropes_96 (by decide) rfl rfl ?_
          refine J_aload_n (pc := 98) dX10_ropes_98 rfl rfl rfl ?_
          refine T_callVU (pc := 99) (As := []) (k := 67) (st := []) ok_yX10_putBack lm_X10_239 dX10_ropes_99 (by decide) rfl rfl (by decide) (Nat.le_of_ble_eq_true rfl) (m_X10_putBack m17) (fun _u m21 em21 => ?_)
          refine J_iload (pc := 102) dX10_ropes_102 rfl ?_
          refine T_jn (κ := Int → Mem → Option (Int × Mem)) (fun k => ∀ (s24 : Int) (m23 : Mem), qJ l G yX10_ropes cX10_ropes 6 (some .int) 6 129 [some (.ref 67), some (.int (iI p0)), none, none, some (.int (iI i4)), none] [.int (iI s24)] (lay m23) (lf eI (k s24 m23))) ?_ (fun k22 hk22 => ?_)
          · intro s24 m23
            refine J_istore_n (pc := 129) (L' := [some (.ref 67), some (.int (iI p0)), none, some (.int (iI s24)), some (.int (iI i4)), none]) dX10_ropes_129 rfl (by decide) rfl rfl ?_
            refine J_iinc (pc := 130) (L' := [some (.ref 67), some (.int (iI p0)), none, some (.int (iI s24)), some (.int (iI (i4 + 1))), none]) dX10_ropes_130 rfl (by decide) rfl rfl ?_
            refine J_goto (pc := 133) (tgt := 21) dX10_ropes_133 (by decide) ?_
            exact ih s24 (i4 + 1) m23
          · refine T_jn (κ := Mem → Option (Int × Mem)) (fun k => ∀ (m26 : Mem), qJ l G yX10_ropes cX10_ropes 6 (some .int) 6 128 [some (.ref 67), some (.int (iI p0)), none, some (.int (iI i3)), some (.int (iI i4)), none] [] (lay m26) (lf eI (k m26))) ?_ (fun k25 hk25 => ?_)
            · intro m26
              refine J_iload_n (pc := 128) dX10_ropes_128 rfl rfl ?_
              refine J_dropf (pc := 129) (L' := [some (.ref 67), some (.int (iI p0)), none, none, some (.int (iI i4)), none]) [true, true, false, false, true, false] rfl ?_
              exact hk22 i3 m26
            · refine T_if_eq (pc := 104) (tgt := 128) dX10_ropes_104 (by decide) (fun h27 => ?_) (fun h27 => ?_)
              · refine J_dropf (pc := 128) (L' := [some (.ref 67), some (.int (iI p0)), none, some (.int (iI i3)), some (.int (iI i4)), none]) [true, true, false, true, true, false] rfl ?_
                exact hk25  m21
              · refine J_iload_n (pc := 107) dX10_ropes_107 rfl rfl ?_
                refine T_jn (κ := Mem → Option (Int × Mem)) (fun k => ∀ (m29 : Mem), qJ l G yX10_ropes cX10_ropes 6 (some .int) 6 123 [some (.ref 67), some (.int (iI p0)), none, none, some (.int (iI i4)), none] [] (lay m29) (lf eI (k m29))) ?_ (fun k28 hk28 => ?_)
                · intro m29
                  refine J_iload (pc := 123) dX10_ropes_123 rfl ?_
                  refine J_goto (pc := 125) (tgt := 129) dX10_ropes_125 (by decide) ?_
                  exact hk22 i4 m29
                · refine T_if_lt (pc := 108) (tgt := 123) dX10_ropes_108 (by decide) (fun h30 => ?_) (fun h30 => ?_)
                  · refine J_dropf (pc := 123) (L' := [some (.ref 67), some (.int (iI p0)), none, none, some (.int (iI i4)), none]) [true, true, false, false, true, false] rfl ?_
                    exact hk28  m21
                  · refine J_iload (pc := 111) dX10_ropes_111 rfl ?_
                    refine T_callSI (pc := 113) (As := [.int (iI i4)]) (st := []) ok_yX10_bits lm_X10_195 dX10_ropes_113 (by decide) (Nat.le_of_ble_eq_true rfl) (m_X10_bits m21 i4) (fun r32 m31 em31 => ?_)
                    refine J_iload_n (pc := 116) dX10_ropes_116 rfl rfl ?_
                    refine T_callSI (pc := 117) (As := [.int (iI i3)]) (st := [.int (iI r32)]) ok_yX10_bits lm_X10_195 dX10_ropes_117 (by decide) (Nat.le_of_ble_eq_true rfl) (m_X10_bits m31 i3) (fun r34 m33 em33 => ?_)
                    refine T_icmp_ge (pc := 120) (tgt := 128) dX10_ropes_120 (by decide) (fun h35 => ?_) (fun h35 => ?_)
                    · refine J_dropf (pc := 128) (L' := [some (.ref 67), some (.int (iI p0)), none, some (.int (iI i3)), some (.int (iI i4)), none]) [true, true, false, true, true, false] rfl ?_
                      exact hk25  m33
                    · refine J_dropf (pc := 123) (L' := [some (.ref 67), some (.int (iI p0)), none, none, some (.int (iI i4)), none]) [true, true, false, false, true, false] rfl ?_
                      exact hk28  m33
        · refine T_if_ge_same (pc := 88) (tgt := 95) dX10_ropes_88 (by decide) (fun h36 => ?_) (fun h36 => ?_)
          · refine J_iconst (pc := 95) dX10_ropes_95 ?_
            exact T_top (by rw [ev19, if_neg h36]) hj20
          · refine J_iconst (pc := 91) dX10_ropes_91 ?_
            refine J_goto (pc := 92) (tgt := 96) dX10_ropes_92 (by decide) ?_
            exact T_top (by rw [ev19, if_pos h36]) hj20
def f_X10_ropes (m0 : Mem) (p0 : Int) : Option (Int × Mem) := bd (f_X10_planRefused m0 p0) fun r2 m1 => if w32 r2 = 0 then (bd (f_X10_save m1) fun _u m4 => f_X10_ropes_L21 (fun x37 m38 => if w32 x37 < 0 then (some ((-9), m38)) else (vm (wr m38 67 10 x37) fun m40 => bd (f_X10_bits m40 x37) fun r42 m41 => some (r42, m41))) p0 100000 (-1) 0 m4) else (some (r2, m1))
set_option maxRecDepth 40000 in
theorem m_X10_ropes {l : Launch} {G : qG} (m0 : Mem) (p0 : Int) : qM l G 6 yX10_ropes cX10_ropes 6 (some .int) [.ref 67, .int (iI p0)] (lay m0) (lf eI (f_X10_ropes m0 p0)) := by
  refine qM_of (L := [some (.ref 67), some (.int (iI p0)), none, none, none, none]) (by decide +kernel) (Nat.le_of_ble_eq_true rfl) rfl ?_
  unfold f_X10_ropes
  refine J_aload_n (pc := 0) dX10_ropes_0 rfl rfl rfl ?_
  refine J_iload_n (pc := 1) dX10_ropes_1 rfl rfl ?_
  refine T_callVI (pc := 2) (As := [.int (iI p0)]) (k := 67) (st := []) ok_yX10_planRefused lm_X10_229 dX10_ropes_2 (by decide) rfl rfl (by decide) (Nat.le_of_ble_eq_true rfl) (m_X10_planRefused m0 p0) (fun r2 m1 em1 => ?_)
  refine J_istore_n (pc := 5) (L' := [some (.ref 67), some (.int (iI p0)), some (.int (iI r2)), none, none, none]) dX10_ropes_5 rfl (by decide) rfl rfl ?_
  refine J_iload_n (pc := 6) dX10_ropes_6 rfl rfl ?_
  refine T_if_eq (pc := 7) (tgt := 12) dX10_ropes_7 (by decide) (fun h3 => ?_) (fun h3 => ?_)
  · refine J_aload_n (pc := 12) dX10_ropes_12 rfl rfl rfl ?_
    refine T_callVU (pc := 13) (As := []) (k := 67) (st := []) ok_yX10_save lm_X10_232 dX10_ropes_13 (by decide) rfl rfl (by decide) (Nat.le_of_ble_eq_true rfl) (m_X10_save m1) (fun _u m4 em4 => ?_)
    refine J_iconst (pc := 16) dX10_ropes_16 ?_
    refine J_istore_n (pc := 17) (L' := [some (.ref 67), some (.int (iI p0)), some (.int (iI r2)), some (.int (iI (-1))), none, none]) dX10_ropes_17 rfl (by decide) rfl rfl ?_
    refine J_iconst (pc := 18) dX10_ropes_18 ?_
    refine J_istore (pc := 19) (L' := [some (.ref 67), some (.int (iI p0)), some (.int (iI r2)), some (.int (iI (-1))), some (.int (iI 0)), none]) dX10_ropes_19 (by decide) rfl rfl ?_
    refine J_dropf (pc := 21) (L' := [some (.ref 67), some (.int (iI p0)), none, some (.int (iI (-1))), some (.int (iI 0)), none]) [true, true, false, true, true, false] rfl ?_
    refine j_X10_ropes_L21 ?_ 100000 (-1) 0 m4
    · intro x37 m38
      refine J_iload_n (pc := 136) dX10_ropes_136 rfl rfl ?_
      refine T_if_ge (pc := 137) (tgt := 143) dX10_ropes_137 (by decide) (fun h39 => ?_) (fun h39 => ?_)
      · refine J_aload_n (pc := 143) dX10_ropes_143 rfl rfl rfl ?_
        refine J_iload_n (pc := 144) dX10_ropes_144 rfl rfl ?_
        refine tp_X10_118 (pc := 145) rfl dX10_ropes_145 ?_
        refine T_vm (fun m40 em40 => ?_)
        refine J_iload_n (pc := 148) dX10_ropes_148 rfl rfl ?_
        refine T_callSI (pc := 149) (As := [.int (iI x37)]) (st := []) ok_yX10_bits lm_X10_195 dX10_ropes_149 (by decide) (Nat.le_of_ble_eq_true rfl) (m_X10_bits m40 x37) (fun r42 m41 em41 => ?_)
        exact T_retI (pc := 152) rfl dX10_ropes_152
      · refine J_bipush (pc := 140) dX10_ropes_140 (by decide) (by decide) ?_
        exact T_retI (pc := 142) rfl dX10_ropes_142
  · refine J_iload_n (pc := 10) dX10_ropes_10 rfl rfl ?_
    exact T_retI (pc := 11) rfl dX10_ropes_11
