def f_X10_mean_L44 (K : Int → Mem → Option (Int × Mem)) (p0 : Int) : Nat → Int → Int → Mem → Option (Int × Mem)
  | 0, _, _, _ => none
  | u + 1, i2, i4, mu44 => ck p0 6 (if w32 i4 < w32 (mu44 76 (w32 p0).toNat) then (ck ((40 * p0) + i4) 240 (vl (i2 + (w32 (mu44 77 (w32 ((40 * p0) + i4)).toNat))) fun x11 => f_X10_mean_L44 K p0 u x11 (i4 + 1) mu44)) else (K i2 mu44))
set_option maxRecDepth 40000 in
theorem j_X10_mean_L44 {l : Launch} {G : qG} {K : Int → Mem → Option (Int × Mem)} {p0 : Int} (hK : ∀ (x2 : Int) (m : Mem), qJ l G yX10_mean cX10_mean 5 (some .int) 3 77 [some (.ref 67), some (.int (iI p0)), some (.long (iL x2)), none, none] [] (lay m) (lf eI (K x2 m))) : ∀ (u : Nat) (i2 : Int) (i4 : Int) (mu44 : Mem), qJ l G yX10_mean cX10_mean 5 (some .int) 3 44 [some (.ref 67), some (.int (iI p0)), some (.long (iL i2)), none, some (.int (iI i4))] [] (lay mu44) (lf eI (f_X10_mean_L44 K p0 u i2 i4 mu44)) := by
  intro u
  induction u with
  | zero => intro _ _ mu44; exact T_none
  | succ u ih =>
    intro i2 i4 mu44
    rw [f_X10_mean_L44]
    refine J_iload (pc := 44) dX10_mean_44 rfl ?_
    refine J_aload_n (pc := 46) dX10_mean_46 rfl rfl rfl ?_
    refine tg_X10_38 (pc := 47) rfl dX10_mean_47 ?_
    refine J_iload_n (pc := 50) dX10_mean_50 rfl rfl ?_
    refine T_iaload (pc := 51) (by decide) rfl dX10_mean_51 (fun h8 => ?_)
    refine T_icmp_ge (pc := 52) (tgt := 77) dX10_mean_52 (by decide) (fun h9 => ?_) (fun h9 => ?_)
    · refine J_dropf (pc := 77) (L' := [some (.ref 67), some (.int (iI p0)), some (.long (iL i2)), none, none]) [true, true, true, false, false] rfl ?_
      exact hK i2 mu44
    · refine J_lload_n (pc := 55) dX10_mean_55 rfl rfl ?_
      refine J_aload_n (pc := 56) dX10_mean_56 rfl rfl rfl ?_
      refine tg_X10_41 (pc := 57) rfl dX10_mean_57 ?_
      refine J_bipush (pc := 60) dX10_mean_60 (by decide) (by decide) ?_
      refine J_iload_n (pc := 62) dX10_mean_62 rfl rfl ?_
      refine J_imul (pc := 63) dX10_mean_63 ?_
      refine J_iload (pc := 64) dX10_mean_64 rfl ?_
      refine J_iadd (pc := 66) dX10_mean_66 ?_
      refine T_iaload (pc := 67) (by decide) rfl dX10_mean_67 (fun h10 => ?_)
      refine J_i2l (pc := 68) dX10_mean_68 ?_
      refine J_ladd (pc := 69) dX10_mean_69 ?_
      refine T_vlL (pc := 70) (fun x11 ex11 => ?_)
      refine J_lstore_n (pc := 70) (L' := [some (.ref 67), some (.int (iI p0)), some (.long (iL x11)), none, some (.int (iI i4))]) dX10_mean_70 rfl (by decide) rfl rfl ?_
      refine J_iinc (pc := 71) (L' := [some (.ref 67), some (.int (iI p0)), some (.long (iL x11)), none, some (.int (iI (i4 + 1)))]) dX10_mean_71 rfl (by decide) rfl rfl ?_
      refine J_goto (pc := 74) (tgt := 44) dX10_mean_74 (by decide) ?_
      exact ih x11 (i4 + 1) mu44
def f_X10_mean (m0 : Mem) (p0 : Int) : Option (Int × Mem) := bd (f_X10_isRow m0 p0) fun r2 m1 => if w32 r2 = 0 then (some ((-1), m1)) else (ck p0 6 (if w32 (m1 76 (w32 p0).toNat) < 0 then (bd (f_X10_finds m1 1) fun r19 m18 => some (r19, m18)) else (ck p0 6 (if w32 (m1 76 (w32 p0).toNat) = 0 then (bd (f_X10_finds m1 4) fun r17 m16 => some (r17, m16)) else (f_X10_mean_L44 (fun x12 m13 => ck p0 6 (ckl (w32 (m13 76 (w32 p0).toNat)) (vm (wr m13 67 10 (ydiv x12 (w32 (m13 76 (w32 p0).toNat)))) fun m15 => some (1, m15)))) p0 100000 0 0 m1)))))
set_option maxRecDepth 40000 in
theorem m_X10_mean {l : Launch} {G : qG} (m0 : Mem) (p0 : Int) : qM l G 3 yX10_mean cX10_mean 5 (some .int) [.ref 67, .int (iI p0)] (lay m0) (lf eI (f_X10_mean m0 p0)) := by
  refine qM_of (L := [some (.ref 67), some (.int (iI p0)), none, none, none]) (by decide +kernel) (Nat.le_of_ble_eq_true rfl) rfl ?_
  unfold f_X10_mean
  refine J_iload_n (pc := 0) dX10_mean_0 rfl rfl ?_
  refine T_callSI (pc := 1) (As := [.int (iI p0)]) (st := []) ok_yX10_isRow lm_X10_110 dX10_mean_1 (by decide) (Nat.le_of_ble_eq_true rfl) (m_X10_isRow m0 p0) (fun r2 m1 em1 => ?_)
  refine T_if_ne (pc := 4) (tgt := 9) dX10_mean_4 (by decide) (fun h3 => ?_) (fun h3 => ?_)
  · refine J_aload_n (pc := 9) dX10_mean_9 rfl rfl rfl ?_
    refine tg_X10_38 (pc := 10) rfl dX10_mean_10 ?_
    refine J_iload_n (pc := 13) dX10_mean_13 rfl rfl ?_
    refine T_iaload (pc := 14) (by decide) rfl dX10_mean_14 (fun h4 => ?_)
    refine T_if_ge (pc := 15) (tgt := 24) dX10_mean_15 (by decide) (fun h5 => ?_) (fun h5 => ?_)
    · refine J_aload_n (pc := 24) dX10_mean_24 rfl rfl rfl ?_
      refine tg_X10_38 (pc := 25) rfl dX10_mean_25 ?_
      refine J_iload_n (pc := 28) dX10_mean_28 rfl rfl ?_
      refine T_iaload (pc := 29) (by decide) rfl dX10_mean_29 (fun h6 => ?_)
      refine T_if_ne (pc := 30) (tgt := 39) dX10_mean_30 (by decide) (fun h7 => ?_) (fun h7 => ?_)
      · refine J_lconst (pc := 39) (z := 0) dX10_mean_39 (by decide) ?_
        refine J_lstore_n (pc := 40) (L' := [some (.ref 67), some (.int (iI p0)), some (.long (iL 0)), none, none]) dX10_mean_40 rfl (by decide) rfl rfl ?_
        refine J_iconst (pc := 41) dX10_mean_41 ?_
        refine J_istore (pc := 42) (L' := [some (.ref 67), some (.int (iI p0)), some (.long (iL 0)), none, some (.int (iI 0))]) dX10_mean_42 (by decide) rfl rfl ?_
        refine j_X10_mean_L44 ?_ 100000 0 0 m1
        · intro x12 m13
          refine J_aload_n (pc := 77) dX10_mean_77 rfl rfl rfl ?_
          refine J_lload_n (pc := 78) dX10_mean_78 rfl rfl ?_
          refine J_aload_n (pc := 79) dX10_mean_79 rfl rfl rfl ?_
          refine tg_X10_38 (pc := 80) rfl dX10_mean_80 ?_
          refine J_iload_n (pc := 83) dX10_mean_83 rfl rfl ?_
          refine T_iaload (pc := 84) (by decide) rfl dX10_mean_84 (fun h14 => ?_)
          refine J_i2l (pc := 85) dX10_mean_85 ?_
          refine T_ldiv (pc := 86) dX10_mean_86 ?_
          refine J_l2i (pc := 87) dX10_mean_87 ?_
          refine tp_X10_118 (pc := 88) rfl dX10_mean_88 ?_
          refine T_vm (fun m15 em15 => ?_)
          refine J_iconst (pc := 91) dX10_mean_91 ?_
          exact T_retI (pc := 92) rfl dX10_mean_92
      · refine J_aload_n (pc := 33) dX10_mean_33 rfl rfl rfl ?_
        refine J_iconst (pc := 34) dX10_mean_34 ?_
        refine T_callVI (pc := 35) (As := [.int (iI 4)]) (k := 67) (st := []) ok_yX10_finds lm_X10_114 dX10_mean_35 (by decide) rfl rfl (by decide) (Nat.le_of_ble_eq_true rfl) (m_X10_finds m1 4) (fun r17 m16 em16 => ?_)
        exact T_retI (pc := 38) rfl dX10_mean_38
    · refine J_aload_n (pc := 18) dX10_mean_18 rfl rfl rfl ?_
      refine J_iconst (pc := 19) dX10_mean_19 ?_
      refine T_callVI (pc := 20) (As := [.int (iI 1)]) (k := 67) (st := []) ok_yX10_finds lm_X10_114 dX10_mean_20 (by decide) rfl rfl (by decide) (Nat.le_of_ble_eq_true rfl) (m_X10_finds m1 1) (fun r19 m18 em18 => ?_)
      exact T_retI (pc := 23) rfl dX10_mean_23
  · refine J_iconst (pc := 7) dX10_mean_7 ?_
    exact T_retI (pc := 8) rfl dX10_mean_8
def f_X10_text_L34 (p0 : Int) (p1 : Int) : Nat → Int → Mem → Option (Int × Mem)
  | 0, _, _ => none
  | u + 1, i3, mu34 => if w32 i3 < w32 60 then (ck ((60 * p0) + i3) 240 (vm (wr mu34 79 (w32 ((60 * p0) + i3)).toNat 32) fun m10 => f_X10_text_L34 p0 p1 u (i3 + 1) m10)) else (some (p1, mu34))
set_option maxRecDepth 40000 in
theorem j_X10_text_L34 {l : Launch} {G : qG} {p0 : Int} {p1 : Int} : ∀ (u : Nat) (i3 : Int) (mu34 : Mem), qJ l G yX10_text cX10_text 4 (some .int) 3 34 [some (.ref 67), some (.int (iI p0)), some (.int (iI p1)), some (.int (iI i3))] [] (lay mu34) (lf eI (f_X10_text_L34 p0 p1 u i3 mu34)) := by
  intro u
  induction u with
  | zero => intro _ mu34; exact T_none
  | succ u ih =>
    intro i3 mu34
    rw [f_X10_text_L34]
    refine J_iload_n (pc := 34) dX10_text_34 rfl rfl ?_
    refine J_bipush (pc := 35) dX10_text_35 (by decide) (by decide) ?_
    refine T_icmp_ge (pc := 37) (tgt := 59) dX10_text_37 (by decide) (fun h8 => ?_) (fun h8 => ?_)
    · refine J_iload_n (pc := 59) dX10_text_59 rfl rfl ?_
      exact T_retI (pc := 60) rfl dX10_text_60
    · refine J_aload_n (pc := 40) dX10_text_40 rfl rfl rfl ?_
      refine tg_X10_47 (pc := 41) rfl dX10_text_41 ?_
      refine J_bipush (pc := 44) dX10_text_44 (by decide) (by decide) ?_
      refine J_iload_n (pc := 46) dX10_text_46 rfl rfl ?_
      refine J_imul (pc := 47) dX10_text_47 ?_
      refine J_iload_n (pc := 48) dX10_text_48 rfl rfl ?_
      refine J_iadd (pc := 49) dX10_text_49 ?_
      refine J_bipush (pc := 50) dX10_text_50 (by decide) (by decide) ?_
      refine T_iastore (pc := 52) (by decide) rfl dX10_text_52 (fun h9 => ?_)
      refine T_vm (fun m10 em10 => ?_)
      refine J_iinc (pc := 53) (L' := [some (.ref 67), some (.int (iI p0)), some (.int (iI p1)), some (.int (iI (i3 + 1)))]) dX10_text_53 rfl (by decide) rfl rfl ?_
      refine J_goto (pc := 56) (tgt := 34) dX10_text_56 (by decide) ?_
      exact ih (i3 + 1) m10
def f_X10_text (m0 : Mem) (p0 : Int) (p1 : Int) : Option (Int × Mem) := bd (f_X10_isText m0 p0) fun r2 m1 => if w32 r2 = 0 then (some ((-1), m1)) else (if w32 60 < w32 p1 then (some ((-1), m1)) else (if w32 p1 < 0 then (bd (f_X10_finds m1 5) fun r12 m11 => some (r12, m11)) else (ck p0 4 (vm (wr m1 78 (w32 p0).toNat p1) fun m7 => f_X10_text_L34 p0 p1 100000 0 m7))))
set_option maxRecDepth 40000 in
theorem m_X10_text {l : Launch} {G : qG} (m0 : Mem) (p0 : Int) (p1 : Int) : qM l G 3 yX10_text cX10_text 4 (some .int) [.ref 67, .int (iI p0), .int (iI p1)] (lay m0) (lf eI (f_X10_text m0 p0 p1)) := by
  refine qM_of (L := [some (.ref 67), some (.int (iI p0)), some (.int (iI p1)), none]) (by decide +kernel) (Nat.le_of_ble_eq_true rfl) rfl ?_
  unfold f_X10_text
  refine J_iload_n (pc := 0) dX10_text_0 rfl rfl ?_
  refine T_callSI (pc := 1) (As := [.int (iI p0)]) (st := []) ok_yX10_isText lm_X10_121 dX10_text_1 (by decide) (Nat.le_of_ble_eq_true rfl) (m_X10_isText m0 p0) (fun r2 m1 em1 => ?_)
  refine T_if_eq (pc := 4) (tgt := 13) dX10_text_4 (by decide) (fun h3 => ?_) (fun h3 => ?_)
  · refine J_iconst (pc := 13) dX10_text_13 ?_
    exact T_retI (pc := 14) rfl dX10_text_14
  · refine J_iload_n (pc := 7) dX10_text_7 rfl rfl ?_
    refine J_bipush (pc := 8) dX10_text_8 (by decide) (by decide) ?_
    refine T_icmp_le (pc := 10) (tgt := 15) dX10_text_10 (by decide) (fun h4 => ?_) (fun h4 => ?_)
    · refine J_iload_n (pc := 15) dX10_text_15 rfl rfl ?_
      refine T_if_ge (pc := 16) (tgt := 25) dX10_text_16 (by decide) (fun h5 => ?_) (fun h5 => ?_)
      · refine J_aload_n (pc := 25) dX10_text_25 rfl rfl rfl ?_
        refine tg_X10_44 (pc := 26) rfl dX10_text_26 ?_
        refine J_iload_n (pc := 29) dX10_text_29 rfl rfl ?_
        refine J_iload_n (pc := 30) dX10_text_30 rfl rfl ?_
        refine T_iastore (pc := 31) (by decide) rfl dX10_text_31 (fun h6 => ?_)
        refine T_vm (fun m7 em7 => ?_)
        refine J_iconst (pc := 32) dX10_text_32 ?_
        refine J_istore_n (pc := 33) (L' := [some (.ref 67), some (.int (iI p0)), some (.int (iI p1)), some (.int (iI 0))]) dX10_text_33 rfl (by decide) rfl rfl ?_
        refine j_X10_text_L34 100000 0 m7
      · refine J_aload_n (pc := 19) dX10_text_19 rfl rfl rfl ?_
        refine J_iconst (pc := 20) dX10_text_20 ?_
        refine T_callVI (pc := 21) (As := [.int (iI 5)]) (k := 67) (st := []) ok_yX10_finds lm_X10_114 dX10_text_21 (by decide) rfl rfl (by decide) (Nat.le_of_ble_eq_true rfl) (m_X10_finds m1 5) (fun r12 m11 em11 => ?_)
        exact T_retI (pc := 24) rfl dX10_text_24
    · refine J_iconst (pc := 13) dX10_text_13 ?_
      exact T_retI (pc := 14) rfl dX10_text_14
def f_X10_put (m0 : Mem) (p0 : Int) (p1 : Int) (p2 : Int) : Option (Int × Mem) := bd (f_X10_isText m0 p0) fun r2 m1 => if w32 r2 = 0 then (some ((-1), m1)) else (ck p0 4 (if w32 (m1 78 (w32 p0).toNat) < 0 then (bd (f_X10_finds m1 1) fun r17 m16 => some (r17, m16)) else (ck p0 4 (bd (f_X10_in m1 (w32 p1) 0 (w32 ((m1 78 (w32 p0).toNat) - 1))) fun r8 m7 => if w32 r8 = 0 then (bd (f_X10_finds m7 2) fun r15 m14 => some (r15, m14)) else (ck ((60 * p0) + p1) 240 (vl (m7 79 (w32 ((60 * p0) + p1)).toNat) fun x11 => ck ((60 * p0) + p1) 240 (vm (wr m7 79 (w32 ((60 * p0) + p1)).toNat (zi2b p2)) fun m13 => some (1000 + x11, m13))))))))
set_option maxRecDepth 40000 in
theorem m_X10_put {l : Launch} {G : qG} (m0 : Mem) (p0 : Int) (p1 : Int) (p2 : Int) : qM l G 3 yX10_put cX10_put 5 (some .int) [.ref 67, .int (iI p0), .int (iI p1), .int (iI p2)] (lay m0) (lf eI (f_X10_put m0 p0 p1 p2)) := by
  refine qM_of (L := [some (.ref 67), some (.int (iI p0)), some (.int (iI p1)), some (.int (iI p2)), none]) (by decide +kernel) (Nat.le_of_ble_eq_true rfl) rfl ?_
  unfold f_X10_put
  refine J_iload_n (pc := 0) dX10_put_0 rfl rfl ?_
  refine T_callSI (pc := 1) (As := [.int (iI p0)]) (st := []) ok_yX10_isText lm_X10_121 dX10_put_1 (by decide) (Nat.le_of_ble_eq_true rfl) (m_X10_isText m0 p0) (fun r2 m1 em1 => ?_)
  refine T_if_ne (pc := 4) (tgt := 9) dX10_put_4 (by decide) (fun h3 => ?_) (fun h3 => ?_)
  · refine J_aload_n (pc := 9) dX10_put_9 rfl rfl rfl ?_
    refine tg_X10_44 (pc := 10) rfl dX10_put_10 ?_
    refine J_iload_n (pc := 13) dX10_put_13 rfl rfl ?_
    refine T_iaload (pc := 14) (by decide) rfl dX10_put_14 (fun h4 => ?_)
    refine T_if_ge (pc := 15) (tgt := 24) dX10_put_15 (by decide) (fun h5 => ?_) (fun h5 => ?_)
    · refine J_iload_n (pc := 24) dX10_put_24 rfl rfl ?_
      refine J_i2l (pc := 25) dX10_put_25 ?_
      refine J_lconst (pc := 26) (z := 0) dX10_put_26 (by decide) ?_
      refine J_aload_n (pc := 27) dX10_put_27 rfl rfl rfl ?_
      refine tg_X10_44 (pc := 28) rfl dX10_put_28 ?_
      refine J_iload_n (pc := 31) dX10_put_31 rfl rfl ?_
      refine T_iaload (pc := 32) (by decide) rfl dX10_put_32 (fun h6 => ?_)
      refine J_iconst (pc := 33) dX10_put_33 ?_
      refine J_isub (pc := 34) dX10_put_34 ?_
      refine J_i2l (pc := 35) dX10_put_35 ?_
      refine T_callSI (pc := 36) (As := [.long (iL (w32 p1)), .long (iL 0), .long (iL (w32 ((m1 78 (w32 p0).toNat) - 1)))]) (st := []) ok_yX10_in lm_X10_98 dX10_put_36 (by decide) (Nat.le_of_ble_eq_true rfl) (m_X10_in m1 (w32 p1) 0 (w32 ((m1 78 (w32 p0).toNat) - 1))) (fun r8 m7 em7 => ?_)
      refine T_if_ne (pc := 39) (tgt := 48) dX10_put_39 (by decide) (fun h9 => ?_) (fun h9 => ?_)
      · refine J_aload_n (pc := 48) dX10_put_48 rfl rfl rfl ?_
        refine tg_X10_47 (pc := 49) rfl dX10_put_49 ?_
        refine J_bipush (pc := 52) dX10_put_52 (by decide) (by decide) ?_
        refine J_iload_n (pc := 54) dX10_put_54 rfl rfl ?_
        refine J_imul (pc := 55) dX10_put_55 ?_
        refine J_iload_n (pc := 56) dX10_put_56 rfl rfl ?_
        refine J_iadd (pc := 57) dX10_put_57 ?_
        refine T_iaload (pc := 58) (by decide) rfl dX10_put_58 (fun h10 => ?_)
        refine T_vlI (pc := 59) (fun x11 ex11 => ?_)
        refine J_istore (pc := 59) (L' := [some (.ref 67), some (.int (iI p0)), some (.int (iI p1)), some (.int (iI p2)), some (.int (iI x11))]) dX10_put_59 (by decide) rfl rfl ?_
        refine J_aload_n (pc := 61) dX10_put_61 rfl rfl rfl ?_
        refine tg_X10_47 (pc := 62) rfl dX10_put_62 ?_
        refine J_bipush (pc := 65) dX10_put_65 (by decide) (by decide) ?_
        refine J_iload_n (pc := 67) dX10_put_67 rfl rfl ?_
        refine J_imul (pc := 68) dX10_put_68 ?_
        refine J_iload_n (pc := 69) dX10_put_69 rfl rfl ?_
        refine J_iadd (pc := 70) dX10_put_70 ?_
        refine J_iload_n (pc := 71) dX10_put_71 rfl rfl ?_
        refine J_i2b (pc := 72) dX10_put_72 ?_
        refine T_iastore (pc := 73) (by decide) rfl dX10_put_73 (fun h12 => ?_)
        refine T_vm (fun m13 em13 => ?_)
        refine J_sipush (pc := 74) dX10_put_74 (by decide) (by decide) ?_
        refine J_iload (pc := 77) dX10_put_77 rfl ?_
        refine J_iadd (pc := 79) dX10_put_79 ?_
        exact T_retI (pc := 80) rfl dX10_put_80
      · refine J_aload_n (pc := 42) dX10_put_42 rfl rfl rfl ?_
        refine J_iconst (pc := 43) dX10_put_43 ?_
        refine T_callVI (pc := 44) (As := [.int (iI 2)]) (k := 67) (st := []) ok_yX10_finds lm_X10_114 dX10_put_44 (by decide) rfl rfl (by decide) (Nat.le_of_ble_eq_true rfl) (m_X10_finds m7 2) (fun r15 m14 em14 => ?_)
        exact T_retI (pc := 47) rfl dX10_put_47
    · refine J_aload_n (pc := 18) dX10_put_18 rfl rfl rfl ?_
      refine J_iconst (pc := 19) dX10_put_19 ?_
      refine T_callVI (pc := 20) (As := [.int (iI 1)]) (k := 67) (st := []) ok_yX10_finds lm_X10_114 dX10_put_20 (by decide) rfl rfl (by decide) (Nat.le_of_ble_eq_true rfl) (m_X10_finds m1 1) (fun r17 m16 em16 => ?_)
      exact T_retI (pc := 23) rfl dX10_put_23
  · refine J_iconst (pc := 7) dX10_put_7 ?_
    exact T_retI (pc := 8) rfl dX10_put_8
def f_X10_byteOf (m0 : Mem) (p0 : Int) : Option (Int × Mem) := ck p0 4 (if w32 (m0 67 24) < w32 (m0 78 (w32 p0).toNat) then (ck ((60 * p0) + (m0 67 24)) 240 (some (m0 79 (w32 ((60 * p0) + (m0 67 24))).toNat, m0))) else (some ((-1000), m0)))
set_option maxRecDepth 40000 in
theorem m_X10_byteOf {l : Launch} {G : qG} (m0 : Mem) (p0 : Int) : qM l G 1 yX10_byteOf cX10_byteOf 2 (some .int) [.ref 67, .int (iI p0)] (lay m0) (lf eI (f_X10_byteOf m0 p0)) := by
  refine qM_of (L := [some (.ref 67), some (.int (iI p0))]) (by decide +kernel) (Nat.le_of_ble_eq_true rfl) rfl ?_
  unfold f_X10_byteOf
  refine J_aload_n (pc := 0) dX10_byteOf_0 rfl rfl rfl ?_
  refine tg_X10_124 (pc := 1) rfl dX10_byteOf_1 ?_
  refine J_aload_n (pc := 4) dX10_byteOf_4 rfl rfl rfl ?_
  refine tg_X10_44 (pc := 5) rfl dX10_byteOf_5 ?_
  refine J_iload_n (pc := 8) dX10_byteOf_8 rfl rfl ?_
  refine T_iaload (pc := 9) (by decide) rfl dX10_byteOf_9 (fun h1 => ?_)
  refine T_icmp_ge (pc := 10) (tgt := 30) dX10_byteOf_10 (by decide) (fun h2 => ?_) (fun h2 => ?_)
  · refine J_sipush (pc := 30) dX10_byteOf_30 (by decide) (by decide) ?_
    exact T_retI (pc := 33) rfl dX10_byteOf_33
  · refine J_aload_n (pc := 13) dX10_byteOf_13 rfl rfl rfl ?_
    refine tg_X10_47 (pc := 14) rfl dX10_byteOf_14 ?_
    refine J_bipush (pc := 17) dX10_byteOf_17 (by decide) (by decide) ?_
    refine J_iload_n (pc := 19) dX10_byteOf_19 rfl rfl ?_
    refine J_imul (pc := 20) dX10_byteOf_20 ?_
    refine J_aload_n (pc := 21) dX10_byteOf_21 rfl rfl rfl ?_
    refine tg_X10_124 (pc := 22) rfl dX10_byteOf_22 ?_
    refine J_iadd (pc := 25) dX10_byteOf_25 ?_
    refine T_iaload (pc := 26) (by decide) rfl dX10_byteOf_26 (fun h3 => ?_)
    refine J_goto (pc := 27) (tgt := 33) dX10_byteOf_27 (by decide) ?_
    exact T_retI (pc := 33) rfl dX10_byteOf_33
def f_X10_skip_L0 (p0 : Int) : Nat → Mem → Option (Unit × Mem)
  | 0, _ => none
  | u + 1, mu0 => bd (f_X10_byteOf mu0 p0) fun r2 m1 => if w32 r2 = w32 32 then (vm (wr m1 67 24 ((m1 67 24) + 1)) fun m4 => f_X10_skip_L0 p0 u m4) else (some ((), m1))
set_option maxRecDepth 40000 in
theorem j_X10_skip_L0 {l : Launch} {G : qG} {p0 : Int} : ∀ (u : Nat) (mu0 : Mem), qJ l G yX10_skip cX10_skip 2 none 2 0 [some (.ref 67), some (.int (iI p0))] [] (lay mu0) (lf eU (f_X10_skip_L0 p0 u mu0)) := by
  intro u
  induction u with
  | zero => intro  mu0; exact T_none
  | succ u ih =>
    intro mu0
    rw [f_X10_skip_L0]
    refine J_aload_n (pc := 0) dX10_skip_0 rfl rfl rfl ?_
    refine J_iload_n (pc := 1) dX10_skip_1 rfl rfl ?_
    refine T_callVI (pc := 2) (As := [.int (iI p0)]) (k := 67) (st := []) ok_yX10_byteOf lm_X10_127 dX10_skip_2 (by decide) rfl rfl (by decide) (Nat.le_of_ble_eq_true rfl) (m_X10_byteOf mu0 p0) (fun r2 m1 em1 => ?_)
    refine J_bipush (pc := 5) dX10_skip_5 (by decide) (by decide) ?_
    refine T_icmp_ne (pc := 7) (tgt := 23) dX10_skip_7 (by decide) (fun h3 => ?_) (fun h3 => ?_)
    · exact T_retV (pc := 23) rfl dX10_skip_23
    · refine J_aload_n (pc := 10) dX10_skip_10 rfl rfl rfl ?_
      refine J_dup (pc := 11) dX10_skip_11 rfl ?_
      refine tg_X10_124 (pc := 12) rfl dX10_skip_12 ?_
      refine J_iconst (pc := 15) dX10_skip_15 ?_
      refine J_iadd (pc := 16) dX10_skip_16 ?_
      refine tp_X10_124 (pc := 17) rfl dX10_skip_17 ?_
      refine T_vm (fun m4 em4 => ?_)
      refine J_goto (pc := 20) (tgt := 0) dX10_skip_20 (by decide) ?_
      exact ih  m4
def f_X10_skip (m0 : Mem) (p0 : Int) : Option (Unit × Mem) := f_X10_skip_L0 p0 100000 m0
set_option maxRecDepth 40000 in
theorem m_X10_skip {l : Launch} {G : qG} (m0 : Mem) (p0 : Int) : qM l G 2 yX10_skip cX10_skip 2 none [.ref 67, .int (iI p0)] (lay m0) (lf eU (f_X10_skip m0 p0)) := by
  refine qM_of (L := [some (.ref 67), some (.int (iI p0))]) (by decide +kernel) (Nat.le_of_ble_eq_true rfl) rfl ?_
  unfold f_X10_skip
  refine j_X10_skip_L0 100000 m0
def f_X10_figure (m0 : Mem) (p0 : Int) (p1 : Int) (p2 : Int) : Option (Int × Mem) := bd (f_X10_byteOf m0 p0) fun r2 m1 => if w32 (m1 67 25) < 0 then (bd (f_X10_in m1 (w32 r2) (w32 (48 + p1)) (w32 (48 + p2))) fun r5 m4 => if w32 r5 = 0 then (vm (wr m4 67 25 (m4 67 24)) fun m8 => some (0, m8)) else (vm (wr m4 67 24 ((m4 67 24) + 1)) fun m7 => some (r2 - 48, m7))) else (some (0, m1))
set_option maxRecDepth 40000 in
theorem m_X10_figure {l : Launch} {G : qG} (m0 : Mem) (p0 : Int) (p1 : Int) (p2 : Int) : qM l G 2 yX10_figure cX10_figure 5 (some .int) [.ref 67, .int (iI p0), .int (iI p1), .int (iI p2)] (lay m0) (lf eI (f_X10_figure m0 p0 p1 p2)) := by
  refine qM_of (L := [some (.ref 67), some (.int (iI p0)), some (.int (iI p1)), some (.int (iI p2)), none]) (by decide +kernel) (Nat.le_of_ble_eq_true rfl) rfl ?_
  unfold f_X10_figure
  refine J_aload_n (pc := 0) dX10_figure_0 rfl rfl rfl ?_
  refine J_iload_n (pc := 1) dX10_figure_1 rfl rfl ?_
  refine T_callVI (pc := 2) (As := [.int (iI p0)]) (k := 67) (st := []) ok_yX10_byteOf lm_X10_127 dX10_figure_2 (by decide) rfl rfl (by decide) (Nat.le_of_ble_eq_true rfl) (m_X10_byteOf m0 p0) (fun r2 m1 em1 => ?_)
  refine J_istore (pc := 5) (L' := [some (.ref 67), some (.int (iI p0)), some (.int (iI p1)), some (.int (iI p2)), some (.int (iI r2))]) dX10_figure_5 (by decide) rfl rfl ?_
  refine J_aload_n (pc := 7) dX10_figure_7 rfl rfl rfl ?_
  refine tg_X10_130 (pc := 8) rfl dX10_figure_8 ?_
  refine T_if_lt (pc := 11) (tgt := 16) dX10_figure_11 (by decide) (fun h3 => ?_) (fun h3 => ?_)
  · refine J_iload (pc := 16) dX10_figure_16 rfl ?_
    refine J_i2l (pc := 18) dX10_figure_18 ?_
    refine J_bipush (pc := 19) dX10_figure_19 (by decide) (by decide) ?_
    refine J_iload_n (pc := 21) dX10_figure_21 rfl rfl ?_
    refine J_iadd (pc := 22) dX10_figure_22 ?_
    refine J_i2l (pc := 23) dX10_figure_23 ?_
    refine J_bipush (pc := 24) dX10_figure_24 (by decide) (by decide) ?_
    refine J_iload_n (pc := 26) dX10_figure_26 rfl rfl ?_
    refine J_iadd (pc := 27) dX10_figure_27 ?_
    refine J_i2l (pc := 28) dX10_figure_28 ?_
    refine T_callSI (pc := 29) (As := [.long (iL (w32 r2)), .long (iL (w32 (48 + p1))), .long (iL (w32 (48 + p2)))]) (st := []) ok_yX10_in lm_X10_98 dX10_figure_29 (by decide) (Nat.le_of_ble_eq_true rfl) (m_X10_in m1 (w32 r2) (w32 (48 + p1)) (w32 (48 + p2))) (fun r5 m4 em4 => ?_)
    refine T_if_ne (pc := 32) (tgt := 45) dX10_figure_32 (by decide) (fun h6 => ?_) (fun h6 => ?_)
    · refine J_aload_n (pc := 45) dX10_figure_45 rfl rfl rfl ?_
      refine J_dup (pc := 46) dX10_figure_46 rfl ?_
      refine tg_X10_124 (pc := 47) rfl dX10_figure_47 ?_
      refine J_iconst (pc := 50) dX10_figure_50 ?_
      refine J_iadd (pc := 51) dX10_figure_51 ?_
      refine tp_X10_124 (pc := 52) rfl dX10_figure_52 ?_
      refine T_vm (fun m7 em7 => ?_)
      refine J_iload (pc := 55) dX10_figure_55 rfl ?_
      refine J_bipush (pc := 57) dX10_figure_57 (by decide) (by decide) ?_
      refine J_isub (pc := 59) dX10_figure_59 ?_
      exact T_retI (pc := 60) rfl dX10_figure_60
    · refine J_aload_n (pc := 35) dX10_figure_35 rfl rfl rfl ?_
      refine J_aload_n (pc := 36) dX10_figure_36 rfl rfl rfl ?_
      refine tg_X10_124 (pc := 37) rfl dX10_figure_37 ?_
      refine tp_X10_130 (pc := 40) rfl dX10_figure_40 ?_
      refine T_vm (fun m8 em8 => ?_)
      refine J_iconst (pc := 43) dX10_figure_43 ?_
      exact T_retI (pc := 44) rfl dX10_figure_44
  · refine J_iconst (pc := 14) dX10_figure_14 ?_
    exact T_retI (pc := 15) rfl dX10_figure_15
def f_X10_kindOf (m0 : Mem) (p0 : Int) : Option (Int × Mem) := vl (if w32 p0 = w32 99 then 0 else (if w32 p0 = w32 104 then 1 else (if w32 p0 = w32 115 then 2 else (if w32 p0 = w32 110 then 3 else (if w32 p0 = w32 108 then 4 else (if w32 p0 = w32 103 then 5 else (-1))))))) fun v1 => some (v1, m0)
set_option maxRecDepth 40000 in
theorem m_X10_kindOf {l : Launch} {G : qG} (m0 : Mem) (p0 : Int) : qM l G 1 yX10_kindOf cX10_kindOf 1 (some .int) [.int (iI p0)] (lay m0) (lf eI (f_X10_kindOf m0 p0)) := by
  refine qM_of (L := [some (.int (iI p0))]) (by decide +kernel) (Nat.le_of_ble_eq_true rfl) rfl ?_
  unfold f_X10_kindOf
  refine J_iload_n (pc := 0) dX10_kindOf_0 rfl rfl ?_
  refine J_bipush (pc := 1) dX10_kindOf_1 (by decide) (by decide) ?_
  refine T_vl (fun v1 ev1 => ?_)
  refine T_dia (j := 61) (v := v1) (LT := [some (.int (iI p0))]) (sT := []) ?_ (fun hj2 => ?_)
  · exact T_retI (pc := 61) rfl dX10_kindOf_61
  · refine T_icmp_ne_same (pc := 3) (tgt := 10) dX10_kindOf_3 (by decide) (fun h3 => ?_) (fun h3 => ?_)
    · refine J_iload_n (pc := 10) dX10_kindOf_10 rfl rfl ?_
      refine J_bipush (pc := 11) dX10_kindOf_11 (by decide) (by decide) ?_
      refine T_icmp_ne_same (pc := 13) (tgt := 20) dX10_kindOf_13 (by decide) (fun h4 => ?_) (fun h4 => ?_)
      · refine J_iload_n (pc := 20) dX10_kindOf_20 rfl rfl ?_
        refine J_bipush (pc := 21) dX10_kindOf_21 (by decide) (by decide) ?_
        refine T_icmp_ne_same (pc := 23) (tgt := 30) dX10_kindOf_23 (by decide) (fun h5 => ?_) (fun h5 => ?_)
        · refine J_iload_n (pc := 30) dX10_kindOf_30 rfl rfl ?_
          refine J_bipush (pc := 31) dX10_kindOf_31 (by decide) (by decide) ?_
          refine T_icmp_ne_same (pc := 33) (tgt := 40) dX10_kindOf_33 (by decide) (fun h6 => ?_) (fun h6 => ?_)
          · refine J_iload_n (pc := 40) dX10_kindOf_40 rfl rfl ?_
            refine J_bipush (pc := 41) dX10_kindOf_41 (by decide) (by decide) ?_
            refine T_icmp_ne_same (pc := 43) (tgt := 50) dX10_kindOf_43 (by decide) (fun h7 => ?_) (fun h7 => ?_)
            · refine J_iload_n (pc := 50) dX10_kindOf_50 rfl rfl ?_
              refine J_bipush (pc := 51) dX10_kindOf_51 (by decide) (by decide) ?_
              refine T_icmp_ne_same (pc := 53) (tgt := 60) dX10_kindOf_53 (by decide) (fun h8 => ?_) (fun h8 => ?_)
              · refine J_iconst (pc := 60) dX10_kindOf_60 ?_
                exact T_top (by rw [ev1, if_neg h3, if_neg h4, if_neg h5, if_neg h6, if_neg h7, if_neg h8]) hj2
              · refine J_iconst (pc := 56) dX10_kindOf_56 ?_
                refine J_goto (pc := 57) (tgt := 61) dX10_kindOf_57 (by decide) ?_
                exact T_top (by rw [ev1, if_neg h3, if_neg h4, if_neg h5, if_neg h6, if_neg h7, if_pos h8]) hj2
            · refine J_iconst (pc := 46) dX10_kindOf_46 ?_
              refine J_goto (pc := 47) (tgt := 61) dX10_kindOf_47 (by decide) ?_
              exact T_top (by rw [ev1, if_neg h3, if_neg h4, if_neg h5, if_neg h6, if_pos h7]) hj2
          · refine J_iconst (pc := 36) dX10_kindOf_36 ?_
            refine J_goto (pc := 37) (tgt := 61) dX10_kindOf_37 (by decide) ?_
            exact T_top (by rw [ev1, if_neg h3, if_neg h4, if_neg h5, if_pos h6]) hj2
        · refine J_iconst (pc := 26) dX10_kindOf_26 ?_
          refine J_goto (pc := 27) (tgt := 61) dX10_kindOf_27 (by decide) ?_
          exact T_top (by rw [ev1, if_neg h3, if_neg h4, if_pos h5]) hj2
      · refine J_iconst (pc := 16) dX10_kindOf_16 ?_
        refine J_goto (pc := 17) (tgt := 61) dX10_kindOf_17 (by decide) ?_
        exact T_top (by rw [ev1, if_neg h3, if_pos h4]) hj2
    · refine J_iconst (pc := 6) dX10_kindOf_6 ?_
      refine J_goto (pc := 7) (tgt := 61) dX10_kindOf_7 (by decide) ?_
      exact T_top (by rw [ev1, if_pos h3]) hj2
def f_X10_readOne (m0 : Mem) (p0 : Int) : Option (Unit × Mem) := bd (f_X10_byteOf m0 p0) fun r2 m1 => bd (f_X10_kindOf m1 r2) fun r4 m3 => vl (if w32 r4 < 0 then 0 else (if w32 (m3 67 27) = 0 then (if w32 (m3 67 26) < w32 5 then 1 else 0) else 0)) fun v5 => vl (if w32 r2 = w32 118 then (if 0 < w32 (m3 67 26) then (if w32 (m3 67 27) < w32 4 then 1 else 0) else 0) else (if w32 r2 = w32 100 then (if 0 < w32 (m3 67 26) then (if w32 (m3 67 27) < w32 4 then 1 else 0) else 0) else 0)) fun v7 => jn (κ := Mem → Option (Unit × Mem)) (fun m10 => vm (wr m10 67 24 ((m10 67 24) + 1)) fun m11 => if w32 v5 = 0 then (vl (m11 67 27) fun x13 => vl (if w32 r2 = w32 118 then 1 else 0) fun v14 => ck x13 4 (vm (wr m11 88 (w32 x13).toNat v14) fun m17 => bd (f_X10_figure m17 p0 0 7) fun r19 m18 => ck x13 4 (vm (wr m18 89 (w32 x13).toNat r19) fun m21 => ck x13 4 (bd (f_X10_figure m21 p0 (m21 89 (w32 x13).toNat) 7) fun r24 m23 => ck x13 4 (vm (wr m23 90 (w32 x13).toNat r24) fun m26 => bd (f_X10_figure m26 p0 1 9) fun r28 m27 => ck x13 4 (vm (wr m27 91 (w32 x13).toNat r28) fun m30 => vm (wr m30 67 27 ((m30 67 27) + 1)) fun m31 => some ((), m31))))))) else (ck (m11 67 26) 5 (vm (wr m11 85 (w32 (m11 67 26)).toNat r4) fun m34 => bd (f_X10_figure m34 p0 0 9) fun r36 m35 => ck (m34 67 26) 5 (vm (wr m35 86 (w32 (m34 67 26)).toNat r36) fun m38 => bd (f_X10_figure m38 p0 0 9) fun r40 m39 => ck (m38 67 26) 5 (vm (wr m39 87 (w32 (m38 67 26)).toNat r40) fun m42 => vm (wr m42 67 26 ((m42 67 26) + 1)) fun m43 => some ((), m43)))))) fun k9 => if w32 v5 = 0 then (if w32 v7 = 0 then (vm (wr m3 67 25 (m3 67 24)) fun m46 => some ((), m46)) else (k9 m3)) else (k9 m3)
set_option maxRecDepth 40000 in
theorem m_X10_readOne {l : Launch} {G : qG} (m0 : Mem) (p0 : Int) : qM l G 3 yX10_readOne cX10_readOne 7 none [.ref 67, .int (iI p0)] (lay m0) (lf eU (f_X10_readOne m0 p0)) := by
  refine qM_of (L := [some (.ref 67), some (.int (iI p0)), none, none, none, none, none]) (by decide +kernel) (Nat.le_of_ble_eq_true rfl) rfl ?_
  unfold f_X10_readOne
  refine J_aload_n (pc := 0) dX10_readOne_0 rfl rfl rfl ?_
  refine J_iload_n (pc := 1) dX10_readOne_1 rfl rfl ?_
  refine T_callVI (pc := 2) (As := [.int (iI p0)]) (k := 67) (st := []) ok_yX10_byteOf lm_X10_127 dX10_readOne_2 (by decide) rfl rfl (by decide) (Nat.le_of_ble_eq_true rfl) (m_X10_byteOf m0 p0) (fun r2 m1 em1 => ?_)
  refine J_istore_n (pc := 5) (L' := [some (.ref 67), some (.int (iI p0)), some (.int (iI r2)), none, none, none, none]) dX10_readOne_5 rfl (by decide) rfl rfl ?_
  refine J_iload_n (pc := 6) dX10_readOne_6 rfl rfl ?_
  refine T_callSI (pc := 7) (As := [.int (iI r2)]) (st := []) ok_yX10_kindOf lm_X10_133 dX10_readOne_7 (by decide) (Nat.le_of_ble_eq_true rfl) (m_X10_kindOf m1 r2) (fun r4 m3 em3 => ?_)
  refine J_istore_n (pc := 10) (L' := [some (.ref 67), some (.int (iI p0)), some (.int (iI r2)), some (.int (iI r4)), none, none, none]) dX10_readOne_10 rfl (by decide) rfl rfl ?_
  refine J_iload_n (pc := 11) dX10_readOne_11 rfl rfl ?_
  refine T_vl (fun v5 ev5 => ?_)
  refine T_dia (j := 35) (v := v5) (LT := [some (.ref 67), some (.int (iI p0)), some (.int (iI r2)), some (.int (iI r4)), none, none, none]) (sT := []) ?_ (fun hj6 => ?_)
  · refine J_istore (pc := 35) (L' := [some (.ref 67), some (.int (iI p0)), some (.int (iI r2)), some (.int (iI r4)), some (.int (iI v5)), none, none]) dX10_readOne_35 (by decide) rfl rfl ?_
    refine J_iload_n (pc := 37) dX10_readOne_37 rfl rfl ?_
    refine J_bipush (pc := 38) dX10_readOne_38 (by decide) (by decide) ?_
    refine T_vl (fun v7 ev7 => ?_)
    refine T_dia (j := 69) (v := v7) (LT := [some (.ref 67), some (.int (iI p0)), some (.int (iI r2)), some (.int (iI r4)), some (.int (iI v5)), none, none]) (sT := []) ?_ (fun hj8 => ?_)
    · refine J_istore (pc := 69) (L' := [some (.ref 67), some (.int (iI p0)), some (.int (iI r2)), some (.int (iI r4)), some (.int (iI v5)), some (.int (iI v7)), none]) dX10_readOne_69 (by decide) rfl rfl ?_
      refine J_iload (pc := 71) dX10_readOne_71 rfl ?_
      refine T_jn (κ := Mem → Option (Unit × Mem)) (fun k => ∀ (m10 : Mem), qJ l G yX10_readOne cX10_readOne 7 none 3 90 [some (.ref 67), some (.int (iI p0)), some (.int (iI r2)), some (.int (iI r4)), some (.int (iI v5)), none, none] [] (lay m10) (lf eU (k m10))) ?_ (fun k9 hk9 => ?_)
      · intro m10
        refine J_aload_n (pc := 90) dX10_readOne_90 rfl rfl rfl ?_
        refine J_dup (pc := 91) dX10_readOne_91 rfl ?_
        refine tg_X10_124 (pc := 92) rfl dX10_readOne_92 ?_
        refine J_iconst (pc := 95) dX10_readOne_95 ?_
        refine J_iadd (pc := 96) dX10_readOne_96 ?_
        refine tp_X10_124 (pc := 97) rfl dX10_readOne_97 ?_
        refine T_vm (fun m11 em11 => ?_)
        refine J_iload (pc := 100) dX10_readOne_100 rfl ?_
        refine T_if_eq (pc := 102) (tgt := 162) dX10_readOne_102 (by decide) (fun h12 => ?_) (fun h12 => ?_)
        · refine J_aload_n (pc := 162) dX10_readOne_162 rfl rfl rfl ?_
          refine tg_X10_136 (pc := 163) rfl dX10_readOne_163 ?_
          refine T_vlI (pc := 166) (fun x13 ex13 => ?_)
          refine J_istore (pc := 166) (L' := [some (.ref 67), some (.int (iI p0)), some (.int (iI r2)), some (.int (iI r4)), some (.int (iI v5)), none, some (.int (iI x13))]) dX10_readOne_166 (by decide) rfl rfl ?_
          refine J_aload_n (pc := 168) dX10_readOne_168 rfl rfl rfl ?_
          refine tg_X10_74 (pc := 169) rfl dX10_readOne_169 ?_
          refine J_iload (pc := 172) dX10_readOne_172 rfl ?_
          refine J_iload_n (pc := 174) dX10_readOne_174 rfl rfl ?_
          refine J_bipush (pc := 175) dX10_readOne_175 (by decide) (by decide) ?_
          refine T_vl (fun v14 ev14 => ?_)
          refine T_dia (j := 185) (v := v14) (LT := [some (.ref 67), some (.int (iI p0)), some (.int (iI r2)), some (.int (iI r4)), some (.int (iI v5)), none, some (.int (iI x13))]) (sT := [.int (iI x13), .ref 88]) ?_ (fun hj15 => ?_)
          · refine T_iastore (pc := 185) (by decide) rfl dX10_readOne_185 (fun h16 => ?_)
            refine T_vm (fun m17 em17 => ?_)
            refine J_aload_n (pc := 186) dX10_readOne_186 rfl rfl rfl ?_
            refine tg_X10_77 (pc := 187) rfl dX10_readOne_187 ?_
            refine J_iload (pc := 190) dX10_readOne_190 rfl ?_
            refine J_aload_n (pc := 192) dX10_readOne_192 rfl rfl rfl ?_
            refine J_iload_n (pc := 193) dX10_readOne_193 rfl rfl ?_
            refine J_iconst (pc := 194) dX10_readOne_194 ?_
            refine J_bipush (pc := 195) dX10_readOne_195 (by decide) (by decide) ?_
            refine T_callVI (pc := 197) (As := [.int (iI p0), .int (iI 0), .int (iI 7)]) (k := 67) (st := [.int (iI x13), .ref 89]) ok_yX10_figure lm_X10_142 dX10_readOne_197 (by decide) rfl rfl (by decide) (Nat.le_of_ble_eq_true rfl) (m_X10_figure m17 p0 0 7) (fun r19 m18 em18 => ?_)
            refine T_iastore (pc := 200) (by decide) rfl dX10_readOne_200 (fun h20 => ?_)
            refine T_vm (fun m21 em21 => ?_)
            refine J_aload_n (pc := 201) dX10_readOne_201 rfl rfl rfl ?_
            refine tg_X10_80 (pc := 202) rfl dX10_readOne_202 ?_
            refine J_iload (pc := 205) dX10_readOne_205 rfl ?_
            refine J_aload_n (pc := 207) dX10_readOne_207 rfl rfl rfl ?_
            refine J_iload_n (pc := 208) dX10_readOne_208 rfl rfl ?_
            refine J_aload_n (pc := 209) dX10_readOne_209 rfl rfl rfl ?_
            refine tg_X10_77 (pc := 210) rfl dX10_readOne_210 ?_
            refine J_iload (pc := 213) dX10_readOne_213 rfl ?_
            refine T_iaload (pc := 215) (by decide) rfl dX10_readOne_215 (fun h22 => ?_)
            refine J_bipush (pc := 216) dX10_readOne_216 (by decide) (by decide) ?_
            refine T_callVI (pc := 218) (As := [.int (iI p0), .int (iI (m21 89 (w32 x13).toNat)), .int (iI 7)]) (k := 67) (st := [.int (iI x13), .ref 90]) ok_yX10_figure lm_X10_142 dX10_readOne_218 (by decide) rfl rfl (by decide) (Nat.le_of_ble_eq_true rfl) (m_X10_figure m21 p0 (m21 89 (w32 x13).toNat) 7) (fun r24 m23 em23 => ?_)
            refine T_iastore (pc := 221) (by decide) rfl dX10_readOne_221 (fun h25 => ?_)
            refine T_vm (fun m26 em26 => ?_)
            refine J_aload_n (pc := 222) dX10_readOne_222 rfl rfl rfl ?_
            refine tg_X10_83 (pc := 223) rfl dX10_readOne_223 ?_
            refine J_iload (pc := 226) dX10_readOne_226 rfl ?_
            refine J_aload_n (pc := 228) dX10_readOne_228 rfl rfl rfl ?_
            refine J_iload_n (pc := 229) dX10_readOne_229 rfl rfl ?_
            refine J_iconst (pc := 230) dX10_readOne_230 ?_
            refine J_bipush (pc := 231) dX10_readOne_231 (by decide) (by decide) ?_
            refine T_callVI (pc := 233) (As := [.int (iI p0), .int (iI 1), .int (iI 9)]) (k := 67) (st := [.int (iI x13), .ref 91]) ok_yX10_figure lm_X10_142 dX10_readOne_233 (by decide) rfl rfl (by decide) (Nat.le_of_ble_eq_true rfl) (m_X10_figure m26 p0 1 9) (fun r28 m27 em27 => ?_)
            refine T_iastore (pc := 236) (by decide) rfl dX10_readOne_236 (fun h29 => ?_)
            refine T_vm (fun m30 em30 => ?_)
            refine J_aload_n (pc := 237) dX10_readOne_237 rfl rfl rfl ?_
            refine J_dup (pc := 238) dX10_readOne_238 rfl ?_
            refine tg_X10_136 (pc := 239) rfl dX10_readOne_239 ?_
            refine J_iconst (pc := 242) dX10_readOne_242 ?_
            refine J_iadd (pc := 243) dX10_readOne_243 ?_
            refine tp_X10_136 (pc := 244) rfl dX10_readOne_244 ?_
            refine T_vm (fun m31 em31 => ?_)
            exact T_retV (pc := 247) rfl dX10_readOne_247
          · refine T_icmp_ne_same (pc := 177) (tgt := 184) dX10_readOne_177 (by decide) (fun h32 => ?_) (fun h32 => ?_)
            · refine J_iconst (pc := 184) dX10_readOne_184 ?_
              exact T_top (by rw [ev14, if_neg h32]) hj15
            · refine J_iconst (pc := 180) dX10_readOne_180 ?_
              refine J_goto (pc := 181) (tgt := 185) dX10_readOne_181 (by decide) ?_
              exact T_top (by rw [ev14, if_pos h32]) hj15
        · refine J_aload_n (pc := 105) dX10_readOne_105 rfl rfl rfl ?_
          refine tg_X10_65 (pc := 106) rfl dX10_readOne_106 ?_
          refine J_aload_n (pc := 109) dX10_readOne_109 rfl rfl rfl ?_
          refine tg_X10_139 (pc := 110) rfl dX10_readOne_110 ?_
          refine J_iload_n (pc := 113) dX10_readOne_113 rfl rfl ?_
          refine T_iastore (pc := 114) (by decide) rfl dX10_readOne_114 (fun h33 => ?_)
          refine T_vm (fun m34 em34 => ?_)
          refine J_aload_n (pc := 115) dX10_readOne_115 rfl rfl rfl ?_
          refine tg_X10_68 (pc := 116) rfl dX10_readOne_116 ?_
          refine J_aload_n (pc := 119) dX10_readOne_119 rfl rfl rfl ?_
          refine tg_X10_139 (pc := 120) rfl dX10_readOne_120 ?_
          refine J_aload_n (pc := 123) dX10_readOne_123 rfl rfl rfl ?_
          refine J_iload_n (pc := 124) dX10_readOne_124 rfl rfl ?_
          refine J_iconst (pc := 125) dX10_readOne_125 ?_
          refine J_bipush (pc := 126) dX10_readOne_126 (by decide) (by decide) ?_
          refine T_callVI (pc := 128) (As := [.int (iI p0), .int (iI 0), .int (iI 9)]) (k := 67) (st := [.int (iI (m34 67 26)), .ref 86]) ok_yX10_figure lm_X10_142 dX10_readOne_128 (by decide) rfl rfl (by decide) (Nat.le_of_ble_eq_true rfl) (m_X10_figure m34 p0 0 9) (fun r36 m35 em35 => ?_)
          refine T_iastore (pc := 131) (by decide) rfl dX10_readOne_131 (fun h37 => ?_)
          refine T_vm (fun m38 em38 => ?_)
          refine J_aload_n (pc := 132) dX10_readOne_132 rfl rfl rfl ?_
          refine tg_X10_71 (pc := 133) rfl dX10_readOne_133 ?_
          refine J_aload_n (pc := 136) dX10_readOne_136 rfl rfl rfl ?_
          refine tg_X10_139 (pc := 137) rfl dX10_readOne_137 ?_
          refine J_aload_n (pc := 140) dX10_readOne_140 rfl rfl rfl ?_
          refine J_iload_n (pc := 141) dX10_readOne_141 rfl rfl ?_
          refine J_iconst (pc := 142) dX10_readOne_142 ?_
          refine J_bipush (pc := 143) dX10_readOne_143 (by decide) (by decide) ?_
          refine T_callVI (pc := 145) (As := [.int (iI p0), .int (iI 0), .int (iI 9)]) (k := 67) (st := [.int (iI (m38 67 26)), .ref 87]) ok_yX10_figure lm_X10_142 dX10_readOne_145 (by decide) rfl rfl (by decide) (Nat.le_of_ble_eq_true rfl) (m_X10_figure m38 p0 0 9) (fun r40 m39 em39 => ?_)
          refine T_iastore (pc := 148) (by decide) rfl dX10_readOne_148 (fun h41 => ?_)
          refine T_vm (fun m42 em42 => ?_)
          refine J_aload_n (pc := 149) dX10_readOne_149 rfl rfl rfl ?_
          refine J_dup (pc := 150) dX10_readOne_150 rfl ?_
          refine tg_X10_139 (pc := 151) rfl dX10_readOne_151 ?_
          refine J_iconst (pc := 154) dX10_readOne_154 ?_
          refine J_iadd (pc := 155) dX10_readOne_155 ?_
          refine tp_X10_139 (pc := 156) rfl dX10_readOne_156 ?_
          refine T_vm (fun m43 em43 => ?_)
          refine J_goto (pc := 159) (tgt := 247) dX10_readOne_159 (by decide) ?_
          exact T_retV (pc := 247) rfl dX10_readOne_247
      · refine T_if_ne (pc := 73) (tgt := 90) dX10_readOne_73 (by decide) (fun h44 => ?_) (fun h44 => ?_)
        · refine J_dropf (pc := 90) (L' := [some (.ref 67), some (.int (iI p0)), some (.int (iI r2)), some (.int (iI r4)), some (.int (iI v5)), none, none]) [true, true, true, true, true, false, false] rfl ?_
          exact hk9  m3
        · refine J_iload (pc := 76) dX10_readOne_76 rfl ?_
          refine T_if_ne (pc := 78) (tgt := 90) dX10_readOne_78 (by decide) (fun h45 => ?_) (fun h45 => ?_)
          · refine J_dropf (pc := 90) (L' := [some (.ref 67), some (.int (iI p0)), some (.int (iI r2)), some (.int (iI r4)), some (.int (iI v5)), none, none]) [true, true, true, true, true, false, false] rfl ?_
            exact hk9  m3
          · refine J_aload_n (pc := 81) dX10_readOne_81 rfl rfl rfl ?_
            refine J_aload_n (pc := 82) dX10_readOne_82 rfl rfl rfl ?_
            refine tg_X10_124 (pc := 83) rfl dX10_readOne_83 ?_
            refine tp_X10_130 (pc := 86) rfl dX10_readOne_86 ?_
            refine T_vm (fun m46 em46 => ?_)
            exact T_retV (pc := 89) rfl dX10_readOne_89
    · refine T_icmp_eq_same (pc := 40) (tgt := 49) dX10_readOne_40 (by decide) (fun h47 => ?_) (fun h47 => ?_)
      · refine J_aload_n (pc := 49) dX10_readOne_49 rfl rfl rfl ?_
        refine tg_X10_139 (pc := 50) rfl dX10_readOne_50 ?_
        refine T_if_le_same (pc := 53) (tgt := 68) dX10_readOne_53 (by decide) (fun h48 => ?_) (fun h48 => ?_)
        · refine J_iconst (pc := 68) dX10_readOne_68 ?_
          exact T_top (by rw [ev7, if_pos h47, if_neg h48]) hj8
        · refine J_aload_n (pc := 56) dX10_readOne_56 rfl rfl rfl ?_
          refine tg_X10_136 (pc := 57) rfl dX10_readOne_57 ?_
          refine J_iconst (pc := 60) dX10_readOne_60 ?_
          refine T_icmp_ge_same (pc := 61) (tgt := 68) dX10_readOne_61 (by decide) (fun h49 => ?_) (fun h49 => ?_)
          · refine J_iconst (pc := 68) dX10_readOne_68 ?_
            exact T_top (by rw [ev7, if_pos h47, if_pos h48, if_neg h49]) hj8
          · refine J_iconst (pc := 64) dX10_readOne_64 ?_
            refine J_goto (pc := 65) (tgt := 69) dX10_readOne_65 (by decide) ?_
            exact T_top (by rw [ev7, if_pos h47, if_pos h48, if_pos h49]) hj8
      · refine J_iload_n (pc := 43) dX10_readOne_43 rfl rfl ?_
        refine J_bipush (pc := 44) dX10_readOne_44 (by decide) (by decide) ?_
        refine T_icmp_ne_same (pc := 46) (tgt := 68) dX10_readOne_46 (by decide) (fun h50 => ?_) (fun h50 => ?_)
        · refine J_iconst (pc := 68) dX10_readOne_68 ?_
          exact T_top (by rw [ev7, if_neg h47, if_neg h50]) hj8
        · refine J_aload_n (pc := 49) dX10_readOne_49 rfl rfl rfl ?_
          refine tg_X10_139 (pc := 50) rfl dX10_readOne_50 ?_
          refine T_if_le_same (pc := 53) (tgt := 68) dX10_readOne_53 (by decide) (fun h51 => ?_) (fun h51 => ?_)
          · refine J_iconst (pc := 68) dX10_readOne_68 ?_
            exact T_top (by rw [ev7, if_neg h47, if_pos h50, if_neg h51]) hj8
          · refine J_aload_n (pc := 56) dX10_readOne_56 rfl rfl rfl ?_
            refine tg_X10_136 (pc := 57) rfl dX10_readOne_57 ?_
            refine J_iconst (pc := 60) dX10_readOne_60 ?_
            refine T_icmp_ge_same (pc := 61) (tgt := 68) dX10_readOne_61 (by decide) (fun h52 => ?_) (fun h52 => ?_)
            · refine J_iconst (pc := 68) dX10_readOne_68 ?_
              exact T_top (by rw [ev7, if_neg h47, if_pos h50, if_pos h51, if_neg h52]) hj8
            · refine J_iconst (pc := 64) dX10_readOne_64 ?_
              refine J_goto (pc := 65) (tgt := 69) dX10_readOne_65 (by decide) ?_
              exact T_top (by rw [ev7, if_neg h47, if_pos h50, if_pos h51, if_pos h52]) hj8
  · refine T_if_lt_same (pc := 12) (tgt := 34) dX10_readOne_12 (by decide) (fun h53 => ?_) (fun h53 => ?_)
    · refine J_iconst (pc := 34) dX10_readOne_34 ?_
      exact T_top (by rw [ev5, if_pos h53]) hj6
    · refine J_aload_n (pc := 15) dX10_readOne_15 rfl rfl rfl ?_
      refine tg_X10_136 (pc := 16) rfl dX10_readOne_16 ?_
      refine T_if_ne_same (pc := 19) (tgt := 34) dX10_readOne_19 (by decide) (fun h54 => ?_) (fun h54 => ?_)
      · refine J_iconst (pc := 34) dX10_readOne_34 ?_
        exact T_top (by rw [ev5, if_neg h53, if_neg h54]) hj6
      · refine J_aload_n (pc := 22) dX10_readOne_22 rfl rfl rfl ?_
        refine tg_X10_139 (pc := 23) rfl dX10_readOne_23 ?_
        refine J_iconst (pc := 26) dX10_readOne_26 ?_
        refine T_icmp_ge_same (pc := 27) (tgt := 34) dX10_readOne_27 (by decide) (fun h55 => ?_) (fun h55 => ?_)
        · refine J_iconst (pc := 34) dX10_readOne_34 ?_
          exact T_top (by rw [ev5, if_neg h53, if_pos h54, if_neg h55]) hj6
        · refine J_iconst (pc := 30) dX10_readOne_30 ?_
          refine J_goto (pc := 31) (tgt := 35) dX10_readOne_31 (by decide) ?_
          exact T_top (by rw [ev5, if_neg h53, if_pos h54, if_pos h55]) hj6
def f_X10_readYear_L25 (K : Mem → Option (Unit × Mem)) (p0 : Int) : Nat → Mem → Option (Unit × Mem)
  | 0, _ => none
  | u + 1, mu25 => if w32 (mu25 67 25) < 0 then (ck p0 4 (if w32 (mu25 67 24) < w32 (mu25 78 (w32 p0).toNat) then (bd (f_X10_readOne mu25 p0) fun _u m9 => bd (f_X10_skip m9 p0) fun _u m10 => f_X10_readYear_L25 K p0 u m10) else (K mu25))) else (K mu25)
set_option maxRecDepth 40000 in
theorem j_X10_readYear_L25 {l : Launch} {G : qG} {K : Mem → Option (Unit × Mem)} {p0 : Int} (hK : ∀ (m : Mem), qJ l G yX10_readYear cX10_readYear 2 none 4 58 [some (.ref 67), some (.int (iI p0))] [] (lay m) (lf eU (K m))) : ∀ (u : Nat) (mu25 : Mem), qJ l G yX10_readYear cX10_readYear 2 none 4 25 [some (.ref 67), some (.int (iI p0))] [] (lay mu25) (lf eU (f_X10_readYear_L25 K p0 u mu25)) := by
  intro u
  induction u with
  | zero => intro  mu25; exact T_none
  | succ u ih =>
    intro mu25
    rw [f_X10_readYear_L25]
    refine J_aload_n (pc := 25) dX10_readYear_25 rfl rfl rfl ?_
    refine tg_X10_130 (pc := 26) rfl dX10_readYear_26 ?_
    refine T_if_ge (pc := 29) (tgt := 58) dX10_readYear_29 (by decide) (fun h6 => ?_) (fun h6 => ?_)
    · exact hK  mu25
    · refine J_aload_n (pc := 32) dX10_readYear_32 rfl rfl rfl ?_
      refine tg_X10_124 (pc := 33) rfl dX10_readYear_33 ?_
      refine J_aload_n (pc := 36) dX10_readYear_36 rfl rfl rfl ?_
      refine tg_X10_44 (pc := 37) rfl dX10_readYear_37 ?_
      refine J_iload_n (pc := 40) dX10_readYear_40 rfl rfl ?_
      refine T_iaload (pc := 41) (by decide) rfl dX10_readYear_41 (fun h7 => ?_)
      refine T_icmp_ge (pc := 42) (tgt := 58) dX10_readYear_42 (by decide) (fun h8 => ?_) (fun h8 => ?_)
      · exact hK  mu25
      · refine J_aload_n (pc := 45) dX10_readYear_45 rfl rfl rfl ?_
        refine J_iload_n (pc := 46) dX10_readYear_46 rfl rfl ?_
        refine T_callVU (pc := 47) (As := [.int (iI p0)]) (k := 67) (st := []) ok_yX10_readOne lm_X10_150 dX10_readYear_47 (by decide) rfl rfl (by decide) (Nat.le_of_ble_eq_true rfl) (m_X10_readOne mu25 p0) (fun _u m9 em9 => ?_)
        refine J_aload_n (pc := 50) dX10_readYear_50 rfl rfl rfl ?_
        refine J_iload_n (pc := 51) dX10_readYear_51 rfl rfl ?_
        refine T_callVU (pc := 52) (As := [.int (iI p0)]) (k := 67) (st := []) ok_yX10_skip lm_X10_146 dX10_readYear_52 (by decide) rfl rfl (by decide) (Nat.le_of_ble_eq_true rfl) (m_X10_skip m9 p0) (fun _u m10 em10 => ?_)
        refine J_goto (pc := 55) (tgt := 25) dX10_readYear_55 (by decide) ?_
        exact ih  m10
def f_X10_readYear (m0 : Mem) (p0 : Int) : Option (Unit × Mem) := vm (wr m0 67 24 0) fun m1 => vm (wr m1 67 25 (-1)) fun m2 => vm (wr m2 67 26 0) fun m3 => vm (wr m3 67 27 0) fun m4 => bd (f_X10_skip m4 p0) fun _u m5 => f_X10_readYear_L25 (fun m11 => if w32 (m11 67 25) < 0 then (if w32 (m11 67 26) = 0 then (ck p0 4 (vm (wr m11 67 25 (m11 78 (w32 p0).toNat)) fun m17 => some ((), m17))) else (vm (wr m11 67 25 (m11 67 25)) fun m15 => some ((), m15))) else (vm (wr m11 67 25 (m11 67 25)) fun m13 => some ((), m13))) p0 100000 m5
set_option maxRecDepth 40000 in
theorem m_X10_readYear {l : Launch} {G : qG} (m0 : Mem) (p0 : Int) : qM l G 4 yX10_readYear cX10_readYear 2 none [.ref 67, .int (iI p0)] (lay m0) (lf eU (f_X10_readYear m0 p0)) := by
  refine qM_of (L := [some (.ref 67), some (.int (iI p0))]) (by decide +kernel) (Nat.le_of_ble_eq_true rfl) rfl ?_
  unfold f_X10_readYear
  refine J_aload_n (pc := 0) dX10_readYear_0 rfl rfl rfl ?_
  refine J_iconst (pc := 1) dX10_readYear_1 ?_
  refine tp_X10_124 (pc := 2) rfl dX10_readYear_2 ?_
  refine T_vm (fun m1 em1 => ?_)
  refine J_aload_n (pc := 5) dX10_readYear_5 rfl rfl rfl ?_
  refine J_iconst (pc := 6) dX10_readYear_6 ?_
  refine tp_X10_130 (pc := 7) rfl dX10_readYear_7 ?_
  refine T_vm (fun m2 em2 => ?_)
  refine J_aload_n (pc := 10) dX10_readYear_10 rfl rfl rfl ?_
  refine J_iconst (pc := 11) dX10_readYear_11 ?_
  refine tp_X10_139 (pc := 12) rfl dX10_readYear_12 ?_
  refine T_vm (fun m3 em3 => ?_)
  refine J_aload_n (pc := 15) dX10_readYear_15 rfl rfl rfl ?_
  refine J_iconst (pc := 16) dX10_readYear_16 ?_
  refine tp_X10_136 (pc := 17) rfl dX10_readYear_17 ?_
  refine T_vm (fun m4 em4 => ?_)
  refine J_aload_n (pc := 20) dX10_readYear_20 rfl rfl rfl ?_
  refine J_iload_n (pc := 21) dX10_readYear_21 rfl rfl ?_
  refine T_callVU (pc := 22) (As := [.int (iI p0)]) (k := 67) (st := []) ok_yX10_skip lm_X10_146 dX10_readYear_22 (by decide) rfl rfl (by decide) (Nat.le_of_ble_eq_true rfl) (m_X10_skip m4 p0) (fun _u m5 em5 => ?_)
  refine j_X10_readYear_L25 ?_ 100000 m5
  · intro m11
    refine J_aload_n (pc := 58) dX10_readYear_58 rfl rfl rfl ?_
    refine J_aload_n (pc := 59) dX10_readYear_59 rfl rfl rfl ?_
    refine tg_X10_130 (pc := 60) rfl dX10_readYear_60 ?_
    refine T_if_ge (pc := 63) (tgt := 82) dX10_readYear_63 (by decide) (fun h12 => ?_) (fun h12 => ?_)
    · refine J_aload_n (pc := 82) dX10_readYear_82 rfl rfl rfl ?_
      refine tg_X10_130 (pc := 83) rfl dX10_readYear_83 ?_
      refine tp_X10_130 (pc := 86) rfl dX10_readYear_86 ?_
      refine T_vm (fun m13 em13 => ?_)
      exact T_retV (pc := 89) rfl dX10_readYear_89
    · refine J_aload_n (pc := 66) dX10_readYear_66 rfl rfl rfl ?_
      refine tg_X10_139 (pc := 67) rfl dX10_readYear_67 ?_
      refine T_if_ne (pc := 70) (tgt := 82) dX10_readYear_70 (by decide) (fun h14 => ?_) (fun h14 => ?_)
      · refine J_aload_n (pc := 82) dX10_readYear_82 rfl rfl rfl ?_
        refine tg_X10_130 (pc := 83) rfl dX10_readYear_83 ?_
        refine tp_X10_130 (pc := 86) rfl dX10_readYear_86 ?_
        refine T_vm (fun m15 em15 => ?_)
        exact T_retV (pc := 89) rfl dX10_readYear_89
      · refine J_aload_n (pc := 73) dX10_readYear_73 rfl rfl rfl ?_
        refine tg_X10_44 (pc := 74) rfl dX10_readYear_74 ?_
        refine J_iload_n (pc := 77) dX10_readYear_77 rfl rfl ?_
        refine T_iaload (pc := 78) (by decide) rfl dX10_readYear_78 (fun h16 => ?_)
        refine J_goto (pc := 79) (tgt := 86) dX10_readYear_79 (by decide) ?_
        refine tp_X10_130 (pc := 86) rfl dX10_readYear_86 ?_
        refine T_vm (fun m17 em17 => ?_)
        exact T_retV (pc := 89) rfl dX10_readYear_89
def f_X10_fault (m0 : Mem) (p0 : Int) : Option (Int × Mem) := bd (f_X10_isText m0 p0) fun r2 m1 => if w32 r2 = 0 then (some ((-1), m1)) else (ck p0 4 (if w32 (m1 78 (w32 p0).toNat) < 0 then (bd (f_X10_finds m1 1) fun r11 m10 => some (r11, m10)) else (bd (f_X10_readYear m1 p0) fun _u m6 => vl (if w32 (m6 67 25) < 0 then (-9) else (m6 67 25)) fun v7 => some (v7, m6))))
set_option maxRecDepth 40000 in
theorem m_X10_fault {l : Launch} {G : qG} (m0 : Mem) (p0 : Int) : qM l G 5 yX10_fault cX10_fault 2 (some .int) [.ref 67, .int (iI p0)] (lay m0) (lf eI (f_X10_fault m0 p0)) := by
  refine qM_of (L := [some (.ref 67), some (.int (iI p0))]) (by decide +kernel) (Nat.le_of_ble_eq_true rfl) rfl ?_
  unfold f_X10_fault
  refine J_iload_n (pc := 0) dX10_fault_0 rfl rfl ?_
  refine T_callSI (pc := 1) (As := [.int (iI p0)]) (st := []) ok_yX10_isText lm_X10_121 dX10_fault_1 (by decide) (Nat.le_of_ble_eq_true rfl) (m_X10_isText m0 p0) (fun r2 m1 em1 => ?_)
  refine T_if_ne (pc := 4) (tgt := 9) dX10_fault_4 (by decide) (fun h3 => ?_) (fun h3 => ?_)
  · refine J_aload_n (pc := 9) dX10_fault_9 rfl rfl rfl ?_
    refine tg_X10_44 (pc := 10) rfl dX10_fault_10 ?_
    refine J_iload_n (pc := 13) dX10_fault_13 rfl rfl ?_
    refine T_iaload (pc := 14) (by decide) rfl dX10_fault_14 (fun h4 => ?_)
    refine T_if_ge (pc := 15) (tgt := 24) dX10_fault_15 (by decide) (fun h5 => ?_) (fun h5 => ?_)
    · refine J_aload_n (pc := 24) dX10_fault_24 rfl rfl rfl ?_
      refine J_iload_n (pc := 25) dX10_fault_25 rfl rfl ?_
      refine T_callVU (pc := 26) (As := [.int (iI p0)]) (k := 67) (st := []) ok_yX10_readYear lm_X10_153 dX10_fault_26 (by decide) rfl rfl (by decide) (Nat.le_of_ble_eq_true rfl) (m_X10_readYear m1 p0) (fun _u m6 em6 => ?_)
      refine J_aload_n (pc := 29) dX10_fault_29 rfl rfl rfl ?_
      refine tg_X10_130 (pc := 30) rfl dX10_fault_30 ?_
      refine T_vl (fun v7 ev7 => ?_)
      refine T_dia (j := 45) (v := v7) (LT := [some (.ref 67), some (.int (iI p0))]) (sT := []) ?_ (fun hj8 => ?_)
      · exact T_retI (pc := 45) rfl dX10_fault_45
      · refine T_if_ge_same (pc := 33) (tgt := 41) dX10_fault_33 (by decide) (fun h9 => ?_) (fun h9 => ?_)
        · refine J_aload_n (pc := 41) dX10_fault_41 rfl rfl rfl ?_
          refine tg_X10_130 (pc := 42) rfl dX10_fault_42 ?_
          exact T_top (by rw [ev7, if_neg h9]) hj8
        · refine J_bipush (pc := 36) dX10_fault_36 (by decide) (by decide) ?_
          refine J_goto (pc := 38) (tgt := 45) dX10_fault_38 (by decide) ?_
          exact T_top (by rw [ev7, if_pos h9]) hj8
    · refine J_aload_n (pc := 18) dX10_fault_18 rfl rfl rfl ?_
      refine J_iconst (pc := 19) dX10_fault_19 ?_
      refine T_callVI (pc := 20) (As := [.int (iI 1)]) (k := 67) (st := []) ok_yX10_finds lm_X10_114 dX10_fault_20 (by decide) rfl rfl (by decide) (Nat.le_of_ble_eq_true rfl) (m_X10_finds m1 1) (fun r11 m10 em10 => ?_)
      exact T_retI (pc := 23) rfl dX10_fault_23
  · refine J_iconst (pc := 7) dX10_fault_7 ?_
    exact T_retI (pc := 8) rfl dX10_fault_8
def f_X10_year_L62 (K : Mem → Option (Int × Mem)) : Nat → Int → Mem → Option (Int × Mem)
  | 0, _, _ => none
  | u + 1, i2, mu62 => if w32 i2 < w32 16 then (ck i2 16 (vm (wr mu62 73 (w32 i2).toNat 0) fun m13 => f_X10_year_L62 K u (i2 + 1) m13)) else (K mu62)
set_option maxRecDepth 40000 in
theorem j_X10_year_L62 {l : Launch} {G : qG} {K : Mem → Option (Int × Mem)} (hK : ∀ (m : Mem), qJ l G yX10_year cX10_year 3 (some .int) 5 81 [some (.ref 67), none, none] [] (lay m) (lf eI (K m))) : ∀ (u : Nat) (i2 : Int) (mu62 : Mem), qJ l G yX10_year cX10_year 3 (some .int) 5 62 [some (.ref 67), none, some (.int (iI i2))] [] (lay mu62) (lf eI (f_X10_year_L62 K u i2 mu62)) := by
  intro u
  induction u with
  | zero => intro _ mu62; exact T_none
  | succ u ih =>
    intro i2 mu62
    rw [f_X10_year_L62]
    refine J_iload_n (pc := 62) dX10_year_62 rfl rfl ?_
    refine J_bipush (pc := 63) dX10_year_63 (by decide) (by decide) ?_
    refine T_icmp_ge (pc := 65) (tgt := 81) dX10_year_65 (by decide) (fun h11 => ?_) (fun h11 => ?_)
    · refine J_dropf (pc := 81) (L' := [some (.ref 67), none, none]) [true, false, false] rfl ?_
      exact hK  mu62
    · refine J_aload_n (pc := 68) dX10_year_68 rfl rfl rfl ?_
      refine tg_X10_25 (pc := 69) rfl dX10_year_69 ?_
      refine J_iload_n (pc := 72) dX10_year_72 rfl rfl ?_
      refine J_iconst (pc := 73) dX10_year_73 ?_
      refine T_iastore (pc := 74) (by decide) rfl dX10_year_74 (fun h12 => ?_)
      refine T_vm (fun m13 em13 => ?_)
      refine J_iinc (pc := 75) (L' := [some (.ref 67), none, some (.int (iI (i2 + 1)))]) dX10_year_75 rfl (by decide) rfl rfl ?_
      refine J_goto (pc := 78) (tgt := 62) dX10_year_78 (by decide) ?_
      exact ih (i2 + 1) m13
def f_X10_year_L83 (K : Mem → Option (Int × Mem)) : Nat → Int → Mem → Option (Int × Mem)
  | 0, _, _ => none
  | u + 1, i2, mu83 => if w32 i2 < w32 (mu83 67 0) then (ck i2 5 (ck i2 5 (vm (wr mu83 68 (w32 i2).toNat (mu83 85 (w32 i2).toNat)) fun m18 => ck i2 5 (ck (2 + i2) 16 (vm (wr m18 73 (w32 (2 + i2)).toNat (m18 86 (w32 i2).toNat)) fun m21 => ck i2 5 (ck (7 + i2) 16 (vm (wr m21 73 (w32 (7 + i2)).toNat (m21 87 (w32 i2).toNat)) fun m24 => f_X10_year_L83 K u (i2 + 1) m24))))))) else (K mu83)
set_option maxRecDepth 40000 in
theorem j_X10_year_L83 {l : Launch} {G : qG} {K : Mem → Option (Int × Mem)} (hK : ∀ (m : Mem), qJ l G yX10_year cX10_year 3 (some .int) 5 138 [some (.ref 67), none, none] [] (lay m) (lf eI (K m))) : ∀ (u : Nat) (i2 : Int) (mu83 : Mem), qJ l G yX10_year cX10_year 3 (some .int) 5 83 [some (.ref 67), none, some (.int (iI i2))] [] (lay mu83) (lf eI (f_X10_year_L83 K u i2 mu83)) := by
  intro u
  induction u with
  | zero => intro _ mu83; exact T_none
  | succ u ih =>
    intro i2 mu83
    rw [f_X10_year_L83]
    refine J_iload_n (pc := 83) dX10_year_83 rfl rfl ?_
    refine J_aload_n (pc := 84) dX10_year_84 rfl rfl rfl ?_
    refine tg_X10_104 (pc := 85) rfl dX10_year_85 ?_
    refine T_icmp_ge (pc := 88) (tgt := 138) dX10_year_88 (by decide) (fun h15 => ?_) (fun h15 => ?_)
    · refine J_dropf (pc := 138) (L' := [some (.ref 67), none, none]) [true, false, false] rfl ?_
      exact hK  mu83
    · refine J_aload_n (pc := 91) dX10_year_91 rfl rfl rfl ?_
      refine tg_X10_7 (pc := 92) rfl dX10_year_92 ?_
      refine J_iload_n (pc := 95) dX10_year_95 rfl rfl ?_
      refine J_aload_n (pc := 96) dX10_year_96 rfl rfl rfl ?_
      refine tg_X10_65 (pc := 97) rfl dX10_year_97 ?_
      refine J_iload_n (pc := 100) dX10_year_100 rfl rfl ?_
      refine T_iaload (pc := 101) (by decide) rfl dX10_year_101 (fun h16 => ?_)
      refine T_iastore (pc := 102) (by decide) rfl dX10_year_102 (fun h17 => ?_)
      refine T_vm (fun m18 em18 => ?_)
      refine J_aload_n (pc := 103) dX10_year_103 rfl rfl rfl ?_
      refine tg_X10_25 (pc := 104) rfl dX10_year_104 ?_
      refine J_iconst (pc := 107) dX10_year_107 ?_
      refine J_iload_n (pc := 108) dX10_year_108 rfl rfl ?_
      refine J_iadd (pc := 109) dX10_year_109 ?_
      refine J_aload_n (pc := 110) dX10_year_110 rfl rfl rfl ?_
      refine tg_X10_68 (pc := 111) rfl dX10_year_111 ?_
      refine J_iload_n (pc := 114) dX10_year_114 rfl rfl ?_
      refine T_iaload (pc := 115) (by decide) rfl dX10_year_115 (fun h19 => ?_)
      refine T_iastore (pc := 116) (by decide) rfl dX10_year_116 (fun h20 => ?_)
      refine T_vm (fun m21 em21 => ?_)
      refine J_aload_n (pc := 117) dX10_year_117 rfl rfl rfl ?_
      refine tg_X10_25 (pc := 118) rfl dX10_year_118 ?_
      refine J_bipush (pc := 121) dX10_year_121 (by decide) (by decide) ?_
      refine J_iload_n (pc := 123) dX10_year_123 rfl rfl ?_
      refine J_iadd (pc := 124) dX10_year_124 ?_
      refine J_aload_n (pc := 125) dX10_year_125 rfl rfl rfl ?_
      refine tg_X10_71 (pc := 126) rfl dX10_year_126 ?_
      refine J_iload_n (pc := 129) dX10_year_129 rfl rfl ?_
      refine T_iaload (pc := 130) (by decide) rfl dX10_year_130 (fun h22 => ?_)
      refine T_iastore (pc := 131) (by decide) rfl dX10_year_131 (fun h23 => ?_)
      refine T_vm (fun m24 em24 => ?_)
      refine J_iinc (pc := 132) (L' := [some (.ref 67), none, some (.int (iI (i2 + 1)))]) dX10_year_132 rfl (by decide) rfl rfl ?_
      refine J_goto (pc := 135) (tgt := 83) dX10_year_135 (by decide) ?_
      exact ih (i2 + 1) m24
def f_X10_year_L140 (K : Mem → Option (Int × Mem)) : Nat → Int → Mem → Option (Int × Mem)
  | 0, _, _ => none
  | u + 1, i2, mu140 => if w32 i2 < w32 (mu140 67 1) then (ck i2 4 (ck i2 4 (vm (wr mu140 69 (w32 i2).toNat (mu140 88 (w32 i2).toNat)) fun m29 => ck i2 4 (ck i2 4 (vm (wr m29 70 (w32 i2).toNat (m29 89 (w32 i2).toNat)) fun m32 => ck i2 4 (ck i2 4 (vm (wr m32 71 (w32 i2).toNat (m32 90 (w32 i2).toNat)) fun m35 => ck i2 4 (ck i2 4 (vm (wr m35 72 (w32 i2).toNat (m35 91 (w32 i2).toNat)) fun m38 => f_X10_year_L140 K u (i2 + 1) m38))))))))) else (K mu140)
set_option maxRecDepth 40000 in
theorem j_X10_year_L140 {l : Launch} {G : qG} {K : Mem → Option (Int × Mem)} (hK : ∀ (m : Mem), qJ l G yX10_year cX10_year 3 (some .int) 5 202 [some (.ref 67), none, none] [] (lay m) (lf eI (K m))) : ∀ (u : Nat) (i2 : Int) (mu140 : Mem), qJ l G yX10_year cX10_year 3 (some .int) 5 140 [some (.ref 67), none, some (.int (iI i2))] [] (lay mu140) (lf eI (f_X10_year_L140 K u i2 mu140)) := by
  intro u
  induction u with
  | zero => intro _ mu140; exact T_none
  | succ u ih =>
    intro i2 mu140
    rw [f_X10_year_L140]
    refine J_iload_n (pc := 140) dX10_year_140 rfl rfl ?_
    refine J_aload_n (pc := 141) dX10_year_141 rfl rfl rfl ?_
    refine tg_X10_107 (pc := 142) rfl dX10_year_142 ?_
    refine T_icmp_ge (pc := 145) (tgt := 202) dX10_year_145 (by decide) (fun h26 => ?_) (fun h26 => ?_)
    · refine J_dropf (pc := 202) (L' := [some (.ref 67), none, none]) [true, false, false] rfl ?_
      exact hK  mu140
    · refine J_aload_n (pc := 148) dX10_year_148 rfl rfl rfl ?_
      refine tg_X10_13 (pc := 149) rfl dX10_year_149 ?_
      refine J_iload_n (pc := 152) dX10_year_152 rfl rfl ?_
      refine J_aload_n (pc := 153) dX10_year_153 rfl rfl rfl ?_
      refine tg_X10_74 (pc := 154) rfl dX10_year_154 ?_
      refine J_iload_n (pc := 157) dX10_year_157 rfl rfl ?_
      refine T_iaload (pc := 158) (by decide) rfl dX10_year_158 (fun h27 => ?_)
      refine T_iastore (pc := 159) (by decide) rfl dX10_year_159 (fun h28 => ?_)
      refine T_vm (fun m29 em29 => ?_)
      refine J_aload_n (pc := 160) dX10_year_160 rfl rfl rfl ?_
      refine tg_X10_16 (pc := 161) rfl dX10_year_161 ?_
      refine J_iload_n (pc := 164) dX10_year_164 rfl rfl ?_
      refine J_aload_n (pc := 165) dX10_year_165 rfl rfl rfl ?_
      refine tg_X10_77 (pc := 166) rfl dX10_year_166 ?_
      refine J_iload_n (pc := 169) dX10_year_169 rfl rfl ?_
      refine T_iaload (pc := 170) (by decide) rfl dX10_year_170 (fun h30 => ?_)
      refine T_iastore (pc := 171) (by decide) rfl dX10_year_171 (fun h31 => ?_)
      refine T_vm (fun m32 em32 => ?_)
      refine J_aload_n (pc := 172) dX10_year_172 rfl rfl rfl ?_
      refine tg_X10_19 (pc := 173) rfl dX10_year_173 ?_
      refine J_iload_n (pc := 176) dX10_year_176 rfl rfl ?_
      refine J_aload_n (pc := 177) dX10_year_177 rfl rfl rfl ?_
      refine tg_X10_80 (pc := 178) rfl dX10_year_178 ?_
      refine J_iload_n (pc := 181) dX10_year_181 rfl rfl ?_
      refine T_iaload (pc := 182) (by decide) rfl dX10_year_182 (fun h33 => ?_)
      refine T_iastore (pc := 183) (by decide) rfl dX10_year_183 (fun h34 => ?_)
      refine T_vm (fun m35 em35 => ?_)
      refine J_aload_n (pc := 184) dX10_year_184 rfl rfl rfl ?_
      refine tg_X10_22 (pc := 185) rfl dX10_year_185 ?_
      refine J_iload_n (pc := 188) dX10_year_188 rfl rfl ?_
      refine J_aload_n (pc := 189) dX10_year_189 rfl rfl rfl ?_
      refine tg_X10_83 (pc := 190) rfl dX10_year_190 ?_
      refine J_iload_n (pc := 193) dX10_year_193 rfl rfl ?_
      refine T_iaload (pc := 194) (by decide) rfl dX10_year_194 (fun h36 => ?_)
      refine T_iastore (pc := 195) (by decide) rfl dX10_year_195 (fun h37 => ?_)
      refine T_vm (fun m38 em38 => ?_)
      refine J_iinc (pc := 196) (L' := [some (.ref 67), none, some (.int (iI (i2 + 1)))]) dX10_year_196 rfl (by decide) rfl rfl ?_
      refine J_goto (pc := 199) (tgt := 140) dX10_year_199 (by decide) ?_
      exact ih (i2 + 1) m38
def f_X10_year_L204 : Nat → Int → Mem → Option (Int × Mem)
  | 0, _, _ => none
  | u + 1, i2, mu204 => if w32 i2 < w32 3 then (ck i2 3 (vm (wr mu204 80 (w32 i2).toNat (-1)) fun m42 => f_X10_year_L204 u (i2 + 1) m42)) else (some (mu204 67 0, mu204))
set_option maxRecDepth 40000 in
theorem j_X10_year_L204 {l : Launch} {G : qG} : ∀ (u : Nat) (i2 : Int) (mu204 : Mem), qJ l G yX10_year cX10_year 3 (some .int) 5 204 [some (.ref 67), none, some (.int (iI i2))] [] (lay mu204) (lf eI (f_X10_year_L204 u i2 mu204)) := by
  intro u
  induction u with
  | zero => intro _ mu204; exact T_none
  | succ u ih =>
    intro i2 mu204
    rw [f_X10_year_L204]
    refine J_iload_n (pc := 204) dX10_year_204 rfl rfl ?_
    refine J_iconst (pc := 205) dX10_year_205 ?_
    refine T_icmp_ge (pc := 206) (tgt := 222) dX10_year_206 (by decide) (fun h40 => ?_) (fun h40 => ?_)
    · refine J_aload_n (pc := 222) dX10_year_222 rfl rfl rfl ?_
      refine tg_X10_104 (pc := 223) rfl dX10_year_223 ?_
      exact T_retI (pc := 226) rfl dX10_year_226
    · refine J_aload_n (pc := 209) dX10_year_209 rfl rfl rfl ?_
      refine tg_X10_50 (pc := 210) rfl dX10_year_210 ?_
      refine J_iload_n (pc := 213) dX10_year_213 rfl rfl ?_
      refine J_iconst (pc := 214) dX10_year_214 ?_
      refine T_iastore (pc := 215) (by decide) rfl dX10_year_215 (fun h41 => ?_)
      refine T_vm (fun m42 em42 => ?_)
      refine J_iinc (pc := 216) (L' := [some (.ref 67), none, some (.int (iI (i2 + 1)))]) dX10_year_216 rfl (by decide) rfl rfl ?_
      refine J_goto (pc := 219) (tgt := 204) dX10_year_219 (by decide) ?_
      exact ih (i2 + 1) m42
def f_X10_year (m0 : Mem) (p0 : Int) : Option (Int × Mem) := bd (f_X10_isText m0 p0) fun r2 m1 => if w32 r2 = 0 then (some ((-1), m1)) else (ck p0 4 (if w32 (m1 78 (w32 p0).toNat) < 0 then (bd (f_X10_finds m1 1) fun r44 m43 => some (r44, m43)) else (bd (f_X10_readYear m1 p0) fun _u m6 => if w32 (m6 67 25) < 0 then (vm (wr m6 67 0 (m6 67 26)) fun m8 => vm (wr m8 67 1 (m8 67 27)) fun m9 => vm (wr m9 67 8 0) fun m10 => f_X10_year_L62 (fun m14 => f_X10_year_L83 (fun m25 => f_X10_year_L140 (fun m39 => f_X10_year_L204 100000 0 m39) 100000 0 m25) 100000 0 m14) 100000 0 m10) else (some ((-4), m6)))))
set_option maxRecDepth 40000 in
theorem m_X10_year {l : Launch} {G : qG} (m0 : Mem) (p0 : Int) : qM l G 5 yX10_year cX10_year 3 (some .int) [.ref 67, .int (iI p0)] (lay m0) (lf eI (f_X10_year m0 p0)) := by
  refine qM_of (L := [some (.ref 67), some (.int (iI p0)), none]) (by decide +kernel) (Nat.le_of_ble_eq_true rfl) rfl ?_
  unfold f_X10_year
  refine J_iload_n (pc := 0) dX10_year_0 rfl rfl ?_
  refine T_callSI (pc := 1) (As := [.int (iI p0)]) (st := []) ok_yX10_isText lm_X10_121 dX10_year_1 (by decide) (Nat.le_of_ble_eq_true rfl) (m_X10_isText m0 p0) (fun r2 m1 em1 => ?_)
  refine T_if_ne (pc := 4) (tgt := 9) dX10_year_4 (by decide) (fun h3 => ?_) (fun h3 => ?_)
  · refine J_aload_n (pc := 9) dX10_year_9 rfl rfl rfl ?_
    refine tg_X10_44 (pc := 10) rfl dX10_year_10 ?_
    refine J_iload_n (pc := 13) dX10_year_13 rfl rfl ?_
    refine T_iaload (pc := 14) (by decide) rfl dX10_year_14 (fun h4 => ?_)
    refine T_if_ge (pc := 15) (tgt := 24) dX10_year_15 (by decide) (fun h5 => ?_) (fun h5 => ?_)
    · refine J_aload_n (pc := 24) dX10_year_24 rfl rfl rfl ?_
      refine J_iload_n (pc := 25) dX10_year_25 rfl rfl ?_
      refine T_callVU (pc := 26) (As := [.int (iI p0)]) (k := 67) (st := []) ok_yX10_readYear lm_X10_153 dX10_year_26 (by decide) rfl rfl (by decide) (Nat.le_of_ble_eq_true rfl) (m_X10_readYear m1 p0) (fun _u m6 em6 => ?_)
      refine J_aload_n (pc := 29) dX10_year_29 rfl rfl rfl ?_
      refine tg_X10_130 (pc := 30) rfl dX10_year_30 ?_
      refine T_if_lt (pc := 33) (tgt := 39) dX10_year_33 (by decide) (fun h7 => ?_) (fun h7 => ?_)
      · refine J_aload_n (pc := 39) dX10_year_39 rfl rfl rfl ?_
        refine J_aload_n (pc := 40) dX10_year_40 rfl rfl rfl ?_
        refine tg_X10_139 (pc := 41) rfl dX10_year_41 ?_
        refine tp_X10_104 (pc := 44) rfl dX10_year_44 ?_
        refine T_vm (fun m8 em8 => ?_)
        refine J_aload_n (pc := 47) dX10_year_47 rfl rfl rfl ?_
        refine J_aload_n (pc := 48) dX10_year_48 rfl rfl rfl ?_
        refine tg_X10_136 (pc := 49) rfl dX10_year_49 ?_
        refine tp_X10_107 (pc := 52) rfl dX10_year_52 ?_
        refine T_vm (fun m9 em9 => ?_)
        refine J_aload_n (pc := 55) dX10_year_55 rfl rfl rfl ?_
        refine J_iconst (pc := 56) dX10_year_56 ?_
        refine tp_X10_156 (pc := 57) rfl dX10_year_57 ?_
        refine T_vm (fun m10 em10 => ?_)
        refine J_iconst (pc := 60) dX10_year_60 ?_
        refine J_istore_n (pc := 61) (L' := [some (.ref 67), some (.int (iI p0)), some (.int (iI 0))]) dX10_year_61 rfl (by decide) rfl rfl ?_
        refine J_dropf (pc := 62) (L' := [some (.ref 67), none, some (.int (iI 0))]) [true, false, true] rfl ?_
        refine j_X10_year_L62 ?_ 100000 0 m10
        · intro m14
          refine J_iconst (pc := 81) dX10_year_81 ?_
          refine J_istore_n (pc := 82) (L' := [some (.ref 67), none, some (.int (iI 0))]) dX10_year_82 rfl (by decide) rfl rfl ?_
          refine j_X10_year_L83 ?_ 100000 0 m14
          · intro m25
            refine J_iconst (pc := 138) dX10_year_138 ?_
            refine J_istore_n (pc := 139) (L' := [some (.ref 67), none, some (.int (iI 0))]) dX10_year_139 rfl (by decide) rfl rfl ?_
            refine j_X10_year_L140 ?_ 100000 0 m25
            · intro m39
              refine J_iconst (pc := 202) dX10_year_202 ?_
              refine J_istore_n (pc := 203) (L' := [some (.ref 67), none, some (.int (iI 0))]) dX10_year_203 rfl (by decide) rfl rfl ?_
              refine j_X10_year_L204 100000 0 m39
      · refine J_bipush (pc := 36) dX10_year_36 (by decide) (by decide) ?_
        exact T_retI (pc := 38) rfl dX10_year_38
    · refine J_aload_n (pc := 18) dX10_year_18 rfl rfl rfl ?_
      refine J_iconst (pc := 19) dX10_year_19 ?_
      refine T_callVI (pc := 20) (As := [.int (iI 1)]) (k := 67) (st := []) ok_yX10_finds lm_X10_114 dX10_year_20 (by decide) rfl rfl (by decide) (Nat.le_of_ble_eq_true rfl) (m_X10_finds m1 1) (fun r44 m43 em43 => ?_)
      exact T_retI (pc := 23) rfl dX10_year_23
  · refine J_iconst (pc := 7) dX10_year_7 ?_
    exact T_retI (pc := 8) rfl dX10_year_8
def f_X10_isOf (m0 : Mem) (p0 : Int) (p1 : Int) : Option (Int × Mem) := ck p0 5 (jn (κ := Mem → Option (Int × Mem)) (fun m3 => some (1, m3)) fun k2 => if w32 (m0 68 (w32 p0).toNat) = w32 p1 then (k2 m0) else (jn (κ := Mem → Option (Int × Mem)) (fun m6 => if w32 p1 = w32 3 then (ck p0 5 (vl (if w32 (m6 68 (w32 p0).toNat) = w32 4 then 1 else 0) fun v9 => some (v9, m6))) else (some (0, m6))) fun k5 => if w32 p1 = w32 2 then (ck p0 5 (if w32 (m0 68 (w32 p0).toNat) = w32 5 then (k2 m0) else (k5 m0))) else (k5 m0)))
set_option maxRecDepth 40000 in
theorem m_X10_isOf {l : Launch} {G : qG} (m0 : Mem) (p0 : Int) (p1 : Int) : qM l G 1 yX10_isOf cX10_isOf 3 (some .boolean) [.ref 67, .int (iI p0), .int (iI p1)] (lay m0) (lf eI (f_X10_isOf m0 p0 p1)) := by
  refine qM_of (L := [some (.ref 67), some (.int (iI p0)), some (.int (iI p1))]) (by decide +kernel) (Nat.le_of_ble_eq_true rfl) rfl ?_
  unfold f_X10_isOf
  refine J_aload_n (pc := 0) dX10_isOf_0 rfl rfl rfl ?_
  refine tg_X10_7 (pc := 1) rfl dX10_isOf_1 ?_
  refine J_iload_n (pc := 4) dX10_isOf_4 rfl rfl ?_
  refine T_iaload (pc := 5) (by decide) rfl dX10_isOf_5 (fun h1 => ?_)
  refine J_iload_n (pc := 6) dX10_isOf_6 rfl rfl ?_
  refine T_jn (κ := Mem → Option (Int × Mem)) (fun k => ∀ (m3 : Mem), qJ l G yX10_isOf cX10_isOf 3 (some .boolean) 1 40 [none, none, none] [] (lay m3) (lf eI (k m3))) ?_ (fun k2 hk2 => ?_)
  · intro m3
    refine J_iconst (pc := 40) dX10_isOf_40 ?_
    refine J_goto (pc := 41) (tgt := 45) dX10_isOf_41 (by decide) ?_
    exact T_retZ (pc := 45) rfl (by decide) dX10_isOf_45
  · refine T_icmp_eq (pc := 7) (tgt := 40) dX10_isOf_7 (by decide) (fun h4 => ?_) (fun h4 => ?_)
    · refine J_dropf (pc := 40) (L' := [none, none, none]) [false, false, false] rfl ?_
      exact hk2  m0
    · refine J_iload_n (pc := 10) dX10_isOf_10 rfl rfl ?_
      refine J_iconst (pc := 11) dX10_isOf_11 ?_
      refine T_jn (κ := Mem → Option (Int × Mem)) (fun k => ∀ (m6 : Mem), qJ l G yX10_isOf cX10_isOf 3 (some .boolean) 1 25 [some (.ref 67), some (.int (iI p0)), some (.int (iI p1))] [] (lay m6) (lf eI (k m6))) ?_ (fun k5 hk5 => ?_)
      · intro m6
        refine J_iload_n (pc := 25) dX10_isOf_25 rfl rfl ?_
        refine J_iconst (pc := 26) dX10_isOf_26 ?_
        refine T_icmp_ne (pc := 27) (tgt := 44) dX10_isOf_27 (by decide) (fun h7 => ?_) (fun h7 => ?_)
        · refine J_iconst (pc := 44) dX10_isOf_44 ?_
          exact T_retZ (pc := 45) rfl (by decide) dX10_isOf_45
        · refine J_aload_n (pc := 30) dX10_isOf_30 rfl rfl rfl ?_
          refine tg_X10_7 (pc := 31) rfl dX10_isOf_31 ?_
          refine J_iload_n (pc := 34) dX10_isOf_34 rfl rfl ?_
          refine T_iaload (pc := 35) (by decide) rfl dX10_isOf_35 (fun h8 => ?_)
          refine J_iconst (pc := 36) dX10_isOf_36 ?_
          refine T_vl (fun v9 ev9 => ?_)
          refine T_dia (j := 45) (v := v9) (LT := [some (.ref 67), some (.int (iI p0)), some (.int (iI p1))]) (sT := []) ?_ (fun hj10 => ?_)
          · exact T_retZ (pc := 45) rfl (by rw [ev9]; repeat' (first | exact Or.inl rfl | exact Or.inr rfl | split)) dX10_isOf_45
          · refine T_icmp_ne_same (pc := 37) (tgt := 44) dX10_isOf_37 (by decide) (fun h11 => ?_) (fun h11 => ?_)
            · refine J_iconst (pc := 44) dX10_isOf_44 ?_
              exact T_top (by rw [ev9, if_neg h11]) hj10
            · refine J_iconst (pc := 40) dX10_isOf_40 ?_
              refine J_goto (pc := 41) (tgt := 45) dX10_isOf_41 (by decide) ?_
              exact T_top (by rw [ev9, if_pos h11]) hj10
      · refine T_icmp_ne (pc := 12) (tgt := 25) dX10_isOf_12 (by decide) (fun h12 => ?_) (fun h12 => ?_)
        · exact hk5  m0
        · refine J_aload_n (pc := 15) dX10_isOf_15 rfl rfl rfl ?_
          refine tg_X10_7 (pc := 16) rfl dX10_isOf_16 ?_
          refine J_iload_n (pc := 19) dX10_isOf_19 rfl rfl ?_
          refine T_iaload (pc := 20) (by decide) rfl dX10_isOf_20 (fun h13 => ?_)
          refine J_iconst (pc := 21) dX10_isOf_21 ?_
          refine T_icmp_eq (pc := 22) (tgt := 40) dX10_isOf_22 (by decide) (fun h14 => ?_) (fun h14 => ?_)
          · refine J_dropf (pc := 40) (L' := [none, none, none]) [false, false, false] rfl ?_
            exact hk2  m0
          · exact hk5  m0
def f_X10_pullBy (m0 : Mem) (p0 : Int) : Option (Int × Mem) := bd (f_X10_isOf m0 p0 2) fun r2 m1 => vl (if w32 r2 = 0 then 1 else 2) fun v3 => some (v3, m1)
set_option maxRecDepth 40000 in
theorem m_X10_pullBy {l : Launch} {G : qG} (m0 : Mem) (p0 : Int) : qM l G 2 yX10_pullBy cX10_pullBy 2 (some .int) [.ref 67, .int (iI p0)] (lay m0) (lf eI (f_X10_pullBy m0 p0)) := by
  refine qM_of (L := [some (.ref 67), some (.int (iI p0))]) (by decide +kernel) (Nat.le_of_ble_eq_true rfl) rfl ?_
  unfold f_X10_pullBy
  refine J_aload_n (pc := 0) dX10_pullBy_0 rfl rfl rfl ?_
  refine J_iload_n (pc := 1) dX10_pullBy_1 rfl rfl ?_
  refine J_iconst (pc := 2) dX10_pullBy_2 ?_
  refine T_callVI (pc := 3) (As := [.int (iI p0), .int (iI 2)]) (k := 67) (st := []) ok_yX10_isOf lm_X10_159 dX10_pullBy_3 (by decide) rfl rfl (by decide) (Nat.le_of_ble_eq_true rfl) (m_X10_isOf m0 p0 2) (fun r2 m1 em1 => ?_)
  refine T_vl (fun v3 ev3 => ?_)
  refine T_dia (j := 14) (v := v3) (LT := [some (.ref 67), some (.int (iI p0))]) (sT := []) ?_ (fun hj4 => ?_)
  · exact T_retI (pc := 14) rfl dX10_pullBy_14
  · refine T_if_eq_same (pc := 6) (tgt := 13) dX10_pullBy_6 (by decide) (fun h5 => ?_) (fun h5 => ?_)
    · refine J_iconst (pc := 13) dX10_pullBy_13 ?_
      exact T_top (by rw [ev3, if_pos h5]) hj4
    · refine J_iconst (pc := 9) dX10_pullBy_9 ?_
      refine J_goto (pc := 10) (tgt := 14) dX10_pullBy_10 (by decide) ?_
      exact T_top (by rw [ev3, if_neg h5]) hj4
def f_X10_isDown (m0 : Mem) : Option (Int × Mem) := ck 0 16 (vl (if w32 (m0 73 (w32 0).toNat) < w32 48 then 0 else 1) fun v2 => some (v2, m0))
set_option maxRecDepth 40000 in
theorem m_X10_isDown {l : Launch} {G : qG} (m0 : Mem) : qM l G 1 yX10_isDown cX10_isDown 1 (some .boolean) [.ref 67] (lay m0) (lf eI (f_X10_isDown m0)) := by
  refine qM_of (L := [some (.ref 67)]) (by decide +kernel) (Nat.le_of_ble_eq_true rfl) rfl ?_
  unfold f_X10_isDown
  refine J_aload_n (pc := 0) dX10_isDown_0 rfl rfl rfl ?_
  refine tg_X10_25 (pc := 1) rfl dX10_isDown_1 ?_
  refine J_iconst (pc := 4) dX10_isDown_4 ?_
  refine T_iaload (pc := 5) (by decide) rfl dX10_isDown_5 (fun h1 => ?_)
  refine J_bipush (pc := 6) dX10_isDown_6 (by decide) (by decide) ?_
  refine T_vl (fun v2 ev2 => ?_)
  refine T_dia (j := 16) (v := v2) (LT := [some (.ref 67)]) (sT := []) ?_ (fun hj3 => ?_)
  · exact T_retZ (pc := 16) rfl (by rw [ev2]; repeat' (first | exact Or.inl rfl | exact Or.inr rfl | split)) dX10_isDown_16
  · refine T_icmp_lt_same (pc := 8) (tgt := 15) dX10_isDown_8 (by decide) (fun h4 => ?_) (fun h4 => ?_)
    · refine J_iconst (pc := 15) dX10_isDown_15 ?_
      exact T_top (by rw [ev2, if_pos h4]) hj3
    · refine J_iconst (pc := 11) dX10_isDown_11 ?_
      refine J_goto (pc := 12) (tgt := 16) dX10_isDown_12 (by decide) ?_
      exact T_top (by rw [ev2, if_neg h4]) hj3
def f_X10_canPull (m0 : Mem) (p0 : Int) : Option (Int × Mem) := bd (f_X10_isDown m0) fun r2 m1 => if w32 r2 = 0 then (ck (2 + p0) 16 (if 0 < w32 (m1 73 (w32 (2 + p0)).toNat) then (ck (7 + p0) 16 (if 0 < w32 (m1 73 (w32 (7 + p0)).toNat) then (bd (f_X10_isOf m1 p0 3) fun r9 m8 => jn (κ := Mem → Option (Int × Mem)) (fun m11 => some (1, m11)) fun k10 => if w32 r9 = 0 then (k10 m8) else (ck 0 16 (vl (if w32 (m8 73 (w32 0).toNat) < w32 24 then 1 else 0) fun v14 => some (v14, m8)))) else (some (0, m1)))) else (some (0, m1)))) else (some (0, m1))
set_option maxRecDepth 40000 in
theorem m_X10_canPull {l : Launch} {G : qG} (m0 : Mem) (p0 : Int) : qM l G 2 yX10_canPull cX10_canPull 2 (some .boolean) [.ref 67, .int (iI p0)] (lay m0) (lf eI (f_X10_canPull m0 p0)) := by
  refine qM_of (L := [some (.ref 67), some (.int (iI p0))]) (by decide +kernel) (Nat.le_of_ble_eq_true rfl) rfl ?_
  unfold f_X10_canPull
  refine J_aload_n (pc := 0) dX10_canPull_0 rfl rfl rfl ?_
  refine T_callVI (pc := 1) (As := []) (k := 67) (st := []) ok_yX10_isDown lm_X10_163 dX10_canPull_1 (by decide) rfl rfl (by decide) (Nat.le_of_ble_eq_true rfl) (m_X10_isDown m0) (fun r2 m1 em1 => ?_)
  refine T_if_ne (pc := 4) (tgt := 54) dX10_canPull_4 (by decide) (fun h3 => ?_) (fun h3 => ?_)
  · refine J_iconst (pc := 54) dX10_canPull_54 ?_
    exact T_retZ (pc := 55) rfl (by decide) dX10_canPull_55
  · refine J_aload_n (pc := 7) dX10_canPull_7 rfl rfl rfl ?_
    refine tg_X10_25 (pc := 8) rfl dX10_canPull_8 ?_
    refine J_iconst (pc := 11) dX10_canPull_11 ?_
    refine J_iload_n (pc := 12) dX10_canPull_12 rfl rfl ?_
    refine J_iadd (pc := 13) dX10_canPull_13 ?_
    refine T_iaload (pc := 14) (by decide) rfl dX10_canPull_14 (fun h4 => ?_)
    refine T_if_le (pc := 15) (tgt := 54) dX10_canPull_15 (by decide) (fun h5 => ?_) (fun h5 => ?_)
    · refine J_iconst (pc := 54) dX10_canPull_54 ?_
      exact T_retZ (pc := 55) rfl (by decide) dX10_canPull_55
    · refine J_aload_n (pc := 18) dX10_canPull_18 rfl rfl rfl ?_
      refine tg_X10_25 (pc := 19) rfl dX10_canPull_19 ?_
      refine J_bipush (pc := 22) dX10_canPull_22 (by decide) (by decide) ?_
      refine J_iload_n (pc := 24) dX10_canPull_24 rfl rfl ?_
      refine J_iadd (pc := 25) dX10_canPull_25 ?_
      refine T_iaload (pc := 26) (by decide) rfl dX10_canPull_26 (fun h6 => ?_)
      refine T_if_le (pc := 27) (tgt := 54) dX10_canPull_27 (by decide) (fun h7 => ?_) (fun h7 => ?_)
      · refine J_iconst (pc := 54) dX10_canPull_54 ?_
        exact T_retZ (pc := 55) rfl (by decide) dX10_canPull_55
      · refine J_aload_n (pc := 30) dX10_canPull_30 rfl rfl rfl ?_
        refine J_iload_n (pc := 31) dX10_canPull_31 rfl rfl ?_
        refine J_iconst (pc := 32) dX10_canPull_32 ?_
        refine T_callVI (pc := 33) (As := [.int (iI p0), .int (iI 3)]) (k := 67) (st := []) ok_yX10_isOf lm_X10_159 dX10_canPull_33 (by decide) rfl rfl (by decide) (Nat.le_of_ble_eq_true rfl) (m_X10_isOf m1 p0 3) (fun r9 m8 em8 => ?_)
        refine T_jn (κ := Mem → Option (Int × Mem)) (fun k => ∀ (m11 : Mem), qJ l G yX10_canPull cX10_canPull 2 (some .boolean) 2 50 [none, none] [] (lay m11) (lf eI (k m11))) ?_ (fun k10 hk10 => ?_)
        · intro m11
          refine J_iconst (pc := 50) dX10_canPull_50 ?_
          refine J_goto (pc := 51) (tgt := 55) dX10_canPull_51 (by decide) ?_
          exact T_retZ (pc := 55) rfl (by decide) dX10_canPull_55
        · refine T_if_eq (pc := 36) (tgt := 50) dX10_canPull_36 (by decide) (fun h12 => ?_) (fun h12 => ?_)
          · refine J_dropf (pc := 50) (L' := [none, none]) [false, false] rfl ?_
            exact hk10  m8
          · refine J_aload_n (pc := 39) dX10_canPull_39 rfl rfl rfl ?_
            refine tg_X10_25 (pc := 40) rfl dX10_canPull_40 ?_
            refine J_iconst (pc := 43) dX10_canPull_43 ?_
            refine T_iaload (pc := 44) (by decide) rfl dX10_canPull_44 (fun h13 => ?_)
            refine J_bipush (pc := 45) dX10_canPull_45 (by decide) (by decide) ?_
            refine T_vl (fun v14 ev14 => ?_)
            refine T_dia (j := 55) (v := v14) (LT := [some (.ref 67), some (.int (iI p0))]) (sT := []) ?_ (fun hj15 => ?_)
            · exact T_retZ (pc := 55) rfl (by rw [ev14]; repeat' (first | exact Or.inl rfl | exact Or.inr rfl | split)) dX10_canPull_55
            · refine T_icmp_ge_same (pc := 47) (tgt := 54) dX10_canPull_47 (by decide) (fun h16 => ?_) (fun h16 => ?_)
              · refine J_iconst (pc := 54) dX10_canPull_54 ?_
                exact T_top (by rw [ev14, if_neg h16]) hj15
              · refine J_iconst (pc := 50) dX10_canPull_50 ?_
                refine J_goto (pc := 51) (tgt := 55) dX10_canPull_51 (by decide) ?_
                exact T_top (by rw [ev14, if_pos h16]) hj15
def f_X10_gainOf (m0 : Mem) (p0 : Int) : Option (Int × Mem) := bd (f_X10_isDown m0) fun r2 m1 => jn (κ := Int → Mem → Option (Int × Mem)) (fun s5 m4 => ck p0 4 (vl (if w32 (m4 69 (w32 p0).toNat) = w32 1 then 1 else 0) fun v7 => if w32 s5 = w32 v7 then (ck p0 4 (some (m4 72 (w32 p0).toNat, m4))) else (some (0, m4)))) fun k3 => jn (κ := Mem → Option (Int × Mem)) (fun m13 => k3 0 m13) fun k12 => if w32 r2 = 0 then (ck 0 16 (ckz 6 (ck p0 4 (ck p0 4 (bd (f_X10_in m1 (w32 (zdiv (m1 73 (w32 0).toNat) 6)) (w32 (m1 70 (w32 p0).toNat)) (w32 (m1 71 (w32 p0).toNat))) fun r19 m18 => if w32 r19 = 0 then (k12 m18) else (k3 1 m18)))))) else (k12 m1)
set_option maxRecDepth 40000 in
theorem m_X10_gainOf {l : Launch} {G : qG} (m0 : Mem) (p0 : Int) : qM l G 2 yX10_gainOf cX10_gainOf 3 (some .int) [.ref 67, .int (iI p0)] (lay m0) (lf eI (f_X10_gainOf m0 p0)) := by
  refine qM_of (L := [some (.ref 67), some (.int (iI p0)), none]) (by decide +kernel) (Nat.le_of_ble_eq_true rfl) rfl ?_
  unfold f_X10_gainOf
  refine J_aload_n (pc := 0) dX10_gainOf_0 rfl rfl rfl ?_
  refine T_callVI (pc := 1) (As := []) (k := 67) (st := []) ok_yX10_isDown lm_X10_163 dX10_gainOf_1 (by decide) rfl rfl (by decide) (Nat.le_of_ble_eq_true rfl) (m_X10_isDown m0) (fun r2 m1 em1 => ?_)
  refine T_jn (κ := Int → Mem → Option (Int × Mem)) (fun k => ∀ (s5 : Int) (m4 : Mem), qJ l G yX10_gainOf cX10_gainOf 3 (some .int) 2 42 [some (.ref 67), some (.int (iI p0)), none] [.int (iI s5)] (lay m4) (lf eI (k s5 m4))) ?_ (fun k3 hk3 => ?_)
  · intro s5 m4
    refine J_istore_n (pc := 42) (L' := [some (.ref 67), some (.int (iI p0)), some (.int (iI s5))]) dX10_gainOf_42 rfl (by decide) rfl rfl ?_
    refine J_iload_n (pc := 43) dX10_gainOf_43 rfl rfl ?_
    refine J_aload_n (pc := 44) dX10_gainOf_44 rfl rfl rfl ?_
    refine tg_X10_13 (pc := 45) rfl dX10_gainOf_45 ?_
    refine J_iload_n (pc := 48) dX10_gainOf_48 rfl rfl ?_
    refine T_iaload (pc := 49) (by decide) rfl dX10_gainOf_49 (fun h6 => ?_)
    refine J_iconst (pc := 50) dX10_gainOf_50 ?_
    refine T_vl (fun v7 ev7 => ?_)
    refine T_dia (j := 59) (v := v7) (LT := [some (.ref 67), some (.int (iI p0)), some (.int (iI s5))]) (sT := [.int (iI s5)]) ?_ (fun hj8 => ?_)
    · refine T_icmp_ne (pc := 59) (tgt := 71) dX10_gainOf_59 (by decide) (fun h9 => ?_) (fun h9 => ?_)
      · refine J_iconst (pc := 71) dX10_gainOf_71 ?_
        exact T_retI (pc := 72) rfl dX10_gainOf_72
      · refine J_aload_n (pc := 62) dX10_gainOf_62 rfl rfl rfl ?_
        refine tg_X10_22 (pc := 63) rfl dX10_gainOf_63 ?_
        refine J_iload_n (pc := 66) dX10_gainOf_66 rfl rfl ?_
        refine T_iaload (pc := 67) (by decide) rfl dX10_gainOf_67 (fun h10 => ?_)
        refine J_goto (pc := 68) (tgt := 72) dX10_gainOf_68 (by decide) ?_
        exact T_retI (pc := 72) rfl dX10_gainOf_72
    · refine T_icmp_ne_same (pc := 51) (tgt := 58) dX10_gainOf_51 (by decide) (fun h11 => ?_) (fun h11 => ?_)
      · refine J_iconst (pc := 58) dX10_gainOf_58 ?_
        exact T_top (by rw [ev7, if_neg h11]) hj8
      · refine J_iconst (pc := 54) dX10_gainOf_54 ?_
        refine J_goto (pc := 55) (tgt := 59) dX10_gainOf_55 (by decide) ?_
        exact T_top (by rw [ev7, if_pos h11]) hj8
  · refine T_jn (κ := Mem → Option (Int × Mem)) (fun k => ∀ (m13 : Mem), qJ l G yX10_gainOf cX10_gainOf 3 (some .int) 2 41 [some (.ref 67), some (.int (iI p0)), none] [] (lay m13) (lf eI (k m13))) ?_ (fun k12 hk12 => ?_)
    · intro m13
      refine J_iconst (pc := 41) dX10_gainOf_41 ?_
      exact hk3 0 m13
    · refine T_if_ne (pc := 4) (tgt := 41) dX10_gainOf_4 (by decide) (fun h14 => ?_) (fun h14 => ?_)
      · exact hk12  m1
      · refine J_aload_n (pc := 7) dX10_gainOf_7 rfl rfl rfl ?_
        refine tg_X10_25 (pc := 8) rfl dX10_gainOf_8 ?_
        refine J_iconst (pc := 11) dX10_gainOf_11 ?_
        refine T_iaload (pc := 12) (by decide) rfl dX10_gainOf_12 (fun h15 => ?_)
        refine J_bipush (pc := 13) dX10_gainOf_13 (by decide) (by decide) ?_
        refine T_idiv (pc := 15) dX10_gainOf_15 ?_
        refine J_i2l (pc := 16) dX10_gainOf_16 ?_
        refine J_aload_n (pc := 17) dX10_gainOf_17 rfl rfl rfl ?_
        refine tg_X10_16 (pc := 18) rfl dX10_gainOf_18 ?_
        refine J_iload_n (pc := 21) dX10_gainOf_21 rfl rfl ?_
        refine T_iaload (pc := 22) (by decide) rfl dX10_gainOf_22 (fun h16 => ?_)
        refine J_i2l (pc := 23) dX10_gainOf_23 ?_
        refine J_aload_n (pc := 24) dX10_gainOf_24 rfl rfl rfl ?_
        refine tg_X10_19 (pc := 25) rfl dX10_gainOf_25 ?_
        refine J_iload_n (pc := 28) dX10_gainOf_28 rfl rfl ?_
        refine T_iaload (pc := 29) (by decide) rfl dX10_gainOf_29 (fun h17 => ?_)
        refine J_i2l (pc := 30) dX10_gainOf_30 ?_
        refine T_callSI (pc := 31) (As := [.long (iL (w32 (zdiv (m1 73 (w32 0).toNat) 6))), .long (iL (w32 (m1 70 (w32 p0).toNat))), .long (iL (w32 (m1 71 (w32 p0).toNat)))]) (st := []) ok_yX10_in lm_X10_98 dX10_gainOf_31 (by decide) (Nat.le_of_ble_eq_true rfl) (m_X10_in m1 (w32 (zdiv (m1 73 (w32 0).toNat) 6)) (w32 (m1 70 (w32 p0).toNat)) (w32 (m1 71 (w32 p0).toNat))) (fun r19 m18 em18 => ?_)
        refine T_if_eq (pc := 34) (tgt := 41) dX10_gainOf_34 (by decide) (fun h20 => ?_) (fun h20 => ?_)
        · exact hk12  m18
        · refine J_iconst (pc := 37) dX10_gainOf_37 ?_
          refine J_goto (pc := 38) (tgt := 42) dX10_gainOf_38 (by decide) ?_
          exact hk3 1 m18
def f_X10_gainAll_L2 : Nat → Int → Mem → Option (Unit × Mem)
  | 0, _, _ => none
  | u + 1, i1, mu2 => if w32 i1 < w32 (mu2 67 1) then (ck (12 + i1) 16 (bd (f_X10_gainOf mu2 i1) fun r4 m3 => ck (12 + i1) 16 (vm (wr m3 73 (w32 (12 + i1)).toNat ((mu2 73 (w32 (12 + i1)).toNat) + r4)) fun m6 => f_X10_gainAll_L2 u (i1 + 1) m6))) else (some ((), mu2))
set_option maxRecDepth 40000 in
theorem j_X10_gainAll_L2 {l : Launch} {G : qG} : ∀ (u : Nat) (i1 : Int) (mu2 : Mem), qJ l G yX10_gainAll cX10_gainAll 2 none 3 2 [some (.ref 67), some (.int (iI i1))] [] (lay mu2) (lf eU (f_X10_gainAll_L2 u i1 mu2)) := by
  intro u
  induction u with
  | zero => intro _ mu2; exact T_none
  | succ u ih =>
    intro i1 mu2
    rw [f_X10_gainAll_L2]
    refine J_iload_n (pc := 2) dX10_gainAll_2 rfl rfl ?_
    refine J_aload_n (pc := 3) dX10_gainAll_3 rfl rfl rfl ?_
    refine tg_X10_107 (pc := 4) rfl dX10_gainAll_4 ?_
    refine T_icmp_ge (pc := 7) (tgt := 33) dX10_gainAll_7 (by decide) (fun h1 => ?_) (fun h1 => ?_)
    · exact T_retV (pc := 33) rfl dX10_gainAll_33
    · refine J_aload_n (pc := 10) dX10_gainAll_10 rfl rfl rfl ?_
      refine tg_X10_25 (pc := 11) rfl dX10_gainAll_11 ?_
      refine J_bipush (pc := 14) dX10_gainAll_14 (by decide) (by decide) ?_
      refine J_iload_n (pc := 16) dX10_gainAll_16 rfl rfl ?_
      refine J_iadd (pc := 17) dX10_gainAll_17 ?_
      refine J_dup2 (pc := 18) dX10_gainAll_18 rfl rfl ?_
      refine T_iaload (pc := 19) (by decide) rfl dX10_gainAll_19 (fun h2 => ?_)
      refine J_aload_n (pc := 20) dX10_gainAll_20 rfl rfl rfl ?_
      refine J_iload_n (pc := 21) dX10_gainAll_21 rfl rfl ?_
      refine T_callVI (pc := 22) (As := [.int (iI i1)]) (k := 67) (st := [.int (iI (mu2 73 (w32 (12 + i1)).toNat)), .int (iI (12 + i1)), .ref 73]) ok_yX10_gainOf lm_X10_167 dX10_gainAll_22 (by decide) rfl rfl (by decide) (Nat.le_of_ble_eq_true rfl) (m_X10_gainOf mu2 i1) (fun r4 m3 em3 => ?_)
      refine J_iadd (pc := 25) dX10_gainAll_25 ?_
      refine T_iastore (pc := 26) (by decide) rfl dX10_gainAll_26 (fun h5 => ?_)
      refine T_vm (fun m6 em6 => ?_)
      refine J_iinc (pc := 27) (L' := [some (.ref 67), some (.int (iI (i1 + 1)))]) dX10_gainAll_27 rfl (by decide) rfl rfl ?_
      refine J_goto (pc := 30) (tgt := 2) dX10_gainAll_30 (by decide) ?_
      exact ih (i1 + 1) m6
def f_X10_gainAll (m0 : Mem) : Option (Unit × Mem) := f_X10_gainAll_L2 100000 0 m0
set_option maxRecDepth 40000 in
theorem m_X10_gainAll {l : Launch} {G : qG} (m0 : Mem) : qM l G 3 yX10_gainAll cX10_gainAll 2 none [.ref 67] (lay m0) (lf eU (f_X10_gainAll m0)) := by
  refine qM_of (L := [some (.ref 67), none]) (by decide +kernel) (Nat.le_of_ble_eq_true rfl) rfl ?_
  unfold f_X10_gainAll
  refine J_iconst (pc := 0) dX10_gainAll_0 ?_
  refine J_istore_n (pc := 1) (L' := [some (.ref 67), some (.int (iI 0))]) dX10_gainAll_1 rfl (by decide) rfl rfl ?_
  refine j_X10_gainAll_L2 100000 0 m0
