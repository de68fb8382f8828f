def f_X10_jumpsBy_L15 (K : Int → Mem → Option (Int × Mem)) (p2 : Int) : Nat → Int → Int → Mem → Option (Int × Mem)
  | 0, _, _, _ => none
  | u + 1, i7, i8, mu15 => if w32 i8 < w32 p2 then (vl (i7 * 5) fun x2 => f_X10_jumpsBy_L15 K p2 u x2 (i8 + 1) mu15) else (K i7 mu15)
set_option maxRecDepth 40000 in
theorem j_X10_jumpsBy_L15 {l : Launch} {G : qG} {K : Int → Mem → Option (Int × Mem)} {p2 : Int} {p0 : Int} {p1 : Int} (hK : ∀ (x7 : Int) (m : Mem), qJ l G yX10_jumpsBy cX10_jumpsBy 10 (some .int) 3 33 [some (.ref 67), none, none, some (.int (iI p2)), some (.int (iI p0)), some (.int (iI 0)), some (.int (iI p1)), some (.int (iI x7)), none, none] [] (lay m) (lf eI (K x7 m))) : ∀ (u : Nat) (i7 : Int) (i8 : Int) (mu15 : Mem), qJ l G yX10_jumpsBy cX10_jumpsBy 10 (some .int) 3 15 [some (.ref 67), none, none, some (.int (iI p2)), some (.int (iI p0)), some (.int (iI 0)), some (.int (iI p1)), some (.int (iI i7)), some (.int (iI i8)), none] [] (lay mu15) (lf eI (f_X10_jumpsBy_L15 K p2 u i7 i8 mu15)) := by
  intro u
  induction u with
  | zero => intro _ _ mu15; exact T_none
  | succ u ih =>
    intro i7 i8 mu15
    rw [f_X10_jumpsBy_L15]
    refine J_iload (pc := 15) dX10_jumpsBy_15 rfl ?_
    refine J_iload_n (pc := 17) dX10_jumpsBy_17 rfl rfl ?_
    refine T_icmp_ge (pc := 18) (tgt := 33) dX10_jumpsBy_18 (by decide) (fun h1 => ?_) (fun h1 => ?_)
    · refine J_dropf (pc := 33) (L' := [some (.ref 67), none, none, some (.int (iI p2)), some (.int (iI p0)), some (.int (iI 0)), some (.int (iI p1)), some (.int (iI i7)), none, none]) [true, false, false, true, true, true, true, true, false, false] rfl ?_
      exact hK i7 mu15
    · refine J_iload (pc := 21) dX10_jumpsBy_21 rfl ?_
      refine J_iconst (pc := 23) dX10_jumpsBy_23 ?_
      refine J_imul (pc := 24) dX10_jumpsBy_24 ?_
      refine T_vlI (pc := 25) (fun x2 ex2 => ?_)
      refine J_istore (pc := 25) (L' := [some (.ref 67), none, none, some (.int (iI p2)), some (.int (iI p0)), some (.int (iI 0)), some (.int (iI p1)), some (.int (iI x2)), some (.int (iI i8)), none]) dX10_jumpsBy_25 (by decide) rfl rfl ?_
      refine J_iinc (pc := 27) (L' := [some (.ref 67), none, none, some (.int (iI p2)), some (.int (iI p0)), some (.int (iI 0)), some (.int (iI p1)), some (.int (iI x2)), some (.int (iI (i8 + 1))), none]) dX10_jumpsBy_27 rfl (by decide) rfl rfl ?_
      refine J_goto (pc := 30) (tgt := 15) dX10_jumpsBy_30 (by decide) ?_
      exact ih x2 (i8 + 1) mu15
def f_X10_jumpsBy_L36 (p1 : Int) (p2 : Int) : Nat → Int → Int → Int → Int → Mem → Option (Int × Mem)
  | 0, _, _, _, _, _ => none
  | u + 1, i4, i5, i7, i8, mu36 => if w32 i8 < w32 p2 then (ckz i7 (ckz 5 (vl (zrem (zdiv p1 i7) 5) fun x6 => ckz 5 (vl (zdiv i7 5) fun x7 => bd (f_X10_has mu36 i4 x6) fun r9 m8 => if w32 r9 = 0 then (some ((-1), m8)) else (vl (zand i4 (zxor (zshl 1 x6) (-1))) fun x11 => bd (f_X10_pullBy m8 x6) fun r13 m12 => bd (f_X10_bits m12 x11) fun r15 m14 => vl (i5 + (r13 * r15)) fun x16 => f_X10_jumpsBy_L36 p1 p2 u x11 x16 x7 (i8 + 1) m14))))) else (some (i5, mu36))
set_option maxRecDepth 40000 in
theorem j_X10_jumpsBy_L36 {l : Launch} {G : qG} {p1 : Int} {p2 : Int} : ∀ (u : Nat) (i4 : Int) (i5 : Int) (i7 : Int) (i8 : Int) (mu36 : Mem), qJ l G yX10_jumpsBy cX10_jumpsBy 10 (some .int) 3 36 [some (.ref 67), none, none, some (.int (iI p2)), some (.int (iI i4)), some (.int (iI i5)), some (.int (iI p1)), some (.int (iI i7)), some (.int (iI i8)), none] [] (lay mu36) (lf eI (f_X10_jumpsBy_L36 p1 p2 u i4 i5 i7 i8 mu36)) := by
  intro u
  induction u with
  | zero => intro _ _ _ _ mu36; exact T_none
  | succ u ih =>
    intro i4 i5 i7 i8 mu36
    rw [f_X10_jumpsBy_L36]
    refine J_iload (pc := 36) dX10_jumpsBy_36 rfl ?_
    refine J_iload_n (pc := 38) dX10_jumpsBy_38 rfl rfl ?_
    refine T_icmp_ge (pc := 39) (tgt := 103) dX10_jumpsBy_39 (by decide) (fun h5 => ?_) (fun h5 => ?_)
    · refine J_iload (pc := 103) dX10_jumpsBy_103 rfl ?_
      exact T_retI (pc := 105) rfl dX10_jumpsBy_105
    · refine J_iload (pc := 42) dX10_jumpsBy_42 rfl ?_
      refine J_iload (pc := 44) dX10_jumpsBy_44 rfl ?_
      refine T_idiv (pc := 46) dX10_jumpsBy_46 ?_
      refine J_iconst (pc := 47) dX10_jumpsBy_47 ?_
      refine T_irem (pc := 48) dX10_jumpsBy_48 ?_
      refine T_vlI (pc := 49) (fun x6 ex6 => ?_)
      refine J_istore (pc := 49) (L' := [some (.ref 67), none, none, some (.int (iI p2)), some (.int (iI i4)), some (.int (iI i5)), some (.int (iI p1)), some (.int (iI i7)), some (.int (iI i8)), some (.int (iI x6))]) dX10_jumpsBy_49 (by decide) rfl rfl ?_
      refine J_iload (pc := 51) dX10_jumpsBy_51 rfl ?_
      refine J_iconst (pc := 53) dX10_jumpsBy_53 ?_
      refine T_idiv (pc := 54) dX10_jumpsBy_54 ?_
      refine T_vlI (pc := 55) (fun x7 ex7 => ?_)
      refine J_istore (pc := 55) (L' := [some (.ref 67), none, none, some (.int (iI p2)), some (.int (iI i4)), some (.int (iI i5)), some (.int (iI p1)), some (.int (iI x7)), some (.int (iI i8)), some (.int (iI x6))]) dX10_jumpsBy_55 (by decide) rfl rfl ?_
      refine J_iload (pc := 57) dX10_jumpsBy_57 rfl ?_
      refine J_iload (pc := 59) dX10_jumpsBy_59 rfl ?_
      refine T_callSI (pc := 61) (As := [.int (iI i4), .int (iI x6)]) (st := []) ok_yX10_has lm_X10_179 dX10_jumpsBy_61 (by decide) (Nat.le_of_ble_eq_true rfl) (m_X10_has mu36 i4 x6) (fun r9 m8 em8 => ?_)
      refine T_if_ne (pc := 64) (tgt := 69) dX10_jumpsBy_64 (by decide) (fun h10 => ?_) (fun h10 => ?_)
      · refine J_iload (pc := 69) dX10_jumpsBy_69 rfl ?_
        refine J_iconst (pc := 71) dX10_jumpsBy_71 ?_
        refine J_iload (pc := 72) dX10_jumpsBy_72 rfl ?_
        refine J_ishl (pc := 74) dX10_jumpsBy_74 ?_
        refine J_iconst (pc := 75) dX10_jumpsBy_75 ?_
        refine J_ixor (pc := 76) dX10_jumpsBy_76 ?_
        refine J_iand (pc := 77) dX10_jumpsBy_77 ?_
        refine T_vlI (pc := 78) (fun x11 ex11 => ?_)
        refine J_istore (pc := 78) (L' := [some (.ref 67), none, none, some (.int (iI p2)), some (.int (iI x11)), some (.int (iI i5)), some (.int (iI p1)), some (.int (iI x7)), some (.int (iI i8)), some (.int (iI x6))]) dX10_jumpsBy_78 (by decide) rfl rfl ?_
        refine J_iload (pc := 80) dX10_jumpsBy_80 rfl ?_
        refine J_aload_n (pc := 82) dX10_jumpsBy_82 rfl rfl rfl ?_
        refine J_iload (pc := 83) dX10_jumpsBy_83 rfl ?_
        refine T_callVI (pc := 85) (As := [.int (iI x6)]) (k := 67) (st := [.int (iI i5)]) ok_yX10_pullBy lm_X10_185 dX10_jumpsBy_85 (by decide) rfl rfl (by decide) (Nat.le_of_ble_eq_true rfl) (m_X10_pullBy m8 x6) (fun r13 m12 em12 => ?_)
        refine J_iload (pc := 88) dX10_jumpsBy_88 rfl ?_
        refine T_callSI (pc := 90) (As := [.int (iI x11)]) (st := [.int (iI r13), .int (iI i5)]) ok_yX10_bits lm_X10_195 dX10_jumpsBy_90 (by decide) (Nat.le_of_ble_eq_true rfl) (m_X10_bits m12 x11) (fun r15 m14 em14 => ?_)
        refine J_imul (pc := 93) dX10_jumpsBy_93 ?_
        refine J_iadd (pc := 94) dX10_jumpsBy_94 ?_
        refine T_vlI (pc := 95) (fun x16 ex16 => ?_)
        refine J_istore (pc := 95) (L' := [some (.ref 67), none, none, some (.int (iI p2)), some (.int (iI x11)), some (.int (iI x16)), some (.int (iI p1)), some (.int (iI x7)), some (.int (iI i8)), some (.int (iI x6))]) dX10_jumpsBy_95 (by decide) rfl rfl ?_
        refine J_iinc (pc := 97) (L' := [some (.ref 67), none, none, some (.int (iI p2)), some (.int (iI x11)), some (.int (iI x16)), some (.int (iI p1)), some (.int (iI x7)), some (.int (iI (i8 + 1))), some (.int (iI x6))]) dX10_jumpsBy_97 rfl (by decide) rfl rfl ?_
        refine J_goto (pc := 100) (tgt := 36) dX10_jumpsBy_100 (by decide) ?_
        refine J_dropf (pc := 36) (L' := [some (.ref 67), none, none, some (.int (iI p2)), some (.int (iI x11)), some (.int (iI x16)), some (.int (iI p1)), some (.int (iI x7)), some (.int (iI (i8 + 1))), none]) [true, false, false, true, true, true, true, true, true, false] rfl ?_
        exact ih x11 x16 x7 (i8 + 1) m14
      · refine J_iconst (pc := 67) dX10_jumpsBy_67 ?_
        exact T_retI (pc := 68) rfl dX10_jumpsBy_68
def f_X10_jumpsBy (m0 : Mem) (p0 : Int) (p1 : Int) (p2 : Int) : Option (Int × Mem) := f_X10_jumpsBy_L15 (fun x3 m4 => f_X10_jumpsBy_L36 p1 p2 100000 p0 0 x3 0 m4) p2 100000 1 1 m0
set_option maxRecDepth 40000 in
theorem m_X10_jumpsBy {l : Launch} {G : qG} (m0 : Mem) (p0 : Int) (p1 : Int) (p2 : Int) : qM l G 3 yX10_jumpsBy cX10_jumpsBy 10 (some .int) [.ref 67, .int (iI p0), .int (iI p1), .int (iI p2)] (lay m0) (lf eI (f_X10_jumpsBy m0 p0 p1 p2)) := by
  refine qM_of (L := [some (.ref 67), some (.int (iI p0)), some (.int (iI p1)), some (.int (iI p2)), none, none, none, none, none, none]) (by decide +kernel) (Nat.le_of_ble_eq_true rfl) rfl ?_
  unfold f_X10_jumpsBy
  refine J_iload_n (pc := 0) dX10_jumpsBy_0 rfl rfl ?_
  refine J_istore (pc := 1) (L' := [some (.ref 67), some (.int (iI p0)), some (.int (iI p1)), some (.int (iI p2)), some (.int (iI p0)), none, none, none, none, none]) dX10_jumpsBy_1 (by decide) rfl rfl ?_
  refine J_iconst (pc := 3) dX10_jumpsBy_3 ?_
  refine J_istore (pc := 4) (L' := [some (.ref 67), some (.int (iI p0)), some (.int (iI p1)), some (.int (iI p2)), some (.int (iI p0)), some (.int (iI 0)), none, none, none, none]) dX10_jumpsBy_4 (by decide) rfl rfl ?_
  refine J_iload_n (pc := 6) dX10_jumpsBy_6 rfl rfl ?_
  refine J_istore (pc := 7) (L' := [some (.ref 67), some (.int (iI p0)), some (.int (iI p1)), some (.int (iI p2)), some (.int (iI p0)), some (.int (iI 0)), some (.int (iI p1)), none, none, none]) dX10_jumpsBy_7 (by decide) rfl rfl ?_
  refine J_iconst (pc := 9) dX10_jumpsBy_9 ?_
  refine J_istore (pc := 10) (L' := [some (.ref 67), some (.int (iI p0)), some (.int (iI p1)), some (.int (iI p2)), some (.int (iI p0)), some (.int (iI 0)), some (.int (iI p1)), some (.int (iI 1)), none, none]) dX10_jumpsBy_10 (by decide) rfl rfl ?_
  refine J_iconst (pc := 12) dX10_jumpsBy_12 ?_
  refine J_istore (pc := 13) (L' := [some (.ref 67), some (.int (iI p0)), some (.int (iI p1)), some (.int (iI p2)), some (.int (iI p0)), some (.int (iI 0)), some (.int (iI p1)), some (.int (iI 1)), some (.int (iI 1)), none]) dX10_jumpsBy_13 (by decide) rfl rfl ?_
  refine J_dropf (pc := 15) (L' := [some (.ref 67), none, none, some (.int (iI p2)), some (.int (iI p0)), some (.int (iI 0)), some (.int (iI p1)), some (.int (iI 1)), some (.int (iI 1)), none]) [true, false, false, true, true, true, true, true, true, false] rfl ?_
  refine j_X10_jumpsBy_L15 ?_ 100000 1 1 m0
  · intro x3 m4
    refine J_iconst (pc := 33) dX10_jumpsBy_33 ?_
    refine J_istore (pc := 34) (L' := [some (.ref 67), none, none, some (.int (iI p2)), some (.int (iI p0)), some (.int (iI 0)), some (.int (iI p1)), some (.int (iI x3)), some (.int (iI 0)), none]) dX10_jumpsBy_34 (by decide) rfl rfl ?_
    refine j_X10_jumpsBy_L36 100000 p0 0 x3 0 m4
def f_X10_loose_L28 (K : Int → Mem → Option (Int × Mem)) (r8 : Int) : Nat → Int → Int → Mem → Option (Int × Mem)
  | 0, _, _, _ => none
  | u + 1, i4, i5, mu28 => if w32 i5 < w32 r8 then (vl (i4 * 5) fun x10 => f_X10_loose_L28 K r8 u x10 (i5 + 1) mu28) else (K i4 mu28)
set_option maxRecDepth 40000 in
theorem j_X10_loose_L28 {l : Launch} {G : qG} {K : Int → Mem → Option (Int × Mem)} {r8 : Int} {p0 : Int} {p1 : Int} (hK : ∀ (x4 : Int) (m : Mem), qJ l G yX10_loose cX10_loose 10 (some .int) 4 46 [some (.ref 67), some (.int (iI p0)), some (.int (iI p1)), some (.int (iI r8)), some (.int (iI x4)), none, none, none, none, none] [] (lay m) (lf eI (K x4 m))) : ∀ (u : Nat) (i4 : Int) (i5 : Int) (mu28 : Mem), qJ l G yX10_loose cX10_loose 10 (some .int) 4 28 [some (.ref 67), some (.int (iI p0)), some (.int (iI p1)), some (.int (iI r8)), some (.int (iI i4)), some (.int (iI i5)), none, none, none, none] [] (lay mu28) (lf eI (f_X10_loose_L28 K r8 u i4 i5 mu28)) := by
  intro u
  induction u with
  | zero => intro _ _ mu28; exact T_none
  | succ u ih =>
    intro i4 i5 mu28
    rw [f_X10_loose_L28]
    refine J_iload (pc := 28) dX10_loose_28 rfl ?_
    refine J_iload_n (pc := 30) dX10_loose_30 rfl rfl ?_
    refine T_icmp_ge (pc := 31) (tgt := 46) dX10_loose_31 (by decide) (fun h9 => ?_) (fun h9 => ?_)
    · refine J_dropf (pc := 46) (L' := [some (.ref 67), some (.int (iI p0)), some (.int (iI p1)), some (.int (iI r8)), some (.int (iI i4)), none, none, none, none, none]) [true, true, true, true, true, false, false, false, false, false] rfl ?_
      exact hK i4 mu28
    · refine J_iload (pc := 34) dX10_loose_34 rfl ?_
      refine J_iconst (pc := 36) dX10_loose_36 ?_
      refine J_imul (pc := 37) dX10_loose_37 ?_
      refine T_vlI (pc := 38) (fun x10 ex10 => ?_)
      refine J_istore (pc := 38) (L' := [some (.ref 67), some (.int (iI p0)), some (.int (iI p1)), some (.int (iI r8)), some (.int (iI x10)), some (.int (iI i5)), none, none, none, none]) dX10_loose_38 (by decide) rfl rfl ?_
      refine J_iinc (pc := 40) (L' := [some (.ref 67), some (.int (iI p0)), some (.int (iI p1)), some (.int (iI r8)), some (.int (iI x10)), some (.int (iI (i5 + 1))), none, none, none, none]) dX10_loose_40 rfl (by decide) rfl rfl ?_
      refine J_goto (pc := 43) (tgt := 28) dX10_loose_43 (by decide) ?_
      exact ih x10 (i5 + 1) mu28
def f_X10_loose_L57 (K : Int → Int → Mem → Option (Int × Mem)) (p0 : Int) (r8 : Int) (x11 : Int) : Nat → Int → Int → Int → Mem → Option (Int × Mem)
  | 0, _, _, _, _ => none
  | u + 1, i5, i6, i7, mu57 => if w32 i7 < w32 x11 then (bd (f_X10_jumpsBy mu57 p0 i7 r8) fun r15 m14 => vl (if w32 r15 < 0 then i5 else (if w32 r15 < w32 i6 then i7 else i5)) fun v16 => vl (if w32 r15 < 0 then i6 else (if w32 r15 < w32 i6 then r15 else i6)) fun v18 => f_X10_loose_L57 K p0 r8 x11 u v16 v18 (i7 + 1) m14) else (K i5 i6 mu57)
set_option maxRecDepth 40000 in
theorem j_X10_loose_L57 {l : Launch} {G : qG} {K : Int → Int → Mem → Option (Int × Mem)} {p0 : Int} {r8 : Int} {x11 : Int} {p1 : Int} (hK : ∀ (x5 : Int) (x6 : Int) (m : Mem), qJ l G yX10_loose cX10_loose 10 (some .int) 4 122 [some (.ref 67), none, some (.int (iI p1)), some (.int (iI r8)), none, some (.int (iI x5)), some (.int (iI x6)), none, none, none] [] (lay m) (lf eI (K x5 x6 m))) : ∀ (u : Nat) (i5 : Int) (i6 : Int) (i7 : Int) (mu57 : Mem), qJ l G yX10_loose cX10_loose 10 (some .int) 4 57 [some (.ref 67), some (.int (iI p0)), some (.int (iI p1)), some (.int (iI r8)), some (.int (iI x11)), some (.int (iI i5)), some (.int (iI i6)), some (.int (iI i7)), none, none] [] (lay mu57) (lf eI (f_X10_loose_L57 K p0 r8 x11 u i5 i6 i7 mu57)) := by
  intro u
  induction u with
  | zero => intro _ _ _ mu57; exact T_none
  | succ u ih =>
    intro i5 i6 i7 mu57
    rw [f_X10_loose_L57]
    refine J_iload (pc := 57) dX10_loose_57 rfl ?_
    refine J_iload (pc := 59) dX10_loose_59 rfl ?_
    refine T_icmp_ge (pc := 61) (tgt := 122) dX10_loose_61 (by decide) (fun h13 => ?_) (fun h13 => ?_)
    · refine J_dropf (pc := 122) (L' := [some (.ref 67), none, some (.int (iI p1)), some (.int (iI r8)), none, some (.int (iI i5)), some (.int (iI i6)), none, none, none]) [true, false, true, true, false, true, true, false, false, false] rfl ?_
      exact hK i5 i6 mu57
    · refine J_aload_n (pc := 64) dX10_loose_64 rfl rfl rfl ?_
      refine J_iload_n (pc := 65) dX10_loose_65 rfl rfl ?_
      refine J_iload (pc := 66) dX10_loose_66 rfl ?_
      refine J_iload_n (pc := 68) dX10_loose_68 rfl rfl ?_
      refine T_callVI (pc := 69) (As := [.int (iI p0), .int (iI i7), .int (iI r8)]) (k := 67) (st := []) ok_yX10_jumpsBy lm_X10_265 dX10_loose_69 (by decide) rfl rfl (by decide) (Nat.le_of_ble_eq_true rfl) (m_X10_jumpsBy mu57 p0 i7 r8) (fun r15 m14 em14 => ?_)
      refine J_istore (pc := 72) (L' := [some (.ref 67), some (.int (iI p0)), some (.int (iI p1)), some (.int (iI r8)), some (.int (iI x11)), some (.int (iI i5)), some (.int (iI i6)), some (.int (iI i7)), some (.int (iI r15)), none]) dX10_loose_72 (by decide) rfl rfl ?_
      refine J_iload (pc := 74) dX10_loose_74 rfl ?_
      refine T_vl (fun v16 ev16 => ?_)
      refine T_dia (j := 93) (v := v16) (LT := [some (.ref 67), some (.int (iI p0)), some (.int (iI p1)), some (.int (iI r8)), some (.int (iI x11)), some (.int (iI i5)), some (.int (iI i6)), some (.int (iI i7)), some (.int (iI r15)), none]) (sT := []) ?_ (fun hj17 => ?_)
      · refine J_istore (pc := 93) (L' := [some (.ref 67), some (.int (iI p0)), some (.int (iI p1)), some (.int (iI r8)), some (.int (iI x11)), some (.int (iI v16)), some (.int (iI i6)), some (.int (iI i7)), some (.int (iI r15)), none]) dX10_loose_93 (by decide) rfl rfl ?_
        refine J_iload (pc := 95) dX10_loose_95 rfl ?_
        refine T_vl (fun v18 ev18 => ?_)
        refine T_dia (j := 114) (v := v18) (LT := [some (.ref 67), some (.int (iI p0)), some (.int (iI p1)), some (.int (iI r8)), some (.int (iI x11)), some (.int (iI v16)), some (.int (iI i6)), some (.int (iI i7)), some (.int (iI r15)), none]) (sT := []) ?_ (fun hj19 => ?_)
        · refine J_istore (pc := 114) (L' := [some (.ref 67), some (.int (iI p0)), some (.int (iI p1)), some (.int (iI r8)), some (.int (iI x11)), some (.int (iI v16)), some (.int (iI v18)), some (.int (iI i7)), some (.int (iI r15)), none]) dX10_loose_114 (by decide) rfl rfl ?_
          refine J_iinc (pc := 116) (L' := [some (.ref 67), some (.int (iI p0)), some (.int (iI p1)), some (.int (iI r8)), some (.int (iI x11)), some (.int (iI v16)), some (.int (iI v18)), some (.int (iI (i7 + 1))), some (.int (iI r15)), none]) dX10_loose_116 rfl (by decide) rfl rfl ?_
          refine J_goto (pc := 119) (tgt := 57) dX10_loose_119 (by decide) ?_
          refine J_dropf (pc := 57) (L' := [some (.ref 67), some (.int (iI p0)), some (.int (iI p1)), some (.int (iI r8)), some (.int (iI x11)), some (.int (iI v16)), some (.int (iI v18)), some (.int (iI (i7 + 1))), none, none]) [true, true, true, true, true, true, true, true, false, false] rfl ?_
          exact ih v16 v18 (i7 + 1) m14
        · refine T_if_lt_same (pc := 97) (tgt := 112) dX10_loose_97 (by decide) (fun h20 => ?_) (fun h20 => ?_)
          · refine J_iload (pc := 112) dX10_loose_112 rfl ?_
            exact T_top (by rw [ev18, if_pos h20]) hj19
          · refine J_iload (pc := 100) dX10_loose_100 rfl ?_
            refine J_iload (pc := 102) dX10_loose_102 rfl ?_
            refine T_icmp_ge_same (pc := 104) (tgt := 112) dX10_loose_104 (by decide) (fun h21 => ?_) (fun h21 => ?_)
            · refine J_iload (pc := 112) dX10_loose_112 rfl ?_
              exact T_top (by rw [ev18, if_neg h20, if_neg h21]) hj19
            · refine J_iload (pc := 107) dX10_loose_107 rfl ?_
              refine J_goto (pc := 109) (tgt := 114) dX10_loose_109 (by decide) ?_
              exact T_top (by rw [ev18, if_neg h20, if_pos h21]) hj19
      · refine T_if_lt_same (pc := 76) (tgt := 91) dX10_loose_76 (by decide) (fun h22 => ?_) (fun h22 => ?_)
        · refine J_iload (pc := 91) dX10_loose_91 rfl ?_
          exact T_top (by rw [ev16, if_pos h22]) hj17
        · refine J_iload (pc := 79) dX10_loose_79 rfl ?_
          refine J_iload (pc := 81) dX10_loose_81 rfl ?_
          refine T_icmp_ge_same (pc := 83) (tgt := 91) dX10_loose_83 (by decide) (fun h23 => ?_) (fun h23 => ?_)
          · refine J_iload (pc := 91) dX10_loose_91 rfl ?_
            exact T_top (by rw [ev16, if_neg h22, if_neg h23]) hj17
          · refine J_iload (pc := 86) dX10_loose_86 rfl ?_
            refine J_goto (pc := 88) (tgt := 93) dX10_loose_88 (by decide) ?_
            exact T_top (by rw [ev16, if_neg h22, if_pos h23]) hj17
def f_X10_loose_L139 (p1 : Int) (x25 : Int) : Nat → Int → Int → Mem → Option (Int × Mem)
  | 0, _, _, _ => none
  | u + 1, i8, i9, mu139 => if w32 i9 < 0 then (some (x25, mu139)) else (ckz 5 (ck ((40 * p1) + i9) 240 (vm (wr mu139 77 (w32 ((40 * p1) + i9)).toNat (zrem i8 5)) fun m32 => ckz 5 (vl (zdiv i8 5) fun x33 => f_X10_loose_L139 p1 x25 u x33 (i9 + (-1)) m32))))
set_option maxRecDepth 40000 in
theorem j_X10_loose_L139 {l : Launch} {G : qG} {p1 : Int} {x25 : Int} : ∀ (u : Nat) (i8 : Int) (i9 : Int) (mu139 : Mem), qJ l G yX10_loose cX10_loose 10 (some .int) 4 139 [some (.ref 67), none, some (.int (iI p1)), none, none, none, some (.int (iI x25)), none, some (.int (iI i8)), some (.int (iI i9))] [] (lay mu139) (lf eI (f_X10_loose_L139 p1 x25 u i8 i9 mu139)) := by
  intro u
  induction u with
  | zero => intro _ _ mu139; exact T_none
  | succ u ih =>
    intro i8 i9 mu139
    rw [f_X10_loose_L139]
    refine J_iload (pc := 139) dX10_loose_139 rfl ?_
    refine T_if_lt (pc := 141) (tgt := 172) dX10_loose_141 (by decide) (fun h30 => ?_) (fun h30 => ?_)
    · refine J_iload (pc := 172) dX10_loose_172 rfl ?_
      exact T_retI (pc := 174) rfl dX10_loose_174
    · refine J_aload_n (pc := 144) dX10_loose_144 rfl rfl rfl ?_
      refine tg_X10_41 (pc := 145) rfl dX10_loose_145 ?_
      refine J_bipush (pc := 148) dX10_loose_148 (by decide) (by decide) ?_
      refine J_iload_n (pc := 150) dX10_loose_150 rfl rfl ?_
      refine J_imul (pc := 151) dX10_loose_151 ?_
      refine J_iload (pc := 152) dX10_loose_152 rfl ?_
      refine J_iadd (pc := 154) dX10_loose_154 ?_
      refine J_iload (pc := 155) dX10_loose_155 rfl ?_
      refine J_iconst (pc := 157) dX10_loose_157 ?_
      refine T_irem (pc := 158) dX10_loose_158 ?_
      refine T_iastore (pc := 159) (by decide) rfl dX10_loose_159 (fun h31 => ?_)
      refine T_vm (fun m32 em32 => ?_)
      refine J_iload (pc := 160) dX10_loose_160 rfl ?_
      refine J_iconst (pc := 162) dX10_loose_162 ?_
      refine T_idiv (pc := 163) dX10_loose_163 ?_
      refine T_vlI (pc := 164) (fun x33 ex33 => ?_)
      refine J_istore (pc := 164) (L' := [some (.ref 67), none, some (.int (iI p1)), none, none, none, some (.int (iI x25)), none, some (.int (iI x33)), some (.int (iI i9))]) dX10_loose_164 (by decide) rfl rfl ?_
      refine J_iinc (pc := 166) (L' := [some (.ref 67), none, some (.int (iI p1)), none, none, none, some (.int (iI x25)), none, some (.int (iI x33)), some (.int (iI (i9 + (-1))))]) dX10_loose_166 rfl (by decide) rfl rfl ?_
      refine J_goto (pc := 169) (tgt := 139) dX10_loose_169 (by decide) ?_
      exact ih x33 (i9 + (-1)) m32
def f_X10_loose (m0 : Mem) (p0 : Int) (p1 : Int) : Option (Int × Mem) := bd (f_X10_isSet m0 p0) fun r2 m1 => if w32 r2 = 0 then (some ((-1), m1)) else (bd (f_X10_isRow m1 p1) fun r5 m4 => if w32 r5 = 0 then (some ((-1), m4)) else (bd (f_X10_bits m4 p0) fun r8 m7 => f_X10_loose_L28 (fun x11 m12 => f_X10_loose_L57 (fun x24 x25 m26 => bd (f_X10_row m26 p1 r8) fun r28 m27 => vl (r8 - 1) fun x29 => f_X10_loose_L139 p1 x25 100000 x24 x29 m27) p0 r8 x11 100000 0 1000000 0 m12) r8 100000 1 0 m7))
set_option maxRecDepth 40000 in
theorem m_X10_loose {l : Launch} {G : qG} (m0 : Mem) (p0 : Int) (p1 : Int) : qM l G 4 yX10_loose cX10_loose 10 (some .int) [.ref 67, .int (iI p0), .int (iI p1)] (lay m0) (lf eI (f_X10_loose m0 p0 p1)) := by
  refine qM_of (L := [some (.ref 67), some (.int (iI p0)), some (.int (iI p1)), none, none, none, none, none, none, none]) (by decide +kernel) (Nat.le_of_ble_eq_true rfl) rfl ?_
  unfold f_X10_loose
  refine J_aload_n (pc := 0) dX10_loose_0 rfl rfl rfl ?_
  refine J_iload_n (pc := 1) dX10_loose_1 rfl rfl ?_
  refine T_callVI (pc := 2) (As := [.int (iI p0)]) (k := 67) (st := []) ok_yX10_isSet lm_X10_218 dX10_loose_2 (by decide) rfl rfl (by decide) (Nat.le_of_ble_eq_true rfl) (m_X10_isSet m0 p0) (fun r2 m1 em1 => ?_)
  refine T_if_eq (pc := 5) (tgt := 15) dX10_loose_5 (by decide) (fun h3 => ?_) (fun h3 => ?_)
  · refine J_iconst (pc := 15) dX10_loose_15 ?_
    exact T_retI (pc := 16) rfl dX10_loose_16
  · refine J_iload_n (pc := 8) dX10_loose_8 rfl rfl ?_
    refine T_callSI (pc := 9) (As := [.int (iI p1)]) (st := []) ok_yX10_isRow lm_X10_110 dX10_loose_9 (by decide) (Nat.le_of_ble_eq_true rfl) (m_X10_isRow m1 p1) (fun r5 m4 em4 => ?_)
    refine T_if_ne (pc := 12) (tgt := 17) dX10_loose_12 (by decide) (fun h6 => ?_) (fun h6 => ?_)
    · refine J_iload_n (pc := 17) dX10_loose_17 rfl rfl ?_
      refine T_callSI (pc := 18) (As := [.int (iI p0)]) (st := []) ok_yX10_bits lm_X10_195 dX10_loose_18 (by decide) (Nat.le_of_ble_eq_true rfl) (m_X10_bits m4 p0) (fun r8 m7 em7 => ?_)
      refine J_istore_n (pc := 21) (L' := [some (.ref 67), some (.int (iI p0)), some (.int (iI p1)), some (.int (iI r8)), none, none, none, none, none, none]) dX10_loose_21 rfl (by decide) rfl rfl ?_
      refine J_iconst (pc := 22) dX10_loose_22 ?_
      refine J_istore (pc := 23) (L' := [some (.ref 67), some (.int (iI p0)), some (.int (iI p1)), some (.int (iI r8)), some (.int (iI 1)), none, none, none, none, none]) dX10_loose_23 (by decide) rfl rfl ?_
      refine J_iconst (pc := 25) dX10_loose_25 ?_
      refine J_istore (pc := 26) (L' := [some (.ref 67), some (.int (iI p0)), some (.int (iI p1)), some (.int (iI r8)), some (.int (iI 1)), some (.int (iI 0)), none, none, none, none]) dX10_loose_26 (by decide) rfl rfl ?_
      refine j_X10_loose_L28 ?_ 100000 1 0 m7
      · intro x11 m12
        refine J_iconst (pc := 46) dX10_loose_46 ?_
        refine J_istore (pc := 47) (L' := [some (.ref 67), some (.int (iI p0)), some (.int (iI p1)), some (.int (iI r8)), some (.int (iI x11)), some (.int (iI 0)), none, none, none, none]) dX10_loose_47 (by decide) rfl rfl ?_
        refine J_ldcw (pc := 49) (z := 1000000) dX10_loose_49 lk_X10_261 (by decide) ?_
        refine J_istore (pc := 52) (L' := [some (.ref 67), some (.int (iI p0)), some (.int (iI p1)), some (.int (iI r8)), some (.int (iI x11)), some (.int (iI 0)), some (.int (iI 1000000)), none, none, none]) dX10_loose_52 (by decide) rfl rfl ?_
        refine J_iconst (pc := 54) dX10_loose_54 ?_
        refine J_istore (pc := 55) (L' := [some (.ref 67), some (.int (iI p0)), some (.int (iI p1)), some (.int (iI r8)), some (.int (iI x11)), some (.int (iI 0)), some (.int (iI 1000000)), some (.int (iI 0)), none, none]) dX10_loose_55 (by decide) rfl rfl ?_
        refine j_X10_loose_L57 ?_ 100000 0 1000000 0 m12
        · intro x24 x25 m26
          refine J_aload_n (pc := 122) dX10_loose_122 rfl rfl rfl ?_
          refine J_iload_n (pc := 123) dX10_loose_123 rfl rfl ?_
          refine J_iload_n (pc := 124) dX10_loose_124 rfl rfl ?_
          refine T_callVI (pc := 125) (As := [.int (iI p1), .int (iI r8)]) (k := 67) (st := []) ok_yX10_row lm_X10_245 dX10_loose_125 (by decide) rfl rfl (by decide) (Nat.le_of_ble_eq_true rfl) (m_X10_row m26 p1 r8) (fun r28 m27 em27 => ?_)
          refine J_istore (pc := 128) (L' := [some (.ref 67), none, some (.int (iI p1)), some (.int (iI r8)), none, some (.int (iI x24)), some (.int (iI x25)), some (.int (iI r28)), none, none]) dX10_loose_128 (by decide) rfl rfl ?_
          refine J_iload (pc := 130) dX10_loose_130 rfl ?_
          refine J_istore (pc := 132) (L' := [some (.ref 67), none, some (.int (iI p1)), some (.int (iI r8)), none, some (.int (iI x24)), some (.int (iI x25)), some (.int (iI r28)), some (.int (iI x24)), none]) dX10_loose_132 (by decide) rfl rfl ?_
          refine J_iload_n (pc := 134) dX10_loose_134 rfl rfl ?_
          refine J_iconst (pc := 135) dX10_loose_135 ?_
          refine J_isub (pc := 136) dX10_loose_136 ?_
          refine T_vlI (pc := 137) (fun x29 ex29 => ?_)
          refine J_istore (pc := 137) (L' := [some (.ref 67), none, some (.int (iI p1)), some (.int (iI r8)), none, some (.int (iI x24)), some (.int (iI x25)), some (.int (iI r28)), some (.int (iI x24)), some (.int (iI x29))]) dX10_loose_137 (by decide) rfl rfl ?_
          refine J_dropf (pc := 139) (L' := [some (.ref 67), none, some (.int (iI p1)), none, none, none, some (.int (iI x25)), none, some (.int (iI x24)), some (.int (iI x29))]) [true, false, true, false, false, false, true, false, true, true] rfl ?_
          refine j_X10_loose_L139 100000 x24 x29 m27
    · refine J_iconst (pc := 15) dX10_loose_15 ?_
      exact T_retI (pc := 16) rfl dX10_loose_16
def f_X10_findGains_L30 (K : Mem → Option (Unit × Mem)) (i1 : Int) : Nat → Int → Mem → Option (Unit × Mem)
  | 0, _, _ => none
  | u + 1, i3, mu30 => if w32 i3 < w32 (mu30 67 1) then (ck (12 + i3) 16 (ck (12 + i3) 16 (ck ((4 * i1) + i3) 128 (vm (wr mu30 93 (w32 ((4 * i1) + i3)).toNat ((mu30 73 (w32 (12 + i3)).toNat) - (mu30 92 (w32 (12 + i3)).toNat))) fun m11 => f_X10_findGains_L30 K i1 u (i3 + 1) m11)))) else (K mu30)
set_option maxRecDepth 40000 in
theorem j_X10_findGains_L30 {l : Launch} {G : qG} {K : Mem → Option (Unit × Mem)} {i1 : Int} (hK : ∀ (m : Mem), qJ l G yX10_findGains cX10_findGains 4 none 5 73 [some (.ref 67), some (.int (iI i1)), none, none] [] (lay m) (lf eU (K m))) : ∀ (u : Nat) (i3 : Int) (mu30 : Mem), qJ l G yX10_findGains cX10_findGains 4 none 5 30 [some (.ref 67), some (.int (iI i1)), none, some (.int (iI i3))] [] (lay mu30) (lf eU (f_X10_findGains_L30 K i1 u i3 mu30)) := by
  intro u
  induction u with
  | zero => intro _ mu30; exact T_none
  | succ u ih =>
    intro i3 mu30
    rw [f_X10_findGains_L30]
    refine J_iload_n (pc := 30) dX10_findGains_30 rfl rfl ?_
    refine J_aload_n (pc := 31) dX10_findGains_31 rfl rfl rfl ?_
    refine tg_X10_107 (pc := 32) rfl dX10_findGains_32 ?_
    refine T_icmp_ge (pc := 35) (tgt := 73) dX10_findGains_35 (by decide) (fun h7 => ?_) (fun h7 => ?_)
    · refine J_dropf (pc := 73) (L' := [some (.ref 67), some (.int (iI i1)), none, none]) [true, true, false, false] rfl ?_
      exact hK  mu30
    · refine J_aload_n (pc := 38) dX10_findGains_38 rfl rfl rfl ?_
      refine tg_X10_89 (pc := 39) rfl dX10_findGains_39 ?_
      refine J_iconst (pc := 42) dX10_findGains_42 ?_
      refine J_iload_n (pc := 43) dX10_findGains_43 rfl rfl ?_
      refine J_imul (pc := 44) dX10_findGains_44 ?_
      refine J_iload_n (pc := 45) dX10_findGains_45 rfl rfl ?_
      refine J_iadd (pc := 46) dX10_findGains_46 ?_
      refine J_aload_n (pc := 47) dX10_findGains_47 rfl rfl rfl ?_
      refine tg_X10_25 (pc := 48) rfl dX10_findGains_48 ?_
      refine J_bipush (pc := 51) dX10_findGains_51 (by decide) (by decide) ?_
      refine J_iload_n (pc := 53) dX10_findGains_53 rfl rfl ?_
      refine J_iadd (pc := 54) dX10_findGains_54 ?_
      refine T_iaload (pc := 55) (by decide) rfl dX10_findGains_55 (fun h8 => ?_)
      refine J_aload_n (pc := 56) dX10_findGains_56 rfl rfl rfl ?_
      refine tg_X10_86 (pc := 57) rfl dX10_findGains_57 ?_
      refine J_bipush (pc := 60) dX10_findGains_60 (by decide) (by decide) ?_
      refine J_iload_n (pc := 62) dX10_findGains_62 rfl rfl ?_
      refine J_iadd (pc := 63) dX10_findGains_63 ?_
      refine T_iaload (pc := 64) (by decide) rfl dX10_findGains_64 (fun h9 => ?_)
      refine J_isub (pc := 65) dX10_findGains_65 ?_
      refine T_iastore (pc := 66) (by decide) rfl dX10_findGains_66 (fun h10 => ?_)
      refine T_vm (fun m11 em11 => ?_)
      refine J_iinc (pc := 67) (L' := [some (.ref 67), some (.int (iI i1)), none, some (.int (iI (i3 + 1)))]) dX10_findGains_67 rfl (by decide) rfl rfl ?_
      refine J_goto (pc := 70) (tgt := 30) dX10_findGains_70 (by decide) ?_
      exact ih (i3 + 1) m11
def f_X10_findGains_L6 : Nat → Int → Mem → Option (Unit × Mem)
  | 0, _, _ => none
  | u + 1, i1, mu6 => if w32 i1 < w32 (zshl 1 (mu6 67 0)) then (bd (f_X10_goHour mu6 i1) fun r4 m3 => bd (f_X10_goHour m3 i1) fun r6 m5 => f_X10_findGains_L30 (fun m12 => bd (f_X10_putBack m12) fun _u m13 => f_X10_findGains_L6 u (i1 + 1) m13) i1 100000 0 m5) else (some ((), mu6))
set_option maxRecDepth 40000 in
theorem j_X10_findGains_L6 {l : Launch} {G : qG} : ∀ (u : Nat) (i1 : Int) (mu6 : Mem), qJ l G yX10_findGains cX10_findGains 4 none 5 6 [some (.ref 67), some (.int (iI i1)), none, none] [] (lay mu6) (lf eU (f_X10_findGains_L6 u i1 mu6)) := by
  intro u
  induction u with
  | zero => intro _ mu6; exact T_none
  | succ u ih =>
    intro i1 mu6
    rw [f_X10_findGains_L6]
    refine J_iload_n (pc := 6) dX10_findGains_6 rfl rfl ?_
    refine J_iconst (pc := 7) dX10_findGains_7 ?_
    refine J_aload_n (pc := 8) dX10_findGains_8 rfl rfl rfl ?_
    refine tg_X10_104 (pc := 9) rfl dX10_findGains_9 ?_
    refine J_ishl (pc := 12) dX10_findGains_12 ?_
    refine T_icmp_ge (pc := 13) (tgt := 83) dX10_findGains_13 (by decide) (fun h2 => ?_) (fun h2 => ?_)
    · exact T_retV (pc := 83) rfl dX10_findGains_83
    · refine J_aload_n (pc := 16) dX10_findGains_16 rfl rfl rfl ?_
      refine J_iload_n (pc := 17) dX10_findGains_17 rfl rfl ?_
      refine T_callVI (pc := 18) (As := [.int (iI i1)]) (k := 67) (st := []) ok_yX10_goHour lm_X10_224 dX10_findGains_18 (by decide) rfl rfl (by decide) (Nat.le_of_ble_eq_true rfl) (m_X10_goHour mu6 i1) (fun r4 m3 em3 => ?_)
      refine J_istore_n (pc := 21) (L' := [some (.ref 67), some (.int (iI i1)), some (.int (iI r4)), none]) dX10_findGains_21 rfl (by decide) rfl rfl ?_
      refine J_aload_n (pc := 22) dX10_findGains_22 rfl rfl rfl ?_
      refine J_iload_n (pc := 23) dX10_findGains_23 rfl rfl ?_
      refine T_callVI (pc := 24) (As := [.int (iI i1)]) (k := 67) (st := []) ok_yX10_goHour lm_X10_224 dX10_findGains_24 (by decide) rfl rfl (by decide) (Nat.le_of_ble_eq_true rfl) (m_X10_goHour m3 i1) (fun r6 m5 em5 => ?_)
      refine J_istore_n (pc := 27) (L' := [some (.ref 67), some (.int (iI i1)), some (.int (iI r6)), none]) dX10_findGains_27 rfl (by decide) rfl rfl ?_
      refine J_iconst (pc := 28) dX10_findGains_28 ?_
      refine J_istore_n (pc := 29) (L' := [some (.ref 67), some (.int (iI i1)), some (.int (iI r6)), some (.int (iI 0))]) dX10_findGains_29 rfl (by decide) rfl rfl ?_
      refine J_dropf (pc := 30) (L' := [some (.ref 67), some (.int (iI i1)), none, some (.int (iI 0))]) [true, true, false, true] rfl ?_
      refine j_X10_findGains_L30 ?_ 100000 0 m5
      · intro m12
        refine J_aload_n (pc := 73) dX10_findGains_73 rfl rfl rfl ?_
        refine T_callVU (pc := 74) (As := []) (k := 67) (st := []) ok_yX10_putBack lm_X10_239 dX10_findGains_74 (by decide) rfl rfl (by decide) (Nat.le_of_ble_eq_true rfl) (m_X10_putBack m12) (fun _u m13 em13 => ?_)
        refine J_iinc (pc := 77) (L' := [some (.ref 67), some (.int (iI (i1 + 1))), none, none]) dX10_findGains_77 rfl (by decide) rfl rfl ?_
        refine J_goto (pc := 80) (tgt := 6) dX10_findGains_80 (by decide) ?_
        exact ih (i1 + 1) m13
def f_X10_findGains (m0 : Mem) : Option (Unit × Mem) := bd (f_X10_save m0) fun _u m1 => f_X10_findGains_L6 100000 0 m1
set_option maxRecDepth 40000 in
theorem m_X10_findGains {l : Launch} {G : qG} (m0 : Mem) : qM l G 5 yX10_findGains cX10_findGains 4 none [.ref 67] (lay m0) (lf eU (f_X10_findGains m0)) := by
  refine qM_of (L := [some (.ref 67), none, none, none]) (by decide +kernel) (Nat.le_of_ble_eq_true rfl) rfl ?_
  unfold f_X10_findGains
  refine J_aload_n (pc := 0) dX10_findGains_0 rfl rfl rfl ?_
  refine T_callVU (pc := 1) (As := []) (k := 67) (st := []) ok_yX10_save lm_X10_232 dX10_findGains_1 (by decide) rfl rfl (by decide) (Nat.le_of_ble_eq_true rfl) (m_X10_save m0) (fun _u m1 em1 => ?_)
  refine J_iconst (pc := 4) dX10_findGains_4 ?_
  refine J_istore_n (pc := 5) (L' := [some (.ref 67), some (.int (iI 0)), none, none]) dX10_findGains_5 rfl (by decide) rfl rfl ?_
  refine j_X10_findGains_L6 100000 0 m1
def f_X10_votersFor_L5 (p0 : Int) (p1 : Int) : Nat → Int → Int → Mem → Option (Int × Mem)
  | 0, _, _, _ => none
  | u + 1, i3, i4, mu5 => if w32 i4 < w32 (mu5 67 1) then (ck ((4 * p0) + i4) 128 (ck ((4 * p1) + i4) 128 (vl (if w32 (mu5 93 (w32 ((4 * p1) + i4)).toNat) < w32 (mu5 93 (w32 ((4 * p0) + i4)).toNat) then (zshl 1 i4) else 0) fun v4 => vl (zor i3 v4) fun x6 => f_X10_votersFor_L5 p0 p1 u x6 (i4 + 1) mu5))) else (some (i3, mu5))
set_option maxRecDepth 40000 in
theorem j_X10_votersFor_L5 {l : Launch} {G : qG} {p0 : Int} {p1 : Int} : ∀ (u : Nat) (i3 : Int) (i4 : Int) (mu5 : Mem), qJ l G yX10_votersFor cX10_votersFor 5 (some .int) 1 5 [some (.ref 67), some (.int (iI p0)), some (.int (iI p1)), some (.int (iI i3)), some (.int (iI i4))] [] (lay mu5) (lf eI (f_X10_votersFor_L5 p0 p1 u i3 i4 mu5)) := by
  intro u
  induction u with
  | zero => intro _ _ mu5; exact T_none
  | succ u ih =>
    intro i3 i4 mu5
    rw [f_X10_votersFor_L5]
    refine J_iload (pc := 5) dX10_votersFor_5 rfl ?_
    refine J_aload_n (pc := 7) dX10_votersFor_7 rfl rfl rfl ?_
    refine tg_X10_107 (pc := 8) rfl dX10_votersFor_8 ?_
    refine T_icmp_ge (pc := 11) (tgt := 56) dX10_votersFor_11 (by decide) (fun h1 => ?_) (fun h1 => ?_)
    · refine J_iload_n (pc := 56) dX10_votersFor_56 rfl rfl ?_
      exact T_retI (pc := 57) rfl dX10_votersFor_57
    · refine J_iload_n (pc := 14) dX10_votersFor_14 rfl rfl ?_
      refine J_aload_n (pc := 15) dX10_votersFor_15 rfl rfl rfl ?_
      refine tg_X10_89 (pc := 16) rfl dX10_votersFor_16 ?_
      refine J_iconst (pc := 19) dX10_votersFor_19 ?_
      refine J_iload_n (pc := 20) dX10_votersFor_20 rfl rfl ?_
      refine J_imul (pc := 21) dX10_votersFor_21 ?_
      refine J_iload (pc := 22) dX10_votersFor_22 rfl ?_
      refine J_iadd (pc := 24) dX10_votersFor_24 ?_
      refine T_iaload (pc := 25) (by decide) rfl dX10_votersFor_25 (fun h2 => ?_)
      refine J_aload_n (pc := 26) dX10_votersFor_26 rfl rfl rfl ?_
      refine tg_X10_89 (pc := 27) rfl dX10_votersFor_27 ?_
      refine J_iconst (pc := 30) dX10_votersFor_30 ?_
      refine J_iload_n (pc := 31) dX10_votersFor_31 rfl rfl ?_
      refine J_imul (pc := 32) dX10_votersFor_32 ?_
      refine J_iload (pc := 33) dX10_votersFor_33 rfl ?_
      refine J_iadd (pc := 35) dX10_votersFor_35 ?_
      refine T_iaload (pc := 36) (by decide) rfl dX10_votersFor_36 (fun h3 => ?_)
      refine T_vl (fun v4 ev4 => ?_)
      refine T_dia (j := 48) (v := v4) (LT := [some (.ref 67), some (.int (iI p0)), some (.int (iI p1)), some (.int (iI i3)), some (.int (iI i4))]) (sT := [.int (iI i3)]) ?_ (fun hj5 => ?_)
      · refine J_ior (pc := 48) dX10_votersFor_48 ?_
        refine T_vlI (pc := 49) (fun x6 ex6 => ?_)
        refine J_istore_n (pc := 49) (L' := [some (.ref 67), some (.int (iI p0)), some (.int (iI p1)), some (.int (iI x6)), some (.int (iI i4))]) dX10_votersFor_49 rfl (by decide) rfl rfl ?_
        refine J_iinc (pc := 50) (L' := [some (.ref 67), some (.int (iI p0)), some (.int (iI p1)), some (.int (iI x6)), some (.int (iI (i4 + 1)))]) dX10_votersFor_50 rfl (by decide) rfl rfl ?_
        refine J_goto (pc := 53) (tgt := 5) dX10_votersFor_53 (by decide) ?_
        exact ih x6 (i4 + 1) mu5
      · refine T_icmp_le_same (pc := 37) (tgt := 47) dX10_votersFor_37 (by decide) (fun h7 => ?_) (fun h7 => ?_)
        · refine J_iconst (pc := 47) dX10_votersFor_47 ?_
          exact T_top (by rw [ev4, if_neg h7]) hj5
        · refine J_iconst (pc := 40) dX10_votersFor_40 ?_
          refine J_iload (pc := 41) dX10_votersFor_41 rfl ?_
          refine J_ishl (pc := 43) dX10_votersFor_43 ?_
          refine J_goto (pc := 44) (tgt := 48) dX10_votersFor_44 (by decide) ?_
          exact T_top (by rw [ev4, if_pos h7]) hj5
def f_X10_votersFor (m0 : Mem) (p0 : Int) (p1 : Int) : Option (Int × Mem) := f_X10_votersFor_L5 p0 p1 100000 0 0 m0
set_option maxRecDepth 40000 in
theorem m_X10_votersFor {l : Launch} {G : qG} (m0 : Mem) (p0 : Int) (p1 : Int) : qM l G 1 yX10_votersFor cX10_votersFor 5 (some .int) [.ref 67, .int (iI p0), .int (iI p1)] (lay m0) (lf eI (f_X10_votersFor m0 p0 p1)) := by
  refine qM_of (L := [some (.ref 67), some (.int (iI p0)), some (.int (iI p1)), none, none]) (by decide +kernel) (Nat.le_of_ble_eq_true rfl) rfl ?_
  unfold f_X10_votersFor
  refine J_iconst (pc := 0) dX10_votersFor_0 ?_
  refine J_istore_n (pc := 1) (L' := [some (.ref 67), some (.int (iI p0)), some (.int (iI p1)), some (.int (iI 0)), none]) dX10_votersFor_1 rfl (by decide) rfl rfl ?_
  refine J_iconst (pc := 2) dX10_votersFor_2 ?_
  refine J_istore (pc := 3) (L' := [some (.ref 67), some (.int (iI p0)), some (.int (iI p1)), some (.int (iI 0)), some (.int (iI 0))]) dX10_votersFor_3 (by decide) rfl rfl ?_
  refine j_X10_votersFor_L5 100000 0 0 m0
def f_X10_votes (m0 : Mem) (p0 : Int) (p1 : Int) : Option (Int × Mem) := bd (f_X10_isSet m0 p0) fun r2 m1 => if w32 r2 = 0 then (some ((-1), m1)) else (bd (f_X10_isSet m1 p1) fun r5 m4 => if w32 r5 = 0 then (some ((-1), m4)) else (if w32 (m4 67 0) = 0 then (some ((-4), m4)) else (bd (f_X10_findGains m4) fun _u m8 => bd (f_X10_votersFor m8 p0 p1) fun r10 m9 => vm (wr m9 67 10 r10) fun m11 => bd (f_X10_bits m11 (m11 67 10)) fun r13 m12 => some (r13, m12))))
set_option maxRecDepth 40000 in
theorem m_X10_votes {l : Launch} {G : qG} (m0 : Mem) (p0 : Int) (p1 : Int) : qM l G 6 yX10_votes cX10_votes 3 (some .int) [.ref 67, .int (iI p0), .int (iI p1)] (lay m0) (lf eI (f_X10_votes m0 p0 p1)) := by
  refine qM_of (L := [some (.ref 67), some (.int (iI p0)), some (.int (iI p1))]) (by decide +kernel) (Nat.le_of_ble_eq_true rfl) rfl ?_
  unfold f_X10_votes
  refine J_aload_n (pc := 0) dX10_votes_0 rfl rfl rfl ?_
  refine J_iload_n (pc := 1) dX10_votes_1 rfl rfl ?_
  refine T_callVI (pc := 2) (As := [.int (iI p0)]) (k := 67) (st := []) ok_yX10_isSet lm_X10_218 dX10_votes_2 (by decide) rfl rfl (by decide) (Nat.le_of_ble_eq_true rfl) (m_X10_isSet m0 p0) (fun r2 m1 em1 => ?_)
  refine T_if_eq (pc := 5) (tgt := 16) dX10_votes_5 (by decide) (fun h3 => ?_) (fun h3 => ?_)
  · refine J_iconst (pc := 16) dX10_votes_16 ?_
    exact T_retI (pc := 17) rfl dX10_votes_17
  · refine J_aload_n (pc := 8) dX10_votes_8 rfl rfl rfl ?_
    refine J_iload_n (pc := 9) dX10_votes_9 rfl rfl ?_
    refine T_callVI (pc := 10) (As := [.int (iI p1)]) (k := 67) (st := []) ok_yX10_isSet lm_X10_218 dX10_votes_10 (by decide) rfl rfl (by decide) (Nat.le_of_ble_eq_true rfl) (m_X10_isSet m1 p1) (fun r5 m4 em4 => ?_)
    refine T_if_ne (pc := 13) (tgt := 18) dX10_votes_13 (by decide) (fun h6 => ?_) (fun h6 => ?_)
    · refine J_aload_n (pc := 18) dX10_votes_18 rfl rfl rfl ?_
      refine tg_X10_104 (pc := 19) rfl dX10_votes_19 ?_
      refine T_if_ne (pc := 22) (tgt := 28) dX10_votes_22 (by decide) (fun h7 => ?_) (fun h7 => ?_)
      · refine J_aload_n (pc := 28) dX10_votes_28 rfl rfl rfl ?_
        refine T_callVU (pc := 29) (As := []) (k := 67) (st := []) ok_yX10_findGains lm_X10_268 dX10_votes_29 (by decide) rfl rfl (by decide) (Nat.le_of_ble_eq_true rfl) (m_X10_findGains m4) (fun _u m8 em8 => ?_)
        refine J_aload_n (pc := 32) dX10_votes_32 rfl rfl rfl ?_
        refine J_aload_n (pc := 33) dX10_votes_33 rfl rfl rfl ?_
        refine J_iload_n (pc := 34) dX10_votes_34 rfl rfl ?_
        refine J_iload_n (pc := 35) dX10_votes_35 rfl rfl ?_
        refine T_callVI (pc := 36) (As := [.int (iI p0), .int (iI p1)]) (k := 67) (st := [.ref 67]) ok_yX10_votersFor lm_X10_271 dX10_votes_36 (by decide) rfl rfl (by decide) (Nat.le_of_ble_eq_true rfl) (m_X10_votersFor m8 p0 p1) (fun r10 m9 em9 => ?_)
        refine tp_X10_118 (pc := 39) rfl dX10_votes_39 ?_
        refine T_vm (fun m11 em11 => ?_)
        refine J_aload_n (pc := 42) dX10_votes_42 rfl rfl rfl ?_
        refine tg_X10_118 (pc := 43) rfl dX10_votes_43 ?_
        refine T_callSI (pc := 46) (As := [.int (iI (m11 67 10))]) (st := []) ok_yX10_bits lm_X10_195 dX10_votes_46 (by decide) (Nat.le_of_ble_eq_true rfl) (m_X10_bits m11 (m11 67 10)) (fun r13 m12 em12 => ?_)
        exact T_retI (pc := 49) rfl dX10_votes_49
      · refine J_bipush (pc := 25) dX10_votes_25 (by decide) (by decide) ?_
        exact T_retI (pc := 27) rfl dX10_votes_27
    · refine J_iconst (pc := 16) dX10_votes_16 ?_
      exact T_retI (pc := 17) rfl dX10_votes_17
def f_X10_choice_L30 (K : Int → Mem → Option (Int × Mem)) (i1 : Int) : Nat → Int → Int → Mem → Option (Int × Mem)
  | 0, _, _, _ => none
  | u + 1, i2, i3, mu30 => if w32 i3 < w32 (zshl 1 (mu30 67 0)) then (jn (κ := Int → Mem → Option (Int × Mem)) (fun s7 m6 => f_X10_choice_L30 K i1 u s7 (i3 + 1) m6) fun k5 => jn (κ := Mem → Option (Int × Mem)) (fun m9 => k5 0 m9) fun k8 => if w32 i2 = 0 then (k8 mu30) else (bd (f_X10_votersFor mu30 i3 i1) fun r12 m11 => bd (f_X10_bits m11 r12) fun r14 m13 => bd (f_X10_votersFor m13 i1 i3) fun r16 m15 => bd (f_X10_bits m15 r16) fun r18 m17 => if w32 r18 < w32 r14 then (k8 m17) else (k5 1 m17))) else (K i2 mu30)
set_option maxRecDepth 40000 in
theorem j_X10_choice_L30 {l : Launch} {G : qG} {K : Int → Mem → Option (Int × Mem)} {i1 : Int} (hK : ∀ (x2 : Int) (m : Mem), qJ l G yX10_choice cX10_choice 4 (some .int) 6 77 [some (.ref 67), some (.int (iI i1)), some (.int (iI x2)), none] [] (lay m) (lf eI (K x2 m))) : ∀ (u : Nat) (i2 : Int) (i3 : Int) (mu30 : Mem), qJ l G yX10_choice cX10_choice 4 (some .int) 6 30 [some (.ref 67), some (.int (iI i1)), some (.int (iI i2)), some (.int (iI i3))] [] (lay mu30) (lf eI (f_X10_choice_L30 K i1 u i2 i3 mu30)) := by
  intro u
  induction u with
  | zero => intro _ _ mu30; exact T_none
  | succ u ih =>
    intro i2 i3 mu30
    rw [f_X10_choice_L30]
    refine J_iload_n (pc := 30) dX10_choice_30 rfl rfl ?_
    refine J_iconst (pc := 31) dX10_choice_31 ?_
    refine J_aload_n (pc := 32) dX10_choice_32 rfl rfl rfl ?_
    refine tg_X10_104 (pc := 33) rfl dX10_choice_33 ?_
    refine J_ishl (pc := 36) dX10_choice_36 ?_
    refine T_icmp_ge (pc := 37) (tgt := 77) dX10_choice_37 (by decide) (fun h4 => ?_) (fun h4 => ?_)
    · refine J_dropf (pc := 77) (L' := [some (.ref 67), some (.int (iI i1)), some (.int (iI i2)), none]) [true, true, true, false] rfl ?_
      exact hK i2 mu30
    · refine J_iload_n (pc := 40) dX10_choice_40 rfl rfl ?_
      refine T_jn (κ := Int → Mem → Option (Int × Mem)) (fun k => ∀ (s7 : Int) (m6 : Mem), qJ l G yX10_choice cX10_choice 4 (some .int) 6 70 [some (.ref 67), some (.int (iI i1)), none, some (.int (iI i3))] [.int (iI s7)] (lay m6) (lf eI (k s7 m6))) ?_ (fun k5 hk5 => ?_)
      · intro s7 m6
        refine J_istore_n (pc := 70) (L' := [some (.ref 67), some (.int (iI i1)), some (.int (iI s7)), some (.int (iI i3))]) dX10_choice_70 rfl (by decide) rfl rfl ?_
        refine J_iinc (pc := 71) (L' := [some (.ref 67), some (.int (iI i1)), some (.int (iI s7)), some (.int (iI (i3 + 1)))]) dX10_choice_71 rfl (by decide) rfl rfl ?_
        refine J_goto (pc := 74) (tgt := 30) dX10_choice_74 (by decide) ?_
        exact ih s7 (i3 + 1) m6
      · refine T_jn (κ := Mem → Option (Int × Mem)) (fun k => ∀ (m9 : Mem), qJ l G yX10_choice cX10_choice 4 (some .int) 6 69 [some (.ref 67), some (.int (iI i1)), none, some (.int (iI i3))] [] (lay m9) (lf eI (k m9))) ?_ (fun k8 hk8 => ?_)
        · intro m9
          refine J_iconst (pc := 69) dX10_choice_69 ?_
          exact hk5 0 m9
        · refine T_if_eq (pc := 41) (tgt := 69) dX10_choice_41 (by decide) (fun h10 => ?_) (fun h10 => ?_)
          · refine J_dropf (pc := 69) (L' := [some (.ref 67), some (.int (iI i1)), none, some (.int (iI i3))]) [true, true, false, true] rfl ?_
            exact hk8  mu30
          · refine J_aload_n (pc := 44) dX10_choice_44 rfl rfl rfl ?_
            refine J_iload_n (pc := 45) dX10_choice_45 rfl rfl ?_
            refine J_iload_n (pc := 46) dX10_choice_46 rfl rfl ?_
            refine T_callVI (pc := 47) (As := [.int (iI i3), .int (iI i1)]) (k := 67) (st := []) ok_yX10_votersFor lm_X10_271 dX10_choice_47 (by decide) rfl rfl (by decide) (Nat.le_of_ble_eq_true rfl) (m_X10_votersFor mu30 i3 i1) (fun r12 m11 em11 => ?_)
            refine T_callSI (pc := 50) (As := [.int (iI r12)]) (st := []) ok_yX10_bits lm_X10_195 dX10_choice_50 (by decide) (Nat.le_of_ble_eq_true rfl) (m_X10_bits m11 r12) (fun r14 m13 em13 => ?_)
            refine J_aload_n (pc := 53) dX10_choice_53 rfl rfl rfl ?_
            refine J_iload_n (pc := 54) dX10_choice_54 rfl rfl ?_
            refine J_iload_n (pc := 55) dX10_choice_55 rfl rfl ?_
            refine T_callVI (pc := 56) (As := [.int (iI i1), .int (iI i3)]) (k := 67) (st := [.int (iI r14)]) ok_yX10_votersFor lm_X10_271 dX10_choice_56 (by decide) rfl rfl (by decide) (Nat.le_of_ble_eq_true rfl) (m_X10_votersFor m13 i1 i3) (fun r16 m15 em15 => ?_)
            refine T_callSI (pc := 59) (As := [.int (iI r16)]) (st := [.int (iI r14)]) ok_yX10_bits lm_X10_195 dX10_choice_59 (by decide) (Nat.le_of_ble_eq_true rfl) (m_X10_bits m15 r16) (fun r18 m17 em17 => ?_)
            refine T_icmp_gt (pc := 62) (tgt := 69) dX10_choice_62 (by decide) (fun h19 => ?_) (fun h19 => ?_)
            · refine J_dropf (pc := 69) (L' := [some (.ref 67), some (.int (iI i1)), none, some (.int (iI i3))]) [true, true, false, true] rfl ?_
              exact hk8  m17
            · refine J_iconst (pc := 65) dX10_choice_65 ?_
              refine J_goto (pc := 66) (tgt := 70) dX10_choice_66 (by decide) ?_
              refine J_dropf (pc := 70) (L' := [some (.ref 67), some (.int (iI i1)), none, some (.int (iI i3))]) [true, true, false, true] rfl ?_
              exact hk5 1 m17
def f_X10_choice_L16 : Nat → Int → Mem → Option (Int × Mem)
  | 0, _, _ => none
  | u + 1, i1, mu16 => if w32 i1 < w32 (zshl 1 (mu16 67 0)) then (f_X10_choice_L30 (fun x20 m21 => if w32 x20 = 0 then (f_X10_choice_L16 u (i1 + 1) m21) else (some (i1, m21))) i1 100000 1 0 mu16) else (some ((-9), mu16))
set_option maxRecDepth 40000 in
theorem j_X10_choice_L16 {l : Launch} {G : qG} : ∀ (u : Nat) (i1 : Int) (mu16 : Mem), qJ l G yX10_choice cX10_choice 4 (some .int) 6 16 [some (.ref 67), some (.int (iI i1)), none, none] [] (lay mu16) (lf eI (f_X10_choice_L16 u i1 mu16)) := by
  intro u
  induction u with
  | zero => intro _ mu16; exact T_none
  | succ u ih =>
    intro i1 mu16
    rw [f_X10_choice_L16]
    refine J_iload_n (pc := 16) dX10_choice_16 rfl rfl ?_
    refine J_iconst (pc := 17) dX10_choice_17 ?_
    refine J_aload_n (pc := 18) dX10_choice_18 rfl rfl rfl ?_
    refine tg_X10_104 (pc := 19) rfl dX10_choice_19 ?_
    refine J_ishl (pc := 22) dX10_choice_22 ?_
    refine T_icmp_ge (pc := 23) (tgt := 89) dX10_choice_23 (by decide) (fun h3 => ?_) (fun h3 => ?_)
    · refine J_bipush (pc := 89) dX10_choice_89 (by decide) (by decide) ?_
      exact T_retI (pc := 91) rfl dX10_choice_91
    · refine J_iconst (pc := 26) dX10_choice_26 ?_
      refine J_istore_n (pc := 27) (L' := [some (.ref 67), some (.int (iI i1)), some (.int (iI 1)), none]) dX10_choice_27 rfl (by decide) rfl rfl ?_
      refine J_iconst (pc := 28) dX10_choice_28 ?_
      refine J_istore_n (pc := 29) (L' := [some (.ref 67), some (.int (iI i1)), some (.int (iI 1)), some (.int (iI 0))]) dX10_choice_29 rfl (by decide) rfl rfl ?_
      refine j_X10_choice_L30 ?_ 100000 1 0 mu16
      · intro x20 m21
        refine J_iload_n (pc := 77) dX10_choice_77 rfl rfl ?_
        refine T_if_eq (pc := 78) (tgt := 83) dX10_choice_78 (by decide) (fun h22 => ?_) (fun h22 => ?_)
        · refine J_iinc (pc := 83) (L' := [some (.ref 67), some (.int (iI (i1 + 1))), some (.int (iI x20)), none]) dX10_choice_83 rfl (by decide) rfl rfl ?_
          refine J_goto (pc := 86) (tgt := 16) dX10_choice_86 (by decide) ?_
          refine J_dropf (pc := 16) (L' := [some (.ref 67), some (.int (iI (i1 + 1))), none, none]) [true, true, false, false] rfl ?_
          exact ih (i1 + 1) m21
        · refine J_iload_n (pc := 81) dX10_choice_81 rfl rfl ?_
          exact T_retI (pc := 82) rfl dX10_choice_82
def f_X10_choice (m0 : Mem) : Option (Int × Mem) := if w32 (m0 67 0) = 0 then (some ((-4), m0)) else (bd (f_X10_findGains m0) fun _u m2 => f_X10_choice_L16 100000 0 m2)
set_option maxRecDepth 40000 in
theorem m_X10_choice {l : Launch} {G : qG} (m0 : Mem) : qM l G 6 yX10_choice cX10_choice 4 (some .int) [.ref 67] (lay m0) (lf eI (f_X10_choice m0)) := by
  refine qM_of (L := [some (.ref 67), none, none, none]) (by decide +kernel) (Nat.le_of_ble_eq_true rfl) rfl ?_
  unfold f_X10_choice
  refine J_aload_n (pc := 0) dX10_choice_0 rfl rfl rfl ?_
  refine tg_X10_104 (pc := 1) rfl dX10_choice_1 ?_
  refine T_if_ne (pc := 4) (tgt := 10) dX10_choice_4 (by decide) (fun h1 => ?_) (fun h1 => ?_)
  · refine J_aload_n (pc := 10) dX10_choice_10 rfl rfl rfl ?_
    refine T_callVU (pc := 11) (As := []) (k := 67) (st := []) ok_yX10_findGains lm_X10_268 dX10_choice_11 (by decide) rfl rfl (by decide) (Nat.le_of_ble_eq_true rfl) (m_X10_findGains m0) (fun _u m2 em2 => ?_)
    refine J_iconst (pc := 14) dX10_choice_14 ?_
    refine J_istore_n (pc := 15) (L' := [some (.ref 67), some (.int (iI 0)), none, none]) dX10_choice_15 rfl (by decide) rfl rfl ?_
    refine j_X10_choice_L16 100000 0 m2
  · refine J_bipush (pc := 7) dX10_choice_7 (by decide) (by decide) ?_
    exact T_retI (pc := 9) rfl dX10_choice_9
def f_X10_mostOf_L20 (K : Int → Mem → Option (Int × Mem)) (p0 : Int) (i3 : Int) : Nat → Int → Int → Mem → Option (Int × Mem)
  | 0, _, _, _ => none
  | u + 1, i4, i5, mu20 => if w32 i5 < w32 (mu20 67 1) then (bd (f_X10_has mu20 p0 i5) fun r4 m3 => jn (κ := Int → Mem → Option (Int × Mem)) (fun s7 m6 => vl (i4 + s7) fun x8 => f_X10_mostOf_L20 K p0 i3 u x8 (i5 + 1) m6) fun k5 => if w32 r4 = 0 then (k5 0 m3) else (ck ((4 * i3) + i5) 128 (k5 (m3 93 (w32 ((4 * i3) + i5)).toNat) m3))) else (K i4 mu20)
set_option maxRecDepth 40000 in
theorem j_X10_mostOf_L20 {l : Launch} {G : qG} {K : Int → Mem → Option (Int × Mem)} {p0 : Int} {i3 : Int} {i2 : Int} (hK : ∀ (x4 : Int) (m : Mem), qJ l G yX10_mostOf cX10_mostOf 6 (some .int) 2 64 [some (.ref 67), some (.int (iI p0)), some (.int (iI i2)), some (.int (iI i3)), some (.int (iI x4)), none] [] (lay m) (lf eI (K x4 m))) : ∀ (u : Nat) (i4 : Int) (i5 : Int) (mu20 : Mem), qJ l G yX10_mostOf cX10_mostOf 6 (some .int) 2 20 [some (.ref 67), some (.int (iI p0)), some (.int (iI i2)), some (.int (iI i3)), some (.int (iI i4)), some (.int (iI i5))] [] (lay mu20) (lf eI (f_X10_mostOf_L20 K p0 i3 u i4 i5 mu20)) := by
  intro u
  induction u with
  | zero => intro _ _ mu20; exact T_none
  | succ u ih =>
    intro i4 i5 mu20
    rw [f_X10_mostOf_L20]
    refine J_iload (pc := 20) dX10_mostOf_20 rfl ?_
    refine J_aload_n (pc := 22) dX10_mostOf_22 rfl rfl rfl ?_
    refine tg_X10_107 (pc := 23) rfl dX10_mostOf_23 ?_
    refine T_icmp_ge (pc := 26) (tgt := 64) dX10_mostOf_26 (by decide) (fun h2 => ?_) (fun h2 => ?_)
    · refine J_dropf (pc := 64) (L' := [some (.ref 67), some (.int (iI p0)), some (.int (iI i2)), some (.int (iI i3)), some (.int (iI i4)), none]) [true, true, true, true, true, false] rfl ?_
      exact hK i4 mu20
    · refine J_iload (pc := 29) dX10_mostOf_29 rfl ?_
      refine J_iload_n (pc := 31) dX10_mostOf_31 rfl rfl ?_
      refine J_iload (pc := 32) dX10_mostOf_32 rfl ?_
      refine T_callSI (pc := 34) (As := [.int (iI p0), .int (iI i5)]) (st := [.int (iI i4)]) ok_yX10_has lm_X10_179 dX10_mostOf_34 (by decide) (Nat.le_of_ble_eq_true rfl) (m_X10_has mu20 p0 i5) (fun r4 m3 em3 => ?_)
      refine T_jn (κ := Int → Mem → Option (Int × Mem)) (fun k => ∀ (s7 : Int) (m6 : Mem), qJ l G yX10_mostOf cX10_mostOf 6 (some .int) 2 55 [some (.ref 67), some (.int (iI p0)), some (.int (iI i2)), some (.int (iI i3)), none, some (.int (iI i5))] [.int (iI s7), .int (iI i4)] (lay m6) (lf eI (k s7 m6))) ?_ (fun k5 hk5 => ?_)
      · intro s7 m6
        refine J_iadd (pc := 55) dX10_mostOf_55 ?_
        refine T_vlI (pc := 56) (fun x8 ex8 => ?_)
        refine J_istore (pc := 56) (L' := [some (.ref 67), some (.int (iI p0)), some (.int (iI i2)), some (.int (iI i3)), some (.int (iI x8)), some (.int (iI i5))]) dX10_mostOf_56 (by decide) rfl rfl ?_
        refine J_iinc (pc := 58) (L' := [some (.ref 67), some (.int (iI p0)), some (.int (iI i2)), some (.int (iI i3)), some (.int (iI x8)), some (.int (iI (i5 + 1)))]) dX10_mostOf_58 rfl (by decide) rfl rfl ?_
        refine J_goto (pc := 61) (tgt := 20) dX10_mostOf_61 (by decide) ?_
        exact ih x8 (i5 + 1) m6
      · refine T_if_eq (pc := 37) (tgt := 54) dX10_mostOf_37 (by decide) (fun h9 => ?_) (fun h9 => ?_)
        · refine J_iconst (pc := 54) dX10_mostOf_54 ?_
          refine J_dropf (pc := 55) (L' := [some (.ref 67), some (.int (iI p0)), some (.int (iI i2)), some (.int (iI i3)), none, some (.int (iI i5))]) [true, true, true, true, false, true] rfl ?_
          exact hk5 0 m3
        · refine J_aload_n (pc := 40) dX10_mostOf_40 rfl rfl rfl ?_
          refine tg_X10_89 (pc := 41) rfl dX10_mostOf_41 ?_
          refine J_iconst (pc := 44) dX10_mostOf_44 ?_
          refine J_iload_n (pc := 45) dX10_mostOf_45 rfl rfl ?_
          refine J_imul (pc := 46) dX10_mostOf_46 ?_
          refine J_iload (pc := 47) dX10_mostOf_47 rfl ?_
          refine J_iadd (pc := 49) dX10_mostOf_49 ?_
          refine T_iaload (pc := 50) (by decide) rfl dX10_mostOf_50 (fun h10 => ?_)
          refine J_goto (pc := 51) (tgt := 55) dX10_mostOf_51 (by decide) ?_
          refine J_dropf (pc := 55) (L' := [some (.ref 67), some (.int (iI p0)), some (.int (iI i2)), some (.int (iI i3)), none, some (.int (iI i5))]) [true, true, true, true, false, true] rfl ?_
          exact hk5 (m3 93 (w32 ((4 * i3) + i5)).toNat) m3
def f_X10_mostOf_L4 (p0 : Int) : Nat → Int → Int → Mem → Option (Int × Mem)
  | 0, _, _, _ => none
  | u + 1, i2, i3, mu4 => if w32 i3 < w32 (zshl 1 (mu4 67 0)) then (f_X10_mostOf_L20 (fun x11 m12 => vl (if w32 i2 < w32 x11 then x11 else i2) fun v13 => f_X10_mostOf_L4 p0 u v13 (i3 + 1) m12) p0 i3 100000 0 0 mu4) else (some (i2, mu4))
set_option maxRecDepth 40000 in
theorem j_X10_mostOf_L4 {l : Launch} {G : qG} {p0 : Int} : ∀ (u : Nat) (i2 : Int) (i3 : Int) (mu4 : Mem), qJ l G yX10_mostOf cX10_mostOf 6 (some .int) 2 4 [some (.ref 67), some (.int (iI p0)), some (.int (iI i2)), some (.int (iI i3)), none, none] [] (lay mu4) (lf eI (f_X10_mostOf_L4 p0 u i2 i3 mu4)) := by
  intro u
  induction u with
  | zero => intro _ _ mu4; exact T_none
  | succ u ih =>
    intro i2 i3 mu4
    rw [f_X10_mostOf_L4]
    refine J_iload_n (pc := 4) dX10_mostOf_4 rfl rfl ?_
    refine J_iconst (pc := 5) dX10_mostOf_5 ?_
    refine J_aload_n (pc := 6) dX10_mostOf_6 rfl rfl rfl ?_
    refine tg_X10_104 (pc := 7) rfl dX10_mostOf_7 ?_
    refine J_ishl (pc := 10) dX10_mostOf_10 ?_
    refine T_icmp_ge (pc := 11) (tgt := 83) dX10_mostOf_11 (by decide) (fun h1 => ?_) (fun h1 => ?_)
    · refine J_iload_n (pc := 83) dX10_mostOf_83 rfl rfl ?_
      exact T_retI (pc := 84) rfl dX10_mostOf_84
    · refine J_iconst (pc := 14) dX10_mostOf_14 ?_
      refine J_istore (pc := 15) (L' := [some (.ref 67), some (.int (iI p0)), some (.int (iI i2)), some (.int (iI i3)), some (.int (iI 0)), none]) dX10_mostOf_15 (by decide) rfl rfl ?_
      refine J_iconst (pc := 17) dX10_mostOf_17 ?_
      refine J_istore (pc := 18) (L' := [some (.ref 67), some (.int (iI p0)), some (.int (iI i2)), some (.int (iI i3)), some (.int (iI 0)), some (.int (iI 0))]) dX10_mostOf_18 (by decide) rfl rfl ?_
      refine j_X10_mostOf_L20 ?_ 100000 0 0 mu4
      · intro x11 m12
        refine J_iload (pc := 64) dX10_mostOf_64 rfl ?_
        refine J_iload_n (pc := 66) dX10_mostOf_66 rfl rfl ?_
        refine T_vl (fun v13 ev13 => ?_)
        refine T_dia (j := 76) (v := v13) (LT := [some (.ref 67), some (.int (iI p0)), some (.int (iI i2)), some (.int (iI i3)), some (.int (iI x11)), none]) (sT := []) ?_ (fun hj14 => ?_)
        · refine J_istore_n (pc := 76) (L' := [some (.ref 67), some (.int (iI p0)), some (.int (iI v13)), some (.int (iI i3)), some (.int (iI x11)), none]) dX10_mostOf_76 rfl (by decide) rfl rfl ?_
          refine J_iinc (pc := 77) (L' := [some (.ref 67), some (.int (iI p0)), some (.int (iI v13)), some (.int (iI (i3 + 1))), some (.int (iI x11)), none]) dX10_mostOf_77 rfl (by decide) rfl rfl ?_
          refine J_goto (pc := 80) (tgt := 4) dX10_mostOf_80 (by decide) ?_
          refine J_dropf (pc := 4) (L' := [some (.ref 67), some (.int (iI p0)), some (.int (iI v13)), some (.int (iI (i3 + 1))), none, none]) [true, true, true, true, false, false] rfl ?_
          exact ih v13 (i3 + 1) m12
        · refine T_icmp_le_same (pc := 67) (tgt := 75) dX10_mostOf_67 (by decide) (fun h15 => ?_) (fun h15 => ?_)
          · refine J_iload_n (pc := 75) dX10_mostOf_75 rfl rfl ?_
            exact T_top (by rw [ev13, if_neg h15]) hj14
          · refine J_iload (pc := 70) dX10_mostOf_70 rfl ?_
            refine J_goto (pc := 72) (tgt := 76) dX10_mostOf_72 (by decide) ?_
            exact T_top (by rw [ev13, if_pos h15]) hj14
def f_X10_mostOf (m0 : Mem) (p0 : Int) : Option (Int × Mem) := f_X10_mostOf_L4 p0 100000 0 0 m0
set_option maxRecDepth 40000 in
theorem m_X10_mostOf {l : Launch} {G : qG} (m0 : Mem) (p0 : Int) : qM l G 2 yX10_mostOf cX10_mostOf 6 (some .int) [.ref 67, .int (iI p0)] (lay m0) (lf eI (f_X10_mostOf m0 p0)) := by
  refine qM_of (L := [some (.ref 67), some (.int (iI p0)), none, none, none, none]) (by decide +kernel) (Nat.le_of_ble_eq_true rfl) rfl ?_
  unfold f_X10_mostOf
  refine J_iconst (pc := 0) dX10_mostOf_0 ?_
  refine J_istore_n (pc := 1) (L' := [some (.ref 67), some (.int (iI p0)), some (.int (iI 0)), none, none, none]) dX10_mostOf_1 rfl (by decide) rfl rfl ?_
  refine J_iconst (pc := 2) dX10_mostOf_2 ?_
  refine J_istore_n (pc := 3) (L' := [some (.ref 67), some (.int (iI p0)), some (.int (iI 0)), some (.int (iI 0)), none, none]) dX10_mostOf_3 rfl (by decide) rfl rfl ?_
  refine j_X10_mostOf_L4 100000 0 0 m0
def f_X10_parts_L87 (K : Int → Mem → Option (Int × Mem)) (p0 : Int) (i2 : Int) : Nat → Int → Int → Mem → Option (Int × Mem)
  | 0, _, _, _ => none
  | u + 1, i3, i5, mu87 => if w32 i5 < w32 (mu87 67 1) then (bd (f_X10_has mu87 i2 i5) fun r15 m14 => jn (κ := Int → Mem → Option (Int × Mem)) (fun s18 m17 => vl (i3 + s18) fun x19 => f_X10_parts_L87 K p0 i2 u x19 (i5 + 1) m17) fun k16 => if w32 r15 = 0 then (k16 0 m14) else (ck ((40 * p0) + i5) 240 (k16 (w32 (m14 77 (w32 ((40 * p0) + i5)).toNat)) m14))) else (K i3 mu87)
set_option maxRecDepth 40000 in
theorem j_X10_parts_L87 {l : Launch} {G : qG} {K : Int → Mem → Option (Int × Mem)} {p0 : Int} {i2 : Int} (hK : ∀ (x3 : Int) (m : Mem), qJ l G yX10_parts cX10_parts 6 (some .int) 6 131 [some (.ref 67), some (.int (iI p0)), some (.int (iI i2)), some (.long (iL x3)), none, none] [] (lay m) (lf eI (K x3 m))) : ∀ (u : Nat) (i3 : Int) (i5 : Int) (mu87 : Mem), qJ l G yX10_parts cX10_parts 6 (some .int) 6 87 [some (.ref 67), some (.int (iI p0)), some (.int (iI i2)), some (.long (iL i3)), none, some (.int (iI i5))] [] (lay mu87) (lf eI (f_X10_parts_L87 K p0 i2 u i3 i5 mu87)) := by
  intro u
  induction u with
  | zero => intro _ _ mu87; exact T_none
  | succ u ih =>
    intro i3 i5 mu87
    rw [f_X10_parts_L87]
    refine J_iload (pc := 87) dX10_parts_87 rfl ?_
    refine J_aload_n (pc := 89) dX10_parts_89 rfl rfl rfl ?_
    refine tg_X10_107 (pc := 90) rfl dX10_parts_90 ?_
    refine T_icmp_ge (pc := 93) (tgt := 131) dX10_parts_93 (by decide) (fun h13 => ?_) (fun h13 => ?_)
    · refine J_dropf (pc := 131) (L' := [some (.ref 67), some (.int (iI p0)), some (.int (iI i2)), some (.long (iL i3)), none, none]) [true, true, true, true, false, false] rfl ?_
      exact hK i3 mu87
    · refine J_lload_n (pc := 96) dX10_parts_96 rfl rfl ?_
      refine J_iload_n (pc := 97) dX10_parts_97 rfl rfl ?_
      refine J_iload (pc := 98) dX10_parts_98 rfl ?_
      refine T_callSI (pc := 100) (As := [.int (iI i2), .int (iI i5)]) (st := [.long (iL i3)]) ok_yX10_has lm_X10_179 dX10_parts_100 (by decide) (Nat.le_of_ble_eq_true rfl) (m_X10_has mu87 i2 i5) (fun r15 m14 em14 => ?_)
      refine T_jn (κ := Int → Mem → Option (Int × Mem)) (fun k => ∀ (s18 : Int) (m17 : Mem), qJ l G yX10_parts cX10_parts 6 (some .int) 6 123 [some (.ref 67), some (.int (iI p0)), some (.int (iI i2)), none, none, some (.int (iI i5))] [.long (iL s18), .long (iL i3)] (lay m17) (lf eI (k s18 m17))) ?_ (fun k16 hk16 => ?_)
      · intro s18 m17
        refine J_ladd (pc := 123) dX10_parts_123 ?_
        refine T_vlL (pc := 124) (fun x19 ex19 => ?_)
        refine J_lstore_n (pc := 124) (L' := [some (.ref 67), some (.int (iI p0)), some (.int (iI i2)), some (.long (iL x19)), none, some (.int (iI i5))]) dX10_parts_124 rfl (by decide) rfl rfl ?_
        refine J_iinc (pc := 125) (L' := [some (.ref 67), some (.int (iI p0)), some (.int (iI i2)), some (.long (iL x19)), none, some (.int (iI (i5 + 1)))]) dX10_parts_125 rfl (by decide) rfl rfl ?_
        refine J_goto (pc := 128) (tgt := 87) dX10_parts_128 (by decide) ?_
        exact ih x19 (i5 + 1) m17
      · refine T_if_eq (pc := 103) (tgt := 122) dX10_parts_103 (by decide) (fun h20 => ?_) (fun h20 => ?_)
        · refine J_lconst (pc := 122) (z := 0) dX10_parts_122 (by decide) ?_
          refine J_dropf (pc := 123) (L' := [some (.ref 67), some (.int (iI p0)), some (.int (iI i2)), none, none, some (.int (iI i5))]) [true, true, true, false, false, true] rfl ?_
          exact hk16 0 m14
        · refine J_aload_n (pc := 106) dX10_parts_106 rfl rfl rfl ?_
          refine tg_X10_41 (pc := 107) rfl dX10_parts_107 ?_
          refine J_bipush (pc := 110) dX10_parts_110 (by decide) (by decide) ?_
          refine J_iload_n (pc := 112) dX10_parts_112 rfl rfl ?_
          refine J_imul (pc := 113) dX10_parts_113 ?_
          refine J_iload (pc := 114) dX10_parts_114 rfl ?_
          refine J_iadd (pc := 116) dX10_parts_116 ?_
          refine T_iaload (pc := 117) (by decide) rfl dX10_parts_117 (fun h21 => ?_)
          refine J_i2l (pc := 118) dX10_parts_118 ?_
          refine J_goto (pc := 119) (tgt := 123) dX10_parts_119 (by decide) ?_
          refine J_dropf (pc := 123) (L' := [some (.ref 67), some (.int (iI p0)), some (.int (iI i2)), none, none, some (.int (iI i5))]) [true, true, true, false, false, true] rfl ?_
          exact hk16 (w32 (m14 77 (w32 ((40 * p0) + i5)).toNat)) m14
def f_X10_parts_L65 (K : Mem → Option (Int × Mem)) (p0 : Int) : Nat → Int → Mem → Option (Int × Mem)
  | 0, _, _ => none
  | u + 1, i2, mu65 => if w32 i2 < w32 (zshl 1 (mu65 67 1)) then (if w32 (mu65 67 10) < 0 then (f_X10_parts_L87 (fun x22 m23 => bd (f_X10_mostOf m23 i2) fun r25 m24 => vl (if w32 (ycmp x22 (w32 r25)) < 0 then i2 else (-9)) fun v26 => vm (wr m24 67 10 v26) fun m28 => f_X10_parts_L65 K p0 u (i2 + 1) m28) p0 i2 100000 0 0 mu65) else (K mu65)) else (K mu65)
set_option maxRecDepth 40000 in
theorem j_X10_parts_L65 {l : Launch} {G : qG} {K : Mem → Option (Int × Mem)} {p0 : Int} (hK : ∀ (m : Mem), qJ l G yX10_parts cX10_parts 6 (some .int) 6 158 [some (.ref 67), none, none, none, none, none] [] (lay m) (lf eI (K m))) : ∀ (u : Nat) (i2 : Int) (mu65 : Mem), qJ l G yX10_parts cX10_parts 6 (some .int) 6 65 [some (.ref 67), some (.int (iI p0)), some (.int (iI i2)), none, none, none] [] (lay mu65) (lf eI (f_X10_parts_L65 K p0 u i2 mu65)) := by
  intro u
  induction u with
  | zero => intro _ mu65; exact T_none
  | succ u ih =>
    intro i2 mu65
    rw [f_X10_parts_L65]
    refine J_iload_n (pc := 65) dX10_parts_65 rfl rfl ?_
    refine J_iconst (pc := 66) dX10_parts_66 ?_
    refine J_aload_n (pc := 67) dX10_parts_67 rfl rfl rfl ?_
    refine tg_X10_107 (pc := 68) rfl dX10_parts_68 ?_
    refine J_ishl (pc := 71) dX10_parts_71 ?_
    refine T_icmp_ge (pc := 72) (tgt := 158) dX10_parts_72 (by decide) (fun h11 => ?_) (fun h11 => ?_)
    · refine J_dropf (pc := 158) (L' := [some (.ref 67), none, none, none, none, none]) [true, false, false, false, false, false] rfl ?_
      exact hK  mu65
    · refine J_aload_n (pc := 75) dX10_parts_75 rfl rfl rfl ?_
      refine tg_X10_118 (pc := 76) rfl dX10_parts_76 ?_
      refine T_if_ge (pc := 79) (tgt := 158) dX10_parts_79 (by decide) (fun h12 => ?_) (fun h12 => ?_)
      · refine J_dropf (pc := 158) (L' := [some (.ref 67), none, none, none, none, none]) [true, false, false, false, false, false] rfl ?_
        exact hK  mu65
      · refine J_lconst (pc := 82) (z := 0) dX10_parts_82 (by decide) ?_
        refine J_lstore_n (pc := 83) (L' := [some (.ref 67), some (.int (iI p0)), some (.int (iI i2)), some (.long (iL 0)), none, none]) dX10_parts_83 rfl (by decide) rfl rfl ?_
        refine J_iconst (pc := 84) dX10_parts_84 ?_
        refine J_istore (pc := 85) (L' := [some (.ref 67), some (.int (iI p0)), some (.int (iI i2)), some (.long (iL 0)), none, some (.int (iI 0))]) dX10_parts_85 (by decide) rfl rfl ?_
        refine j_X10_parts_L87 ?_ 100000 0 0 mu65
        · intro x22 m23
          refine J_aload_n (pc := 131) dX10_parts_131 rfl rfl rfl ?_
          refine J_lload_n (pc := 132) dX10_parts_132 rfl rfl ?_
          refine J_aload_n (pc := 133) dX10_parts_133 rfl rfl rfl ?_
          refine J_iload_n (pc := 134) dX10_parts_134 rfl rfl ?_
          refine T_callVI (pc := 135) (As := [.int (iI i2)]) (k := 67) (st := [.long (iL x22), .ref 67]) ok_yX10_mostOf lm_X10_274 dX10_parts_135 (by decide) rfl rfl (by decide) (Nat.le_of_ble_eq_true rfl) (m_X10_mostOf m23 i2) (fun r25 m24 em24 => ?_)
          refine J_i2l (pc := 138) dX10_parts_138 ?_
          refine J_lcmp (pc := 139) dX10_parts_139 ?_
          refine T_vl (fun v26 ev26 => ?_)
          refine T_dia (j := 149) (v := v26) (LT := [some (.ref 67), some (.int (iI p0)), some (.int (iI i2)), some (.long (iL x22)), none, none]) (sT := [.ref 67]) ?_ (fun hj27 => ?_)
          · refine tp_X10_118 (pc := 149) rfl dX10_parts_149 ?_
            refine T_vm (fun m28 em28 => ?_)
            refine J_iinc (pc := 152) (L' := [some (.ref 67), some (.int (iI p0)), some (.int (iI (i2 + 1))), some (.long (iL x22)), none, none]) dX10_parts_152 rfl (by decide) rfl rfl ?_
            refine J_goto (pc := 155) (tgt := 65) dX10_parts_155 (by decide) ?_
            refine J_dropf (pc := 65) (L' := [some (.ref 67), some (.int (iI p0)), some (.int (iI (i2 + 1))), none, none, none]) [true, true, true, false, false, false] rfl ?_
            exact ih (i2 + 1) m28
          · refine T_if_ge_same (pc := 140) (tgt := 147) dX10_parts_140 (by decide) (fun h29 => ?_) (fun h29 => ?_)
            · refine J_bipush (pc := 147) dX10_parts_147 (by decide) (by decide) ?_
              exact T_top (by rw [ev26, if_neg h29]) hj27
            · refine J_iload_n (pc := 143) dX10_parts_143 rfl rfl ?_
              refine J_goto (pc := 144) (tgt := 149) dX10_parts_144 (by decide) ?_
              exact T_top (by rw [ev26, if_pos h29]) hj27
def f_X10_parts (m0 : Mem) (p0 : Int) : Option (Int × Mem) := bd (f_X10_isRow m0 p0) fun r2 m1 => if w32 r2 = 0 then (some ((-1), m1)) else (if w32 (m1 67 0) = 0 then (some ((-4), m1)) else (ck p0 6 (if w32 (m1 76 (w32 p0).toNat) < 0 then (bd (f_X10_finds m1 1) fun r37 m36 => some (r37, m36)) else (ck p0 6 (if w32 (m1 76 (w32 p0).toNat) = w32 (m1 67 1) then (bd (f_X10_findGains m1) fun _u m9 => vm (wr m9 67 10 (-9)) fun m10 => f_X10_parts_L65 (fun m30 => vl (if w32 (m30 67 10) < 0 then 1 else 0) fun v31 => some (v31, m30)) p0 100000 0 m10) else (bd (f_X10_finds m1 5) fun r35 m34 => some (r35, m34)))))))
set_option maxRecDepth 40000 in
theorem m_X10_parts {l : Launch} {G : qG} (m0 : Mem) (p0 : Int) : qM l G 6 yX10_parts cX10_parts 6 (some .int) [.ref 67, .int (iI p0)] (lay m0) (lf eI (f_X10_parts m0 p0)) := by
  refine qM_of (L := [some (.ref 67), some (.int (iI p0)), none, none, none, none]) (by decide +kernel) (Nat.le_of_ble_eq_true rfl) rfl ?_
  unfold f_X10_parts
  refine J_iload_n (pc := 0) dX10_parts_0 rfl rfl ?_
  refine T_callSI (pc := 1) (As := [.int (iI p0)]) (st := []) ok_yX10_isRow lm_X10_110 dX10_parts_1 (by decide) (Nat.le_of_ble_eq_true rfl) (m_X10_isRow m0 p0) (fun r2 m1 em1 => ?_)
  refine T_if_ne (pc := 4) (tgt := 9) dX10_parts_4 (by decide) (fun h3 => ?_) (fun h3 => ?_)
  · refine J_aload_n (pc := 9) dX10_parts_9 rfl rfl rfl ?_
    refine tg_X10_104 (pc := 10) rfl dX10_parts_10 ?_
    refine T_if_ne (pc := 13) (tgt := 19) dX10_parts_13 (by decide) (fun h4 => ?_) (fun h4 => ?_)
    · refine J_aload_n (pc := 19) dX10_parts_19 rfl rfl rfl ?_
      refine tg_X10_38 (pc := 20) rfl dX10_parts_20 ?_
      refine J_iload_n (pc := 23) dX10_parts_23 rfl rfl ?_
      refine T_iaload (pc := 24) (by decide) rfl dX10_parts_24 (fun h5 => ?_)
      refine T_if_ge (pc := 25) (tgt := 34) dX10_parts_25 (by decide) (fun h6 => ?_) (fun h6 => ?_)
      · refine J_aload_n (pc := 34) dX10_parts_34 rfl rfl rfl ?_
        refine tg_X10_38 (pc := 35) rfl dX10_parts_35 ?_
        refine J_iload_n (pc := 38) dX10_parts_38 rfl rfl ?_
        refine T_iaload (pc := 39) (by decide) rfl dX10_parts_39 (fun h7 => ?_)
        refine J_aload_n (pc := 40) dX10_parts_40 rfl rfl rfl ?_
        refine tg_X10_107 (pc := 41) rfl dX10_parts_41 ?_
        refine T_icmp_eq (pc := 44) (tgt := 53) dX10_parts_44 (by decide) (fun h8 => ?_) (fun h8 => ?_)
        · refine J_aload_n (pc := 53) dX10_parts_53 rfl rfl rfl ?_
          refine T_callVU (pc := 54) (As := []) (k := 67) (st := []) ok_yX10_findGains lm_X10_268 dX10_parts_54 (by decide) rfl rfl (by decide) (Nat.le_of_ble_eq_true rfl) (m_X10_findGains m1) (fun _u m9 em9 => ?_)
          refine J_aload_n (pc := 57) dX10_parts_57 rfl rfl rfl ?_
          refine J_bipush (pc := 58) dX10_parts_58 (by decide) (by decide) ?_
          refine tp_X10_118 (pc := 60) rfl dX10_parts_60 ?_
          refine T_vm (fun m10 em10 => ?_)
          refine J_iconst (pc := 63) dX10_parts_63 ?_
          refine J_istore_n (pc := 64) (L' := [some (.ref 67), some (.int (iI p0)), some (.int (iI 0)), none, none, none]) dX10_parts_64 rfl (by decide) rfl rfl ?_
          refine j_X10_parts_L65 ?_ 100000 0 m10
          · intro m30
            refine J_aload_n (pc := 158) dX10_parts_158 rfl rfl rfl ?_
            refine tg_X10_118 (pc := 159) rfl dX10_parts_159 ?_
            refine T_vl (fun v31 ev31 => ?_)
            refine T_dia (j := 170) (v := v31) (LT := [some (.ref 67), none, none, none, none, none]) (sT := []) ?_ (fun hj32 => ?_)
            · exact T_retI (pc := 170) rfl dX10_parts_170
            · refine T_if_ge_same (pc := 162) (tgt := 169) dX10_parts_162 (by decide) (fun h33 => ?_) (fun h33 => ?_)
              · refine J_iconst (pc := 169) dX10_parts_169 ?_
                exact T_top (by rw [ev31, if_neg h33]) hj32
              · refine J_iconst (pc := 165) dX10_parts_165 ?_
                refine J_goto (pc := 166) (tgt := 170) dX10_parts_166 (by decide) ?_
                exact T_top (by rw [ev31, if_pos h33]) hj32
        · refine J_aload_n (pc := 47) dX10_parts_47 rfl rfl rfl ?_
          refine J_iconst (pc := 48) dX10_parts_48 ?_
          refine T_callVI (pc := 49) (As := [.int (iI 5)]) (k := 67) (st := []) ok_yX10_finds lm_X10_114 dX10_parts_49 (by decide) rfl rfl (by decide) (Nat.le_of_ble_eq_true rfl) (m_X10_finds m1 5) (fun r35 m34 em34 => ?_)
          exact T_retI (pc := 52) rfl dX10_parts_52
      · refine J_aload_n (pc := 28) dX10_parts_28 rfl rfl rfl ?_
        refine J_iconst (pc := 29) dX10_parts_29 ?_
        refine T_callVI (pc := 30) (As := [.int (iI 1)]) (k := 67) (st := []) ok_yX10_finds lm_X10_114 dX10_parts_30 (by decide) rfl rfl (by decide) (Nat.le_of_ble_eq_true rfl) (m_X10_finds m1 1) (fun r37 m36 em36 => ?_)
        exact T_retI (pc := 33) rfl dX10_parts_33
    · refine J_bipush (pc := 16) dX10_parts_16 (by decide) (by decide) ?_
      exact T_retI (pc := 18) rfl dX10_parts_18
  · refine J_iconst (pc := 7) dX10_parts_7 ?_
    exact T_retI (pc := 8) rfl dX10_parts_8
def f_X10_seenRefused (m0 : Mem) (p0 : Int) : Option (Int × Mem) := if w32 (m0 67 0) = 0 then (some ((-4), m0)) else (ck p0 6 (if w32 (m0 76 (w32 p0).toNat) < 0 then (bd (f_X10_finds m0 1) fun r9 m8 => some (r9, m8)) else (ck p0 6 (if w32 3 < w32 (m0 76 (w32 p0).toNat) then (bd (f_X10_finds m0 5) fun r7 m6 => some (r7, m6)) else (some (0, m0))))))
set_option maxRecDepth 40000 in
theorem m_X10_seenRefused {l : Launch} {G : qG} (m0 : Mem) (p0 : Int) : qM l G 2 yX10_seenRefused cX10_seenRefused 2 (some .int) [.ref 67, .int (iI p0)] (lay m0) (lf eI (f_X10_seenRefused m0 p0)) := by
  refine qM_of (L := [some (.ref 67), some (.int (iI p0))]) (by decide +kernel) (Nat.le_of_ble_eq_true rfl) rfl ?_
  unfold f_X10_seenRefused
  refine J_aload_n (pc := 0) dX10_seenRefused_0 rfl rfl rfl ?_
  refine tg_X10_104 (pc := 1) rfl dX10_seenRefused_1 ?_
  refine T_if_ne (pc := 4) (tgt := 10) dX10_seenRefused_4 (by decide) (fun h1 => ?_) (fun h1 => ?_)
  · refine J_aload_n (pc := 10) dX10_seenRefused_10 rfl rfl rfl ?_
    refine tg_X10_38 (pc := 11) rfl dX10_seenRefused_11 ?_
    refine J_iload_n (pc := 14) dX10_seenRefused_14 rfl rfl ?_
    refine T_iaload (pc := 15) (by decide) rfl dX10_seenRefused_15 (fun h2 => ?_)
    refine T_if_ge (pc := 16) (tgt := 25) dX10_seenRefused_16 (by decide) (fun h3 => ?_) (fun h3 => ?_)
    · refine J_aload_n (pc := 25) dX10_seenRefused_25 rfl rfl rfl ?_
      refine tg_X10_38 (pc := 26) rfl dX10_seenRefused_26 ?_
      refine J_iload_n (pc := 29) dX10_seenRefused_29 rfl rfl ?_
      refine T_iaload (pc := 30) (by decide) rfl dX10_seenRefused_30 (fun h4 => ?_)
      refine J_iconst (pc := 31) dX10_seenRefused_31 ?_
      refine T_icmp_le (pc := 32) (tgt := 43) dX10_seenRefused_32 (by decide) (fun h5 => ?_) (fun h5 => ?_)
      · refine J_iconst (pc := 43) dX10_seenRefused_43 ?_
        exact T_retI (pc := 44) rfl dX10_seenRefused_44
      · refine J_aload_n (pc := 35) dX10_seenRefused_35 rfl rfl rfl ?_
        refine J_iconst (pc := 36) dX10_seenRefused_36 ?_
        refine T_callVI (pc := 37) (As := [.int (iI 5)]) (k := 67) (st := []) ok_yX10_finds lm_X10_114 dX10_seenRefused_37 (by decide) rfl rfl (by decide) (Nat.le_of_ble_eq_true rfl) (m_X10_finds m0 5) (fun r7 m6 em6 => ?_)
        refine J_goto (pc := 40) (tgt := 44) dX10_seenRefused_40 (by decide) ?_
        exact T_retI (pc := 44) rfl dX10_seenRefused_44
    · refine J_aload_n (pc := 19) dX10_seenRefused_19 rfl rfl rfl ?_
      refine J_iconst (pc := 20) dX10_seenRefused_20 ?_
      refine T_callVI (pc := 21) (As := [.int (iI 1)]) (k := 67) (st := []) ok_yX10_finds lm_X10_114 dX10_seenRefused_21 (by decide) rfl rfl (by decide) (Nat.le_of_ble_eq_true rfl) (m_X10_finds m0 1) (fun r9 m8 em8 => ?_)
      exact T_retI (pc := 24) rfl dX10_seenRefused_24
  · refine J_bipush (pc := 7) dX10_seenRefused_7 (by decide) (by decide) ?_
    exact T_retI (pc := 9) rfl dX10_seenRefused_9
def f_X10_isSo_L14 (K : Int → Mem → Option (Int × Mem)) (p0 : Int) (p1 : Int) (p2 : Int) (x2 : Int) : Nat → Int → Int → Mem → Option (Int × Mem)
  | 0, _, _, _ => none
  | u + 1, i5, i6, mu14 => if w32 i6 < w32 x2 then (if w32 i5 = 0 then (K i5 mu14) else (bd (f_X10_setOf mu14 p2 x2 i6) fun r6 m5 => bd (f_X10_goHour m5 r6) fun r8 m7 => jn (κ := Int → Mem → Option (Int × Mem)) (fun s11 m10 => f_X10_isSo_L14 K p0 p1 p2 x2 u s11 (i6 + 1) m10) fun k9 => jn (κ := Mem → Option (Int × Mem)) (fun m13 => k9 0 m13) fun k12 => if w32 (zand r6 (zxor p0 (-1))) = 0 then (ck 0 16 (ck ((40 * p1) + i6) 240 (if w32 (m7 73 (w32 0).toNat) = w32 (m7 77 (w32 ((40 * p1) + i6)).toNat) then (k9 1 m7) else (k12 m7)))) else (k12 m7))) else (K i5 mu14)
set_option maxRecDepth 40000 in
theorem j_X10_isSo_L14 {l : Launch} {G : qG} {K : Int → Mem → Option (Int × Mem)} {p0 : Int} {p1 : Int} {p2 : Int} {x2 : Int} (hK : ∀ (x5 : Int) (m : Mem), qJ l G yX10_isSo cX10_isSo 9 (some .boolean) 5 88 [some (.ref 67), none, none, none, none, some (.int (iI x5)), none, none, none] [] (lay m) (lf eI (K x5 m))) : ∀ (u : Nat) (i5 : Int) (i6 : Int) (mu14 : Mem), qJ l G yX10_isSo cX10_isSo 9 (some .boolean) 5 14 [some (.ref 67), some (.int (iI p0)), some (.int (iI p1)), some (.int (iI p2)), some (.int (iI x2)), some (.int (iI i5)), some (.int (iI i6)), none, none] [] (lay mu14) (lf eI (f_X10_isSo_L14 K p0 p1 p2 x2 u i5 i6 mu14)) := by
  intro u
  induction u with
  | zero => intro _ _ mu14; exact T_none
  | succ u ih =>
    intro i5 i6 mu14
    rw [f_X10_isSo_L14]
    refine J_iload (pc := 14) dX10_isSo_14 rfl ?_
    refine J_iload (pc := 16) dX10_isSo_16 rfl ?_
    refine T_icmp_ge (pc := 18) (tgt := 88) dX10_isSo_18 (by decide) (fun h3 => ?_) (fun h3 => ?_)
    · refine J_dropf (pc := 88) (L' := [some (.ref 67), none, none, none, none, some (.int (iI i5)), none, none, none]) [true, false, false, false, false, true, false, false, false] rfl ?_
      exact hK i5 mu14
    · refine J_iload (pc := 21) dX10_isSo_21 rfl ?_
      refine T_if_eq (pc := 23) (tgt := 88) dX10_isSo_23 (by decide) (fun h4 => ?_) (fun h4 => ?_)
      · refine J_dropf (pc := 88) (L' := [some (.ref 67), none, none, none, none, some (.int (iI i5)), none, none, none]) [true, false, false, false, false, true, false, false, false] rfl ?_
        exact hK i5 mu14
      · refine J_aload_n (pc := 26) dX10_isSo_26 rfl rfl rfl ?_
        refine J_iload_n (pc := 27) dX10_isSo_27 rfl rfl ?_
        refine J_iload (pc := 28) dX10_isSo_28 rfl ?_
        refine J_iload (pc := 30) dX10_isSo_30 rfl ?_
        refine T_callVI (pc := 32) (As := [.int (iI p2), .int (iI x2), .int (iI i6)]) (k := 67) (st := []) ok_yX10_setOf lm_X10_248 dX10_isSo_32 (by decide) rfl rfl (by decide) (Nat.le_of_ble_eq_true rfl) (m_X10_setOf mu14 p2 x2 i6) (fun r6 m5 em5 => ?_)
        refine J_istore (pc := 35) (L' := [some (.ref 67), some (.int (iI p0)), some (.int (iI p1)), some (.int (iI p2)), some (.int (iI x2)), some (.int (iI i5)), some (.int (iI i6)), some (.int (iI r6)), none]) dX10_isSo_35 (by decide) rfl rfl ?_
        refine J_aload_n (pc := 37) dX10_isSo_37 rfl rfl rfl ?_
        refine J_iload (pc := 38) dX10_isSo_38 rfl ?_
        refine T_callVI (pc := 40) (As := [.int (iI r6)]) (k := 67) (st := []) ok_yX10_goHour lm_X10_224 dX10_isSo_40 (by decide) rfl rfl (by decide) (Nat.le_of_ble_eq_true rfl) (m_X10_goHour m5 r6) (fun r8 m7 em7 => ?_)
        refine J_istore (pc := 43) (L' := [some (.ref 67), some (.int (iI p0)), some (.int (iI p1)), some (.int (iI p2)), some (.int (iI x2)), some (.int (iI i5)), some (.int (iI i6)), some (.int (iI r6)), some (.int (iI r8))]) dX10_isSo_43 (by decide) rfl rfl ?_
        refine J_iload (pc := 45) dX10_isSo_45 rfl ?_
        refine J_iload_n (pc := 47) dX10_isSo_47 rfl rfl ?_
        refine J_iconst (pc := 48) dX10_isSo_48 ?_
        refine J_ixor (pc := 49) dX10_isSo_49 ?_
        refine J_iand (pc := 50) dX10_isSo_50 ?_
        refine T_jn (κ := Int → Mem → Option (Int × Mem)) (fun k => ∀ (s11 : Int) (m10 : Mem), qJ l G yX10_isSo cX10_isSo 9 (some .boolean) 5 80 [some (.ref 67), some (.int (iI p0)), some (.int (iI p1)), some (.int (iI p2)), some (.int (iI x2)), none, some (.int (iI i6)), none, none] [.int (iI s11)] (lay m10) (lf eI (k s11 m10))) ?_ (fun k9 hk9 => ?_)
        · intro s11 m10
          refine J_istore (pc := 80) (L' := [some (.ref 67), some (.int (iI p0)), some (.int (iI p1)), some (.int (iI p2)), some (.int (iI x2)), some (.int (iI s11)), some (.int (iI i6)), none, none]) dX10_isSo_80 (by decide) rfl rfl ?_
          refine J_iinc (pc := 82) (L' := [some (.ref 67), some (.int (iI p0)), some (.int (iI p1)), some (.int (iI p2)), some (.int (iI x2)), some (.int (iI s11)), some (.int (iI (i6 + 1))), none, none]) dX10_isSo_82 rfl (by decide) rfl rfl ?_
          refine J_goto (pc := 85) (tgt := 14) dX10_isSo_85 (by decide) ?_
          exact ih s11 (i6 + 1) m10
        · refine T_jn (κ := Mem → Option (Int × Mem)) (fun k => ∀ (m13 : Mem), qJ l G yX10_isSo cX10_isSo 9 (some .boolean) 5 79 [some (.ref 67), some (.int (iI p0)), some (.int (iI p1)), some (.int (iI p2)), some (.int (iI x2)), none, some (.int (iI i6)), none, none] [] (lay m13) (lf eI (k m13))) ?_ (fun k12 hk12 => ?_)
          · intro m13
            refine J_iconst (pc := 79) dX10_isSo_79 ?_
            exact hk9 0 m13
          · refine T_if_ne (pc := 51) (tgt := 79) dX10_isSo_51 (by decide) (fun h14 => ?_) (fun h14 => ?_)
            · refine J_dropf (pc := 79) (L' := [some (.ref 67), some (.int (iI p0)), some (.int (iI p1)), some (.int (iI p2)), some (.int (iI x2)), none, some (.int (iI i6)), none, none]) [true, true, true, true, true, false, true, false, false] rfl ?_
              exact hk12  m7
            · refine J_aload_n (pc := 54) dX10_isSo_54 rfl rfl rfl ?_
              refine tg_X10_25 (pc := 55) rfl dX10_isSo_55 ?_
              refine J_iconst (pc := 58) dX10_isSo_58 ?_
              refine T_iaload (pc := 59) (by decide) rfl dX10_isSo_59 (fun h15 => ?_)
              refine J_aload_n (pc := 60) dX10_isSo_60 rfl rfl rfl ?_
              refine tg_X10_41 (pc := 61) rfl dX10_isSo_61 ?_
              refine J_bipush (pc := 64) dX10_isSo_64 (by decide) (by decide) ?_
              refine J_iload_n (pc := 66) dX10_isSo_66 rfl rfl ?_
              refine J_imul (pc := 67) dX10_isSo_67 ?_
              refine J_iload (pc := 68) dX10_isSo_68 rfl ?_
              refine J_iadd (pc := 70) dX10_isSo_70 ?_
              refine T_iaload (pc := 71) (by decide) rfl dX10_isSo_71 (fun h16 => ?_)
              refine T_icmp_ne (pc := 72) (tgt := 79) dX10_isSo_72 (by decide) (fun h17 => ?_) (fun h17 => ?_)
              · refine J_dropf (pc := 79) (L' := [some (.ref 67), some (.int (iI p0)), some (.int (iI p1)), some (.int (iI p2)), some (.int (iI x2)), none, some (.int (iI i6)), none, none]) [true, true, true, true, true, false, true, false, false] rfl ?_
                exact hk12  m7
              · refine J_iconst (pc := 75) dX10_isSo_75 ?_
                refine J_goto (pc := 76) (tgt := 80) dX10_isSo_76 (by decide) ?_
                refine J_dropf (pc := 80) (L' := [some (.ref 67), some (.int (iI p0)), some (.int (iI p1)), some (.int (iI p2)), some (.int (iI x2)), none, some (.int (iI i6)), none, none]) [true, true, true, true, true, false, true, false, false] rfl ?_
                exact hk9 1 m7
def f_X10_isSo (m0 : Mem) (p0 : Int) (p1 : Int) (p2 : Int) : Option (Int × Mem) := ck p1 6 (vl (m0 76 (w32 p1).toNat) fun x2 => f_X10_isSo_L14 (fun x18 m19 => bd (f_X10_putBack m19) fun _u m20 => ckb x18 (some (x18, m20))) p0 p1 p2 x2 100000 1 0 m0)
set_option maxRecDepth 40000 in
theorem m_X10_isSo {l : Launch} {G : qG} (m0 : Mem) (p0 : Int) (p1 : Int) (p2 : Int) : qM l G 5 yX10_isSo cX10_isSo 9 (some .boolean) [.ref 67, .int (iI p0), .int (iI p1), .int (iI p2)] (lay m0) (lf eI (f_X10_isSo m0 p0 p1 p2)) := by
  refine qM_of (L := [some (.ref 67), some (.int (iI p0)), some (.int (iI p1)), some (.int (iI p2)), none, none, none, none, none]) (by decide +kernel) (Nat.le_of_ble_eq_true rfl) rfl ?_
  unfold f_X10_isSo
  refine J_aload_n (pc := 0) dX10_isSo_0 rfl rfl rfl ?_
  refine tg_X10_38 (pc := 1) rfl dX10_isSo_1 ?_
  refine J_iload_n (pc := 4) dX10_isSo_4 rfl rfl ?_
  refine T_iaload (pc := 5) (by decide) rfl dX10_isSo_5 (fun h1 => ?_)
  refine T_vlI (pc := 6) (fun x2 ex2 => ?_)
  refine J_istore (pc := 6) (L' := [some (.ref 67), some (.int (iI p0)), some (.int (iI p1)), some (.int (iI p2)), some (.int (iI x2)), none, none, none, none]) dX10_isSo_6 (by decide) rfl rfl ?_
  refine J_iconst (pc := 8) dX10_isSo_8 ?_
  refine J_istore (pc := 9) (L' := [some (.ref 67), some (.int (iI p0)), some (.int (iI p1)), some (.int (iI p2)), some (.int (iI x2)), some (.int (iI 1)), none, none, none]) dX10_isSo_9 (by decide) rfl rfl ?_
  refine J_iconst (pc := 11) dX10_isSo_11 ?_
  refine J_istore (pc := 12) (L' := [some (.ref 67), some (.int (iI p0)), some (.int (iI p1)), some (.int (iI p2)), some (.int (iI x2)), some (.int (iI 1)), some (.int (iI 0)), none, none]) dX10_isSo_12 (by decide) rfl rfl ?_
  refine j_X10_isSo_L14 ?_ 100000 1 0 m0
  · intro x18 m19
    refine J_aload_n (pc := 88) dX10_isSo_88 rfl rfl rfl ?_
    refine T_callVU (pc := 89) (As := []) (k := 67) (st := []) ok_yX10_putBack lm_X10_239 dX10_isSo_89 (by decide) rfl rfl (by decide) (Nat.le_of_ble_eq_true rfl) (m_X10_putBack m19) (fun _u m20 em20 => ?_)
    refine J_iload (pc := 92) dX10_isSo_92 rfl ?_
    exact T_retB (pc := 94) rfl dX10_isSo_94
def f_X10_fits_L60 (K : Int → Int → Mem → Option (Int × Mem)) (p0 : Int) (p1 : Int) (x15 : Int) : Nat → Int → Int → Int → Mem → Option (Int × Mem)
  | 0, _, _, _, _ => none
  | u + 1, i6, i7, i8, mu60 => bd (f_X10_codes mu60 x15) fun r17 m16 => if w32 i8 < w32 r17 then (bd (f_X10_isSo m16 p0 p1 i8) fun r20 m19 => vl (if w32 r20 = 0 then i7 else (if w32 i6 = 0 then i8 else i7)) fun v21 => vl (if w32 r20 = 0 then 0 else 1) fun v23 => vl (i6 + v23) fun x25 => f_X10_fits_L60 K p0 p1 x15 u x25 v21 (i8 + 1) m19) else (K i6 i7 m16)
set_option maxRecDepth 40000 in
theorem j_X10_fits_L60 {l : Launch} {G : qG} {K : Int → Int → Mem → Option (Int × Mem)} {p0 : Int} {p1 : Int} {x15 : Int} {p2 : Int} (hK : ∀ (x6 : Int) (x7 : Int) (m : Mem), qJ l G yX10_fits cX10_fits 10 (some .int) 6 121 [some (.ref 67), none, none, some (.int (iI p2)), none, some (.int (iI x15)), some (.int (iI x6)), some (.int (iI x7)), none, none] [] (lay m) (lf eI (K x6 x7 m))) : ∀ (u : Nat) (i6 : Int) (i7 : Int) (i8 : Int) (mu60 : Mem), qJ l G yX10_fits cX10_fits 10 (some .int) 6 60 [some (.ref 67), some (.int (iI p0)), some (.int (iI p1)), some (.int (iI p2)), none, some (.int (iI x15)), some (.int (iI i6)), some (.int (iI i7)), some (.int (iI i8)), none] [] (lay mu60) (lf eI (f_X10_fits_L60 K p0 p1 x15 u i6 i7 i8 mu60)) := by
  intro u
  induction u with
  | zero => intro _ _ _ mu60; exact T_none
  | succ u ih =>
    intro i6 i7 i8 mu60
    rw [f_X10_fits_L60]
    refine J_iload (pc := 60) dX10_fits_60 rfl ?_
    refine J_aload_n (pc := 62) dX10_fits_62 rfl rfl rfl ?_
    refine J_iload (pc := 63) dX10_fits_63 rfl ?_
    refine T_callVI (pc := 65) (As := [.int (iI x15)]) (k := 67) (st := [.int (iI i8)]) ok_yX10_codes lm_X10_251 dX10_fits_65 (by decide) rfl rfl (by decide) (Nat.le_of_ble_eq_true rfl) (m_X10_codes mu60 x15) (fun r17 m16 em16 => ?_)
    refine T_icmp_ge (pc := 68) (tgt := 121) dX10_fits_68 (by decide) (fun h18 => ?_) (fun h18 => ?_)
    · refine J_dropf (pc := 121) (L' := [some (.ref 67), none, none, some (.int (iI p2)), none, some (.int (iI x15)), some (.int (iI i6)), some (.int (iI i7)), none, none]) [true, false, false, true, false, true, true, true, false, false] rfl ?_
      exact hK i6 i7 m16
    · refine J_aload_n (pc := 71) dX10_fits_71 rfl rfl rfl ?_
      refine J_iload_n (pc := 72) dX10_fits_72 rfl rfl ?_
      refine J_iload_n (pc := 73) dX10_fits_73 rfl rfl ?_
      refine J_iload (pc := 74) dX10_fits_74 rfl ?_
      refine T_callVI (pc := 76) (As := [.int (iI p0), .int (iI p1), .int (iI i8)]) (k := 67) (st := []) ok_yX10_isSo lm_X10_280 dX10_fits_76 (by decide) rfl rfl (by decide) (Nat.le_of_ble_eq_true rfl) (m_X10_isSo m16 p0 p1 i8) (fun r20 m19 em19 => ?_)
      refine J_istore (pc := 79) (L' := [some (.ref 67), some (.int (iI p0)), some (.int (iI p1)), some (.int (iI p2)), none, some (.int (iI x15)), some (.int (iI i6)), some (.int (iI i7)), some (.int (iI i8)), some (.int (iI r20))]) dX10_fits_79 (by decide) rfl rfl ?_
      refine J_iload (pc := 81) dX10_fits_81 rfl ?_
      refine T_vl (fun v21 ev21 => ?_)
      refine T_dia (j := 98) (v := v21) (LT := [some (.ref 67), some (.int (iI p0)), some (.int (iI p1)), some (.int (iI p2)), none, some (.int (iI x15)), some (.int (iI i6)), some (.int (iI i7)), some (.int (iI i8)), some (.int (iI r20))]) (sT := []) ?_ (fun hj22 => ?_)
      · refine J_istore (pc := 98) (L' := [some (.ref 67), some (.int (iI p0)), some (.int (iI p1)), some (.int (iI p2)), none, some (.int (iI x15)), some (.int (iI i6)), some (.int (iI v21)), some (.int (iI i8)), some (.int (iI r20))]) dX10_fits_98 (by decide) rfl rfl ?_
        refine J_iload (pc := 100) dX10_fits_100 rfl ?_
        refine J_iload (pc := 102) dX10_fits_102 rfl ?_
        refine T_vl (fun v23 ev23 => ?_)
        refine T_dia (j := 112) (v := v23) (LT := [some (.ref 67), some (.int (iI p0)), some (.int (iI p1)), some (.int (iI p2)), none, some (.int (iI x15)), some (.int (iI i6)), some (.int (iI v21)), some (.int (iI i8)), some (.int (iI r20))]) (sT := [.int (iI i6)]) ?_ (fun hj24 => ?_)
        · refine J_iadd (pc := 112) dX10_fits_112 ?_
          refine T_vlI (pc := 113) (fun x25 ex25 => ?_)
          refine J_istore (pc := 113) (L' := [some (.ref 67), some (.int (iI p0)), some (.int (iI p1)), some (.int (iI p2)), none, some (.int (iI x15)), some (.int (iI x25)), some (.int (iI v21)), some (.int (iI i8)), some (.int (iI r20))]) dX10_fits_113 (by decide) rfl rfl ?_
          refine J_iinc (pc := 115) (L' := [some (.ref 67), some (.int (iI p0)), some (.int (iI p1)), some (.int (iI p2)), none, some (.int (iI x15)), some (.int (iI x25)), some (.int (iI v21)), some (.int (iI (i8 + 1))), some (.int (iI r20))]) dX10_fits_115 rfl (by decide) rfl rfl ?_
          refine J_goto (pc := 118) (tgt := 60) dX10_fits_118 (by decide) ?_
          refine J_dropf (pc := 60) (L' := [some (.ref 67), some (.int (iI p0)), some (.int (iI p1)), some (.int (iI p2)), none, some (.int (iI x15)), some (.int (iI x25)), some (.int (iI v21)), some (.int (iI (i8 + 1))), none]) [true, true, true, true, false, true, true, true, true, false] rfl ?_
          exact ih x25 v21 (i8 + 1) m19
        · refine T_if_eq_same (pc := 104) (tgt := 111) dX10_fits_104 (by decide) (fun h26 => ?_) (fun h26 => ?_)
          · refine J_iconst (pc := 111) dX10_fits_111 ?_
            exact T_top (by rw [ev23, if_pos h26]) hj24
          · refine J_iconst (pc := 107) dX10_fits_107 ?_
            refine J_goto (pc := 108) (tgt := 112) dX10_fits_108 (by decide) ?_
            exact T_top (by rw [ev23, if_neg h26]) hj24
      · refine T_if_eq_same (pc := 83) (tgt := 96) dX10_fits_83 (by decide) (fun h27 => ?_) (fun h27 => ?_)
        · refine J_iload (pc := 96) dX10_fits_96 rfl ?_
          exact T_top (by rw [ev21, if_pos h27]) hj22
        · refine J_iload (pc := 86) dX10_fits_86 rfl ?_
          refine T_if_ne_same (pc := 88) (tgt := 96) dX10_fits_88 (by decide) (fun h28 => ?_) (fun h28 => ?_)
          · refine J_iload (pc := 96) dX10_fits_96 rfl ?_
            exact T_top (by rw [ev21, if_neg h27, if_neg h28]) hj22
          · refine J_iload (pc := 91) dX10_fits_91 rfl ?_
            refine J_goto (pc := 93) (tgt := 98) dX10_fits_93 (by decide) ?_
            exact T_top (by rw [ev21, if_neg h27, if_pos h28]) hj22
def f_X10_fits (m0 : Mem) (p0 : Int) (p1 : Int) (p2 : Int) : Option (Int × Mem) := bd (f_X10_isSet m0 p0) fun r2 m1 => if w32 r2 = 0 then (some ((-1), m1)) else (bd (f_X10_isRow m1 p1) fun r5 m4 => if w32 r5 = 0 then (some ((-1), m4)) else (bd (f_X10_isRow m4 p2) fun r8 m7 => if w32 r8 = 0 then (some ((-1), m7)) else (bd (f_X10_seenRefused m7 p1) fun r11 m10 => if w32 r11 = 0 then (bd (f_X10_save m10) fun _u m13 => ck p1 6 (vl (m13 76 (w32 p1).toNat) fun x15 => f_X10_fits_L60 (fun x29 x30 m31 => if 0 < w32 x29 then (bd (f_X10_layPlan m31 p2 x30 x15) fun _u m33 => some (x29, m33)) else (some (x29, m31))) p0 p1 x15 100000 0 0 0 m13)) else (some (r11, m10)))))
set_option maxRecDepth 40000 in
theorem m_X10_fits {l : Launch} {G : qG} (m0 : Mem) (p0 : Int) (p1 : Int) (p2 : Int) : qM l G 6 yX10_fits cX10_fits 10 (some .int) [.ref 67, .int (iI p0), .int (iI p1), .int (iI p2)] (lay m0) (lf eI (f_X10_fits m0 p0 p1 p2)) := by
  refine qM_of (L := [some (.ref 67), some (.int (iI p0)), some (.int (iI p1)), some (.int (iI p2)), none, none, none, none, none, none]) (by decide +kernel) (Nat.le_of_ble_eq_true rfl) rfl ?_
  unfold f_X10_fits
  refine J_aload_n (pc := 0) dX10_fits_0 rfl rfl rfl ?_
  refine J_iload_n (pc := 1) dX10_fits_1 rfl rfl ?_
  refine T_callVI (pc := 2) (As := [.int (iI p0)]) (k := 67) (st := []) ok_yX10_isSet lm_X10_218 dX10_fits_2 (by decide) rfl rfl (by decide) (Nat.le_of_ble_eq_true rfl) (m_X10_isSet m0 p0) (fun r2 m1 em1 => ?_)
  refine T_if_eq (pc := 5) (tgt := 22) dX10_fits_5 (by decide) (fun h3 => ?_) (fun h3 => ?_)
  · refine J_iconst (pc := 22) dX10_fits_22 ?_
    exact T_retI (pc := 23) rfl dX10_fits_23
  · refine J_iload_n (pc := 8) dX10_fits_8 rfl rfl ?_
    refine T_callSI (pc := 9) (As := [.int (iI p1)]) (st := []) ok_yX10_isRow lm_X10_110 dX10_fits_9 (by decide) (Nat.le_of_ble_eq_true rfl) (m_X10_isRow m1 p1) (fun r5 m4 em4 => ?_)
    refine T_if_eq (pc := 12) (tgt := 22) dX10_fits_12 (by decide) (fun h6 => ?_) (fun h6 => ?_)
    · refine J_iconst (pc := 22) dX10_fits_22 ?_
      exact T_retI (pc := 23) rfl dX10_fits_23
    · refine J_iload_n (pc := 15) dX10_fits_15 rfl rfl ?_
      refine T_callSI (pc := 16) (As := [.int (iI p2)]) (st := []) ok_yX10_isRow lm_X10_110 dX10_fits_16 (by decide) (Nat.le_of_ble_eq_true rfl) (m_X10_isRow m4 p2) (fun r8 m7 em7 => ?_)
      refine T_if_ne (pc := 19) (tgt := 24) dX10_fits_19 (by decide) (fun h9 => ?_) (fun h9 => ?_)
      · refine J_aload_n (pc := 24) dX10_fits_24 rfl rfl rfl ?_
        refine J_iload_n (pc := 25) dX10_fits_25 rfl rfl ?_
        refine T_callVI (pc := 26) (As := [.int (iI p1)]) (k := 67) (st := []) ok_yX10_seenRefused lm_X10_277 dX10_fits_26 (by decide) rfl rfl (by decide) (Nat.le_of_ble_eq_true rfl) (m_X10_seenRefused m7 p1) (fun r11 m10 em10 => ?_)
        refine J_istore (pc := 29) (L' := [some (.ref 67), some (.int (iI p0)), some (.int (iI p1)), some (.int (iI p2)), some (.int (iI r11)), none, none, none, none, none]) dX10_fits_29 (by decide) rfl rfl ?_
        refine J_iload (pc := 31) dX10_fits_31 rfl ?_
        refine T_if_eq (pc := 33) (tgt := 39) dX10_fits_33 (by decide) (fun h12 => ?_) (fun h12 => ?_)
        · refine J_aload_n (pc := 39) dX10_fits_39 rfl rfl rfl ?_
          refine T_callVU (pc := 40) (As := []) (k := 67) (st := []) ok_yX10_save lm_X10_232 dX10_fits_40 (by decide) rfl rfl (by decide) (Nat.le_of_ble_eq_true rfl) (m_X10_save m10) (fun _u m13 em13 => ?_)
          refine J_aload_n (pc := 43) dX10_fits_43 rfl rfl rfl ?_
          refine tg_X10_38 (pc := 44) rfl dX10_fits_44 ?_
          refine J_iload_n (pc := 47) dX10_fits_47 rfl rfl ?_
          refine T_iaload (pc := 48) (by decide) rfl dX10_fits_48 (fun h14 => ?_)
          refine T_vlI (pc := 49) (fun x15 ex15 => ?_)
          refine J_istore (pc := 49) (L' := [some (.ref 67), some (.int (iI p0)), some (.int (iI p1)), some (.int (iI p2)), some (.int (iI r11)), some (.int (iI x15)), none, none, none, none]) dX10_fits_49 (by decide) rfl rfl ?_
          refine J_iconst (pc := 51) dX10_fits_51 ?_
          refine J_istore (pc := 52) (L' := [some (.ref 67), some (.int (iI p0)), some (.int (iI p1)), some (.int (iI p2)), some (.int (iI r11)), some (.int (iI x15)), some (.int (iI 0)), none, none, none]) dX10_fits_52 (by decide) rfl rfl ?_
          refine J_iconst (pc := 54) dX10_fits_54 ?_
          refine J_istore (pc := 55) (L' := [some (.ref 67), some (.int (iI p0)), some (.int (iI p1)), some (.int (iI p2)), some (.int (iI r11)), some (.int (iI x15)), some (.int (iI 0)), some (.int (iI 0)), none, none]) dX10_fits_55 (by decide) rfl rfl ?_
          refine J_iconst (pc := 57) dX10_fits_57 ?_
          refine J_istore (pc := 58) (L' := [some (.ref 67), some (.int (iI p0)), some (.int (iI p1)), some (.int (iI p2)), some (.int (iI r11)), some (.int (iI x15)), some (.int (iI 0)), some (.int (iI 0)), some (.int (iI 0)), none]) dX10_fits_58 (by decide) rfl rfl ?_
          refine J_dropf (pc := 60) (L' := [some (.ref 67), some (.int (iI p0)), some (.int (iI p1)), some (.int (iI p2)), none, some (.int (iI x15)), some (.int (iI 0)), some (.int (iI 0)), some (.int (iI 0)), none]) [true, true, true, true, false, true, true, true, true, false] rfl ?_
          refine j_X10_fits_L60 ?_ 100000 0 0 0 m13
          · intro x29 x30 m31
            refine J_iload (pc := 121) dX10_fits_121 rfl ?_
            refine T_if_le (pc := 123) (tgt := 135) dX10_fits_123 (by decide) (fun h32 => ?_) (fun h32 => ?_)
            · refine J_iload (pc := 135) dX10_fits_135 rfl ?_
              exact T_retI (pc := 137) rfl dX10_fits_137
            · refine J_aload_n (pc := 126) dX10_fits_126 rfl rfl rfl ?_
              refine J_iload_n (pc := 127) dX10_fits_127 rfl rfl ?_
              refine J_iload (pc := 128) dX10_fits_128 rfl ?_
              refine J_iload (pc := 130) dX10_fits_130 rfl ?_
              refine T_callVU (pc := 132) (As := [.int (iI p2), .int (iI x30), .int (iI x15)]) (k := 67) (st := []) ok_yX10_layPlan lm_X10_257 dX10_fits_132 (by decide) rfl rfl (by decide) (Nat.le_of_ble_eq_true rfl) (m_X10_layPlan m31 p2 x30 x15) (fun _u m33 em33 => ?_)
              refine J_iload (pc := 135) dX10_fits_135 rfl ?_
              exact T_retI (pc := 137) rfl dX10_fits_137
        · refine J_iload (pc := 36) dX10_fits_36 rfl ?_
          exact T_retI (pc := 38) rfl dX10_fits_38
      · refine J_iconst (pc := 22) dX10_fits_22 ?_
        exact T_retI (pc := 23) rfl dX10_fits_23
